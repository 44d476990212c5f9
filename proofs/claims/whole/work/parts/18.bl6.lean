set_option maxRecDepth 20000 in
theorem b_MO_skip_0 {l : Launch} {x : xX} {d mc ms n0 uc us : Nat} {Q : xO → xH → Prop} {cl : Bool} {r0 : Nat} {v1 : Int32} {H : xH}
    (h : xW l x d mc ms mMO_skip n0 Q cl 2 [some (.ref r0), some (.int v1), some (.int 0), none] [] H uc us) :
    xW l x d mc ms mMO_skip n0 Q cl 0 [some (.ref r0), some (.int v1), none, none] [] H uc us := by
  refine xs_iconstV (v := 0) rfl rfl ?_
  refine xs_istore_n rfl (L' := [some (.ref r0), some (.int v1), some (.int 0), none]) rfl rfl ?_
  exact h

set_option maxRecDepth 20000 in
theorem b_MO_skip_2 {l : Launch} {x : xX} {d mc ms n0 uc us : Nat} {Q : xO → xH → Prop} {cl : Bool} {r0 : Nat} {v1 : Int32} {v2 : Int32} {H : xH}
    (h : (v1 ≤ v2 → uc = mc ∧ us ≤ ms ∧ Q (.inl none) H) ∧ (¬ v1 ≤ v2 → ∃ a1, gI H r0 12 5 a1 ∧ ((¬ a1 = 0 → uc = mc ∧ us ≤ ms ∧ Q (.inl none) H) ∧ (a1 = 0 → xW l x d mc ms mMO_skip n0 Q cl 9 [some (.ref r0), some (.int v1), some (.int v2), none] [.ref r0] H uc us)))) :
    xW l x d mc ms mMO_skip n0 Q cl 2 [some (.ref r0), some (.int v1), some (.int v2), none] [] H uc us := by
  refine xs_iload_n rfl rfl ?_
  refine xs_iload_n rfl rfl ?_
  refine xs_icmp_ge (k' := 13) rfl rfl (fun hb => ?_) (fun hb => ?_)
  · have h := h.1 hb
    exact xs_vret rfl rfl h.1 h.2.1 h.2.2
  · have h := h.2 hb
    refine xs_aload_n rfl rfl ?_
    obtain ⟨a1, ⟨_, h1, h2⟩, h⟩ := h
    refine xs_getf rfl fl_12_115 h1 h2 ?_
    refine xs_if_ne (k' := 13) rfl rfl (fun hb => ?_) (fun hb => ?_)
    · have h := h.1 hb
      exact xs_vret rfl rfl h.1 h.2.1 h.2.2
    · have h := h.2 hb
      refine xs_aload_n rfl rfl ?_
      exact h

set_option maxRecDepth 20000 in
theorem b_MO_skip_10 {l : Launch} {x : xX} {d mc ms n0 uc us : Nat} {Q : xO → xH → Prop} {cl : Bool} {r0 : Nat} {v1 : Int32} {v2 : Int32} {u0 : Int32} {H : xH}
    (h : xW l x d mc ms mMO_skip n0 Q cl 2 [some (.ref r0), some (.int v1), some (.int (v2 + 1)), some (.int u0)] [] H uc us) :
    xW l x d mc ms mMO_skip n0 Q cl 10 [some (.ref r0), some (.int v1), some (.int v2), none] [.int u0] H uc us := by
  refine xs_istore_n rfl (L' := [some (.ref r0), some (.int v1), some (.int v2), some (.int u0)]) rfl rfl ?_
  refine xs_iincV rfl (w := 1) rfl rfl (L' := [some (.ref r0), some (.int v1), some (.int (v2 + 1)), some (.int u0)]) rfl rfl ?_
  refine xs_goto (k' := 2) rfl rfl ?_
  exact h

set_option maxRecDepth 20000 in
theorem b_MO_skipText_0 {l : Launch} {x : xX} {d mc ms n0 uc us : Nat} {Q : xO → xH → Prop} {cl : Bool} {r0 : Nat} {H : xH}
    (h : xW l x d mc ms mMO_skipText n0 Q cl 2 [some (.ref r0), some (.int 1)] [] H uc us) :
    xW l x d mc ms mMO_skipText n0 Q cl 0 [some (.ref r0), none] [] H uc us := by
  refine xs_iconstV (v := 1) rfl rfl ?_
  refine xs_istore_n rfl (L' := [some (.ref r0), some (.int 1)]) rfl rfl ?_
  exact h

set_option maxRecDepth 20000 in
theorem b_MO_skipText_2 {l : Launch} {x : xX} {d mc ms n0 uc us : Nat} {Q : xO → xH → Prop} {cl : Bool} {r0 : Nat} {v1 : Int32} {H : xH}
    (h : (v1 = 0 → uc = mc ∧ us ≤ ms ∧ Q (.inl none) H) ∧ (¬ v1 = 0 → ∃ a1, gI H r0 12 5 a1 ∧ ((¬ a1 = 0 → uc = mc ∧ us ≤ ms ∧ Q (.inl none) H) ∧ (a1 = 0 → xW l x d mc ms mMO_skipText n0 Q cl 8 [some (.ref r0), some (.int v1)] [.ref r0] H uc us)))) :
    xW l x d mc ms mMO_skipText n0 Q cl 2 [some (.ref r0), some (.int v1)] [] H uc us := by
  refine xs_iload_n rfl rfl ?_
  refine xs_if_eq (k' := 11) rfl rfl (fun hb => ?_) (fun hb => ?_)
  · have h := h.1 hb
    exact xs_vret rfl rfl h.1 h.2.1 h.2.2
  · have h := h.2 hb
    refine xs_aload_n rfl rfl ?_
    obtain ⟨a1, ⟨_, h1, h2⟩, h⟩ := h
    refine xs_getf rfl fl_12_115 h1 h2 ?_
    refine xs_if_ne (k' := 11) rfl rfl (fun hb => ?_) (fun hb => ?_)
    · have h := h.1 hb
      exact xs_vret rfl rfl h.1 h.2.1 h.2.2
    · have h := h.2 hb
      refine xs_aload_n rfl rfl ?_
      exact h

set_option maxRecDepth 20000 in
theorem b_MO_skipText_9 {l : Launch} {x : xX} {d mc ms n0 uc us : Nat} {Q : xO → xH → Prop} {cl : Bool} {r0 : Nat} {v1 : Int32} {u0 : Int32} {H : xH}
    (h : xW l x d mc ms mMO_skipText n0 Q cl 2 [some (.ref r0), some (.int u0)] [] H uc us) :
    xW l x d mc ms mMO_skipText n0 Q cl 9 [some (.ref r0), some (.int v1)] [.int u0] H uc us := by
  refine xs_istore_n rfl (L' := [some (.ref r0), some (.int u0)]) rfl rfl ?_
  refine xs_goto (k' := 2) rfl rfl ?_
  exact h

set_option maxRecDepth 20000 in
theorem b_MO_four_0 {l : Launch} {x : xX} {d mc ms n0 uc us : Nat} {Q : xO → xH → Prop} {cl : Bool} {r0 : Nat} {H : xH}
    (h : xW l x d mc ms mMO_four n0 Q cl 4 [some (.ref r0), some (.long 0), none, some (.int 0)] [] H uc us) :
    xW l x d mc ms mMO_four n0 Q cl 0 [some (.ref r0), none, none, none] [] H uc us := by
  refine xs_lconstV (v := 0) rfl rfl ?_
  refine xs_lstore_n rfl (L' := [some (.ref r0), some (.long 0), none, none]) rfl rfl ?_
  refine xs_iconstV (v := 0) rfl rfl ?_
  refine xs_istore_n rfl (L' := [some (.ref r0), some (.long 0), none, some (.int 0)]) rfl rfl ?_
  exact h

set_option maxRecDepth 20000 in
theorem b_MO_four_4 {l : Launch} {x : xX} {d mc ms n0 uc us : Nat} {Q : xO → xH → Prop} {cl : Bool} {r0 : Nat} {v1 : Int64} {v3 : Int32} {H : xH}
    (h : (4 ≤ v3 → uc = mc ∧ us ≤ ms ∧ Q (.inl (some (.long v1))) H) ∧ (¬ 4 ≤ v3 → xW l x d mc ms mMO_four n0 Q cl 9 [some (.ref r0), some (.long v1), none, some (.int v3)] [.ref r0, .long v1] H uc us)) :
    xW l x d mc ms mMO_four n0 Q cl 4 [some (.ref r0), some (.long v1), none, some (.int v3)] [] H uc us := by
  refine xs_iload_n rfl rfl ?_
  refine xs_iconstV (v := 4) rfl rfl ?_
  refine xs_icmp_ge (k' := 19) rfl rfl (fun hb => ?_) (fun hb => ?_)
  · have h := h.1 hb
    refine xs_lload_n rfl rfl ?_
    exact xs_lret rfl rfl h.1 h.2.1 h.2.2
  · have h := h.2 hb
    refine xs_lload_n rfl rfl ?_
    refine xs_aload_n rfl rfl ?_
    exact h

set_option maxRecDepth 20000 in
theorem b_MO_four_10 {l : Launch} {x : xX} {d mc ms n0 uc us : Nat} {Q : xO → xH → Prop} {cl : Bool} {r0 : Nat} {v1 : Int64} {v3 : Int32} {u0 : Int64} {u1 : Int32} {H : xH}
    (h : xW l x d mc ms mMO_four n0 Q cl 4 [some (.ref r0), some (.long (u0 ||| (u1.toInt64 <<< (((8 : Int32) * v3).toInt64 &&& 63)))), none, some (.int (v3 + 1))] [] H uc us) :
    xW l x d mc ms mMO_four n0 Q cl 10 [some (.ref r0), some (.long v1), none, some (.int v3)] [.int u1, .long u0] H uc us := by
  refine xs_i2l rfl ?_
  refine xs_bipushV (v := 8) rfl rfl ?_
  refine xs_iload_n rfl rfl ?_
  refine xs_imul rfl ?_
  refine xs_lshl rfl ?_
  refine xs_lor rfl ?_
  refine xs_lstore_n rfl (L' := [some (.ref r0), some (.long (u0 ||| (u1.toInt64 <<< (((8 : Int32) * v3).toInt64 &&& 63)))), none, some (.int v3)]) rfl rfl ?_
  refine xs_iincV rfl (w := 1) rfl rfl (L' := [some (.ref r0), some (.long (u0 ||| (u1.toInt64 <<< (((8 : Int32) * v3).toInt64 &&& 63)))), none, some (.int (v3 + 1))]) rfl rfl ?_
  refine xs_goto (k' := 4) rfl rfl ?_
  exact h

set_option maxRecDepth 20000 in
theorem b_MO_pack_0 {l : Launch} {x : xX} {d mc ms n0 uc us : Nat} {Q : xO → xH → Prop} {cl : Bool} {r0 : Nat} {v1 : Int32} {H : xH}
    (h : (v1 < 0 → ∃ c1, H[(r0 : Nat)]? = some (.inr (12, c1)) ∧ 0 < c1.length ∧ (∀ H2 : xH, H2 = H.set r0 (.inr (12, c1.set 0 (.int 1))) → ∃ a3, gI H2 r0 12 0 a3 ∧ ((a3 ≤ 0 → xW l x d mc ms mMO_pack n0 Q false 16 [some (.ref r0), some (.int v1), none, none, none] [.ref r0] H2 uc us) ∧ (¬ a3 ≤ 0 → uc = mc ∧ us ≤ ms ∧ Q (.inl (some (.int 0))) H2)))) ∧ (¬ v1 < 0 → (v1 ≤ 2 → ∃ c4, H[(r0 : Nat)]? = some (.inr (12, c4)) ∧ 0 < c4.length ∧ (∀ H5 : xH, H5 = H.set r0 (.inr (12, c4.set 0 (.int 0))) → ∃ a6, gI H5 r0 12 0 a6 ∧ ((a6 ≤ 0 → xW l x d mc ms mMO_pack n0 Q false 16 [some (.ref r0), some (.int v1), none, none, none] [.ref r0] H5 uc us) ∧ (¬ a6 ≤ 0 → uc = mc ∧ us ≤ ms ∧ Q (.inl (some (.int 0))) H5)))) ∧ (¬ v1 ≤ 2 → ∃ c7, H[(r0 : Nat)]? = some (.inr (12, c7)) ∧ 0 < c7.length ∧ (∀ H8 : xH, H8 = H.set r0 (.inr (12, c7.set 0 (.int 1))) → ∃ a9, gI H8 r0 12 0 a9 ∧ ((a9 ≤ 0 → xW l x d mc ms mMO_pack n0 Q false 16 [some (.ref r0), some (.int v1), none, none, none] [.ref r0] H8 uc us) ∧ (¬ a9 ≤ 0 → uc = mc ∧ us ≤ ms ∧ Q (.inl (some (.int 0))) H8)))))) :
    xW l x d mc ms mMO_pack n0 Q cl 0 [some (.ref r0), some (.int v1), none, none, none] [] H uc us := by
  refine xs_aload_n rfl rfl ?_
  refine xs_iload_n rfl rfl ?_
  refine xs_if_lt (k' := 6) rfl rfl (fun hb => ?_) (fun hb => ?_)
  · have h := h.1 hb
    refine xs_iconstV (v := 1) rfl rfl ?_
    refine xs_goto (k' := 9) rfl rfl ?_
    obtain ⟨c1, h1, h2, h⟩ := h
    refine xs_putf rfl fl_12_79 h1 (fun q hq => by cases hq; rfl) rfl h2 ?_
    have h := h _ rfl
    generalize H.set r0 (.inr (12, c1.set 0 (.int 1))) = H2 at h ⊢
    refine xs_aload_n rfl rfl ?_
    obtain ⟨a3, ⟨_, h1, h2⟩, h⟩ := h
    refine xs_getf rfl fl_12_79 h1 h2 ?_
    refine xs_if_le (k' := 15) rfl rfl (fun hb => ?_) (fun hb => ?_)
    · have h := h.1 hb
      refine xs_aload_n rfl rfl ?_
      exact h
    · have h := h.2 hb
      refine xs_iconstV (v := 0) rfl rfl ?_
      exact xs_iret rfl rfl h.1 h.2.1 h.2.2
  · have h := h.2 hb
    refine xs_iload_n rfl rfl ?_
    refine xs_iconstV (v := 2) rfl rfl ?_
    refine xs_icmp_le (k' := 8) rfl rfl (fun hb => ?_) (fun hb => ?_)
    · have h := h.1 hb
      refine xs_iconstV (v := 0) rfl rfl ?_
      obtain ⟨c4, h1, h2, h⟩ := h
      refine xs_putf rfl fl_12_79 h1 (fun q hq => by cases hq; rfl) rfl h2 ?_
      have h := h _ rfl
      generalize H.set r0 (.inr (12, c4.set 0 (.int 0))) = H5 at h ⊢
      refine xs_aload_n rfl rfl ?_
      obtain ⟨a6, ⟨_, h1, h2⟩, h⟩ := h
      refine xs_getf rfl fl_12_79 h1 h2 ?_
      refine xs_if_le (k' := 15) rfl rfl (fun hb => ?_) (fun hb => ?_)
      · have h := h.1 hb
        refine xs_aload_n rfl rfl ?_
        exact h
      · have h := h.2 hb
        refine xs_iconstV (v := 0) rfl rfl ?_
        exact xs_iret rfl rfl h.1 h.2.1 h.2.2
    · have h := h.2 hb
      refine xs_iconstV (v := 1) rfl rfl ?_
      refine xs_goto (k' := 9) rfl rfl ?_
      obtain ⟨c7, h1, h2, h⟩ := h
      refine xs_putf rfl fl_12_79 h1 (fun q hq => by cases hq; rfl) rfl h2 ?_
      have h := h _ rfl
      generalize H.set r0 (.inr (12, c7.set 0 (.int 1))) = H8 at h ⊢
      refine xs_aload_n rfl rfl ?_
      obtain ⟨a9, ⟨_, h1, h2⟩, h⟩ := h
      refine xs_getf rfl fl_12_79 h1 h2 ?_
      refine xs_if_le (k' := 15) rfl rfl (fun hb => ?_) (fun hb => ?_)
      · have h := h.1 hb
        refine xs_aload_n rfl rfl ?_
        exact h
      · have h := h.2 hb
        refine xs_iconstV (v := 0) rfl rfl ?_
        exact xs_iret rfl rfl h.1 h.2.1 h.2.2

set_option maxRecDepth 20000 in
theorem b_MO_pack_17 {l : Launch} {x : xX} {d mc ms n0 uc us : Nat} {Q : xO → xH → Prop} {cl : Bool} {r0 : Nat} {v1 : Int32} {H : xH}
    (h : (¬ v1 = 1 → (¬ v1 = 2 → xW l x d mc ms mMO_pack n0 Q cl 63 [some (.ref r0), some (.int v1), none, none, none] [.ref r0] H uc us) ∧ (v1 = 2 → xW l x d mc ms mMO_pack n0 Q cl 34 [some (.ref r0), some (.int v1), some (.int 0), none, none] [] H uc us)) ∧ (v1 = 1 → xW l x d mc ms mMO_pack n0 Q cl 23 [some (.ref r0), some (.int v1), none, none, none] [.int 120, .int 8, .ref r0] H uc us)) :
    xW l x d mc ms mMO_pack n0 Q cl 17 [some (.ref r0), some (.int v1), none, none, none] [] H uc us := by
  refine xs_iload_n rfl rfl ?_
  refine xs_iconstV (v := 1) rfl rfl ?_
  refine xs_icmp_ne (k' := 29) rfl rfl (fun hb => ?_) (fun hb => ?_)
  · have h := h.1 hb
    refine xs_iload_n rfl rfl ?_
    refine xs_iconstV (v := 2) rfl rfl ?_
    refine xs_icmp_ne (k' := 62) rfl rfl (fun hb => ?_) (fun hb => ?_)
    · have h := h.1 hb
      refine xs_aload_n rfl rfl ?_
      exact h
    · have h := h.2 hb
      refine xs_iconstV (v := 0) rfl rfl ?_
      refine xs_istore_n rfl (L' := [some (.ref r0), some (.int v1), some (.int 0), none, none]) rfl rfl ?_
      exact h
  · have h := h.2 hb
    refine xs_aload_n rfl rfl ?_
    refine xs_bipushV (v := 8) rfl rfl ?_
    refine xs_bipushV (v := 120) rfl rfl ?_
    exact h

set_option maxRecDepth 20000 in
theorem b_MO_pack_24 {l : Launch} {x : xX} {d mc ms n0 uc us : Nat} {Q : xO → xH → Prop} {cl : Bool} {r0 : Nat} {v1 : Int32} {H : xH}
    (h : xW l x d mc ms mMO_pack n0 Q cl 27 [some (.ref r0), some (.int v1), none, none, none] [.int 156, .int 8, .ref r0] H uc us) :
    xW l x d mc ms mMO_pack n0 Q cl 24 [some (.ref r0), some (.int v1), none, none, none] [] H uc us := by
  refine xs_aload_n rfl rfl ?_
  refine xs_bipushV (v := 8) rfl rfl ?_
  refine xs_sipushV (v := 156) rfl rfl ?_
  exact h

set_option maxRecDepth 20000 in
theorem b_MO_pack_28 {l : Launch} {x : xX} {d mc ms n0 uc us : Nat} {Q : xO → xH → Prop} {cl : Bool} {r0 : Nat} {v1 : Int32} {H : xH}
    (h : xW l x d mc ms mMO_pack n0 Q cl 63 [some (.ref r0), some (.int v1), none, none, none] [.ref r0] H uc us) :
    xW l x d mc ms mMO_pack n0 Q cl 28 [some (.ref r0), some (.int v1), none, none, none] [] H uc us := by
  refine xs_goto (k' := 62) rfl rfl ?_
  refine xs_aload_n rfl rfl ?_
  exact h

set_option maxRecDepth 20000 in
theorem b_MO_pack_34 {l : Launch} {x : xX} {d mc ms n0 uc us : Nat} {Q : xO → xH → Prop} {cl : Bool} {r0 : Nat} {v1 : Int32} {v2 : Int32} {H : xH}
    (h : (10 ≤ v2 → xW l x d mc ms mMO_pack n0 Q cl 63 [some (.ref r0), some (.int v1), some (.int v2), none, none] [.ref r0] H uc us) ∧ (¬ 10 ≤ v2 → (¬ v2 = 0 → (¬ v2 = 1 → (¬ v2 = 2 → (¬ v2 = 9 → xW l x d mc ms mMO_pack n0 Q cl 59 [some (.ref r0), some (.int v1), some (.int v2), none, none] [.int 0, .int 8, .ref r0] H uc us) ∧ (v2 = 9 → xW l x d mc ms mMO_pack n0 Q cl 59 [some (.ref r0), some (.int v1), some (.int v2), none, none] [.int 255, .int 8, .ref r0] H uc us)) ∧ (v2 = 2 → xW l x d mc ms mMO_pack n0 Q cl 59 [some (.ref r0), some (.int v1), some (.int v2), none, none] [.int 8, .int 8, .ref r0] H uc us)) ∧ (v2 = 1 → xW l x d mc ms mMO_pack n0 Q cl 59 [some (.ref r0), some (.int v1), some (.int v2), none, none] [.int 139, .int 8, .ref r0] H uc us)) ∧ (v2 = 0 → xW l x d mc ms mMO_pack n0 Q cl 59 [some (.ref r0), some (.int v1), some (.int v2), none, none] [.int 31, .int 8, .ref r0] H uc us))) :
    xW l x d mc ms mMO_pack n0 Q cl 34 [some (.ref r0), some (.int v1), some (.int v2), none, none] [] H uc us := by
  refine xs_iload_n rfl rfl ?_
  refine xs_bipushV (v := 10) rfl rfl ?_
  refine xs_icmp_ge (k' := 62) rfl rfl (fun hb => ?_) (fun hb => ?_)
  · have h := h.1 hb
    refine xs_aload_n rfl rfl ?_
    exact h
  · have h := h.2 hb
    refine xs_aload_n rfl rfl ?_
    refine xs_bipushV (v := 8) rfl rfl ?_
    refine xs_iload_n rfl rfl ?_
    refine xs_if_ne (k' := 43) rfl rfl (fun hb => ?_) (fun hb => ?_)
    · have h := h.1 hb
      refine xs_iload_n rfl rfl ?_
      refine xs_iconstV (v := 1) rfl rfl ?_
      refine xs_icmp_ne (k' := 48) rfl rfl (fun hb => ?_) (fun hb => ?_)
      · have h := h.1 hb
        refine xs_iload_n rfl rfl ?_
        refine xs_iconstV (v := 2) rfl rfl ?_
        refine xs_icmp_ne (k' := 53) rfl rfl (fun hb => ?_) (fun hb => ?_)
        · have h := h.1 hb
          refine xs_iload_n rfl rfl ?_
          refine xs_bipushV (v := 9) rfl rfl ?_
          refine xs_icmp_ne (k' := 58) rfl rfl (fun hb => ?_) (fun hb => ?_)
          · have h := h.1 hb
            refine xs_iconstV (v := 0) rfl rfl ?_
            exact h
          · have h := h.2 hb
            refine xs_sipushV (v := 255) rfl rfl ?_
            refine xs_goto (k' := 59) rfl rfl ?_
            exact h
        · have h := h.2 hb
          refine xs_bipushV (v := 8) rfl rfl ?_
          refine xs_goto (k' := 59) rfl rfl ?_
          exact h
      · have h := h.2 hb
        refine xs_sipushV (v := 139) rfl rfl ?_
        refine xs_goto (k' := 59) rfl rfl ?_
        exact h
    · have h := h.2 hb
      refine xs_bipushV (v := 31) rfl rfl ?_
      refine xs_goto (k' := 59) rfl rfl ?_
      exact h

set_option maxRecDepth 20000 in
theorem b_MO_pack_60 {l : Launch} {x : xX} {d mc ms n0 uc us : Nat} {Q : xO → xH → Prop} {cl : Bool} {r0 : Nat} {v1 : Int32} {v2 : Int32} {H : xH}
    (h : xW l x d mc ms mMO_pack n0 Q cl 34 [some (.ref r0), some (.int v1), some (.int (v2 + 1)), none, none] [] H uc us) :
    xW l x d mc ms mMO_pack n0 Q cl 60 [some (.ref r0), some (.int v1), some (.int v2), none, none] [] H uc us := by
  refine xs_iincV rfl (w := 1) rfl rfl (L' := [some (.ref r0), some (.int v1), some (.int (v2 + 1)), none, none]) rfl rfl ?_
  refine xs_goto (k' := 34) rfl rfl ?_
  exact h

set_option maxRecDepth 20000 in
theorem b_MO_pack_64 {l : Launch} {x : xX} {d mc ms n0 uc us : Nat} {Q : xO → xH → Prop} {cl : Bool} {r0 : Nat} {v1 : Int32} {H : xH}
    (h : (¬ v1 = 1 → (¬ v1 = 2 → xW l x d mc ms mMO_pack n0 Q cl 106 [some (.ref r0), some (.int v1), none, none, none] [] H uc us) ∧ (v1 = 2 → ∃ p1, gR H r0 12 1 p1 ∧ (∃ a2, gI H r0 12 2 a2 ∧ (xW l x d mc ms mMO_pack n0 Q cl 99 [some (.ref r0), some (.int v1), none, none, none] [.int a2, .int 0, .ref p1, .ref r0] H uc us)))) ∧ (v1 = 1 → ∃ p3, gR H r0 12 1 p3 ∧ (∃ a4, gI H r0 12 2 a4 ∧ (xW l x d mc ms mMO_pack n0 Q cl 72 [some (.ref r0), some (.int v1), none, none, none] [.int a4, .int 0, .ref p3] H uc us)))) :
    xW l x d mc ms mMO_pack n0 Q cl 64 [some (.ref r0), some (.int v1), none, none, none] [] H uc us := by
  refine xs_iload_n rfl rfl ?_
  refine xs_iconstV (v := 1) rfl rfl ?_
  refine xs_icmp_ne (k' := 90) rfl rfl (fun hb => ?_) (fun hb => ?_)
  · have h := h.1 hb
    refine xs_iload_n rfl rfl ?_
    refine xs_iconstV (v := 2) rfl rfl ?_
    refine xs_icmp_ne (k' := 106) rfl rfl (fun hb => ?_) (fun hb => ?_)
    · have h := h.1 hb
      exact h
    · have h := h.2 hb
      refine xs_aload_n rfl rfl ?_
      refine xs_aload_n rfl rfl ?_
      obtain ⟨p1, ⟨_, h1, h2⟩, h⟩ := h
      refine xs_getf rfl fl_12_8 h1 h2 ?_
      refine xs_iconstV (v := 0) rfl rfl ?_
      refine xs_aload_n rfl rfl ?_
      obtain ⟨a2, ⟨_, h1, h2⟩, h⟩ := h
      refine xs_getf rfl fl_12_82 h1 h2 ?_
      exact h
  · have h := h.2 hb
    refine xs_aload_n rfl rfl ?_
    obtain ⟨p3, ⟨_, h1, h2⟩, h⟩ := h
    refine xs_getf rfl fl_12_8 h1 h2 ?_
    refine xs_iconstV (v := 0) rfl rfl ?_
    refine xs_aload_n rfl rfl ?_
    obtain ⟨a4, ⟨_, h1, h2⟩, h⟩ := h
    refine xs_getf rfl fl_12_82 h1 h2 ?_
    exact h

set_option maxRecDepth 20000 in
theorem b_MO_pack_73 {l : Launch} {x : xX} {d mc ms n0 uc us : Nat} {Q : xO → xH → Prop} {cl : Bool} {r0 : Nat} {v1 : Int32} {u0 : Int64} {H : xH}
    (h : xW l x d mc ms mMO_pack n0 Q cl 76 [some (.ref r0), some (.int v1), some (.long u0), none, some (.int 24)] [] H uc us) :
    xW l x d mc ms mMO_pack n0 Q cl 73 [some (.ref r0), some (.int v1), none, none, none] [.long u0] H uc us := by
  refine xs_lstore_n rfl (L' := [some (.ref r0), some (.int v1), some (.long u0), none, none]) rfl rfl ?_
  refine xs_bipushV (v := 24) rfl rfl ?_
  refine xs_istore rfl (L' := [some (.ref r0), some (.int v1), some (.long u0), none, some (.int 24)]) rfl rfl ?_
  exact h

set_option maxRecDepth 20000 in
theorem b_MO_pack_76 {l : Launch} {x : xX} {d mc ms n0 uc us : Nat} {Q : xO → xH → Prop} {cl : Bool} {r0 : Nat} {v1 : Int32} {v2 : Int64} {v4 : Int32} {H : xH}
    (h : (v4 < 0 → xW l x d mc ms mMO_pack n0 Q cl 106 [some (.ref r0), some (.int v1), some (.long v2), none, some (.int v4)] [] H uc us) ∧ (¬ v4 < 0 → xW l x d mc ms mMO_pack n0 Q cl 86 [some (.ref r0), some (.int v1), some (.long v2), none, some (.int v4)] [.int ((v2 >>> (v4.toInt64 &&& 63)).toInt32 &&& 255), .int 8, .ref r0] H uc us)) :
    xW l x d mc ms mMO_pack n0 Q cl 76 [some (.ref r0), some (.int v1), some (.long v2), none, some (.int v4)] [] H uc us := by
  refine xs_iload rfl rfl ?_
  refine xs_if_lt (k' := 89) rfl rfl (fun hb => ?_) (fun hb => ?_)
  · have h := h.1 hb
    refine xs_goto (k' := 106) rfl rfl ?_
    exact h
  · have h := h.2 hb
    refine xs_aload_n rfl rfl ?_
    refine xs_bipushV (v := 8) rfl rfl ?_
    refine xs_lload_n rfl rfl ?_
    refine xs_iload rfl rfl ?_
    refine xs_lshr rfl ?_
    refine xs_l2i rfl ?_
    refine xs_sipushV (v := 255) rfl rfl ?_
    refine xs_iand rfl ?_
    exact h

set_option maxRecDepth 20000 in
theorem b_MO_pack_87 {l : Launch} {x : xX} {d mc ms n0 uc us : Nat} {Q : xO → xH → Prop} {cl : Bool} {r0 : Nat} {v1 : Int32} {v2 : Int64} {v4 : Int32} {H : xH}
    (h : xW l x d mc ms mMO_pack n0 Q cl 76 [some (.ref r0), some (.int v1), some (.long v2), none, some (.int (v4 + (-8)))] [] H uc us) :
    xW l x d mc ms mMO_pack n0 Q cl 87 [some (.ref r0), some (.int v1), some (.long v2), none, some (.int v4)] [] H uc us := by
  refine xs_iincV rfl (w := (-8)) rfl rfl (L' := [some (.ref r0), some (.int v1), some (.long v2), none, some (.int (v4 + (-8)))]) rfl rfl ?_
  refine xs_goto (k' := 76) rfl rfl ?_
  exact h

-- b_MO_pack_100: .invokevirtual 322
set_option maxRecDepth 20000 in
theorem b_MO_pack_101 {l : Launch} {x : xX} {d mc ms n0 uc us : Nat} {Q : xO → xH → Prop} {cl : Bool} {r0 : Nat} {v1 : Int32} {H : xH}
    (h : ∃ a1, gI H r0 12 2 a1 ∧ (xW l x d mc ms mMO_pack n0 Q cl 105 [some (.ref r0), some (.int v1), none, none, none] [.long a1.toInt64, .ref r0] H uc us)) :
    xW l x d mc ms mMO_pack n0 Q cl 101 [some (.ref r0), some (.int v1), none, none, none] [] H uc us := by
  refine xs_aload_n rfl rfl ?_
  refine xs_aload_n rfl rfl ?_
  obtain ⟨a1, ⟨_, h1, h2⟩, h⟩ := h
  refine xs_getf rfl fl_12_82 h1 h2 ?_
  refine xs_i2l rfl ?_
  exact h

set_option maxRecDepth 20000 in
theorem b_MO_pack_106 {l : Launch} {x : xX} {d mc ms n0 uc us : Nat} {Q : xO → xH → Prop} {cl : Bool} {r0 : Nat} {v1 : Int32} {H : xH}
    (h : ∃ a1, gI H r0 12 13 a1 ∧ (∃ c2, H[(r0 : Nat)]? = some (.inr (12, c2)) ∧ 4 < c2.length ∧ (∀ H3 : xH, H3 = H.set r0 (.inr (12, c2.set 4 (.int (a1 / 8)))) → ∃ a4, gI H3 r0 12 4 a4 ∧ (uc = mc ∧ us ≤ ms ∧ Q (.inl (some (.int a4))) H3)))) :
    xW l x d mc ms mMO_pack n0 Q cl 106 [some (.ref r0), some (.int v1), none, none, none] [] H uc us := by
  refine xs_aload_n rfl rfl ?_
  refine xs_aload_n rfl rfl ?_
  obtain ⟨a1, ⟨_, h1, h2⟩, h⟩ := h
  refine xs_getf rfl fl_12_118 h1 h2 ?_
  refine xs_bipushV (v := 8) rfl rfl ?_
  refine xs_idiv rfl (by decide) ?_
  obtain ⟨c2, h1, h2, h⟩ := h
  refine xs_putf rfl fl_12_146 h1 (fun q hq => by cases hq; rfl) rfl h2 ?_
  have h := h _ rfl
  generalize H.set r0 (.inr (12, c2.set 4 (.int (a1 / 8)))) = H3 at h ⊢
  refine xs_aload_n rfl rfl ?_
  obtain ⟨a4, ⟨_, h1, h2⟩, h⟩ := h
  refine xs_getf rfl fl_12_146 h1 h2 ?_
  exact xs_iret rfl rfl h.1 h.2.1 h.2.2

set_option maxRecDepth 20000 in
theorem b_MO_putNumber_0 {l : Launch} {x : xX} {d mc ms n0 uc us : Nat} {Q : xO → xH → Prop} {cl : Bool} {r0 : Nat} {v1 : Int32} {v2 : Int32} {H : xH}
    (h : xW l x d mc ms mMO_putNumber n0 Q cl 2 [some (.ref r0), some (.int v1), some (.int v2), some (.int 0)] [] H uc us) :
    xW l x d mc ms mMO_putNumber n0 Q cl 0 [some (.ref r0), some (.int v1), some (.int v2), none] [] H uc us := by
  refine xs_iconstV (v := 0) rfl rfl ?_
  refine xs_istore_n rfl (L' := [some (.ref r0), some (.int v1), some (.int v2), some (.int 0)]) rfl rfl ?_
  exact h

set_option maxRecDepth 20000 in
theorem b_MO_putNumber_2 {l : Launch} {x : xX} {d mc ms n0 uc us : Nat} {Q : xO → xH → Prop} {cl : Bool} {r0 : Nat} {v1 : Int32} {v2 : Int32} {v3 : Int32} {H : xH}
    (h : (v1 ≤ v3 → uc = mc ∧ us ≤ ms ∧ Q (.inl none) H) ∧ (¬ v1 ≤ v3 → xW l x d mc ms mMO_putNumber n0 Q cl 11 [some (.ref r0), some (.int v1), some (.int v2), some (.int v3)] [.int ((v2 >>> ((v3 : Int32) &&& 31)) &&& 1), .ref r0] H uc us)) :
    xW l x d mc ms mMO_putNumber n0 Q cl 2 [some (.ref r0), some (.int v1), some (.int v2), some (.int v3)] [] H uc us := by
  refine xs_iload_n rfl rfl ?_
  refine xs_iload_n rfl rfl ?_
  refine xs_icmp_ge (k' := 14) rfl rfl (fun hb => ?_) (fun hb => ?_)
  · have h := h.1 hb
    exact xs_vret rfl rfl h.1 h.2.1 h.2.2
  · have h := h.2 hb
    refine xs_aload_n rfl rfl ?_
    refine xs_iload_n rfl rfl ?_
    refine xs_iload_n rfl rfl ?_
    refine xs_ishr rfl ?_
    refine xs_iconstV (v := 1) rfl rfl ?_
    refine xs_iand rfl ?_
    exact h

set_option maxRecDepth 20000 in
theorem b_MO_putNumber_12 {l : Launch} {x : xX} {d mc ms n0 uc us : Nat} {Q : xO → xH → Prop} {cl : Bool} {r0 : Nat} {v1 : Int32} {v2 : Int32} {v3 : Int32} {H : xH}
    (h : xW l x d mc ms mMO_putNumber n0 Q cl 2 [some (.ref r0), some (.int v1), some (.int v2), some (.int (v3 + 1))] [] H uc us) :
    xW l x d mc ms mMO_putNumber n0 Q cl 12 [some (.ref r0), some (.int v1), some (.int v2), some (.int v3)] [] H uc us := by
  refine xs_iincV rfl (w := 1) rfl rfl (L' := [some (.ref r0), some (.int v1), some (.int v2), some (.int (v3 + 1))]) rfl rfl ?_
  refine xs_goto (k' := 2) rfl rfl ?_
  exact h

set_option maxRecDepth 20000 in
theorem b_MO_putBit_0 {l : Launch} {x : xX} {d mc ms n0 uc us : Nat} {Q : xO → xH → Prop} {cl : Bool} {r0 : Nat} {v1 : Int32} {H : xH}
    (h : ∃ a1, gI H r0 12 13 a1 ∧ ((¬ (a1 - a1 / 8 * 8) = 0 → ∃ p2, gR H r0 12 3 p2 ∧ (∃ a3, gI H r0 12 13 a3 ∧ (∃ p4, gR H r0 12 3 p4 ∧ (∃ a5, gI H r0 12 13 a5 ∧ (∃ n6 f7, H[(p4 : Nat)]? = some (.inl (1, n6, .inl f7)) ∧ vp_in (a5 / 8) n6 ∧ (∃ a8, gI H r0 12 13 a8 ∧ (∃ n9 f10, H[(p2 : Nat)]? = some (.inl (1, n9, .inl f10)) ∧ vp_in (a3 / 8) n9 ∧ (∀ H11 : xH, H11 = H.set p2 (.inl (1, n9, .inl (upd f10 ((a3 / 8).toNatClampNeg) (vp_nar .byte (((f7 (a5 / 8).toNatClampNeg) ||| (v1 <<< (((a8 - a8 / 8 * 8) : Int32) &&& 31))).toInt8.toInt32))))) → ∃ a12, gI H11 r0 12 13 a12 ∧ (∃ c13, H11[(r0 : Nat)]? = some (.inr (12, c13)) ∧ 13 < c13.length ∧ (∀ H14 : xH, H14 = H11.set r0 (.inr (12, c13.set 13 (.int (a12 + 1)))) → uc = mc ∧ us ≤ ms ∧ Q (.inl none) H14)))))))))) ∧ ((a1 - a1 / 8 * 8) = 0 → ∃ p15, gR H r0 12 3 p15 ∧ (∃ a16, gI H r0 12 13 a16 ∧ (∃ n17 f18, H[(p15 : Nat)]? = some (.inl (1, n17, .inl f18)) ∧ vp_in (a16 / 8) n17 ∧ (∀ H19 : xH, H19 = H.set p15 (.inl (1, n17, .inl (upd f18 ((a16 / 8).toNatClampNeg) (vp_nar .byte (0))))) → ∃ p20, gR H19 r0 12 3 p20 ∧ (∃ a21, gI H19 r0 12 13 a21 ∧ (∃ p22, gR H19 r0 12 3 p22 ∧ (∃ a23, gI H19 r0 12 13 a23 ∧ (∃ n24 f25, H19[(p22 : Nat)]? = some (.inl (1, n24, .inl f25)) ∧ vp_in (a23 / 8) n24 ∧ (∃ a26, gI H19 r0 12 13 a26 ∧ (∃ n27 f28, H19[(p20 : Nat)]? = some (.inl (1, n27, .inl f28)) ∧ vp_in (a21 / 8) n27 ∧ (∀ H29 : xH, H29 = H19.set p20 (.inl (1, n27, .inl (upd f28 ((a21 / 8).toNatClampNeg) (vp_nar .byte (((f25 (a23 / 8).toNatClampNeg) ||| (v1 <<< (((a26 - a26 / 8 * 8) : Int32) &&& 31))).toInt8.toInt32))))) → ∃ a30, gI H29 r0 12 13 a30 ∧ (∃ c31, H29[(r0 : Nat)]? = some (.inr (12, c31)) ∧ 13 < c31.length ∧ (∀ H32 : xH, H32 = H29.set r0 (.inr (12, c31.set 13 (.int (a30 + 1)))) → uc = mc ∧ us ≤ ms ∧ Q (.inl none) H32))))))))))))))) :
    xW l x d mc ms mMO_putBit n0 Q cl 0 [some (.ref r0), some (.int v1)] [] H uc us := by
  refine xs_aload_n rfl rfl ?_
  obtain ⟨a1, ⟨_, h1, h2⟩, h⟩ := h
  refine xs_getf rfl fl_12_118 h1 h2 ?_
  refine xs_bipushV (v := 8) rfl rfl ?_
  refine xs_irem rfl (by decide) ?_
  refine xs_if_ne (k' := 13) rfl rfl (fun hb => ?_) (fun hb => ?_)
  · have h := h.1 hb
    refine xs_aload_n rfl rfl ?_
    obtain ⟨p2, ⟨_, h1, h2⟩, h⟩ := h
    refine xs_getf rfl fl_12_15 h1 h2 ?_
    refine xs_aload_n rfl rfl ?_
    obtain ⟨a3, ⟨_, h1, h2⟩, h⟩ := h
    refine xs_getf rfl fl_12_118 h1 h2 ?_
    refine xs_bipushV (v := 8) rfl rfl ?_
    refine xs_idiv rfl (by decide) ?_
    refine xs_aload_n rfl rfl ?_
    obtain ⟨p4, ⟨_, h1, h2⟩, h⟩ := h
    refine xs_getf rfl fl_12_15 h1 h2 ?_
    refine xs_aload_n rfl rfl ?_
    obtain ⟨a5, ⟨_, h1, h2⟩, h⟩ := h
    refine xs_getf rfl fl_12_118 h1 h2 ?_
    refine xs_bipushV (v := 8) rfl rfl ?_
    refine xs_idiv rfl (by decide) ?_
    obtain ⟨n6, f7, h1, h2, h⟩ := h
    refine xs_bald rfl h1 h2 ?_
    refine xs_iload_n rfl rfl ?_
    refine xs_aload_n rfl rfl ?_
    obtain ⟨a8, ⟨_, h1, h2⟩, h⟩ := h
    refine xs_getf rfl fl_12_118 h1 h2 ?_
    refine xs_bipushV (v := 8) rfl rfl ?_
    refine xs_irem rfl (by decide) ?_
    refine xs_ishl rfl ?_
    refine xs_ior rfl ?_
    refine xs_i2b rfl ?_
    obtain ⟨n9, f10, h1, h2, h⟩ := h
    refine xs_bast rfl h1 h2 ?_
    have h := h _ rfl
    generalize H.set p2 (.inl (1, n9, .inl (upd f10 ((a3 / 8).toNatClampNeg) (vp_nar .byte (((f7 (a5 / 8).toNatClampNeg) ||| (v1 <<< (((a8 - a8 / 8 * 8) : Int32) &&& 31))).toInt8.toInt32))))) = H11 at h ⊢
    refine xs_aload_n rfl rfl ?_
    refine xs_dup rfl rfl ?_
    obtain ⟨a12, ⟨_, h1, h2⟩, h⟩ := h
    refine xs_getf rfl fl_12_118 h1 h2 ?_
    refine xs_iconstV (v := 1) rfl rfl ?_
    refine xs_iadd rfl ?_
    obtain ⟨c13, h1, h2, h⟩ := h
    refine xs_putf rfl fl_12_118 h1 (fun q hq => by cases hq; rfl) rfl h2 ?_
    have h := h _ rfl
    generalize H11.set r0 (.inr (12, c13.set 13 (.int (a12 + 1)))) = H14 at h ⊢
    exact xs_vret rfl rfl h.1 h.2.1 h.2.2
  · have h := h.2 hb
    refine xs_aload_n rfl rfl ?_
    obtain ⟨p15, ⟨_, h1, h2⟩, h⟩ := h
    refine xs_getf rfl fl_12_15 h1 h2 ?_
    refine xs_aload_n rfl rfl ?_
    obtain ⟨a16, ⟨_, h1, h2⟩, h⟩ := h
    refine xs_getf rfl fl_12_118 h1 h2 ?_
    refine xs_bipushV (v := 8) rfl rfl ?_
    refine xs_idiv rfl (by decide) ?_
    refine xs_iconstV (v := 0) rfl rfl ?_
    obtain ⟨n17, f18, h1, h2, h⟩ := h
    refine xs_bast rfl h1 h2 ?_
    have h := h _ rfl
    generalize H.set p15 (.inl (1, n17, .inl (upd f18 ((a16 / 8).toNatClampNeg) (vp_nar .byte (0))))) = H19 at h ⊢
    refine xs_aload_n rfl rfl ?_
    obtain ⟨p20, ⟨_, h1, h2⟩, h⟩ := h
    refine xs_getf rfl fl_12_15 h1 h2 ?_
    refine xs_aload_n rfl rfl ?_
    obtain ⟨a21, ⟨_, h1, h2⟩, h⟩ := h
    refine xs_getf rfl fl_12_118 h1 h2 ?_
    refine xs_bipushV (v := 8) rfl rfl ?_
    refine xs_idiv rfl (by decide) ?_
    refine xs_aload_n rfl rfl ?_
    obtain ⟨p22, ⟨_, h1, h2⟩, h⟩ := h
    refine xs_getf rfl fl_12_15 h1 h2 ?_
    refine xs_aload_n rfl rfl ?_
    obtain ⟨a23, ⟨_, h1, h2⟩, h⟩ := h
    refine xs_getf rfl fl_12_118 h1 h2 ?_
    refine xs_bipushV (v := 8) rfl rfl ?_
    refine xs_idiv rfl (by decide) ?_
    obtain ⟨n24, f25, h1, h2, h⟩ := h
    refine xs_bald rfl h1 h2 ?_
    refine xs_iload_n rfl rfl ?_
    refine xs_aload_n rfl rfl ?_
    obtain ⟨a26, ⟨_, h1, h2⟩, h⟩ := h
    refine xs_getf rfl fl_12_118 h1 h2 ?_
    refine xs_bipushV (v := 8) rfl rfl ?_
    refine xs_irem rfl (by decide) ?_
    refine xs_ishl rfl ?_
    refine xs_ior rfl ?_
    refine xs_i2b rfl ?_
    obtain ⟨n27, f28, h1, h2, h⟩ := h
    refine xs_bast rfl h1 h2 ?_
    have h := h _ rfl
    generalize H19.set p20 (.inl (1, n27, .inl (upd f28 ((a21 / 8).toNatClampNeg) (vp_nar .byte (((f25 (a23 / 8).toNatClampNeg) ||| (v1 <<< (((a26 - a26 / 8 * 8) : Int32) &&& 31))).toInt8.toInt32))))) = H29 at h ⊢
    refine xs_aload_n rfl rfl ?_
    refine xs_dup rfl rfl ?_
    obtain ⟨a30, ⟨_, h1, h2⟩, h⟩ := h
    refine xs_getf rfl fl_12_118 h1 h2 ?_
    refine xs_iconstV (v := 1) rfl rfl ?_
    refine xs_iadd rfl ?_
    obtain ⟨c31, h1, h2, h⟩ := h
    refine xs_putf rfl fl_12_118 h1 (fun q hq => by cases hq; rfl) rfl h2 ?_
    have h := h _ rfl
    generalize H29.set r0 (.inr (12, c31.set 13 (.int (a30 + 1)))) = H32 at h ⊢
    exact xs_vret rfl rfl h.1 h.2.1 h.2.2

set_option maxRecDepth 20000 in
theorem b_MO_putBlocks_0 {l : Launch} {x : xX} {d mc ms n0 uc us : Nat} {Q : xO → xH → Prop} {cl : Bool} {r0 : Nat} {H : xH}
    (h : xW l x d mc ms mMO_putBlocks n0 Q cl 4 [some (.ref r0), some (.int 0), some (.int 1), none, none, none, none] [] H uc us) :
    xW l x d mc ms mMO_putBlocks n0 Q cl 0 [some (.ref r0), none, none, none, none, none, none] [] H uc us := by
  refine xs_iconstV (v := 0) rfl rfl ?_
  refine xs_istore_n rfl (L' := [some (.ref r0), some (.int 0), none, none, none, none, none]) rfl rfl ?_
  refine xs_iconstV (v := 1) rfl rfl ?_
  refine xs_istore_n rfl (L' := [some (.ref r0), some (.int 0), some (.int 1), none, none, none, none]) rfl rfl ?_
  exact h

set_option maxRecDepth 20000 in
theorem b_MO_putBlocks_4 {l : Launch} {x : xX} {d mc ms n0 uc us : Nat} {Q : xO → xH → Prop} {cl : Bool} {r0 : Nat} {v1 : Int32} {v2 : Int32} {H : xH}
    (h : (v2 = 0 → xW l x d mc ms mMO_putBlocks n0 Q cl 128 [some (.ref r0), some (.int v1), some (.int v2), none, none, none, none] [.ref r0] H uc us) ∧ (¬ v2 = 0 → ∃ c1, H[(r0 : Nat)]? = some (.inr (12, c1)) ∧ 21 < c1.length ∧ (∀ H2 : xH, H2 = H.set r0 (.inr (12, c1.set 21 (.int 0))) → xW l x d mc ms mMO_putBlocks n0 Q false 11 [some (.ref r0), some (.int v1), some (.int v2), some (.int v1), none, none, none] [] H2 uc us))) :
    xW l x d mc ms mMO_putBlocks n0 Q cl 4 [some (.ref r0), some (.int v1), some (.int v2), none, none, none, none] [] H uc us := by
  refine xs_iload_n rfl rfl ?_
  refine xs_if_eq (k' := 127) rfl rfl (fun hb => ?_) (fun hb => ?_)
  · have h := h.1 hb
    refine xs_aload_n rfl rfl ?_
    exact h
  · have h := h.2 hb
    refine xs_iload_n rfl rfl ?_
    refine xs_istore_n rfl (L' := [some (.ref r0), some (.int v1), some (.int v2), some (.int v1), none, none, none]) rfl rfl ?_
    refine xs_aload_n rfl rfl ?_
    refine xs_iconstV (v := 0) rfl rfl ?_
    obtain ⟨c1, h1, h2, h⟩ := h
    refine xs_putf rfl fl_12_242 h1 (fun q hq => by cases hq; rfl) rfl h2 ?_
    have h := h _ rfl
    generalize H.set r0 (.inr (12, c1.set 21 (.int 0))) = H2 at h ⊢
    exact h

set_option maxRecDepth 20000 in
theorem b_MO_putBlocks_11 {l : Launch} {x : xX} {d mc ms n0 uc us : Nat} {Q : xO → xH → Prop} {cl : Bool} {r0 : Nat} {v1 : Int32} {v2 : Int32} {v3 : Int32} {H : xH}
    (h : ∃ a1, gI H r0 12 2 a1 ∧ ((a1 ≤ v1 → ∃ a2, gI H r0 12 2 a2 ∧ ((a2 ≤ v1 → (¬ (0 : Int32) = 0 → xW l x d mc ms mMO_putBlocks n0 Q cl 125 [some (.ref r0), some (.int v1), some (.int 0), some (.int v3), none, none, none] [.int 0, .int (v1 - v3), .int v3, .ref r0] H uc us) ∧ ((0 : Int32) = 0 → xW l x d mc ms mMO_putBlocks n0 Q cl 125 [some (.ref r0), some (.int v1), some (.int 0), some (.int v3), none, none, none] [.int 1, .int (v1 - v3), .int v3, .ref r0] H uc us)) ∧ (¬ a2 ≤ v1 → (¬ (1 : Int32) = 0 → xW l x d mc ms mMO_putBlocks n0 Q cl 125 [some (.ref r0), some (.int v1), some (.int 1), some (.int v3), none, none, none] [.int 0, .int (v1 - v3), .int v3, .ref r0] H uc us) ∧ ((1 : Int32) = 0 → xW l x d mc ms mMO_putBlocks n0 Q cl 125 [some (.ref r0), some (.int v1), some (.int 1), some (.int v3), none, none, none] [.int 1, .int (v1 - v3), .int v3, .ref r0] H uc us)))) ∧ (¬ a1 ≤ v1 → ∃ a3, gI H r0 12 21 a3 ∧ ((1024 ≤ a3 → ∃ a4, gI H r0 12 2 a4 ∧ ((a4 ≤ v1 → (¬ (0 : Int32) = 0 → xW l x d mc ms mMO_putBlocks n0 Q cl 125 [some (.ref r0), some (.int v1), some (.int 0), some (.int v3), none, none, none] [.int 0, .int (v1 - v3), .int v3, .ref r0] H uc us) ∧ ((0 : Int32) = 0 → xW l x d mc ms mMO_putBlocks n0 Q cl 125 [some (.ref r0), some (.int v1), some (.int 0), some (.int v3), none, none, none] [.int 1, .int (v1 - v3), .int v3, .ref r0] H uc us)) ∧ (¬ a4 ≤ v1 → (¬ (1 : Int32) = 0 → xW l x d mc ms mMO_putBlocks n0 Q cl 125 [some (.ref r0), some (.int v1), some (.int 1), some (.int v3), none, none, none] [.int 0, .int (v1 - v3), .int v3, .ref r0] H uc us) ∧ ((1 : Int32) = 0 → xW l x d mc ms mMO_putBlocks n0 Q cl 125 [some (.ref r0), some (.int v1), some (.int 1), some (.int v3), none, none, none] [.int 1, .int (v1 - v3), .int v3, .ref r0] H uc us)))) ∧ (¬ 1024 ≤ a3 → xW l x d mc ms mMO_putBlocks n0 Q cl 21 [some (.ref r0), some (.int v1), some (.int v2), some (.int v3), none, none, none] [.int v1, .ref r0] H uc us))))) :
    xW l x d mc ms mMO_putBlocks n0 Q cl 11 [some (.ref r0), some (.int v1), some (.int v2), some (.int v3), none, none, none] [] H uc us := by
  refine xs_iload_n rfl rfl ?_
  refine xs_aload_n rfl rfl ?_
  obtain ⟨a1, ⟨_, h1, h2⟩, h⟩ := h
  refine xs_getf rfl fl_12_82 h1 h2 ?_
  refine xs_icmp_ge (k' := 107) rfl rfl (fun hb => ?_) (fun hb => ?_)
  · have h := h.1 hb
    refine xs_iload_n rfl rfl ?_
    refine xs_aload_n rfl rfl ?_
    obtain ⟨a2, ⟨_, h1, h2⟩, h⟩ := h
    refine xs_getf rfl fl_12_82 h1 h2 ?_
    refine xs_icmp_ge (k' := 113) rfl rfl (fun hb => ?_) (fun hb => ?_)
    · have h := h.1 hb
      refine xs_iconstV (v := 0) rfl rfl ?_
      refine xs_istore_n rfl (L' := [some (.ref r0), some (.int v1), some (.int 0), some (.int v3), none, none, none]) rfl rfl ?_
      refine xs_aload_n rfl rfl ?_
      refine xs_iload_n rfl rfl ?_
      refine xs_iload_n rfl rfl ?_
      refine xs_iload_n rfl rfl ?_
      refine xs_isub rfl ?_
      refine xs_iload_n rfl rfl ?_
      refine xs_if_ne (k' := 124) rfl rfl (fun hb => ?_) (fun hb => ?_)
      · have h := h.1 hb
        refine xs_iconstV (v := 0) rfl rfl ?_
        exact h
      · have h := h.2 hb
        refine xs_iconstV (v := 1) rfl rfl ?_
        refine xs_goto (k' := 125) rfl rfl ?_
        exact h
    · have h := h.2 hb
      refine xs_iconstV (v := 1) rfl rfl ?_
      refine xs_goto (k' := 114) rfl rfl ?_
      refine xs_istore_n rfl (L' := [some (.ref r0), some (.int v1), some (.int 1), some (.int v3), none, none, none]) rfl rfl ?_
      refine xs_aload_n rfl rfl ?_
      refine xs_iload_n rfl rfl ?_
      refine xs_iload_n rfl rfl ?_
      refine xs_iload_n rfl rfl ?_
      refine xs_isub rfl ?_
      refine xs_iload_n rfl rfl ?_
      refine xs_if_ne (k' := 124) rfl rfl (fun hb => ?_) (fun hb => ?_)
      · have h := h.1 hb
        refine xs_iconstV (v := 0) rfl rfl ?_
        exact h
      · have h := h.2 hb
        refine xs_iconstV (v := 1) rfl rfl ?_
        refine xs_goto (k' := 125) rfl rfl ?_
        exact h
  · have h := h.2 hb
    refine xs_aload_n rfl rfl ?_
    obtain ⟨a3, ⟨_, h1, h2⟩, h⟩ := h
    refine xs_getf rfl fl_12_242 h1 h2 ?_
    refine xs_sipushV (v := 1024) rfl rfl ?_
    refine xs_icmp_ge (k' := 107) rfl rfl (fun hb => ?_) (fun hb => ?_)
    · have h := h.1 hb
      refine xs_iload_n rfl rfl ?_
      refine xs_aload_n rfl rfl ?_
      obtain ⟨a4, ⟨_, h1, h2⟩, h⟩ := h
      refine xs_getf rfl fl_12_82 h1 h2 ?_
      refine xs_icmp_ge (k' := 113) rfl rfl (fun hb => ?_) (fun hb => ?_)
      · have h := h.1 hb
        refine xs_iconstV (v := 0) rfl rfl ?_
        refine xs_istore_n rfl (L' := [some (.ref r0), some (.int v1), some (.int 0), some (.int v3), none, none, none]) rfl rfl ?_
        refine xs_aload_n rfl rfl ?_
        refine xs_iload_n rfl rfl ?_
        refine xs_iload_n rfl rfl ?_
        refine xs_iload_n rfl rfl ?_
        refine xs_isub rfl ?_
        refine xs_iload_n rfl rfl ?_
        refine xs_if_ne (k' := 124) rfl rfl (fun hb => ?_) (fun hb => ?_)
        · have h := h.1 hb
          refine xs_iconstV (v := 0) rfl rfl ?_
          exact h
        · have h := h.2 hb
          refine xs_iconstV (v := 1) rfl rfl ?_
          refine xs_goto (k' := 125) rfl rfl ?_
          exact h
      · have h := h.2 hb
        refine xs_iconstV (v := 1) rfl rfl ?_
        refine xs_goto (k' := 114) rfl rfl ?_
        refine xs_istore_n rfl (L' := [some (.ref r0), some (.int v1), some (.int 1), some (.int v3), none, none, none]) rfl rfl ?_
        refine xs_aload_n rfl rfl ?_
        refine xs_iload_n rfl rfl ?_
        refine xs_iload_n rfl rfl ?_
        refine xs_iload_n rfl rfl ?_
        refine xs_isub rfl ?_
        refine xs_iload_n rfl rfl ?_
        refine xs_if_ne (k' := 124) rfl rfl (fun hb => ?_) (fun hb => ?_)
        · have h := h.1 hb
          refine xs_iconstV (v := 0) rfl rfl ?_
          exact h
        · have h := h.2 hb
          refine xs_iconstV (v := 1) rfl rfl ?_
          refine xs_goto (k' := 125) rfl rfl ?_
          exact h
    · have h := h.2 hb
      refine xs_aload_n rfl rfl ?_
      refine xs_iload_n rfl rfl ?_
      exact h

set_option maxRecDepth 20000 in
theorem b_MO_putBlocks_22 {l : Launch} {x : xX} {d mc ms n0 uc us : Nat} {Q : xO → xH → Prop} {cl : Bool} {r0 : Nat} {v1 : Int32} {v2 : Int32} {v3 : Int32} {u0 : Int32} {H : xH}
    (h : (u0 ≤ 0 → (u0 ≤ 0 → xW l x d mc ms mMO_putBlocks n0 Q cl 51 [some (.ref r0), some (.int v1), some (.int v2), some (.int v3), some (.int u0), some (.int 0), none] [.int 0] H uc us) ∧ (¬ u0 ≤ 0 → ((u0 / 65536) < (0 / 65536) → xW l x d mc ms mMO_putBlocks n0 Q cl 51 [some (.ref r0), some (.int v1), some (.int v2), some (.int v3), some (.int u0), some (.int 0), none] [.int 0] H uc us) ∧ (¬ (u0 / 65536) < (0 / 65536) → xW l x d mc ms mMO_putBlocks n0 Q cl 51 [some (.ref r0), some (.int v1), some (.int v2), some (.int v3), some (.int u0), some (.int 0), none] [.int 1] H uc us))) ∧ (¬ u0 ≤ 0 → ∃ a1, gI H r0 12 2 a1 ∧ ((a1 ≤ (v1 + 1) → (u0 ≤ 0 → xW l x d mc ms mMO_putBlocks n0 Q cl 51 [some (.ref r0), some (.int v1), some (.int v2), some (.int v3), some (.int u0), some (.int 0), none] [.int 0] H uc us) ∧ (¬ u0 ≤ 0 → ((u0 / 65536) < (0 / 65536) → xW l x d mc ms mMO_putBlocks n0 Q cl 51 [some (.ref r0), some (.int v1), some (.int v2), some (.int v3), some (.int u0), some (.int 0), none] [.int 0] H uc us) ∧ (¬ (u0 / 65536) < (0 / 65536) → xW l x d mc ms mMO_putBlocks n0 Q cl 51 [some (.ref r0), some (.int v1), some (.int v2), some (.int v3), some (.int u0), some (.int 0), none] [.int 1] H uc us))) ∧ (¬ a1 ≤ (v1 + 1) → xW l x d mc ms mMO_putBlocks n0 Q cl 35 [some (.ref r0), some (.int v1), some (.int v2), some (.int v3), some (.int u0), none, none] [.int (v1 + 1), .ref r0] H uc us)))) :
    xW l x d mc ms mMO_putBlocks n0 Q cl 22 [some (.ref r0), some (.int v1), some (.int v2), some (.int v3), none, none, none] [.int u0] H uc us := by
  refine xs_istore rfl (L' := [some (.ref r0), some (.int v1), some (.int v2), some (.int v3), some (.int u0), none, none]) rfl rfl ?_
  refine xs_iload rfl rfl ?_
  refine xs_if_le (k' := 37) rfl rfl (fun hb => ?_) (fun hb => ?_)
  · have h := h.1 hb
    refine xs_iconstV (v := 0) rfl rfl ?_
    refine xs_istore rfl (L' := [some (.ref r0), some (.int v1), some (.int v2), some (.int v3), some (.int u0), some (.int 0), none]) rfl rfl ?_
    refine xs_iload rfl rfl ?_
    refine xs_if_le (k' := 50) rfl rfl (fun hb => ?_) (fun hb => ?_)
    · have h := h.1 hb
      refine xs_iconstV (v := 0) rfl rfl ?_
      exact h
    · have h := h.2 hb
      refine xs_iload rfl rfl ?_
      refine xs_ldc rfl kc_12_14 ?_
      refine xs_idiv rfl (by decide) ?_
      refine xs_iload rfl rfl ?_
      refine xs_ldc rfl kc_12_14 ?_
      refine xs_idiv rfl (by decide) ?_
      refine xs_icmp_gt (k' := 50) rfl rfl (fun hb => ?_) (fun hb => ?_)
      · have h := h.1 hb
        refine xs_iconstV (v := 0) rfl rfl ?_
        exact h
      · have h := h.2 hb
        refine xs_iconstV (v := 1) rfl rfl ?_
        refine xs_goto (k' := 51) rfl rfl ?_
        exact h
  · have h := h.2 hb
    refine xs_iload_n rfl rfl ?_
    refine xs_iconstV (v := 1) rfl rfl ?_
    refine xs_iadd rfl ?_
    refine xs_aload_n rfl rfl ?_
    obtain ⟨a1, ⟨_, h1, h2⟩, h⟩ := h
    refine xs_getf rfl fl_12_82 h1 h2 ?_
    refine xs_icmp_ge (k' := 37) rfl rfl (fun hb => ?_) (fun hb => ?_)
    · have h := h.1 hb
      refine xs_iconstV (v := 0) rfl rfl ?_
      refine xs_istore rfl (L' := [some (.ref r0), some (.int v1), some (.int v2), some (.int v3), some (.int u0), some (.int 0), none]) rfl rfl ?_
      refine xs_iload rfl rfl ?_
      refine xs_if_le (k' := 50) rfl rfl (fun hb => ?_) (fun hb => ?_)
      · have h := h.1 hb
        refine xs_iconstV (v := 0) rfl rfl ?_
        exact h
      · have h := h.2 hb
        refine xs_iload rfl rfl ?_
        refine xs_ldc rfl kc_12_14 ?_
        refine xs_idiv rfl (by decide) ?_
        refine xs_iload rfl rfl ?_
        refine xs_ldc rfl kc_12_14 ?_
        refine xs_idiv rfl (by decide) ?_
        refine xs_icmp_gt (k' := 50) rfl rfl (fun hb => ?_) (fun hb => ?_)
        · have h := h.1 hb
          refine xs_iconstV (v := 0) rfl rfl ?_
          exact h
        · have h := h.2 hb
          refine xs_iconstV (v := 1) rfl rfl ?_
          refine xs_goto (k' := 51) rfl rfl ?_
          exact h
    · have h := h.2 hb
      refine xs_aload_n rfl rfl ?_
      refine xs_iload_n rfl rfl ?_
      refine xs_iconstV (v := 1) rfl rfl ?_
      refine xs_iadd rfl ?_
      exact h

set_option maxRecDepth 20000 in
theorem b_MO_putBlocks_36 {l : Launch} {x : xX} {d mc ms n0 uc us : Nat} {Q : xO → xH → Prop} {cl : Bool} {r0 : Nat} {v1 : Int32} {v2 : Int32} {v3 : Int32} {v4 : Int32} {u0 : Int32} {H : xH}
    (h : (v4 ≤ 0 → xW l x d mc ms mMO_putBlocks n0 Q cl 51 [some (.ref r0), some (.int v1), some (.int v2), some (.int v3), some (.int v4), some (.int u0), none] [.int 0] H uc us) ∧ (¬ v4 ≤ 0 → ((v4 / 65536) < (u0 / 65536) → xW l x d mc ms mMO_putBlocks n0 Q cl 51 [some (.ref r0), some (.int v1), some (.int v2), some (.int v3), some (.int v4), some (.int u0), none] [.int 0] H uc us) ∧ (¬ (v4 / 65536) < (u0 / 65536) → xW l x d mc ms mMO_putBlocks n0 Q cl 51 [some (.ref r0), some (.int v1), some (.int v2), some (.int v3), some (.int v4), some (.int u0), none] [.int 1] H uc us))) :
    xW l x d mc ms mMO_putBlocks n0 Q cl 36 [some (.ref r0), some (.int v1), some (.int v2), some (.int v3), some (.int v4), none, none] [.int u0] H uc us := by
  refine xs_goto (k' := 38) rfl rfl ?_
  refine xs_istore rfl (L' := [some (.ref r0), some (.int v1), some (.int v2), some (.int v3), some (.int v4), some (.int u0), none]) rfl rfl ?_
  refine xs_iload rfl rfl ?_
  refine xs_if_le (k' := 50) rfl rfl (fun hb => ?_) (fun hb => ?_)
  · have h := h.1 hb
    refine xs_iconstV (v := 0) rfl rfl ?_
    exact h
  · have h := h.2 hb
    refine xs_iload rfl rfl ?_
    refine xs_ldc rfl kc_12_14 ?_
    refine xs_idiv rfl (by decide) ?_
    refine xs_iload rfl rfl ?_
    refine xs_ldc rfl kc_12_14 ?_
    refine xs_idiv rfl (by decide) ?_
    refine xs_icmp_gt (k' := 50) rfl rfl (fun hb => ?_) (fun hb => ?_)
    · have h := h.1 hb
      refine xs_iconstV (v := 0) rfl rfl ?_
      exact h
    · have h := h.2 hb
      refine xs_iconstV (v := 1) rfl rfl ?_
      refine xs_goto (k' := 51) rfl rfl ?_
      exact h

set_option maxRecDepth 20000 in
theorem b_MO_putBlocks_51 {l : Launch} {x : xX} {d mc ms n0 uc us : Nat} {Q : xO → xH → Prop} {cl : Bool} {r0 : Nat} {v1 : Int32} {v2 : Int32} {v3 : Int32} {v4 : Int32} {v5 : Int32} {u0 : Int32} {H : xH}
    (h : ∃ p1, gR H r0 12 19 p1 ∧ (∃ a2, gI H r0 12 21 a2 ∧ ((u0 = 0 → xW l x d mc ms mMO_putBlocks n0 Q cl 63 [some (.ref r0), some (.int v1), some (.int v2), some (.int v3), some (.int v4), some (.int v5), some (.int u0)] [.int 1, .int a2, .ref p1] H uc us) ∧ (¬ u0 = 0 → xW l x d mc ms mMO_putBlocks n0 Q cl 63 [some (.ref r0), some (.int v1), some (.int v2), some (.int v3), some (.int v4), some (.int v5), some (.int u0)] [.int (v4 / 65536), .int a2, .ref p1] H uc us)))) :
    xW l x d mc ms mMO_putBlocks n0 Q cl 51 [some (.ref r0), some (.int v1), some (.int v2), some (.int v3), some (.int v4), some (.int v5), none] [.int u0] H uc us := by
  refine xs_istore rfl (L' := [some (.ref r0), some (.int v1), some (.int v2), some (.int v3), some (.int v4), some (.int v5), some (.int u0)]) rfl rfl ?_
  refine xs_aload_n rfl rfl ?_
  obtain ⟨p1, ⟨_, h1, h2⟩, h⟩ := h
  refine xs_getf rfl fl_12_47 h1 h2 ?_
  refine xs_aload_n rfl rfl ?_
  obtain ⟨a2, ⟨_, h1, h2⟩, h⟩ := h
  refine xs_getf rfl fl_12_242 h1 h2 ?_
  refine xs_iload rfl rfl ?_
  refine xs_if_eq (k' := 62) rfl rfl (fun hb => ?_) (fun hb => ?_)
  · have h := h.1 hb
    refine xs_iconstV (v := 1) rfl rfl ?_
    exact h
  · have h := h.2 hb
    refine xs_iload rfl rfl ?_
    refine xs_ldc rfl kc_12_14 ?_
    refine xs_idiv rfl (by decide) ?_
    refine xs_goto (k' := 63) rfl rfl ?_
    exact h

set_option maxRecDepth 20000 in
theorem b_MO_putBlocks_63 {l : Launch} {x : xX} {d mc ms n0 uc us : Nat} {Q : xO → xH → Prop} {cl : Bool} {r0 : Nat} {v1 : Int32} {v2 : Int32} {v3 : Int32} {v4 : Int32} {v5 : Int32} {v6 : Int32} {q0 : Nat} {u1 : Int32} {u2 : Int32} {H : xH}
    (h : ∃ n1 f2, H[(q0 : Nat)]? = some (.inl (0, n1, .inl f2)) ∧ 2 ≤ q0 ∧ vp_in u1 n1 ∧ (∀ H3 : xH, H3 = H.set q0 (.inl (0, n1, .inl (upd f2 (u1.toNatClampNeg) (u2)))) → ∃ p4, gR H3 r0 12 20 p4 ∧ (∃ a5, gI H3 r0 12 21 a5 ∧ ((v6 = 0 → ∃ p6, gR H3 r0 12 1 p6 ∧ (∃ n7 f8, H3[(p6 : Nat)]? = some (.inl (1, n7, .inl f8)) ∧ vp_in v1 n7 ∧ (xW l x d mc ms mMO_putBlocks n0 Q false 80 [some (.ref r0), some (.int v1), some (.int v2), some (.int v3), some (.int v4), some (.int v5), some (.int v6)] [.int ((f8 v1.toNatClampNeg) &&& 255), .int a5, .ref p4] H3 uc us))) ∧ (¬ v6 = 0 → xW l x d mc ms mMO_putBlocks n0 Q false 80 [some (.ref r0), some (.int v1), some (.int v2), some (.int v3), some (.int v4), some (.int v5), some (.int v6)] [.int (v4 - v4 / 65536 * 65536), .int a5, .ref p4] H3 uc us))))) :
    xW l x d mc ms mMO_putBlocks n0 Q cl 63 [some (.ref r0), some (.int v1), some (.int v2), some (.int v3), some (.int v4), some (.int v5), some (.int v6)] [.int u2, .int u1, .ref q0] H uc us := by
  obtain ⟨n1, f2, h1, h3, h2, h⟩ := h
  refine xs_iast rfl h1 h3 h2 ?_
  have h := h _ rfl
  generalize H.set q0 (.inl (0, n1, .inl (upd f2 (u1.toNatClampNeg) (u2)))) = H3 at h ⊢
  refine xs_aload_n rfl rfl ?_
  obtain ⟨p4, ⟨_, h1, h2⟩, h⟩ := h
  refine xs_getf rfl fl_12_50 h1 h2 ?_
  refine xs_aload_n rfl rfl ?_
  obtain ⟨a5, ⟨_, h1, h2⟩, h⟩ := h
  refine xs_getf rfl fl_12_242 h1 h2 ?_
  refine xs_iload rfl rfl ?_
  refine xs_if_eq (k' := 74) rfl rfl (fun hb => ?_) (fun hb => ?_)
  · have h := h.1 hb
    refine xs_aload_n rfl rfl ?_
    obtain ⟨p6, ⟨_, h1, h2⟩, h⟩ := h
    refine xs_getf rfl fl_12_8 h1 h2 ?_
    refine xs_iload_n rfl rfl ?_
    obtain ⟨n7, f8, h1, h2, h⟩ := h
    refine xs_bald rfl h1 h2 ?_
    refine xs_sipushV (v := 255) rfl rfl ?_
    refine xs_iand rfl ?_
    exact h
  · have h := h.2 hb
    refine xs_iload rfl rfl ?_
    refine xs_ldc rfl kc_12_14 ?_
    refine xs_irem rfl (by decide) ?_
    refine xs_goto (k' := 80) rfl rfl ?_
    exact h

set_option maxRecDepth 20000 in
theorem b_MO_putBlocks_80 {l : Launch} {x : xX} {d mc ms n0 uc us : Nat} {Q : xO → xH → Prop} {cl : Bool} {r0 : Nat} {v1 : Int32} {v2 : Int32} {v3 : Int32} {v4 : Int32} {v5 : Int32} {v6 : Int32} {q0 : Nat} {u1 : Int32} {u2 : Int32} {H : xH}
    (h : ∃ n1 f2, H[(q0 : Nat)]? = some (.inl (0, n1, .inl f2)) ∧ 2 ≤ q0 ∧ vp_in u1 n1 ∧ (∀ H3 : xH, H3 = H.set q0 (.inl (0, n1, .inl (upd f2 (u1.toNatClampNeg) (u2)))) → ∃ p4, gR H3 r0 12 19 p4 ∧ (∃ a5, gI H3 r0 12 21 a5 ∧ (∃ n6 f7, H3[(p4 : Nat)]? = some (.inl (0, n6, .inl f7)) ∧ vp_in a5 n6 ∧ (∃ a8, gI H3 r0 12 21 a8 ∧ (∃ c9, H3[(r0 : Nat)]? = some (.inr (12, c9)) ∧ 21 < c9.length ∧ (∀ H10 : xH, H10 = H3.set r0 (.inr (12, c9.set 21 (.int (a8 + 1)))) → (v6 = 0 → ∃ a11, gI H10 r0 12 8 a11 ∧ (xW l x d mc ms mMO_putBlocks n0 Q false 105 [some (.ref r0), some (.int (v1 + (f7 a5.toNatClampNeg))), some (.int v2), some (.int v3), some (.int v4), some (.int v5), some (.int v6)] [.int a11, .ref r0] H10 uc us)) ∧ (¬ v6 = 0 → ∃ a12, gI H10 r0 12 8 a12 ∧ (xW l x d mc ms mMO_putBlocks n0 Q false 105 [some (.ref r0), some (.int (v1 + (f7 a5.toNatClampNeg))), some (.int v2), some (.int v3), some (.int v4), some (.int v5), some (.int v6)] [.int (a12 + 1), .ref r0] H10 uc us))))))))) :
    xW l x d mc ms mMO_putBlocks n0 Q cl 80 [some (.ref r0), some (.int v1), some (.int v2), some (.int v3), some (.int v4), some (.int v5), some (.int v6)] [.int u2, .int u1, .ref q0] H uc us := by
  obtain ⟨n1, f2, h1, h3, h2, h⟩ := h
  refine xs_iast rfl h1 h3 h2 ?_
  have h := h _ rfl
  generalize H.set q0 (.inl (0, n1, .inl (upd f2 (u1.toNatClampNeg) (u2)))) = H3 at h ⊢
  refine xs_iload_n rfl rfl ?_
  refine xs_aload_n rfl rfl ?_
  obtain ⟨p4, ⟨_, h1, h2⟩, h⟩ := h
  refine xs_getf rfl fl_12_47 h1 h2 ?_
  refine xs_aload_n rfl rfl ?_
  obtain ⟨a5, ⟨_, h1, h2⟩, h⟩ := h
  refine xs_getf rfl fl_12_242 h1 h2 ?_
  obtain ⟨n6, f7, h1, h2, h⟩ := h
  refine xs_iald rfl h1 h2 ?_
  refine xs_iadd rfl ?_
  refine xs_istore_n rfl (L' := [some (.ref r0), some (.int (v1 + (f7 a5.toNatClampNeg))), some (.int v2), some (.int v3), some (.int v4), some (.int v5), some (.int v6)]) rfl rfl ?_
  refine xs_aload_n rfl rfl ?_
  refine xs_dup rfl rfl ?_
  obtain ⟨a8, ⟨_, h1, h2⟩, h⟩ := h
  refine xs_getf rfl fl_12_242 h1 h2 ?_
  refine xs_iconstV (v := 1) rfl rfl ?_
  refine xs_iadd rfl ?_
  obtain ⟨c9, h1, h2, h⟩ := h
  refine xs_putf rfl fl_12_242 h1 (fun q hq => by cases hq; rfl) rfl h2 ?_
  have h := h _ rfl
  generalize H3.set r0 (.inr (12, c9.set 21 (.int (a8 + 1)))) = H10 at h ⊢
  refine xs_aload_n rfl rfl ?_
  refine xs_iload rfl rfl ?_
  refine xs_if_eq (k' := 103) rfl rfl (fun hb => ?_) (fun hb => ?_)
  · have h := h.1 hb
    refine xs_aload_n rfl rfl ?_
    obtain ⟨a11, ⟨_, h1, h2⟩, h⟩ := h
    refine xs_getf rfl fl_12_164 h1 h2 ?_
    exact h
  · have h := h.2 hb
    refine xs_aload_n rfl rfl ?_
    obtain ⟨a12, ⟨_, h1, h2⟩, h⟩ := h
    refine xs_getf rfl fl_12_164 h1 h2 ?_
    refine xs_iconstV (v := 1) rfl rfl ?_
    refine xs_iadd rfl ?_
    refine xs_goto (k' := 105) rfl rfl ?_
    exact h

set_option maxRecDepth 20000 in
theorem b_MO_putBlocks_105 {l : Launch} {x : xX} {d mc ms n0 uc us : Nat} {Q : xO → xH → Prop} {cl : Bool} {r0 : Nat} {v1 : Int32} {v2 : Int32} {v3 : Int32} {v4 : Int32} {v5 : Int32} {v6 : Int32} {q0 : Nat} {u1 : Int32} {H : xH}
    (h : ∃ c1, H[(q0 : Nat)]? = some (.inr (12, c1)) ∧ 8 < c1.length ∧ (∀ H2 : xH, H2 = H.set q0 (.inr (12, c1.set 8 (.int u1))) → xW l x d mc ms mMO_putBlocks n0 Q false 11 [some (.ref r0), some (.int v1), some (.int v2), some (.int v3), some (.int v4), some (.int v5), some (.int v6)] [] H2 uc us)) :
    xW l x d mc ms mMO_putBlocks n0 Q cl 105 [some (.ref r0), some (.int v1), some (.int v2), some (.int v3), some (.int v4), some (.int v5), some (.int v6)] [.int u1, .ref q0] H uc us := by
  obtain ⟨c1, h1, h2, h⟩ := h
  refine xs_putf rfl fl_12_164 h1 (fun q hq => by cases hq; rfl) rfl h2 ?_
  have h := h _ rfl
  generalize H.set q0 (.inr (12, c1.set 8 (.int u1))) = H2 at h ⊢
  refine xs_goto (k' := 11) rfl rfl ?_
  exact h

set_option maxRecDepth 20000 in
theorem b_MO_putBlocks_126 {l : Launch} {x : xX} {d mc ms n0 uc us : Nat} {Q : xO → xH → Prop} {cl : Bool} {r0 : Nat} {v1 : Int32} {v2 : Int32} {v3 : Int32} {H : xH}
    (h : xW l x d mc ms mMO_putBlocks n0 Q cl 4 [some (.ref r0), some (.int v1), some (.int v2), some (.int v3), none, none, none] [] H uc us) :
    xW l x d mc ms mMO_putBlocks n0 Q cl 126 [some (.ref r0), some (.int v1), some (.int v2), some (.int v3), none, none, none] [] H uc us := by
  refine xs_goto (k' := 4) rfl rfl ?_
  exact h

set_option maxRecDepth 20000 in
theorem b_MO_putBlocks_129 {l : Launch} {x : xX} {d mc ms n0 uc us : Nat} {Q : xO → xH → Prop} {cl : Bool} {r0 : Nat} {v1 : Int32} {v2 : Int32} {H : xH}
    (h : uc = mc ∧ us ≤ ms ∧ Q (.inl none) H) :
    xW l x d mc ms mMO_putBlocks n0 Q cl 129 [some (.ref r0), some (.int v1), some (.int v2), none, none, none, none] [] H uc us := by
  exact xs_vret rfl rfl h.1 h.2.1 h.2.2

set_option maxRecDepth 20000 in
theorem b_MO_stretchOf_0 {l : Launch} {x : xX} {d mc ms n0 uc us : Nat} {Q : xO → xH → Prop} {cl : Bool} {r0 : Nat} {v1 : Int32} {H : xH}
    (h : ∃ a1, gI H r0 12 2 a1 ∧ ((258 ≤ (a1 - v1) → xW l x d mc ms mMO_stretchOf n0 Q cl 19 [some (.ref r0), some (.int v1), some (.int 2), some (.int 0), some (.int 258), some (.int 1), none] [] H uc us) ∧ (¬ 258 ≤ (a1 - v1) → ∃ a2, gI H r0 12 2 a2 ∧ (xW l x d mc ms mMO_stretchOf n0 Q cl 19 [some (.ref r0), some (.int v1), some (.int 2), some (.int 0), some (.int (a2 - v1)), some (.int 1), none] [] H uc us)))) :
    xW l x d mc ms mMO_stretchOf n0 Q cl 0 [some (.ref r0), some (.int v1), none, none, none, none, none] [] H uc us := by
  refine xs_iconstV (v := 2) rfl rfl ?_
  refine xs_istore_n rfl (L' := [some (.ref r0), some (.int v1), some (.int 2), none, none, none, none]) rfl rfl ?_
  refine xs_iconstV (v := 0) rfl rfl ?_
  refine xs_istore_n rfl (L' := [some (.ref r0), some (.int v1), some (.int 2), some (.int 0), none, none, none]) rfl rfl ?_
  refine xs_aload_n rfl rfl ?_
  obtain ⟨a1, ⟨_, h1, h2⟩, h⟩ := h
  refine xs_getf rfl fl_12_82 h1 h2 ?_
  refine xs_iload_n rfl rfl ?_
  refine xs_isub rfl ?_
  refine xs_sipushV (v := 258) rfl rfl ?_
  refine xs_icmp_ge (k' := 15) rfl rfl (fun hb => ?_) (fun hb => ?_)
  · have h := h.1 hb
    refine xs_sipushV (v := 258) rfl rfl ?_
    refine xs_istore rfl (L' := [some (.ref r0), some (.int v1), some (.int 2), some (.int 0), some (.int 258), none, none]) rfl rfl ?_
    refine xs_iconstV (v := 1) rfl rfl ?_
    refine xs_istore rfl (L' := [some (.ref r0), some (.int v1), some (.int 2), some (.int 0), some (.int 258), some (.int 1), none]) rfl rfl ?_
    exact h
  · have h := h.2 hb
    refine xs_aload_n rfl rfl ?_
    obtain ⟨a2, ⟨_, h1, h2⟩, h⟩ := h
    refine xs_getf rfl fl_12_82 h1 h2 ?_
    refine xs_iload_n rfl rfl ?_
    refine xs_isub rfl ?_
    refine xs_goto (k' := 16) rfl rfl ?_
    refine xs_istore rfl (L' := [some (.ref r0), some (.int v1), some (.int 2), some (.int 0), some (.int (a2 - v1)), none, none]) rfl rfl ?_
    refine xs_iconstV (v := 1) rfl rfl ?_
    refine xs_istore rfl (L' := [some (.ref r0), some (.int v1), some (.int 2), some (.int 0), some (.int (a2 - v1)), some (.int 1), none]) rfl rfl ?_
    exact h

set_option maxRecDepth 20000 in
theorem b_MO_stretchOf_19 {l : Launch} {x : xX} {d mc ms n0 uc us : Nat} {Q : xO → xH → Prop} {cl : Bool} {r0 : Nat} {v1 : Int32} {v2 : Int32} {v3 : Int32} {v4 : Int32} {v5 : Int32} {H : xH}
    (h : (4096 < v5 → (v2 ≤ 2 → uc = mc ∧ us ≤ ms ∧ Q (.inl (some (.int 0))) H) ∧ (¬ v2 ≤ 2 → uc = mc ∧ us ≤ ms ∧ Q (.inl (some (.int (((65536 : Int32) * v2) + v3)))) H)) ∧ (¬ 4096 < v5 → (v1 < v5 → (v2 ≤ 2 → uc = mc ∧ us ≤ ms ∧ Q (.inl (some (.int 0))) H) ∧ (¬ v2 ≤ 2 → uc = mc ∧ us ≤ ms ∧ Q (.inl (some (.int (((65536 : Int32) * v2) + v3)))) H)) ∧ (¬ v1 < v5 → (v4 ≤ v2 → (v2 ≤ 2 → uc = mc ∧ us ≤ ms ∧ Q (.inl (some (.int 0))) H) ∧ (¬ v2 ≤ 2 → uc = mc ∧ us ≤ ms ∧ Q (.inl (some (.int (((65536 : Int32) * v2) + v3)))) H)) ∧ (¬ v4 ≤ v2 → ∃ p1, gR H r0 12 1 p1 ∧ (∃ n2 f3, H[(p1 : Nat)]? = some (.inl (1, n2, .inl f3)) ∧ vp_in (v1 + v2) n2 ∧ (∃ p4, gR H r0 12 1 p4 ∧ (∃ n5 f6, H[(p4 : Nat)]? = some (.inl (1, n5, .inl f6)) ∧ vp_in ((v1 - v5) + v2) n5 ∧ ((¬ (f3 (v1 + v2).toNatClampNeg) = (f6 ((v1 - v5) + v2).toNatClampNeg) → xW l x d mc ms mMO_stretchOf n0 Q cl 19 [some (.ref r0), some (.int v1), some (.int v2), some (.int v3), some (.int v4), some (.int (v5 + 1)), none] [] H uc us) ∧ ((f3 (v1 + v2).toNatClampNeg) = (f6 ((v1 - v5) + v2).toNatClampNeg) → ∃ p7, gR H r0 12 1 p7 ∧ (∃ n8 f9, H[(p7 : Nat)]? = some (.inl (1, n8, .inl f9)) ∧ vp_in v1 n8 ∧ (∃ p10, gR H r0 12 1 p10 ∧ (∃ n11 f12, H[(p10 : Nat)]? = some (.inl (1, n11, .inl f12)) ∧ vp_in (v1 - v5) n11 ∧ ((¬ (f9 v1.toNatClampNeg) = (f12 (v1 - v5).toNatClampNeg) → xW l x d mc ms mMO_stretchOf n0 Q cl 19 [some (.ref r0), some (.int v1), some (.int v2), some (.int v3), some (.int v4), some (.int (v5 + 1)), none] [] H uc us) ∧ ((f9 v1.toNatClampNeg) = (f12 (v1 - v5).toNatClampNeg) → xW l x d mc ms mMO_stretchOf n0 Q cl 59 [some (.ref r0), some (.int v1), some (.int v2), some (.int v3), some (.int v4), some (.int v5), none] [.int (v1 - v5), .int v1, .ref r0] H uc us)))))))))))))) :
    xW l x d mc ms mMO_stretchOf n0 Q cl 19 [some (.ref r0), some (.int v1), some (.int v2), some (.int v3), some (.int v4), some (.int v5), none] [] H uc us := by
  refine xs_iload rfl rfl ?_
  refine xs_sipushV (v := 4096) rfl rfl ?_
  refine xs_icmp_gt (k' := 70) rfl rfl (fun hb => ?_) (fun hb => ?_)
  · have h := h.1 hb
    refine xs_iload_n rfl rfl ?_
    refine xs_iconstV (v := 2) rfl rfl ?_
    refine xs_icmp_le (k' := 79) rfl rfl (fun hb => ?_) (fun hb => ?_)
    · have h := h.1 hb
      refine xs_iconstV (v := 0) rfl rfl ?_
      exact xs_iret rfl rfl h.1 h.2.1 h.2.2
    · have h := h.2 hb
      refine xs_ldc rfl kc_12_14 ?_
      refine xs_iload_n rfl rfl ?_
      refine xs_imul rfl ?_
      refine xs_iload_n rfl rfl ?_
      refine xs_iadd rfl ?_
      refine xs_goto (k' := 80) rfl rfl ?_
      exact xs_iret rfl rfl h.1 h.2.1 h.2.2
  · have h := h.2 hb
    refine xs_iload rfl rfl ?_
    refine xs_iload_n rfl rfl ?_
    refine xs_icmp_gt (k' := 70) rfl rfl (fun hb => ?_) (fun hb => ?_)
    · have h := h.1 hb
      refine xs_iload_n rfl rfl ?_
      refine xs_iconstV (v := 2) rfl rfl ?_
      refine xs_icmp_le (k' := 79) rfl rfl (fun hb => ?_) (fun hb => ?_)
      · have h := h.1 hb
        refine xs_iconstV (v := 0) rfl rfl ?_
        exact xs_iret rfl rfl h.1 h.2.1 h.2.2
      · have h := h.2 hb
        refine xs_ldc rfl kc_12_14 ?_
        refine xs_iload_n rfl rfl ?_
        refine xs_imul rfl ?_
        refine xs_iload_n rfl rfl ?_
        refine xs_iadd rfl ?_
        refine xs_goto (k' := 80) rfl rfl ?_
        exact xs_iret rfl rfl h.1 h.2.1 h.2.2
    · have h := h.2 hb
      refine xs_iload_n rfl rfl ?_
      refine xs_iload rfl rfl ?_
      refine xs_icmp_ge (k' := 70) rfl rfl (fun hb => ?_) (fun hb => ?_)
      · have h := h.1 hb
        refine xs_iload_n rfl rfl ?_
        refine xs_iconstV (v := 2) rfl rfl ?_
        refine xs_icmp_le (k' := 79) rfl rfl (fun hb => ?_) (fun hb => ?_)
        · have h := h.1 hb
          refine xs_iconstV (v := 0) rfl rfl ?_
          exact xs_iret rfl rfl h.1 h.2.1 h.2.2
        · have h := h.2 hb
          refine xs_ldc rfl kc_12_14 ?_
          refine xs_iload_n rfl rfl ?_
          refine xs_imul rfl ?_
          refine xs_iload_n rfl rfl ?_
          refine xs_iadd rfl ?_
          refine xs_goto (k' := 80) rfl rfl ?_
          exact xs_iret rfl rfl h.1 h.2.1 h.2.2
      · have h := h.2 hb
        refine xs_aload_n rfl rfl ?_
        obtain ⟨p1, ⟨_, h1, h2⟩, h⟩ := h
        refine xs_getf rfl fl_12_8 h1 h2 ?_
        refine xs_iload_n rfl rfl ?_
        refine xs_iload_n rfl rfl ?_
        refine xs_iadd rfl ?_
        obtain ⟨n2, f3, h1, h2, h⟩ := h
        refine xs_bald rfl h1 h2 ?_
        refine xs_aload_n rfl rfl ?_
        obtain ⟨p4, ⟨_, h1, h2⟩, h⟩ := h
        refine xs_getf rfl fl_12_8 h1 h2 ?_
        refine xs_iload_n rfl rfl ?_
        refine xs_iload rfl rfl ?_
        refine xs_isub rfl ?_
        refine xs_iload_n rfl rfl ?_
        refine xs_iadd rfl ?_
        obtain ⟨n5, f6, h1, h2, h⟩ := h
        refine xs_bald rfl h1 h2 ?_
        refine xs_icmp_ne (k' := 68) rfl rfl (fun hb => ?_) (fun hb => ?_)
        · have h := h.1 hb
          refine xs_iincV rfl (w := 1) rfl rfl (L' := [some (.ref r0), some (.int v1), some (.int v2), some (.int v3), some (.int v4), some (.int (v5 + 1)), none]) rfl rfl ?_
          refine xs_goto (k' := 19) rfl rfl ?_
          exact h
        · have h := h.2 hb
          refine xs_aload_n rfl rfl ?_
          obtain ⟨p7, ⟨_, h1, h2⟩, h⟩ := h
          refine xs_getf rfl fl_12_8 h1 h2 ?_
          refine xs_iload_n rfl rfl ?_
          obtain ⟨n8, f9, h1, h2, h⟩ := h
          refine xs_bald rfl h1 h2 ?_
          refine xs_aload_n rfl rfl ?_
          obtain ⟨p10, ⟨_, h1, h2⟩, h⟩ := h
          refine xs_getf rfl fl_12_8 h1 h2 ?_
          refine xs_iload_n rfl rfl ?_
          refine xs_iload rfl rfl ?_
          refine xs_isub rfl ?_
          obtain ⟨n11, f12, h1, h2, h⟩ := h
          refine xs_bald rfl h1 h2 ?_
          refine xs_icmp_ne (k' := 68) rfl rfl (fun hb => ?_) (fun hb => ?_)
          · have h := h.1 hb
            refine xs_iincV rfl (w := 1) rfl rfl (L' := [some (.ref r0), some (.int v1), some (.int v2), some (.int v3), some (.int v4), some (.int (v5 + 1)), none]) rfl rfl ?_
            refine xs_goto (k' := 19) rfl rfl ?_
            exact h
          · have h := h.2 hb
            refine xs_aload_n rfl rfl ?_
            refine xs_iload_n rfl rfl ?_
            refine xs_iload_n rfl rfl ?_
            refine xs_iload rfl rfl ?_
            refine xs_isub rfl ?_
            exact h

set_option maxRecDepth 20000 in
theorem b_MO_stretchOf_60 {l : Launch} {x : xX} {d mc ms n0 uc us : Nat} {Q : xO → xH → Prop} {cl : Bool} {r0 : Nat} {v1 : Int32} {v2 : Int32} {v3 : Int32} {v4 : Int32} {v5 : Int32} {u0 : Int32} {H : xH}
    (h : (u0 ≤ v2 → xW l x d mc ms mMO_stretchOf n0 Q cl 19 [some (.ref r0), some (.int v1), some (.int v2), some (.int v3), some (.int v4), some (.int (v5 + 1)), some (.int u0)] [] H uc us) ∧ (¬ u0 ≤ v2 → xW l x d mc ms mMO_stretchOf n0 Q cl 19 [some (.ref r0), some (.int v1), some (.int u0), some (.int v5), some (.int v4), some (.int (v5 + 1)), some (.int u0)] [] H uc us)) :
    xW l x d mc ms mMO_stretchOf n0 Q cl 60 [some (.ref r0), some (.int v1), some (.int v2), some (.int v3), some (.int v4), some (.int v5), none] [.int u0] H uc us := by
  refine xs_istore rfl (L' := [some (.ref r0), some (.int v1), some (.int v2), some (.int v3), some (.int v4), some (.int v5), some (.int u0)]) rfl rfl ?_
  refine xs_iload rfl rfl ?_
  refine xs_iload_n rfl rfl ?_
  refine xs_icmp_le (k' := 68) rfl rfl (fun hb => ?_) (fun hb => ?_)
  · have h := h.1 hb
    refine xs_iincV rfl (w := 1) rfl rfl (L' := [some (.ref r0), some (.int v1), some (.int v2), some (.int v3), some (.int v4), some (.int (v5 + 1)), some (.int u0)]) rfl rfl ?_
    refine xs_goto (k' := 19) rfl rfl ?_
    exact h
  · have h := h.2 hb
    refine xs_iload rfl rfl ?_
    refine xs_istore_n rfl (L' := [some (.ref r0), some (.int v1), some (.int u0), some (.int v3), some (.int v4), some (.int v5), some (.int u0)]) rfl rfl ?_
    refine xs_iload rfl rfl ?_
    refine xs_istore_n rfl (L' := [some (.ref r0), some (.int v1), some (.int u0), some (.int v5), some (.int v4), some (.int v5), some (.int u0)]) rfl rfl ?_
    refine xs_iincV rfl (w := 1) rfl rfl (L' := [some (.ref r0), some (.int v1), some (.int u0), some (.int v5), some (.int v4), some (.int (v5 + 1)), some (.int u0)]) rfl rfl ?_
    refine xs_goto (k' := 19) rfl rfl ?_
    exact h

set_option maxRecDepth 20000 in
theorem b_MO_same_0 {l : Launch} {x : xX} {d mc ms n0 uc us : Nat} {Q : xO → xH → Prop} {cl : Bool} {r0 : Nat} {v1 : Int32} {v2 : Int32} {H : xH}
    (h : xW l x d mc ms mMO_same n0 Q cl 2 [some (.ref r0), some (.int v1), some (.int v2), some (.int 0)] [] H uc us) :
    xW l x d mc ms mMO_same n0 Q cl 0 [some (.ref r0), some (.int v1), some (.int v2), none] [] H uc us := by
  refine xs_iconstV (v := 0) rfl rfl ?_
  refine xs_istore_n rfl (L' := [some (.ref r0), some (.int v1), some (.int v2), some (.int 0)]) rfl rfl ?_
  exact h

set_option maxRecDepth 20000 in
theorem b_MO_same_2 {l : Launch} {x : xX} {d mc ms n0 uc us : Nat} {Q : xO → xH → Prop} {cl : Bool} {r0 : Nat} {v1 : Int32} {v2 : Int32} {v3 : Int32} {H : xH}
    (h : (258 ≤ v3 → uc = mc ∧ us ≤ ms ∧ Q (.inl (some (.int v3))) H) ∧ (¬ 258 ≤ v3 → ∃ a1, gI H r0 12 2 a1 ∧ ((a1 ≤ (v1 + v3) → uc = mc ∧ us ≤ ms ∧ Q (.inl (some (.int v3))) H) ∧ (¬ a1 ≤ (v1 + v3) → ∃ p2, gR H r0 12 1 p2 ∧ (∃ n3 f4, H[(p2 : Nat)]? = some (.inl (1, n3, .inl f4)) ∧ vp_in (v1 + v3) n3 ∧ (∃ p5, gR H r0 12 1 p5 ∧ (∃ n6 f7, H[(p5 : Nat)]? = some (.inl (1, n6, .inl f7)) ∧ vp_in (v2 + v3) n6 ∧ ((¬ (f4 (v1 + v3).toNatClampNeg) = (f7 (v2 + v3).toNatClampNeg) → uc = mc ∧ us ≤ ms ∧ Q (.inl (some (.int v3))) H) ∧ ((f4 (v1 + v3).toNatClampNeg) = (f7 (v2 + v3).toNatClampNeg) → xW l x d mc ms mMO_same n0 Q cl 2 [some (.ref r0), some (.int v1), some (.int v2), some (.int (v3 + 1))] [] H uc us))))))))) :
    xW l x d mc ms mMO_same n0 Q cl 2 [some (.ref r0), some (.int v1), some (.int v2), some (.int v3)] [] H uc us := by
  refine xs_iload_n rfl rfl ?_
  refine xs_sipushV (v := 258) rfl rfl ?_
  refine xs_icmp_ge (k' := 26) rfl rfl (fun hb => ?_) (fun hb => ?_)
  · have h := h.1 hb
    refine xs_iload_n rfl rfl ?_
    exact xs_iret rfl rfl h.1 h.2.1 h.2.2
  · have h := h.2 hb
    refine xs_iload_n rfl rfl ?_
    refine xs_iload_n rfl rfl ?_
    refine xs_iadd rfl ?_
    refine xs_aload_n rfl rfl ?_
    obtain ⟨a1, ⟨_, h1, h2⟩, h⟩ := h
    refine xs_getf rfl fl_12_82 h1 h2 ?_
    refine xs_icmp_ge (k' := 26) rfl rfl (fun hb => ?_) (fun hb => ?_)
    · have h := h.1 hb
      refine xs_iload_n rfl rfl ?_
      exact xs_iret rfl rfl h.1 h.2.1 h.2.2
    · have h := h.2 hb
      refine xs_aload_n rfl rfl ?_
      obtain ⟨p2, ⟨_, h1, h2⟩, h⟩ := h
      refine xs_getf rfl fl_12_8 h1 h2 ?_
      refine xs_iload_n rfl rfl ?_
      refine xs_iload_n rfl rfl ?_
      refine xs_iadd rfl ?_
      obtain ⟨n3, f4, h1, h2, h⟩ := h
      refine xs_bald rfl h1 h2 ?_
      refine xs_aload_n rfl rfl ?_
      obtain ⟨p5, ⟨_, h1, h2⟩, h⟩ := h
      refine xs_getf rfl fl_12_8 h1 h2 ?_
      refine xs_iload_n rfl rfl ?_
      refine xs_iload_n rfl rfl ?_
      refine xs_iadd rfl ?_
      obtain ⟨n6, f7, h1, h2, h⟩ := h
      refine xs_bald rfl h1 h2 ?_
      refine xs_icmp_ne (k' := 26) rfl rfl (fun hb => ?_) (fun hb => ?_)
      · have h := h.1 hb
        refine xs_iload_n rfl rfl ?_
        exact xs_iret rfl rfl h.1 h.2.1 h.2.2
      · have h := h.2 hb
        refine xs_iincV rfl (w := 1) rfl rfl (L' := [some (.ref r0), some (.int v1), some (.int v2), some (.int (v3 + 1))]) rfl rfl ?_
        refine xs_goto (k' := 2) rfl rfl ?_
        exact h

set_option maxRecDepth 20000 in
theorem b_MO_putBlock_0 {l : Launch} {x : xX} {d mc ms n0 uc us : Nat} {Q : xO → xH → Prop} {cl : Bool} {r0 : Nat} {v1 : Int32} {v2 : Int32} {v3 : Int32} {H : xH}
    (h : ∃ a1, gI H r0 12 13 a1 ∧ (∃ a2, gI H r0 12 13 a2 ∧ (∃ a3, gI H r0 12 13 a3 ∧ (xW l x d mc ms mMO_putBlock n0 Q cl 28 [some (.ref r0), some (.int v1), some (.int v2), some (.int v3), some (.int a1), some (.int ((((a2 + 3) + 7) / 8) * 8)), some (.int (((((((a2 + 3) + 7) / 8) * 8) - a3) + 32) + ((8 : Int32) * v2))), some (.int 0), none, none] [.ref r0] H uc us)))) :
    xW l x d mc ms mMO_putBlock n0 Q cl 0 [some (.ref r0), some (.int v1), some (.int v2), some (.int v3), none, none, none, none, none, none] [] H uc us := by
  refine xs_aload_n rfl rfl ?_
  obtain ⟨a1, ⟨_, h1, h2⟩, h⟩ := h
  refine xs_getf rfl fl_12_118 h1 h2 ?_
  refine xs_istore rfl (L' := [some (.ref r0), some (.int v1), some (.int v2), some (.int v3), some (.int a1), none, none, none, none, none]) rfl rfl ?_
  refine xs_aload_n rfl rfl ?_
  obtain ⟨a2, ⟨_, h1, h2⟩, h⟩ := h
  refine xs_getf rfl fl_12_118 h1 h2 ?_
  refine xs_iconstV (v := 3) rfl rfl ?_
  refine xs_iadd rfl ?_
  refine xs_bipushV (v := 7) rfl rfl ?_
  refine xs_iadd rfl ?_
  refine xs_bipushV (v := 8) rfl rfl ?_
  refine xs_idiv rfl (by decide) ?_
  refine xs_bipushV (v := 8) rfl rfl ?_
  refine xs_imul rfl ?_
  refine xs_istore rfl (L' := [some (.ref r0), some (.int v1), some (.int v2), some (.int v3), some (.int a1), some (.int ((((a2 + 3) + 7) / 8) * 8)), none, none, none, none]) rfl rfl ?_
  refine xs_iload rfl rfl ?_
  refine xs_aload_n rfl rfl ?_
  obtain ⟨a3, ⟨_, h1, h2⟩, h⟩ := h
  refine xs_getf rfl fl_12_118 h1 h2 ?_
  refine xs_isub rfl ?_
  refine xs_bipushV (v := 32) rfl rfl ?_
  refine xs_iadd rfl ?_
  refine xs_bipushV (v := 8) rfl rfl ?_
  refine xs_iload_n rfl rfl ?_
  refine xs_imul rfl ?_
  refine xs_iadd rfl ?_
  refine xs_istore rfl (L' := [some (.ref r0), some (.int v1), some (.int v2), some (.int v3), some (.int a1), some (.int ((((a2 + 3) + 7) / 8) * 8)), some (.int (((((((a2 + 3) + 7) / 8) * 8) - a3) + 32) + ((8 : Int32) * v2))), none, none, none]) rfl rfl ?_
  refine xs_iconstV (v := 0) rfl rfl ?_
  refine xs_istore rfl (L' := [some (.ref r0), some (.int v1), some (.int v2), some (.int v3), some (.int a1), some (.int ((((a2 + 3) + 7) / 8) * 8)), some (.int (((((((a2 + 3) + 7) / 8) * 8) - a3) + 32) + ((8 : Int32) * v2))), some (.int 0), none, none]) rfl rfl ?_
  refine xs_aload_n rfl rfl ?_
  exact h

set_option maxRecDepth 20000 in
theorem b_MO_putBlock_29 {l : Launch} {x : xX} {d mc ms n0 uc us : Nat} {Q : xO → xH → Prop} {cl : Bool} {r0 : Nat} {v1 : Int32} {v2 : Int32} {v3 : Int32} {v4 : Int32} {v5 : Int32} {v6 : Int32} {v7 : Int32} {H : xH}
    (h : xW l x d mc ms mMO_putBlock n0 Q cl 31 [some (.ref r0), some (.int v1), some (.int v2), some (.int v3), some (.int v4), some (.int v5), some (.int v6), some (.int v7), none, none] [.ref r0, .int 3] H uc us) :
    xW l x d mc ms mMO_putBlock n0 Q cl 29 [some (.ref r0), some (.int v1), some (.int v2), some (.int v3), some (.int v4), some (.int v5), some (.int v6), some (.int v7), none, none] [] H uc us := by
  refine xs_iconstV (v := 3) rfl rfl ?_
  refine xs_aload_n rfl rfl ?_
  exact h

set_option maxRecDepth 20000 in
theorem b_MO_putBlock_32 {l : Launch} {x : xX} {d mc ms n0 uc us : Nat} {Q : xO → xH → Prop} {cl : Bool} {r0 : Nat} {v1 : Int32} {v2 : Int32} {v3 : Int32} {v4 : Int32} {v5 : Int32} {v6 : Int32} {v7 : Int32} {u0 : Int32} {u1 : Int32} {H : xH}
    (h : (v6 ≤ (u0 + u1) → ∃ a1, gI H r0 12 21 a1 ∧ ((a1 ≤ 0 → (v3 = 0 → xW l x d mc ms mMO_putBlock n0 Q cl 56 [some (.ref r0), some (.int v1), some (.int v2), some (.int v3), some (.int v4), some (.int v5), some (.int v6), some (.int v7), some (.int (u0 + u1)), none] [.int 0, .ref r0] H uc us) ∧ (¬ v3 = 0 → xW l x d mc ms mMO_putBlock n0 Q cl 56 [some (.ref r0), some (.int v1), some (.int v2), some (.int v3), some (.int v4), some (.int v5), some (.int v6), some (.int v7), some (.int (u0 + u1)), none] [.int 1, .ref r0] H uc us)) ∧ (¬ a1 ≤ 0 → xW l x d mc ms mMO_putBlock n0 Q cl 45 [some (.ref r0), some (.int v1), some (.int v2), some (.int v3), some (.int v4), some (.int v5), some (.int v6), some (.int v7), some (.int (u0 + u1)), none] [.ref r0] H uc us))) ∧ (¬ v6 ≤ (u0 + u1) → ∃ a2, gI H r0 12 21 a2 ∧ ((a2 ≤ 0 → (v3 = 0 → xW l x d mc ms mMO_putBlock n0 Q cl 56 [some (.ref r0), some (.int v1), some (.int v2), some (.int v3), some (.int v4), some (.int v5), some (.int (u0 + u1)), some (.int 1), some (.int (u0 + u1)), none] [.int 0, .ref r0] H uc us) ∧ (¬ v3 = 0 → xW l x d mc ms mMO_putBlock n0 Q cl 56 [some (.ref r0), some (.int v1), some (.int v2), some (.int v3), some (.int v4), some (.int v5), some (.int (u0 + u1)), some (.int 1), some (.int (u0 + u1)), none] [.int 1, .ref r0] H uc us)) ∧ (¬ a2 ≤ 0 → xW l x d mc ms mMO_putBlock n0 Q cl 45 [some (.ref r0), some (.int v1), some (.int v2), some (.int v3), some (.int v4), some (.int v5), some (.int (u0 + u1)), some (.int 1), some (.int (u0 + u1)), none] [.ref r0] H uc us)))) :
    xW l x d mc ms mMO_putBlock n0 Q cl 32 [some (.ref r0), some (.int v1), some (.int v2), some (.int v3), some (.int v4), some (.int v5), some (.int v6), some (.int v7), none, none] [.int u1, .int u0] H uc us := by
  refine xs_iadd rfl ?_
  refine xs_istore rfl (L' := [some (.ref r0), some (.int v1), some (.int v2), some (.int v3), some (.int v4), some (.int v5), some (.int v6), some (.int v7), some (.int (u0 + u1)), none]) rfl rfl ?_
  refine xs_iload rfl rfl ?_
  refine xs_iload rfl rfl ?_
  refine xs_icmp_ge (k' := 41) rfl rfl (fun hb => ?_) (fun hb => ?_)
  · have h := h.1 hb
    refine xs_aload_n rfl rfl ?_
    obtain ⟨a1, ⟨_, h1, h2⟩, h⟩ := h
    refine xs_getf rfl fl_12_242 h1 h2 ?_
    refine xs_if_le (k' := 50) rfl rfl (fun hb => ?_) (fun hb => ?_)
    · have h := h.1 hb
      refine xs_aload_n rfl rfl ?_
      refine xs_iload_n rfl rfl ?_
      refine xs_if_eq (k' := 55) rfl rfl (fun hb => ?_) (fun hb => ?_)
      · have h := h.1 hb
        refine xs_iconstV (v := 0) rfl rfl ?_
        exact h
      · have h := h.2 hb
        refine xs_iconstV (v := 1) rfl rfl ?_
        refine xs_goto (k' := 56) rfl rfl ?_
        exact h
    · have h := h.2 hb
      refine xs_aload_n rfl rfl ?_
      exact h
  · have h := h.2 hb
    refine xs_iload rfl rfl ?_
    refine xs_istore rfl (L' := [some (.ref r0), some (.int v1), some (.int v2), some (.int v3), some (.int v4), some (.int v5), some (.int (u0 + u1)), some (.int v7), some (.int (u0 + u1)), none]) rfl rfl ?_
    refine xs_iconstV (v := 1) rfl rfl ?_
    refine xs_istore rfl (L' := [some (.ref r0), some (.int v1), some (.int v2), some (.int v3), some (.int v4), some (.int v5), some (.int (u0 + u1)), some (.int 1), some (.int (u0 + u1)), none]) rfl rfl ?_
    refine xs_aload_n rfl rfl ?_
    obtain ⟨a2, ⟨_, h1, h2⟩, h⟩ := h
    refine xs_getf rfl fl_12_242 h1 h2 ?_
    refine xs_if_le (k' := 50) rfl rfl (fun hb => ?_) (fun hb => ?_)
    · have h := h.1 hb
      refine xs_aload_n rfl rfl ?_
      refine xs_iload_n rfl rfl ?_
      refine xs_if_eq (k' := 55) rfl rfl (fun hb => ?_) (fun hb => ?_)
      · have h := h.1 hb
        refine xs_iconstV (v := 0) rfl rfl ?_
        exact h
      · have h := h.2 hb
        refine xs_iconstV (v := 1) rfl rfl ?_
        refine xs_goto (k' := 56) rfl rfl ?_
        exact h
    · have h := h.2 hb
      refine xs_aload_n rfl rfl ?_
      exact h

set_option maxRecDepth 20000 in
theorem b_MO_putBlock_46 {l : Launch} {x : xX} {d mc ms n0 uc us : Nat} {Q : xO → xH → Prop} {cl : Bool} {r0 : Nat} {v1 : Int32} {v2 : Int32} {v3 : Int32} {v4 : Int32} {v5 : Int32} {v6 : Int32} {v7 : Int32} {v8 : Int32} {u0 : Int32} {H : xH}
    (h : (v6 ≤ u0 → (v3 = 0 → xW l x d mc ms mMO_putBlock n0 Q cl 56 [some (.ref r0), some (.int v1), some (.int v2), some (.int v3), some (.int v4), some (.int v5), some (.int v6), some (.int v7), some (.int v8), none] [.int 0, .ref r0] H uc us) ∧ (¬ v3 = 0 → xW l x d mc ms mMO_putBlock n0 Q cl 56 [some (.ref r0), some (.int v1), some (.int v2), some (.int v3), some (.int v4), some (.int v5), some (.int v6), some (.int v7), some (.int v8), none] [.int 1, .ref r0] H uc us)) ∧ (¬ v6 ≤ u0 → (v3 = 0 → xW l x d mc ms mMO_putBlock n0 Q cl 56 [some (.ref r0), some (.int v1), some (.int v2), some (.int v3), some (.int v4), some (.int v5), some (.int v6), some (.int 2), some (.int v8), none] [.int 0, .ref r0] H uc us) ∧ (¬ v3 = 0 → xW l x d mc ms mMO_putBlock n0 Q cl 56 [some (.ref r0), some (.int v1), some (.int v2), some (.int v3), some (.int v4), some (.int v5), some (.int v6), some (.int 2), some (.int v8), none] [.int 1, .ref r0] H uc us))) :
    xW l x d mc ms mMO_putBlock n0 Q cl 46 [some (.ref r0), some (.int v1), some (.int v2), some (.int v3), some (.int v4), some (.int v5), some (.int v6), some (.int v7), some (.int v8), none] [.int u0] H uc us := by
  refine xs_iload rfl rfl ?_
  refine xs_icmp_ge (k' := 50) rfl rfl (fun hb => ?_) (fun hb => ?_)
  · have h := h.1 hb
    refine xs_aload_n rfl rfl ?_
    refine xs_iload_n rfl rfl ?_
    refine xs_if_eq (k' := 55) rfl rfl (fun hb => ?_) (fun hb => ?_)
    · have h := h.1 hb
      refine xs_iconstV (v := 0) rfl rfl ?_
      exact h
    · have h := h.2 hb
      refine xs_iconstV (v := 1) rfl rfl ?_
      refine xs_goto (k' := 56) rfl rfl ?_
      exact h
  · have h := h.2 hb
    refine xs_iconstV (v := 2) rfl rfl ?_
    refine xs_istore rfl (L' := [some (.ref r0), some (.int v1), some (.int v2), some (.int v3), some (.int v4), some (.int v5), some (.int v6), some (.int 2), some (.int v8), none]) rfl rfl ?_
    refine xs_aload_n rfl rfl ?_
    refine xs_iload_n rfl rfl ?_
    refine xs_if_eq (k' := 55) rfl rfl (fun hb => ?_) (fun hb => ?_)
    · have h := h.1 hb
      refine xs_iconstV (v := 0) rfl rfl ?_
      exact h
    · have h := h.2 hb
      refine xs_iconstV (v := 1) rfl rfl ?_
      refine xs_goto (k' := 56) rfl rfl ?_
      exact h

set_option maxRecDepth 20000 in
theorem b_MO_putBlock_57 {l : Launch} {x : xX} {d mc ms n0 uc us : Nat} {Q : xO → xH → Prop} {cl : Bool} {r0 : Nat} {v1 : Int32} {v2 : Int32} {v3 : Int32} {v4 : Int32} {v5 : Int32} {v6 : Int32} {v7 : Int32} {v8 : Int32} {H : xH}
    (h : xW l x d mc ms mMO_putBlock n0 Q cl 60 [some (.ref r0), some (.int v1), some (.int v2), some (.int v3), some (.int v4), some (.int v5), some (.int v6), some (.int v7), some (.int v8), none] [.int v7, .int 2, .ref r0] H uc us) :
    xW l x d mc ms mMO_putBlock n0 Q cl 57 [some (.ref r0), some (.int v1), some (.int v2), some (.int v3), some (.int v4), some (.int v5), some (.int v6), some (.int v7), some (.int v8), none] [] H uc us := by
  refine xs_aload_n rfl rfl ?_
  refine xs_iconstV (v := 2) rfl rfl ?_
  refine xs_iload rfl rfl ?_
  exact h

set_option maxRecDepth 20000 in
theorem b_MO_putBlock_61 {l : Launch} {x : xX} {d mc ms n0 uc us : Nat} {Q : xO → xH → Prop} {cl : Bool} {r0 : Nat} {v1 : Int32} {v2 : Int32} {v3 : Int32} {v4 : Int32} {v5 : Int32} {v6 : Int32} {v7 : Int32} {v8 : Int32} {H : xH}
    (h : (¬ v7 = 0 → (¬ v7 = 1 → xW l x d mc ms mMO_putBlock n0 Q cl 78 [some (.ref r0), some (.int v1), some (.int v2), some (.int v3), some (.int v4), some (.int v5), some (.int v6), some (.int v7), some (.int v8), some (.int 286)] [] H uc us) ∧ (v7 = 1 → xW l x d mc ms mMO_putBlock n0 Q cl 72 [some (.ref r0), some (.int v1), some (.int v2), some (.int v3), some (.int v4), some (.int v5), some (.int v6), some (.int v7), some (.int v8), none] [.ref r0] H uc us)) ∧ (v7 = 0 → xW l x d mc ms mMO_putBlock n0 Q cl 66 [some (.ref r0), some (.int v1), some (.int v2), some (.int v3), some (.int v4), some (.int v5), some (.int v6), some (.int v7), some (.int v8), none] [.int v2, .int v1, .ref r0] H uc us)) :
    xW l x d mc ms mMO_putBlock n0 Q cl 61 [some (.ref r0), some (.int v1), some (.int v2), some (.int v3), some (.int v4), some (.int v5), some (.int v6), some (.int v7), some (.int v8), none] [] H uc us := by
  refine xs_iload rfl rfl ?_
  refine xs_if_ne (k' := 68) rfl rfl (fun hb => ?_) (fun hb => ?_)
  · have h := h.1 hb
    refine xs_iload rfl rfl ?_
    refine xs_iconstV (v := 1) rfl rfl ?_
    refine xs_icmp_ne (k' := 76) rfl rfl (fun hb => ?_) (fun hb => ?_)
    · have h := h.1 hb
      refine xs_sipushV (v := 286) rfl rfl ?_
      refine xs_istore rfl (L' := [some (.ref r0), some (.int v1), some (.int v2), some (.int v3), some (.int v4), some (.int v5), some (.int v6), some (.int v7), some (.int v8), some (.int 286)]) rfl rfl ?_
      exact h
    · have h := h.2 hb
      refine xs_aload_n rfl rfl ?_
      exact h
  · have h := h.2 hb
    refine xs_aload_n rfl rfl ?_
    refine xs_iload_n rfl rfl ?_
    refine xs_iload_n rfl rfl ?_
    exact h

set_option maxRecDepth 20000 in
theorem b_MO_putBlock_67 {l : Launch} {x : xX} {d mc ms n0 uc us : Nat} {Q : xO → xH → Prop} {cl : Bool} {r0 : Nat} {v1 : Int32} {v2 : Int32} {v3 : Int32} {v4 : Int32} {v5 : Int32} {v6 : Int32} {v7 : Int32} {v8 : Int32} {H : xH}
    (h : xW l x d mc ms mMO_putBlock n0 Q cl 102 [some (.ref r0), some (.int v1), some (.int v2), some (.int v3), some (.int v4), some (.int v5), some (.int v6), some (.int v7), some (.int v8), none] [] H uc us) :
    xW l x d mc ms mMO_putBlock n0 Q cl 67 [some (.ref r0), some (.int v1), some (.int v2), some (.int v3), some (.int v4), some (.int v5), some (.int v6), some (.int v7), some (.int v8), none] [] H uc us := by
  refine xs_goto (k' := 102) rfl rfl ?_
  exact h

set_option maxRecDepth 20000 in
theorem b_MO_putBlock_73 {l : Launch} {x : xX} {d mc ms n0 uc us : Nat} {Q : xO → xH → Prop} {cl : Bool} {r0 : Nat} {v1 : Int32} {v2 : Int32} {v3 : Int32} {v4 : Int32} {v5 : Int32} {v6 : Int32} {v7 : Int32} {v8 : Int32} {H : xH}
    (h : xW l x d mc ms mMO_putBlock n0 Q cl 74 [some (.ref r0), some (.int v1), some (.int v2), some (.int v3), some (.int v4), some (.int v5), some (.int v6), some (.int v7), some (.int v8), none] [.ref r0] H uc us) :
    xW l x d mc ms mMO_putBlock n0 Q cl 73 [some (.ref r0), some (.int v1), some (.int v2), some (.int v3), some (.int v4), some (.int v5), some (.int v6), some (.int v7), some (.int v8), none] [] H uc us := by
  refine xs_aload_n rfl rfl ?_
  exact h

set_option maxRecDepth 20000 in
theorem b_MO_putBlock_75 {l : Launch} {x : xX} {d mc ms n0 uc us : Nat} {Q : xO → xH → Prop} {cl : Bool} {r0 : Nat} {v1 : Int32} {v2 : Int32} {v3 : Int32} {v4 : Int32} {v5 : Int32} {v6 : Int32} {v7 : Int32} {v8 : Int32} {H : xH}
    (h : xW l x d mc ms mMO_putBlock n0 Q cl 102 [some (.ref r0), some (.int v1), some (.int v2), some (.int v3), some (.int v4), some (.int v5), some (.int v6), some (.int v7), some (.int v8), none] [] H uc us) :
    xW l x d mc ms mMO_putBlock n0 Q cl 75 [some (.ref r0), some (.int v1), some (.int v2), some (.int v3), some (.int v4), some (.int v5), some (.int v6), some (.int v7), some (.int v8), none] [] H uc us := by
  refine xs_goto (k' := 102) rfl rfl ?_
  exact h

set_option maxRecDepth 20000 in
theorem b_MO_putBlock_78 {l : Launch} {x : xX} {d mc ms n0 uc us : Nat} {Q : xO → xH → Prop} {cl : Bool} {r0 : Nat} {v1 : Int32} {v2 : Int32} {v3 : Int32} {v4 : Int32} {v5 : Int32} {v6 : Int32} {v7 : Int32} {v8 : Int32} {v9 : Int32} {H : xH}
    (h : (288 ≤ v9 → xW l x d mc ms mMO_putBlock n0 Q cl 90 [some (.ref r0), some (.int v1), some (.int v2), some (.int v3), some (.int v4), some (.int v5), some (.int v6), some (.int v7), some (.int v8), some (.int 430)] [] H uc us) ∧ (¬ 288 ≤ v9 → ∃ p1, gR H r0 12 17 p1 ∧ (∃ n2 f3, H[(p1 : Nat)]? = some (.inl (0, n2, .inl f3)) ∧ 2 ≤ p1 ∧ vp_in v9 n2 ∧ (∀ H4 : xH, H4 = H.set p1 (.inl (0, n2, .inl (upd f3 (v9.toNatClampNeg) (0)))) → xW l x d mc ms mMO_putBlock n0 Q false 78 [some (.ref r0), some (.int v1), some (.int v2), some (.int v3), some (.int v4), some (.int v5), some (.int v6), some (.int v7), some (.int v8), some (.int (v9 + 1))] [] H4 uc us)))) :
    xW l x d mc ms mMO_putBlock n0 Q cl 78 [some (.ref r0), some (.int v1), some (.int v2), some (.int v3), some (.int v4), some (.int v5), some (.int v6), some (.int v7), some (.int v8), some (.int v9)] [] H uc us := by
  refine xs_iload rfl rfl ?_
  refine xs_sipushV (v := 288) rfl rfl ?_
  refine xs_icmp_ge (k' := 88) rfl rfl (fun hb => ?_) (fun hb => ?_)
  · have h := h.1 hb
    refine xs_sipushV (v := 430) rfl rfl ?_
    refine xs_istore rfl (L' := [some (.ref r0), some (.int v1), some (.int v2), some (.int v3), some (.int v4), some (.int v5), some (.int v6), some (.int v7), some (.int v8), some (.int 430)]) rfl rfl ?_
    exact h
  · have h := h.2 hb
    refine xs_aload_n rfl rfl ?_
    obtain ⟨p1, ⟨_, h1, h2⟩, h⟩ := h
    refine xs_getf rfl fl_12_41 h1 h2 ?_
    refine xs_iload rfl rfl ?_
    refine xs_iconstV (v := 0) rfl rfl ?_
    obtain ⟨n2, f3, h1, h3, h2, h⟩ := h
    refine xs_iast rfl h1 h3 h2 ?_
    have h := h _ rfl
    generalize H.set p1 (.inl (0, n2, .inl (upd f3 (v9.toNatClampNeg) (0)))) = H4 at h ⊢
    refine xs_iincV rfl (w := 1) rfl rfl (L' := [some (.ref r0), some (.int v1), some (.int v2), some (.int v3), some (.int v4), some (.int v5), some (.int v6), some (.int v7), some (.int v8), some (.int (v9 + 1))]) rfl rfl ?_
    refine xs_goto (k' := 78) rfl rfl ?_
    exact h

set_option maxRecDepth 20000 in
theorem b_MO_putBlock_90 {l : Launch} {x : xX} {d mc ms n0 uc us : Nat} {Q : xO → xH → Prop} {cl : Bool} {r0 : Nat} {v1 : Int32} {v2 : Int32} {v3 : Int32} {v4 : Int32} {v5 : Int32} {v6 : Int32} {v7 : Int32} {v8 : Int32} {v9 : Int32} {H : xH}
    (h : (432 ≤ v9 → xW l x d mc ms mMO_putBlock n0 Q cl 101 [some (.ref r0), some (.int v1), some (.int v2), some (.int v3), some (.int v4), some (.int v5), some (.int v6), some (.int v7), some (.int v8), some (.int v9)] [.ref r0] H uc us) ∧ (¬ 432 ≤ v9 → ∃ p1, gR H r0 12 17 p1 ∧ (∃ n2 f3, H[(p1 : Nat)]? = some (.inl (0, n2, .inl f3)) ∧ 2 ≤ p1 ∧ vp_in v9 n2 ∧ (∀ H4 : xH, H4 = H.set p1 (.inl (0, n2, .inl (upd f3 (v9.toNatClampNeg) (0)))) → xW l x d mc ms mMO_putBlock n0 Q false 90 [some (.ref r0), some (.int v1), some (.int v2), some (.int v3), some (.int v4), some (.int v5), some (.int v6), some (.int v7), some (.int v8), some (.int (v9 + 1))] [] H4 uc us)))) :
    xW l x d mc ms mMO_putBlock n0 Q cl 90 [some (.ref r0), some (.int v1), some (.int v2), some (.int v3), some (.int v4), some (.int v5), some (.int v6), some (.int v7), some (.int v8), some (.int v9)] [] H uc us := by
  refine xs_iload rfl rfl ?_
  refine xs_sipushV (v := 432) rfl rfl ?_
  refine xs_icmp_ge (k' := 100) rfl rfl (fun hb => ?_) (fun hb => ?_)
  · have h := h.1 hb
    refine xs_aload_n rfl rfl ?_
    exact h
  · have h := h.2 hb
    refine xs_aload_n rfl rfl ?_
    obtain ⟨p1, ⟨_, h1, h2⟩, h⟩ := h
    refine xs_getf rfl fl_12_41 h1 h2 ?_
    refine xs_iload rfl rfl ?_
    refine xs_iconstV (v := 0) rfl rfl ?_
    obtain ⟨n2, f3, h1, h3, h2, h⟩ := h
    refine xs_iast rfl h1 h3 h2 ?_
    have h := h _ rfl
    generalize H.set p1 (.inl (0, n2, .inl (upd f3 (v9.toNatClampNeg) (0)))) = H4 at h ⊢
    refine xs_iincV rfl (w := 1) rfl rfl (L' := [some (.ref r0), some (.int v1), some (.int v2), some (.int v3), some (.int v4), some (.int v5), some (.int v6), some (.int v7), some (.int v8), some (.int (v9 + 1))]) rfl rfl ?_
    refine xs_goto (k' := 90) rfl rfl ?_
    exact h

set_option maxRecDepth 20000 in
theorem b_MO_putBlock_102 {l : Launch} {x : xX} {d mc ms n0 uc us : Nat} {Q : xO → xH → Prop} {cl : Bool} {r0 : Nat} {v1 : Int32} {v2 : Int32} {v3 : Int32} {v4 : Int32} {v5 : Int32} {v6 : Int32} {v7 : Int32} {v8 : Int32} {H : xH}
    (h : ∃ a1, gI H r0 12 13 a1 ∧ (xW l x d mc ms mMO_putBlock n0 Q cl 110 [some (.ref r0), some (.int v1), some (.int v2), some (.int v3), some (.int v4), some (.int v5), some (.int v6), some (.int v7), some (.int v8), none] [.int v2, .int (a1 - v4), .int v4, .int v7, .ref r0] H uc us)) :
    xW l x d mc ms mMO_putBlock n0 Q cl 102 [some (.ref r0), some (.int v1), some (.int v2), some (.int v3), some (.int v4), some (.int v5), some (.int v6), some (.int v7), some (.int v8), none] [] H uc us := by
  refine xs_aload_n rfl rfl ?_
  refine xs_iload rfl rfl ?_
  refine xs_iload rfl rfl ?_
  refine xs_aload_n rfl rfl ?_
  obtain ⟨a1, ⟨_, h1, h2⟩, h⟩ := h
  refine xs_getf rfl fl_12_118 h1 h2 ?_
  refine xs_iload rfl rfl ?_
  refine xs_isub rfl ?_
  refine xs_iload_n rfl rfl ?_
  exact h

set_option maxRecDepth 20000 in
theorem b_MO_putBlock_111 {l : Launch} {x : xX} {d mc ms n0 uc us : Nat} {Q : xO → xH → Prop} {cl : Bool} {r0 : Nat} {v1 : Int32} {v2 : Int32} {v3 : Int32} {v4 : Int32} {v5 : Int32} {v6 : Int32} {v7 : Int32} {v8 : Int32} {H : xH}
    (h : uc = mc ∧ us ≤ ms ∧ Q (.inl none) H) :
    xW l x d mc ms mMO_putBlock n0 Q cl 111 [some (.ref r0), some (.int v1), some (.int v2), some (.int v3), some (.int v4), some (.int v5), some (.int v6), some (.int v7), some (.int v8), none] [] H uc us := by
  exact xs_vret rfl rfl h.1 h.2.1 h.2.2

set_option maxRecDepth 20000 in
theorem b_MO_pieceBits_0 {l : Launch} {x : xX} {d mc ms n0 uc us : Nat} {Q : xO → xH → Prop} {cl : Bool} {r0 : Nat} {H : xH}
    (h : ∃ p1, gR H r0 12 17 p1 ∧ (∃ n2 f3, H[(p1 : Nat)]? = some (.inl (0, n2, .inl f3)) ∧ vp_in 256 n2 ∧ (xW l x d mc ms mMO_pieceBits n0 Q cl 7 [some (.ref r0), some (.int (f3 (256 : Int32).toNatClampNeg)), some (.int 0), none, none] [] H uc us))) :
    xW l x d mc ms mMO_pieceBits n0 Q cl 0 [some (.ref r0), none, none, none, none] [] H uc us := by
  refine xs_aload_n rfl rfl ?_
  obtain ⟨p1, ⟨_, h1, h2⟩, h⟩ := h
  refine xs_getf rfl fl_12_41 h1 h2 ?_
  refine xs_sipushV (v := 256) rfl rfl ?_
  obtain ⟨n2, f3, h1, h2, h⟩ := h
  refine xs_iald rfl h1 h2 ?_
  refine xs_istore_n rfl (L' := [some (.ref r0), some (.int (f3 (256 : Int32).toNatClampNeg)), none, none, none]) rfl rfl ?_
  refine xs_iconstV (v := 0) rfl rfl ?_
  refine xs_istore_n rfl (L' := [some (.ref r0), some (.int (f3 (256 : Int32).toNatClampNeg)), some (.int 0), none, none]) rfl rfl ?_
  exact h

set_option maxRecDepth 20000 in
theorem b_MO_pieceBits_7 {l : Launch} {x : xX} {d mc ms n0 uc us : Nat} {Q : xO → xH → Prop} {cl : Bool} {r0 : Nat} {v1 : Int32} {v2 : Int32} {H : xH}
    (h : ∃ a1, gI H r0 12 21 a1 ∧ ((a1 ≤ v2 → uc = mc ∧ us ≤ ms ∧ Q (.inl (some (.int v1))) H) ∧ (¬ a1 ≤ v2 → ∃ p2, gR H r0 12 19 p2 ∧ (∃ n3 f4, H[(p2 : Nat)]? = some (.inl (0, n3, .inl f4)) ∧ vp_in v2 n3 ∧ ((¬ (f4 v2.toNatClampNeg) = 1 → ∃ p5, gR H r0 12 19 p5 ∧ (∃ n6 f7, H[(p5 : Nat)]? = some (.inl (0, n6, .inl f7)) ∧ vp_in v2 n6 ∧ (xW l x d mc ms mMO_pieceBits n0 Q cl 32 [some (.ref r0), some (.int v1), some (.int v2), none, none] [.int (f7 v2.toNatClampNeg)] H uc us))) ∧ ((f4 v2.toNatClampNeg) = 1 → ∃ p8, gR H r0 12 17 p8 ∧ (∃ p9, gR H r0 12 20 p9 ∧ (∃ n10 f11, H[(p9 : Nat)]? = some (.inl (0, n10, .inl f11)) ∧ vp_in v2 n10 ∧ (∃ n12 f13, H[(p8 : Nat)]? = some (.inl (0, n12, .inl f13)) ∧ vp_in (f11 v2.toNatClampNeg) n12 ∧ (xW l x d mc ms mMO_pieceBits n0 Q cl 7 [some (.ref r0), some (.int (v1 + (f13 (f11 v2.toNatClampNeg).toNatClampNeg))), some (.int (v2 + 1)), none, none] [] H uc us)))))))))) :
    xW l x d mc ms mMO_pieceBits n0 Q cl 7 [some (.ref r0), some (.int v1), some (.int v2), none, none] [] H uc us := by
  refine xs_iload_n rfl rfl ?_
  refine xs_aload_n rfl rfl ?_
  obtain ⟨a1, ⟨_, h1, h2⟩, h⟩ := h
  refine xs_getf rfl fl_12_242 h1 h2 ?_
  refine xs_icmp_ge (k' := 64) rfl rfl (fun hb => ?_) (fun hb => ?_)
  · have h := h.1 hb
    refine xs_iload_n rfl rfl ?_
    exact xs_iret rfl rfl h.1 h.2.1 h.2.2
  · have h := h.2 hb
    refine xs_aload_n rfl rfl ?_
    obtain ⟨p2, ⟨_, h1, h2⟩, h⟩ := h
    refine xs_getf rfl fl_12_47 h1 h2 ?_
    refine xs_iload_n rfl rfl ?_
    obtain ⟨n3, f4, h1, h2, h⟩ := h
    refine xs_iald rfl h1 h2 ?_
    refine xs_iconstV (v := 1) rfl rfl ?_
    refine xs_icmp_ne (k' := 28) rfl rfl (fun hb => ?_) (fun hb => ?_)
    · have h := h.1 hb
      refine xs_aload_n rfl rfl ?_
      obtain ⟨p5, ⟨_, h1, h2⟩, h⟩ := h
      refine xs_getf rfl fl_12_47 h1 h2 ?_
      refine xs_iload_n rfl rfl ?_
      obtain ⟨n6, f7, h1, h2, h⟩ := h
      refine xs_iald rfl h1 h2 ?_
      exact h
    · have h := h.2 hb
      refine xs_iload_n rfl rfl ?_
      refine xs_aload_n rfl rfl ?_
      obtain ⟨p8, ⟨_, h1, h2⟩, h⟩ := h
      refine xs_getf rfl fl_12_41 h1 h2 ?_
      refine xs_aload_n rfl rfl ?_
      obtain ⟨p9, ⟨_, h1, h2⟩, h⟩ := h
      refine xs_getf rfl fl_12_50 h1 h2 ?_
      refine xs_iload_n rfl rfl ?_
      obtain ⟨n10, f11, h1, h2, h⟩ := h
      refine xs_iald rfl h1 h2 ?_
      obtain ⟨n12, f13, h1, h2, h⟩ := h
      refine xs_iald rfl h1 h2 ?_
      refine xs_iadd rfl ?_
      refine xs_istore_n rfl (L' := [some (.ref r0), some (.int (v1 + (f13 (f11 v2.toNatClampNeg).toNatClampNeg))), some (.int v2), none, none]) rfl rfl ?_
      refine xs_goto (k' := 62) rfl rfl ?_
      refine xs_iincV rfl (w := 1) rfl rfl (L' := [some (.ref r0), some (.int (v1 + (f13 (f11 v2.toNatClampNeg).toNatClampNeg))), some (.int (v2 + 1)), none, none]) rfl rfl ?_
      refine xs_goto (k' := 7) rfl rfl ?_
      exact h

set_option maxRecDepth 20000 in
theorem b_MO_pieceBits_33 {l : Launch} {x : xX} {d mc ms n0 uc us : Nat} {Q : xO → xH → Prop} {cl : Bool} {r0 : Nat} {v1 : Int32} {v2 : Int32} {u0 : Int32} {H : xH}
    (h : ∃ p1, gR H r0 12 20 p1 ∧ (∃ n2 f3, H[(p1 : Nat)]? = some (.inl (0, n2, .inl f3)) ∧ vp_in v2 n2 ∧ (xW l x d mc ms mMO_pieceBits n0 Q cl 38 [some (.ref r0), some (.int v1), some (.int v2), some (.int u0), none] [.int (f3 v2.toNatClampNeg)] H uc us))) :
    xW l x d mc ms mMO_pieceBits n0 Q cl 33 [some (.ref r0), some (.int v1), some (.int v2), none, none] [.int u0] H uc us := by
  refine xs_istore_n rfl (L' := [some (.ref r0), some (.int v1), some (.int v2), some (.int u0), none]) rfl rfl ?_
  refine xs_aload_n rfl rfl ?_
  obtain ⟨p1, ⟨_, h1, h2⟩, h⟩ := h
  refine xs_getf rfl fl_12_50 h1 h2 ?_
  refine xs_iload_n rfl rfl ?_
  obtain ⟨n2, f3, h1, h2, h⟩ := h
  refine xs_iald rfl h1 h2 ?_
  exact h

set_option maxRecDepth 20000 in
theorem b_MO_pieceBits_39 {l : Launch} {x : xX} {d mc ms n0 uc us : Nat} {Q : xO → xH → Prop} {cl : Bool} {r0 : Nat} {v1 : Int32} {v2 : Int32} {v3 : Int32} {u0 : Int32} {H : xH}
    (h : ∃ p1, gR H r0 12 17 p1 ∧ (∃ n2 f3, H[(p1 : Nat)]? = some (.inl (0, n2, .inl f3)) ∧ vp_in ((257 : Int32) + v3) n2 ∧ (xW l x d mc ms mMO_pieceBits n0 Q cl 48 [some (.ref r0), some (.int v1), some (.int v2), some (.int v3), some (.int u0)] [.int v3, .int (f3 ((257 : Int32) + v3).toNatClampNeg), .int v1] H uc us))) :
    xW l x d mc ms mMO_pieceBits n0 Q cl 39 [some (.ref r0), some (.int v1), some (.int v2), some (.int v3), none] [.int u0] H uc us := by
  refine xs_istore rfl (L' := [some (.ref r0), some (.int v1), some (.int v2), some (.int v3), some (.int u0)]) rfl rfl ?_
  refine xs_iload_n rfl rfl ?_
  refine xs_aload_n rfl rfl ?_
  obtain ⟨p1, ⟨_, h1, h2⟩, h⟩ := h
  refine xs_getf rfl fl_12_41 h1 h2 ?_
  refine xs_sipushV (v := 257) rfl rfl ?_
  refine xs_iload_n rfl rfl ?_
  refine xs_iadd rfl ?_
  obtain ⟨n2, f3, h1, h2, h⟩ := h
  refine xs_iald rfl h1 h2 ?_
  refine xs_iload_n rfl rfl ?_
  exact h

set_option maxRecDepth 20000 in
theorem b_MO_pieceBits_49 {l : Launch} {x : xX} {d mc ms n0 uc us : Nat} {Q : xO → xH → Prop} {cl : Bool} {r0 : Nat} {v1 : Int32} {v2 : Int32} {v3 : Int32} {v4 : Int32} {u0 : Int32} {u1 : Int32} {u2 : Int32} {H : xH}
    (h : ∃ p1, gR H r0 12 17 p1 ∧ (∃ n2 f3, H[(p1 : Nat)]? = some (.inl (0, n2, .inl f3)) ∧ vp_in ((400 : Int32) + v4) n2 ∧ (xW l x d mc ms mMO_pieceBits n0 Q cl 58 [some (.ref r0), some (.int v1), some (.int v2), some (.int v3), some (.int v4)] [.int v4, .int ((u1 + u2) + (f3 ((400 : Int32) + v4).toNatClampNeg)), .int u0] H uc us))) :
    xW l x d mc ms mMO_pieceBits n0 Q cl 49 [some (.ref r0), some (.int v1), some (.int v2), some (.int v3), some (.int v4)] [.int u2, .int u1, .int u0] H uc us := by
  refine xs_iadd rfl ?_
  refine xs_aload_n rfl rfl ?_
  obtain ⟨p1, ⟨_, h1, h2⟩, h⟩ := h
  refine xs_getf rfl fl_12_41 h1 h2 ?_
  refine xs_sipushV (v := 400) rfl rfl ?_
  refine xs_iload rfl rfl ?_
  refine xs_iadd rfl ?_
  obtain ⟨n2, f3, h1, h2, h⟩ := h
  refine xs_iald rfl h1 h2 ?_
  refine xs_iadd rfl ?_
  refine xs_iload rfl rfl ?_
  exact h

set_option maxRecDepth 20000 in
theorem b_MO_pieceBits_59 {l : Launch} {x : xX} {d mc ms n0 uc us : Nat} {Q : xO → xH → Prop} {cl : Bool} {r0 : Nat} {v1 : Int32} {v2 : Int32} {v3 : Int32} {v4 : Int32} {u0 : Int32} {u1 : Int32} {u2 : Int32} {H : xH}
    (h : xW l x d mc ms mMO_pieceBits n0 Q cl 7 [some (.ref r0), some (.int (u0 + (u1 + u2))), some (.int (v2 + 1)), some (.int v3), some (.int v4)] [] H uc us) :
    xW l x d mc ms mMO_pieceBits n0 Q cl 59 [some (.ref r0), some (.int v1), some (.int v2), some (.int v3), some (.int v4)] [.int u2, .int u1, .int u0] H uc us := by
  refine xs_iadd rfl ?_
  refine xs_iadd rfl ?_
  refine xs_istore_n rfl (L' := [some (.ref r0), some (.int (u0 + (u1 + u2))), some (.int v2), some (.int v3), some (.int v4)]) rfl rfl ?_
  refine xs_iincV rfl (w := 1) rfl rfl (L' := [some (.ref r0), some (.int (u0 + (u1 + u2))), some (.int (v2 + 1)), some (.int v3), some (.int v4)]) rfl rfl ?_
  refine xs_goto (k' := 7) rfl rfl ?_
  exact h

set_option maxRecDepth 20000 in
theorem b_MO_lengthSymbol_0 {l : Launch} {x : xX} {d mc ms n0 uc us : Nat} {Q : xO → xH → Prop} {cl : Bool} {v0 : Int32} {H : xH}
    (h : xW l x d mc ms mMO_lengthSymbol n0 Q cl 2 [some (.int v0), some (.int 28)] [] H uc us) :
    xW l x d mc ms mMO_lengthSymbol n0 Q cl 0 [some (.int v0), none] [] H uc us := by
  refine xs_bipushV (v := 28) rfl rfl ?_
  refine xs_istore_n rfl (L' := [some (.int v0), some (.int 28)]) rfl rfl ?_
  exact h

set_option maxRecDepth 20000 in
theorem b_MO_lengthSymbol_2 {l : Launch} {x : xX} {d mc ms n0 uc us : Nat} {Q : xO → xH → Prop} {cl : Bool} {v0 : Int32} {v1 : Int32} {H : xH}
    (h : xW l x d mc ms mMO_lengthSymbol n0 Q cl 3 [some (.int v0), some (.int v1)] [.int v1] H uc us) :
    xW l x d mc ms mMO_lengthSymbol n0 Q cl 2 [some (.int v0), some (.int v1)] [] H uc us := by
  refine xs_iload_n rfl rfl ?_
  exact h

set_option maxRecDepth 20000 in
theorem b_MO_lengthSymbol_4 {l : Launch} {x : xX} {d mc ms n0 uc us : Nat} {Q : xO → xH → Prop} {cl : Bool} {v0 : Int32} {v1 : Int32} {u0 : Int32} {H : xH}
    (h : (v0 < u0 → xW l x d mc ms mMO_lengthSymbol n0 Q cl 2 [some (.int v0), some (.int (v1 + (-1)))] [] H uc us) ∧ (¬ v0 < u0 → (¬ v1 = 28 → uc = mc ∧ us ≤ ms ∧ Q (.inl (some (.int v1))) H) ∧ (v1 = 28 → (258 ≤ v0 → uc = mc ∧ us ≤ ms ∧ Q (.inl (some (.int v1))) H) ∧ (¬ 258 ≤ v0 → xW l x d mc ms mMO_lengthSymbol n0 Q cl 2 [some (.int v0), some (.int (v1 + (-1)))] [] H uc us)))) :
    xW l x d mc ms mMO_lengthSymbol n0 Q cl 4 [some (.int v0), some (.int v1)] [.int u0] H uc us := by
  refine xs_iload_n rfl rfl ?_
  refine xs_icmp_gt (k' := 12) rfl rfl (fun hb => ?_) (fun hb => ?_)
  · have h := h.1 hb
    refine xs_iincV rfl (w := (-1)) rfl rfl (L' := [some (.int v0), some (.int (v1 + (-1)))]) rfl rfl ?_
    refine xs_goto (k' := 2) rfl rfl ?_
    exact h
  · have h := h.2 hb
    refine xs_iload_n rfl rfl ?_
    refine xs_bipushV (v := 28) rfl rfl ?_
    refine xs_icmp_ne (k' := 14) rfl rfl (fun hb => ?_) (fun hb => ?_)
    · have h := h.1 hb
      refine xs_iload_n rfl rfl ?_
      exact xs_iret rfl rfl h.1 h.2.1 h.2.2
    · have h := h.2 hb
      refine xs_iload_n rfl rfl ?_
      refine xs_sipushV (v := 258) rfl rfl ?_
      refine xs_icmp_ge (k' := 14) rfl rfl (fun hb => ?_) (fun hb => ?_)
      · have h := h.1 hb
        refine xs_iload_n rfl rfl ?_
        exact xs_iret rfl rfl h.1 h.2.1 h.2.2
      · have h := h.2 hb
        refine xs_iincV rfl (w := (-1)) rfl rfl (L' := [some (.int v0), some (.int (v1 + (-1)))]) rfl rfl ?_
        refine xs_goto (k' := 2) rfl rfl ?_
        exact h

set_option maxRecDepth 20000 in
theorem b_MO_distanceSymbol_0 {l : Launch} {x : xX} {d mc ms n0 uc us : Nat} {Q : xO → xH → Prop} {cl : Bool} {v0 : Int32} {H : xH}
    (h : xW l x d mc ms mMO_distanceSymbol n0 Q cl 2 [some (.int v0), some (.int 29)] [] H uc us) :
    xW l x d mc ms mMO_distanceSymbol n0 Q cl 0 [some (.int v0), none] [] H uc us := by
  refine xs_bipushV (v := 29) rfl rfl ?_
  refine xs_istore_n rfl (L' := [some (.int v0), some (.int 29)]) rfl rfl ?_
  exact h

set_option maxRecDepth 20000 in
theorem b_MO_distanceSymbol_2 {l : Launch} {x : xX} {d mc ms n0 uc us : Nat} {Q : xO → xH → Prop} {cl : Bool} {v0 : Int32} {v1 : Int32} {H : xH}
    (h : xW l x d mc ms mMO_distanceSymbol n0 Q cl 3 [some (.int v0), some (.int v1)] [.int v1] H uc us) :
    xW l x d mc ms mMO_distanceSymbol n0 Q cl 2 [some (.int v0), some (.int v1)] [] H uc us := by
  refine xs_iload_n rfl rfl ?_
  exact h

set_option maxRecDepth 20000 in
theorem b_MO_distanceSymbol_4 {l : Launch} {x : xX} {d mc ms n0 uc us : Nat} {Q : xO → xH → Prop} {cl : Bool} {v0 : Int32} {v1 : Int32} {u0 : Int32} {H : xH}
    (h : (u0 ≤ v0 → uc = mc ∧ us ≤ ms ∧ Q (.inl (some (.int v1))) H) ∧ (¬ u0 ≤ v0 → xW l x d mc ms mMO_distanceSymbol n0 Q cl 2 [some (.int v0), some (.int (v1 + (-1)))] [] H uc us)) :
    xW l x d mc ms mMO_distanceSymbol n0 Q cl 4 [some (.int v0), some (.int v1)] [.int u0] H uc us := by
  refine xs_iload_n rfl rfl ?_
  refine xs_icmp_le (k' := 8) rfl rfl (fun hb => ?_) (fun hb => ?_)
  · have h := h.1 hb
    refine xs_iload_n rfl rfl ?_
    exact xs_iret rfl rfl h.1 h.2.1 h.2.2
  · have h := h.2 hb
    refine xs_iincV rfl (w := (-1)) rfl rfl (L' := [some (.int v0), some (.int (v1 + (-1)))]) rfl rfl ?_
    refine xs_goto (k' := 2) rfl rfl ?_
    exact h

set_option maxRecDepth 20000 in
theorem b_MO_plan_0 {l : Launch} {x : xX} {d mc ms n0 uc us : Nat} {Q : xO → xH → Prop} {cl : Bool} {r0 : Nat} {H : xH}
    (h : xW l x d mc ms mMO_plan n0 Q cl 1 [some (.ref r0), none, none, none] [.ref r0] H uc us) :
    xW l x d mc ms mMO_plan n0 Q cl 0 [some (.ref r0), none, none, none] [] H uc us := by
  refine xs_aload_n rfl rfl ?_
  exact h

set_option maxRecDepth 20000 in
theorem b_MO_plan_2 {l : Launch} {x : xX} {d mc ms n0 uc us : Nat} {Q : xO → xH → Prop} {cl : Bool} {r0 : Nat} {H : xH}
    (h : xW l x d mc ms mMO_plan n0 Q cl 6 [some (.ref r0), none, none, none] [.int 15, .int 286, .int 0, .ref r0] H uc us) :
    xW l x d mc ms mMO_plan n0 Q cl 2 [some (.ref r0), none, none, none] [] H uc us := by
  refine xs_aload_n rfl rfl ?_
  refine xs_iconstV (v := 0) rfl rfl ?_
  refine xs_sipushV (v := 286) rfl rfl ?_
  refine xs_bipushV (v := 15) rfl rfl ?_
  exact h

set_option maxRecDepth 20000 in
theorem b_MO_plan_7 {l : Launch} {x : xX} {d mc ms n0 uc us : Nat} {Q : xO → xH → Prop} {cl : Bool} {r0 : Nat} {H : xH}
    (h : xW l x d mc ms mMO_plan n0 Q cl 11 [some (.ref r0), none, none, none] [.int 15, .int 30, .int 400, .ref r0] H uc us) :
    xW l x d mc ms mMO_plan n0 Q cl 7 [some (.ref r0), none, none, none] [] H uc us := by
  refine xs_aload_n rfl rfl ?_
  refine xs_sipushV (v := 400) rfl rfl ?_
  refine xs_bipushV (v := 30) rfl rfl ?_
  refine xs_bipushV (v := 15) rfl rfl ?_
  exact h

set_option maxRecDepth 20000 in
theorem b_MO_plan_12 {l : Launch} {x : xX} {d mc ms n0 uc us : Nat} {Q : xO → xH → Prop} {cl : Bool} {r0 : Nat} {H : xH}
    (h : ∃ p1, gR H r0 12 17 p1 ∧ (xW l x d mc ms mMO_plan n0 Q cl 17 [some (.ref r0), none, none, none] [.int 286, .int 0, .ref p1, .ref r0] H uc us)) :
    xW l x d mc ms mMO_plan n0 Q cl 12 [some (.ref r0), none, none, none] [] H uc us := by
  refine xs_aload_n rfl rfl ?_
  refine xs_aload_n rfl rfl ?_
  obtain ⟨p1, ⟨_, h1, h2⟩, h⟩ := h
  refine xs_getf rfl fl_12_41 h1 h2 ?_
  refine xs_iconstV (v := 0) rfl rfl ?_
  refine xs_sipushV (v := 286) rfl rfl ?_
  exact h

set_option maxRecDepth 20000 in
theorem b_MO_plan_18 {l : Launch} {x : xX} {d mc ms n0 uc us : Nat} {Q : xO → xH → Prop} {cl : Bool} {r0 : Nat} {q0 : Nat} {u1 : Int32} {H : xH}
    (h : ∃ c1, H[(q0 : Nat)]? = some (.inr (12, c1)) ∧ 31 < c1.length ∧ (∀ H2 : xH, H2 = H.set q0 (.inr (12, c1.set 31 (.int u1))) → ∃ p3, gR H2 r0 12 17 p3 ∧ (xW l x d mc ms mMO_plan n0 Q false 24 [some (.ref r0), none, none, none] [.int 30, .int 400, .ref p3, .ref r0] H2 uc us))) :
    xW l x d mc ms mMO_plan n0 Q cl 18 [some (.ref r0), none, none, none] [.int u1, .ref q0] H uc us := by
  obtain ⟨c1, h1, h2, h⟩ := h
  refine xs_putf rfl fl_12_270 h1 (fun q hq => by cases hq; rfl) rfl h2 ?_
  have h := h _ rfl
  generalize H.set q0 (.inr (12, c1.set 31 (.int u1))) = H2 at h ⊢
  refine xs_aload_n rfl rfl ?_
  refine xs_aload_n rfl rfl ?_
  obtain ⟨p3, ⟨_, h1, h2⟩, h⟩ := h
  refine xs_getf rfl fl_12_41 h1 h2 ?_
  refine xs_sipushV (v := 400) rfl rfl ?_
  refine xs_bipushV (v := 30) rfl rfl ?_
  exact h

set_option maxRecDepth 20000 in
theorem b_MO_plan_25 {l : Launch} {x : xX} {d mc ms n0 uc us : Nat} {Q : xO → xH → Prop} {cl : Bool} {r0 : Nat} {q0 : Nat} {u1 : Int32} {H : xH}
    (h : ∃ c1, H[(q0 : Nat)]? = some (.inr (12, c1)) ∧ 32 < c1.length ∧ (∀ H2 : xH, H2 = H.set q0 (.inr (12, c1.set 32 (.int u1))) → ∃ a3, gI H2 r0 12 32 a3 ∧ ((¬ a3 = 0 → ∃ a4, gI H2 r0 12 32 a4 ∧ (∃ c5, H2[(r0 : Nat)]? = some (.inr (12, c5)) ∧ 32 < c5.length ∧ (∀ H6 : xH, H6 = H2.set r0 (.inr (12, c5.set 32 (.int a4))) → xW l x d mc ms mMO_plan n0 Q false 37 [some (.ref r0), some (.int 0), none, none] [] H6 uc us))) ∧ (a3 = 0 → ∃ c7, H2[(r0 : Nat)]? = some (.inr (12, c7)) ∧ 32 < c7.length ∧ (∀ H8 : xH, H8 = H2.set r0 (.inr (12, c7.set 32 (.int 1))) → xW l x d mc ms mMO_plan n0 Q false 37 [some (.ref r0), some (.int 0), none, none] [] H8 uc us))))) :
    xW l x d mc ms mMO_plan n0 Q cl 25 [some (.ref r0), none, none, none] [.int u1, .ref q0] H uc us := by
  obtain ⟨c1, h1, h2, h⟩ := h
  refine xs_putf rfl fl_12_273 h1 (fun q hq => by cases hq; rfl) rfl h2 ?_
  have h := h _ rfl
  generalize H.set q0 (.inr (12, c1.set 32 (.int u1))) = H2 at h ⊢
  refine xs_aload_n rfl rfl ?_
  refine xs_aload_n rfl rfl ?_
  obtain ⟨a3, ⟨_, h1, h2⟩, h⟩ := h
  refine xs_getf rfl fl_12_273 h1 h2 ?_
  refine xs_if_ne (k' := 32) rfl rfl (fun hb => ?_) (fun hb => ?_)
  · have h := h.1 hb
    refine xs_aload_n rfl rfl ?_
    obtain ⟨a4, ⟨_, h1, h2⟩, h⟩ := h
    refine xs_getf rfl fl_12_273 h1 h2 ?_
    obtain ⟨c5, h1, h2, h⟩ := h
    refine xs_putf rfl fl_12_273 h1 (fun q hq => by cases hq; rfl) rfl h2 ?_
    have h := h _ rfl
    generalize H2.set r0 (.inr (12, c5.set 32 (.int a4))) = H6 at h ⊢
    refine xs_iconstV (v := 0) rfl rfl ?_
    refine xs_istore_n rfl (L' := [some (.ref r0), some (.int 0), none, none]) rfl rfl ?_
    exact h
  · have h := h.2 hb
    refine xs_iconstV (v := 1) rfl rfl ?_
    refine xs_goto (k' := 34) rfl rfl ?_
    obtain ⟨c7, h1, h2, h⟩ := h
    refine xs_putf rfl fl_12_273 h1 (fun q hq => by cases hq; rfl) rfl h2 ?_
    have h := h _ rfl
    generalize H2.set r0 (.inr (12, c7.set 32 (.int 1))) = H8 at h ⊢
    refine xs_iconstV (v := 0) rfl rfl ?_
    refine xs_istore_n rfl (L' := [some (.ref r0), some (.int 0), none, none]) rfl rfl ?_
    exact h

set_option maxRecDepth 20000 in
theorem b_MO_plan_37 {l : Launch} {x : xX} {d mc ms n0 uc us : Nat} {Q : xO → xH → Prop} {cl : Bool} {r0 : Nat} {v1 : Int32} {H : xH}
    (h : ∃ a1, gI H r0 12 31 a1 ∧ ((a1 ≤ v1 → xW l x d mc ms mMO_plan n0 Q cl 53 [some (.ref r0), some (.int 0), none, none] [] H uc us) ∧ (¬ a1 ≤ v1 → ∃ p2, gR H r0 12 18 p2 ∧ (∃ p3, gR H r0 12 17 p3 ∧ (∃ n4 f5, H[(p3 : Nat)]? = some (.inl (0, n4, .inl f5)) ∧ vp_in v1 n4 ∧ (∃ n6 f7, H[(p2 : Nat)]? = some (.inl (0, n6, .inl f7)) ∧ 2 ≤ p2 ∧ vp_in v1 n6 ∧ (∀ H8 : xH, H8 = H.set p2 (.inl (0, n6, .inl (upd f7 (v1.toNatClampNeg) ((f5 v1.toNatClampNeg))))) → xW l x d mc ms mMO_plan n0 Q false 37 [some (.ref r0), some (.int (v1 + 1)), none, none] [] H8 uc us))))))) :
    xW l x d mc ms mMO_plan n0 Q cl 37 [some (.ref r0), some (.int v1), none, none] [] H uc us := by
  refine xs_iload_n rfl rfl ?_
  refine xs_aload_n rfl rfl ?_
  obtain ⟨a1, ⟨_, h1, h2⟩, h⟩ := h
  refine xs_getf rfl fl_12_270 h1 h2 ?_
  refine xs_icmp_ge (k' := 51) rfl rfl (fun hb => ?_) (fun hb => ?_)
  · have h := h.1 hb
    refine xs_iconstV (v := 0) rfl rfl ?_
    refine xs_istore_n rfl (L' := [some (.ref r0), some (.int 0), none, none]) rfl rfl ?_
    exact h
  · have h := h.2 hb
    refine xs_aload_n rfl rfl ?_
    obtain ⟨p2, ⟨_, h1, h2⟩, h⟩ := h
    refine xs_getf rfl fl_12_44 h1 h2 ?_
    refine xs_iload_n rfl rfl ?_
    refine xs_aload_n rfl rfl ?_
    obtain ⟨p3, ⟨_, h1, h2⟩, h⟩ := h
    refine xs_getf rfl fl_12_41 h1 h2 ?_
    refine xs_iload_n rfl rfl ?_
    obtain ⟨n4, f5, h1, h2, h⟩ := h
    refine xs_iald rfl h1 h2 ?_
    obtain ⟨n6, f7, h1, h3, h2, h⟩ := h
    refine xs_iast rfl h1 h3 h2 ?_
    have h := h _ rfl
    generalize H.set p2 (.inl (0, n6, .inl (upd f7 (v1.toNatClampNeg) ((f5 v1.toNatClampNeg))))) = H8 at h ⊢
    refine xs_iincV rfl (w := 1) rfl rfl (L' := [some (.ref r0), some (.int (v1 + 1)), none, none]) rfl rfl ?_
    refine xs_goto (k' := 37) rfl rfl ?_
    exact h

set_option maxRecDepth 20000 in
theorem b_MO_plan_53 {l : Launch} {x : xX} {d mc ms n0 uc us : Nat} {Q : xO → xH → Prop} {cl : Bool} {r0 : Nat} {v1 : Int32} {H : xH}
    (h : ∃ a1, gI H r0 12 32 a1 ∧ ((a1 ≤ v1 → ∃ a2, gI H r0 12 31 a2 ∧ (∃ a3, gI H r0 12 32 a3 ∧ (xW l x d mc ms mMO_plan n0 Q cl 78 [some (.ref r0), some (.int v1), none, none] [.int (a2 + a3), .ref r0] H uc us))) ∧ (¬ a1 ≤ v1 → ∃ p4, gR H r0 12 18 p4 ∧ (∃ a5, gI H r0 12 31 a5 ∧ (∃ p6, gR H r0 12 17 p6 ∧ (∃ n7 f8, H[(p6 : Nat)]? = some (.inl (0, n7, .inl f8)) ∧ vp_in ((400 : Int32) + v1) n7 ∧ (∃ n9 f10, H[(p4 : Nat)]? = some (.inl (0, n9, .inl f10)) ∧ 2 ≤ p4 ∧ vp_in (a5 + v1) n9 ∧ (∀ H11 : xH, H11 = H.set p4 (.inl (0, n9, .inl (upd f10 ((a5 + v1).toNatClampNeg) ((f8 ((400 : Int32) + v1).toNatClampNeg))))) → xW l x d mc ms mMO_plan n0 Q false 53 [some (.ref r0), some (.int (v1 + 1)), none, none] [] H11 uc us)))))))) :
    xW l x d mc ms mMO_plan n0 Q cl 53 [some (.ref r0), some (.int v1), none, none] [] H uc us := by
  refine xs_iload_n rfl rfl ?_
  refine xs_aload_n rfl rfl ?_
  obtain ⟨a1, ⟨_, h1, h2⟩, h⟩ := h
  refine xs_getf rfl fl_12_273 h1 h2 ?_
  refine xs_icmp_ge (k' := 72) rfl rfl (fun hb => ?_) (fun hb => ?_)
  · have h := h.1 hb
    refine xs_aload_n rfl rfl ?_
    refine xs_aload_n rfl rfl ?_
    obtain ⟨a2, ⟨_, h1, h2⟩, h⟩ := h
    refine xs_getf rfl fl_12_270 h1 h2 ?_
    refine xs_aload_n rfl rfl ?_
    obtain ⟨a3, ⟨_, h1, h2⟩, h⟩ := h
    refine xs_getf rfl fl_12_273 h1 h2 ?_
    refine xs_iadd rfl ?_
    exact h
  · have h := h.2 hb
    refine xs_aload_n rfl rfl ?_
    obtain ⟨p4, ⟨_, h1, h2⟩, h⟩ := h
    refine xs_getf rfl fl_12_44 h1 h2 ?_
    refine xs_aload_n rfl rfl ?_
    obtain ⟨a5, ⟨_, h1, h2⟩, h⟩ := h
    refine xs_getf rfl fl_12_270 h1 h2 ?_
    refine xs_iload_n rfl rfl ?_
    refine xs_iadd rfl ?_
    refine xs_aload_n rfl rfl ?_
    obtain ⟨p6, ⟨_, h1, h2⟩, h⟩ := h
    refine xs_getf rfl fl_12_41 h1 h2 ?_
    refine xs_sipushV (v := 400) rfl rfl ?_
    refine xs_iload_n rfl rfl ?_
    refine xs_iadd rfl ?_
    obtain ⟨n7, f8, h1, h2, h⟩ := h
    refine xs_iald rfl h1 h2 ?_
    obtain ⟨n9, f10, h1, h3, h2, h⟩ := h
    refine xs_iast rfl h1 h3 h2 ?_
    have h := h _ rfl
    generalize H.set p4 (.inl (0, n9, .inl (upd f10 ((a5 + v1).toNatClampNeg) ((f8 ((400 : Int32) + v1).toNatClampNeg))))) = H11 at h ⊢
    refine xs_iincV rfl (w := 1) rfl rfl (L' := [some (.ref r0), some (.int (v1 + 1)), none, none]) rfl rfl ?_
    refine xs_goto (k' := 53) rfl rfl ?_
    exact h

set_option maxRecDepth 20000 in
theorem b_MO_plan_79 {l : Launch} {x : xX} {d mc ms n0 uc us : Nat} {Q : xO → xH → Prop} {cl : Bool} {r0 : Nat} {v1 : Int32} {H : xH}
    (h : xW l x d mc ms mMO_plan n0 Q cl 81 [some (.ref r0), some (.int 0), none, none] [] H uc us) :
    xW l x d mc ms mMO_plan n0 Q cl 79 [some (.ref r0), some (.int v1), none, none] [] H uc us := by
  refine xs_iconstV (v := 0) rfl rfl ?_
  refine xs_istore_n rfl (L' := [some (.ref r0), some (.int 0), none, none]) rfl rfl ?_
  exact h

set_option maxRecDepth 20000 in
theorem b_MO_plan_81 {l : Launch} {x : xX} {d mc ms n0 uc us : Nat} {Q : xO → xH → Prop} {cl : Bool} {r0 : Nat} {v1 : Int32} {H : xH}
    (h : ∃ a1, gI H r0 12 30 a1 ∧ ((a1 ≤ v1 → xW l x d mc ms mMO_plan n0 Q cl 104 [some (.ref r0), some (.int 0), some (.int 0), none] [] H uc us) ∧ (¬ a1 ≤ v1 → ∃ p2, gR H r0 12 22 p2 ∧ (∃ p3, gR H r0 12 28 p3 ∧ (∃ n4 f5, H[(p3 : Nat)]? = some (.inl (0, n4, .inl f5)) ∧ vp_in v1 n4 ∧ (∃ n6 f7, H[(p2 : Nat)]? = some (.inl (2, n6, .inr (.inl f7))) ∧ vp_in ((500 : Int32) + (f5 v1.toNatClampNeg)) n6 ∧ (∃ n8 f9, H[(p2 : Nat)]? = some (.inl (2, n8, .inr (.inl f9))) ∧ vp_in ((500 : Int32) + (f5 v1.toNatClampNeg)) n8 ∧ (∀ H10 : xH, H10 = H.set p2 (.inl (2, n8, .inr (.inl (vp_updL f9 (((500 : Int32) + (f5 v1.toNatClampNeg)).toNatClampNeg) (((f7 ((500 : Int32) + (f5 v1.toNatClampNeg)).toNatClampNeg) + 1)))))) → xW l x d mc ms mMO_plan n0 Q false 81 [some (.ref r0), some (.int (v1 + 1)), none, none] [] H10 uc us)))))))) :
    xW l x d mc ms mMO_plan n0 Q cl 81 [some (.ref r0), some (.int v1), none, none] [] H uc us := by
  refine xs_iload_n rfl rfl ?_
  refine xs_aload_n rfl rfl ?_
  obtain ⟨a1, ⟨_, h1, h2⟩, h⟩ := h
  refine xs_getf rfl fl_12_251 h1 h2 ?_
  refine xs_icmp_ge (k' := 100) rfl rfl (fun hb => ?_) (fun hb => ?_)
  · have h := h.1 hb
    refine xs_iconstV (v := 0) rfl rfl ?_
    refine xs_istore_n rfl (L' := [some (.ref r0), some (.int 0), none, none]) rfl rfl ?_
    refine xs_iconstV (v := 0) rfl rfl ?_
    refine xs_istore_n rfl (L' := [some (.ref r0), some (.int 0), some (.int 0), none]) rfl rfl ?_
    exact h
  · have h := h.2 hb
    refine xs_aload_n rfl rfl ?_
    obtain ⟨p2, ⟨_, h1, h2⟩, h⟩ := h
    refine xs_getf rfl fl_12_53 h1 h2 ?_
    refine xs_sipushV (v := 500) rfl rfl ?_
    refine xs_aload_n rfl rfl ?_
    obtain ⟨p3, ⟨_, h1, h2⟩, h⟩ := h
    refine xs_getf rfl fl_12_73 h1 h2 ?_
    refine xs_iload_n rfl rfl ?_
    obtain ⟨n4, f5, h1, h2, h⟩ := h
    refine xs_iald rfl h1 h2 ?_
    refine xs_iadd rfl ?_
    refine xs_dup2 rfl rfl rfl ?_
    obtain ⟨n6, f7, h1, h2, h⟩ := h
    refine xs_lald rfl h1 h2 ?_
    refine xs_lconstV (v := 1) rfl rfl ?_
    refine xs_ladd rfl ?_
    obtain ⟨n8, f9, h1, h2, h⟩ := h
    refine xs_last rfl h1 h2 ?_
    have h := h _ rfl
    generalize H.set p2 (.inl (2, n8, .inr (.inl (vp_updL f9 (((500 : Int32) + (f5 v1.toNatClampNeg)).toNatClampNeg) (((f7 ((500 : Int32) + (f5 v1.toNatClampNeg)).toNatClampNeg) + 1)))))) = H10 at h ⊢
    refine xs_iincV rfl (w := 1) rfl rfl (L' := [some (.ref r0), some (.int (v1 + 1)), none, none]) rfl rfl ?_
    refine xs_goto (k' := 81) rfl rfl ?_
    exact h

set_option maxRecDepth 20000 in
theorem b_MO_plan_104 {l : Launch} {x : xX} {d mc ms n0 uc us : Nat} {Q : xO → xH → Prop} {cl : Bool} {r0 : Nat} {v1 : Int32} {v2 : Int32} {H : xH}
    (h : (19 ≤ v2 → (¬ v1 = 1 → xW l x d mc ms mMO_plan n0 Q cl 147 [some (.ref r0), some (.int v1), some (.int v2), none] [.int 7, .int 19, .int 500, .ref r0] H uc us) ∧ (v1 = 1 → ∃ p1, gR H r0 12 22 p1 ∧ (∃ n2 f3, H[(p1 : Nat)]? = some (.inl (2, n2, .inr (.inl f3))) ∧ vp_in 500 n2 ∧ (((lg_cmp (f3 (500 : Int32).toNatClampNeg) 0) ≤ 0 → ∃ p4, gR H r0 12 22 p4 ∧ (∃ n5 f6, H[(p4 : Nat)]? = some (.inl (2, n5, .inr (.inl f6))) ∧ vp_in 500 n5 ∧ (∀ H7 : xH, H7 = H.set p4 (.inl (2, n5, .inr (.inl (vp_updL f6 ((500 : Int32).toNatClampNeg) (1))))) → xW l x d mc ms mMO_plan n0 Q false 147 [some (.ref r0), some (.int v1), some (.int 500), none] [.int 7, .int 19, .int 500, .ref r0] H7 uc us))) ∧ (¬ (lg_cmp (f3 (500 : Int32).toNatClampNeg) 0) ≤ 0 → ∃ p8, gR H r0 12 22 p8 ∧ (∃ n9 f10, H[(p8 : Nat)]? = some (.inl (2, n9, .inr (.inl f10))) ∧ vp_in 501 n9 ∧ (∀ H11 : xH, H11 = H.set p8 (.inl (2, n9, .inr (.inl (vp_updL f10 ((501 : Int32).toNatClampNeg) (1))))) → xW l x d mc ms mMO_plan n0 Q false 147 [some (.ref r0), some (.int v1), some (.int 501), none] [.int 7, .int 19, .int 500, .ref r0] H11 uc us))))))) ∧ (¬ 19 ≤ v2 → ∃ p12, gR H r0 12 22 p12 ∧ (∃ n13 f14, H[(p12 : Nat)]? = some (.inl (2, n13, .inr (.inl f14))) ∧ vp_in ((500 : Int32) + v2) n13 ∧ (((lg_cmp (f14 ((500 : Int32) + v2).toNatClampNeg) 0) ≤ 0 → xW l x d mc ms mMO_plan n0 Q cl 104 [some (.ref r0), some (.int v1), some (.int (v2 + 1)), none] [] H uc us) ∧ (¬ (lg_cmp (f14 ((500 : Int32) + v2).toNatClampNeg) 0) ≤ 0 → xW l x d mc ms mMO_plan n0 Q cl 104 [some (.ref r0), some (.int (v1 + 1)), some (.int (v2 + 1)), none] [] H uc us))))) :
    xW l x d mc ms mMO_plan n0 Q cl 104 [some (.ref r0), some (.int v1), some (.int v2), none] [] H uc us := by
  refine xs_iload_n rfl rfl ?_
  refine xs_bipushV (v := 19) rfl rfl ?_
  refine xs_icmp_ge (k' := 124) rfl rfl (fun hb => ?_) (fun hb => ?_)
  · have h := h.1 hb
    refine xs_iload_n rfl rfl ?_
    refine xs_iconstV (v := 1) rfl rfl ?_
    refine xs_icmp_ne (k' := 143) rfl rfl (fun hb => ?_) (fun hb => ?_)
    · have h := h.1 hb
      refine xs_aload_n rfl rfl ?_
      refine xs_sipushV (v := 500) rfl rfl ?_
      refine xs_bipushV (v := 19) rfl rfl ?_
      refine xs_bipushV (v := 7) rfl rfl ?_
      exact h
    · have h := h.2 hb
      refine xs_aload_n rfl rfl ?_
      obtain ⟨p1, ⟨_, h1, h2⟩, h⟩ := h
      refine xs_getf rfl fl_12_53 h1 h2 ?_
      refine xs_sipushV (v := 500) rfl rfl ?_
      obtain ⟨n2, f3, h1, h2, h⟩ := h
      refine xs_lald rfl h1 h2 ?_
      refine xs_lconstV (v := 0) rfl rfl ?_
      refine xs_lcmp rfl ?_
      refine xs_if_le (k' := 136) rfl rfl (fun hb => ?_) (fun hb => ?_)
      · have h := h.1 hb
        refine xs_sipushV (v := 500) rfl rfl ?_
        refine xs_istore_n rfl (L' := [some (.ref r0), some (.int v1), some (.int 500), none]) rfl rfl ?_
        refine xs_aload_n rfl rfl ?_
        obtain ⟨p4, ⟨_, h1, h2⟩, h⟩ := h
        refine xs_getf rfl fl_12_53 h1 h2 ?_
        refine xs_iload_n rfl rfl ?_
        refine xs_lconstV (v := 1) rfl rfl ?_
        obtain ⟨n5, f6, h1, h2, h⟩ := h
        refine xs_last rfl h1 h2 ?_
        have h := h _ rfl
        generalize H.set p4 (.inl (2, n5, .inr (.inl (vp_updL f6 ((500 : Int32).toNatClampNeg) (1))))) = H7 at h ⊢
        refine xs_aload_n rfl rfl ?_
        refine xs_sipushV (v := 500) rfl rfl ?_
        refine xs_bipushV (v := 19) rfl rfl ?_
        refine xs_bipushV (v := 7) rfl rfl ?_
        exact h
      · have h := h.2 hb
        refine xs_sipushV (v := 501) rfl rfl ?_
        refine xs_goto (k' := 137) rfl rfl ?_
        refine xs_istore_n rfl (L' := [some (.ref r0), some (.int v1), some (.int 501), none]) rfl rfl ?_
        refine xs_aload_n rfl rfl ?_
        obtain ⟨p8, ⟨_, h1, h2⟩, h⟩ := h
        refine xs_getf rfl fl_12_53 h1 h2 ?_
        refine xs_iload_n rfl rfl ?_
        refine xs_lconstV (v := 1) rfl rfl ?_
        obtain ⟨n9, f10, h1, h2, h⟩ := h
        refine xs_last rfl h1 h2 ?_
        have h := h _ rfl
        generalize H.set p8 (.inl (2, n9, .inr (.inl (vp_updL f10 ((501 : Int32).toNatClampNeg) (1))))) = H11 at h ⊢
        refine xs_aload_n rfl rfl ?_
        refine xs_sipushV (v := 500) rfl rfl ?_
        refine xs_bipushV (v := 19) rfl rfl ?_
        refine xs_bipushV (v := 7) rfl rfl ?_
        exact h
  · have h := h.2 hb
    refine xs_aload_n rfl rfl ?_
    obtain ⟨p12, ⟨_, h1, h2⟩, h⟩ := h
    refine xs_getf rfl fl_12_53 h1 h2 ?_
    refine xs_sipushV (v := 500) rfl rfl ?_
    refine xs_iload_n rfl rfl ?_
    refine xs_iadd rfl ?_
    obtain ⟨n13, f14, h1, h2, h⟩ := h
    refine xs_lald rfl h1 h2 ?_
    refine xs_lconstV (v := 0) rfl rfl ?_
    refine xs_lcmp rfl ?_
    refine xs_if_le (k' := 120) rfl rfl (fun hb => ?_) (fun hb => ?_)
    · have h := h.1 hb
      refine xs_iload_n rfl rfl ?_
      refine xs_istore_n rfl (L' := [some (.ref r0), some (.int v1), some (.int v2), none]) rfl rfl ?_
      refine xs_iincV rfl (w := 1) rfl rfl (L' := [some (.ref r0), some (.int v1), some (.int (v2 + 1)), none]) rfl rfl ?_
      refine xs_goto (k' := 104) rfl rfl ?_
      exact h
    · have h := h.2 hb
      refine xs_iload_n rfl rfl ?_
      refine xs_iconstV (v := 1) rfl rfl ?_
      refine xs_iadd rfl ?_
      refine xs_goto (k' := 121) rfl rfl ?_
      refine xs_istore_n rfl (L' := [some (.ref r0), some (.int (v1 + 1)), some (.int v2), none]) rfl rfl ?_
      refine xs_iincV rfl (w := 1) rfl rfl (L' := [some (.ref r0), some (.int (v1 + 1)), some (.int (v2 + 1)), none]) rfl rfl ?_
      refine xs_goto (k' := 104) rfl rfl ?_
      exact h

set_option maxRecDepth 20000 in
theorem b_MO_plan_148 {l : Launch} {x : xX} {d mc ms n0 uc us : Nat} {Q : xO → xH → Prop} {cl : Bool} {r0 : Nat} {v1 : Int32} {v2 : Int32} {H : xH}
    (h : ∃ c1, H[(r0 : Nat)]? = some (.inr (12, c1)) ∧ 33 < c1.length ∧ (∀ H2 : xH, H2 = H.set r0 (.inr (12, c1.set 33 (.int 4))) → xW l x d mc ms mMO_plan n0 Q false 153 [some (.ref r0), some (.int v1), some (.int 0), none] [] H2 uc us)) :
    xW l x d mc ms mMO_plan n0 Q cl 148 [some (.ref r0), some (.int v1), some (.int v2), none] [] H uc us := by
  refine xs_aload_n rfl rfl ?_
  refine xs_iconstV (v := 4) rfl rfl ?_
  obtain ⟨c1, h1, h2, h⟩ := h
  refine xs_putf rfl fl_12_279 h1 (fun q hq => by cases hq; rfl) rfl h2 ?_
  have h := h _ rfl
  generalize H.set r0 (.inr (12, c1.set 33 (.int 4))) = H2 at h ⊢
  refine xs_iconstV (v := 0) rfl rfl ?_
  refine xs_istore_n rfl (L' := [some (.ref r0), some (.int v1), some (.int 0), none]) rfl rfl ?_
  exact h

set_option maxRecDepth 20000 in
theorem b_MO_plan_153 {l : Launch} {x : xX} {d mc ms n0 uc us : Nat} {Q : xO → xH → Prop} {cl : Bool} {r0 : Nat} {v1 : Int32} {v2 : Int32} {H : xH}
    (h : (19 ≤ v2 → ∃ a1, gI H r0 12 33 a1 ∧ (xW l x d mc ms mMO_plan n0 Q cl 187 [some (.ref r0), some (.int v1), some (.int ((17 : Int32) + ((3 : Int32) * a1))), some (.int 0)] [] H uc us)) ∧ (¬ 19 ≤ v2 → ∃ p2, gR H r0 12 17 p2 ∧ (xW l x d mc ms mMO_plan n0 Q cl 161 [some (.ref r0), some (.int v1), some (.int v2), none] [.int v2, .int 500, .ref p2, .ref r0] H uc us))) :
    xW l x d mc ms mMO_plan n0 Q cl 153 [some (.ref r0), some (.int v1), some (.int v2), none] [] H uc us := by
  refine xs_iload_n rfl rfl ?_
  refine xs_bipushV (v := 19) rfl rfl ?_
  refine xs_icmp_ge (k' := 178) rfl rfl (fun hb => ?_) (fun hb => ?_)
  · have h := h.1 hb
    refine xs_bipushV (v := 17) rfl rfl ?_
    refine xs_iconstV (v := 3) rfl rfl ?_
    refine xs_aload_n rfl rfl ?_
    obtain ⟨a1, ⟨_, h1, h2⟩, h⟩ := h
    refine xs_getf rfl fl_12_279 h1 h2 ?_
    refine xs_imul rfl ?_
    refine xs_iadd rfl ?_
    refine xs_istore_n rfl (L' := [some (.ref r0), some (.int v1), some (.int ((17 : Int32) + ((3 : Int32) * a1))), none]) rfl rfl ?_
    refine xs_iconstV (v := 0) rfl rfl ?_
    refine xs_istore_n rfl (L' := [some (.ref r0), some (.int v1), some (.int ((17 : Int32) + ((3 : Int32) * a1))), some (.int 0)]) rfl rfl ?_
    exact h
  · have h := h.2 hb
    refine xs_aload_n rfl rfl ?_
    refine xs_aload_n rfl rfl ?_
    obtain ⟨p2, ⟨_, h1, h2⟩, h⟩ := h
    refine xs_getf rfl fl_12_41 h1 h2 ?_
    refine xs_sipushV (v := 500) rfl rfl ?_
    refine xs_iload_n rfl rfl ?_
    exact h

set_option maxRecDepth 20000 in
theorem b_MO_plan_162 {l : Launch} {x : xX} {d mc ms n0 uc us : Nat} {Q : xO → xH → Prop} {cl : Bool} {r0 : Nat} {v1 : Int32} {v2 : Int32} {q0 : Nat} {q1 : Nat} {u2 : Int32} {u3 : Int32} {H : xH}
    (h : ∃ n1 f2, H[(q1 : Nat)]? = some (.inl (0, n1, .inl f2)) ∧ vp_in (u2 + u3) n1 ∧ (((f2 (u2 + u3).toNatClampNeg) ≤ 0 → ∃ a3, gI H r0 12 33 a3 ∧ (∃ c4, H[(q0 : Nat)]? = some (.inr (12, c4)) ∧ 33 < c4.length ∧ (∀ H5 : xH, H5 = H.set q0 (.inr (12, c4.set 33 (.int a3))) → xW l x d mc ms mMO_plan n0 Q false 153 [some (.ref r0), some (.int v1), some (.int (v2 + 1)), none] [] H5 uc us))) ∧ (¬ (f2 (u2 + u3).toNatClampNeg) ≤ 0 → ∃ a6, gI H r0 12 33 a6 ∧ ((v2 < a6 → ∃ a7, gI H r0 12 33 a7 ∧ (∃ c8, H[(q0 : Nat)]? = some (.inr (12, c8)) ∧ 33 < c8.length ∧ (∀ H9 : xH, H9 = H.set q0 (.inr (12, c8.set 33 (.int a7))) → xW l x d mc ms mMO_plan n0 Q false 153 [some (.ref r0), some (.int v1), some (.int (v2 + 1)), none] [] H9 uc us))) ∧ (¬ v2 < a6 → ∃ c10, H[(q0 : Nat)]? = some (.inr (12, c10)) ∧ 33 < c10.length ∧ (∀ H11 : xH, H11 = H.set q0 (.inr (12, c10.set 33 (.int (v2 + 1)))) → xW l x d mc ms mMO_plan n0 Q false 153 [some (.ref r0), some (.int v1), some (.int (v2 + 1)), none] [] H11 uc us)))))) :
    xW l x d mc ms mMO_plan n0 Q cl 162 [some (.ref r0), some (.int v1), some (.int v2), none] [.int u3, .int u2, .ref q1, .ref q0] H uc us := by
  refine xs_iadd rfl ?_
  obtain ⟨n1, f2, h1, h2, h⟩ := h
  refine xs_iald rfl h1 h2 ?_
  refine xs_if_le (k' := 173) rfl rfl (fun hb => ?_) (fun hb => ?_)
  · have h := h.1 hb
    refine xs_aload_n rfl rfl ?_
    obtain ⟨a3, ⟨_, h1, h2⟩, h⟩ := h
    refine xs_getf rfl fl_12_279 h1 h2 ?_
    obtain ⟨c4, h1, h2, h⟩ := h
    refine xs_putf rfl fl_12_279 h1 (fun q hq => by cases hq; rfl) rfl h2 ?_
    have h := h _ rfl
    generalize H.set q0 (.inr (12, c4.set 33 (.int a3))) = H5 at h ⊢
    refine xs_iincV rfl (w := 1) rfl rfl (L' := [some (.ref r0), some (.int v1), some (.int (v2 + 1)), none]) rfl rfl ?_
    refine xs_goto (k' := 153) rfl rfl ?_
    exact h
  · have h := h.2 hb
    refine xs_iload_n rfl rfl ?_
    refine xs_aload_n rfl rfl ?_
    obtain ⟨a6, ⟨_, h1, h2⟩, h⟩ := h
    refine xs_getf rfl fl_12_279 h1 h2 ?_
    refine xs_icmp_lt (k' := 173) rfl rfl (fun hb => ?_) (fun hb => ?_)
    · have h := h.1 hb
      refine xs_aload_n rfl rfl ?_
      obtain ⟨a7, ⟨_, h1, h2⟩, h⟩ := h
      refine xs_getf rfl fl_12_279 h1 h2 ?_
      obtain ⟨c8, h1, h2, h⟩ := h
      refine xs_putf rfl fl_12_279 h1 (fun q hq => by cases hq; rfl) rfl h2 ?_
      have h := h _ rfl
      generalize H.set q0 (.inr (12, c8.set 33 (.int a7))) = H9 at h ⊢
      refine xs_iincV rfl (w := 1) rfl rfl (L' := [some (.ref r0), some (.int v1), some (.int (v2 + 1)), none]) rfl rfl ?_
      refine xs_goto (k' := 153) rfl rfl ?_
      exact h
    · have h := h.2 hb
      refine xs_iload_n rfl rfl ?_
      refine xs_iconstV (v := 1) rfl rfl ?_
      refine xs_iadd rfl ?_
      refine xs_goto (k' := 175) rfl rfl ?_
      obtain ⟨c10, h1, h2, h⟩ := h
      refine xs_putf rfl fl_12_279 h1 (fun q hq => by cases hq; rfl) rfl h2 ?_
      have h := h _ rfl
      generalize H.set q0 (.inr (12, c10.set 33 (.int (v2 + 1)))) = H11 at h ⊢
      refine xs_iincV rfl (w := 1) rfl rfl (L' := [some (.ref r0), some (.int v1), some (.int (v2 + 1)), none]) rfl rfl ?_
      refine xs_goto (k' := 153) rfl rfl ?_
      exact h

set_option maxRecDepth 20000 in
theorem b_MO_plan_187 {l : Launch} {x : xX} {d mc ms n0 uc us : Nat} {Q : xO → xH → Prop} {cl : Bool} {r0 : Nat} {v1 : Int32} {v2 : Int32} {v3 : Int32} {H : xH}
    (h : ∃ a1, gI H r0 12 30 a1 ∧ ((a1 ≤ v3 → xW l x d mc ms mMO_plan n0 Q cl 213 [some (.ref r0), some (.int v1), some (.int v2), some (.int v3)] [.ref r0, .int v2] H uc us) ∧ (¬ a1 ≤ v3 → ∃ p2, gR H r0 12 17 p2 ∧ (∃ p3, gR H r0 12 28 p3 ∧ (∃ n4 f5, H[(p3 : Nat)]? = some (.inl (0, n4, .inl f5)) ∧ vp_in v3 n4 ∧ (∃ n6 f7, H[(p2 : Nat)]? = some (.inl (0, n6, .inl f7)) ∧ vp_in ((500 : Int32) + (f5 v3.toNatClampNeg)) n6 ∧ (∃ p8, gR H r0 12 28 p8 ∧ (∃ n9 f10, H[(p8 : Nat)]? = some (.inl (0, n9, .inl f10)) ∧ vp_in v3 n9 ∧ (xW l x d mc ms mMO_plan n0 Q cl 205 [some (.ref r0), some (.int v1), some (.int v2), some (.int v3)] [.int (f10 v3.toNatClampNeg), .int (f7 ((500 : Int32) + (f5 v3.toNatClampNeg)).toNatClampNeg), .int v2] H uc us))))))))) :
    xW l x d mc ms mMO_plan n0 Q cl 187 [some (.ref r0), some (.int v1), some (.int v2), some (.int v3)] [] H uc us := by
  refine xs_iload_n rfl rfl ?_
  refine xs_aload_n rfl rfl ?_
  obtain ⟨a1, ⟨_, h1, h2⟩, h⟩ := h
  refine xs_getf rfl fl_12_251 h1 h2 ?_
  refine xs_icmp_ge (k' := 211) rfl rfl (fun hb => ?_) (fun hb => ?_)
  · have h := h.1 hb
    refine xs_iload_n rfl rfl ?_
    refine xs_aload_n rfl rfl ?_
    exact h
  · have h := h.2 hb
    refine xs_iload_n rfl rfl ?_
    refine xs_aload_n rfl rfl ?_
    obtain ⟨p2, ⟨_, h1, h2⟩, h⟩ := h
    refine xs_getf rfl fl_12_41 h1 h2 ?_
    refine xs_sipushV (v := 500) rfl rfl ?_
    refine xs_aload_n rfl rfl ?_
    obtain ⟨p3, ⟨_, h1, h2⟩, h⟩ := h
    refine xs_getf rfl fl_12_73 h1 h2 ?_
    refine xs_iload_n rfl rfl ?_
    obtain ⟨n4, f5, h1, h2, h⟩ := h
    refine xs_iald rfl h1 h2 ?_
    refine xs_iadd rfl ?_
    obtain ⟨n6, f7, h1, h2, h⟩ := h
    refine xs_iald rfl h1 h2 ?_
    refine xs_aload_n rfl rfl ?_
    obtain ⟨p8, ⟨_, h1, h2⟩, h⟩ := h
    refine xs_getf rfl fl_12_73 h1 h2 ?_
    refine xs_iload_n rfl rfl ?_
    obtain ⟨n9, f10, h1, h2, h⟩ := h
    refine xs_iald rfl h1 h2 ?_
    exact h

set_option maxRecDepth 20000 in
theorem b_MO_plan_206 {l : Launch} {x : xX} {d mc ms n0 uc us : Nat} {Q : xO → xH → Prop} {cl : Bool} {r0 : Nat} {v1 : Int32} {v2 : Int32} {v3 : Int32} {u0 : Int32} {u1 : Int32} {u2 : Int32} {H : xH}
    (h : xW l x d mc ms mMO_plan n0 Q cl 187 [some (.ref r0), some (.int v1), some (.int (u0 + (u1 + u2))), some (.int (v3 + 1))] [] H uc us) :
    xW l x d mc ms mMO_plan n0 Q cl 206 [some (.ref r0), some (.int v1), some (.int v2), some (.int v3)] [.int u2, .int u1, .int u0] H uc us := by
  refine xs_iadd rfl ?_
  refine xs_iadd rfl ?_
  refine xs_istore_n rfl (L' := [some (.ref r0), some (.int v1), some (.int (u0 + (u1 + u2))), some (.int v3)]) rfl rfl ?_
  refine xs_iincV rfl (w := 1) rfl rfl (L' := [some (.ref r0), some (.int v1), some (.int (u0 + (u1 + u2))), some (.int (v3 + 1))]) rfl rfl ?_
  refine xs_goto (k' := 187) rfl rfl ?_
  exact h

set_option maxRecDepth 20000 in
theorem b_MO_plan_214 {l : Launch} {x : xX} {d mc ms n0 uc us : Nat} {Q : xO → xH → Prop} {cl : Bool} {r0 : Nat} {v1 : Int32} {v2 : Int32} {v3 : Int32} {u0 : Int32} {u1 : Int32} {H : xH}
    (h : uc = mc ∧ us ≤ ms ∧ Q (.inl (some (.int (u0 + u1)))) H) :
    xW l x d mc ms mMO_plan n0 Q cl 214 [some (.ref r0), some (.int v1), some (.int v2), some (.int v3)] [.int u1, .int u0] H uc us := by
  refine xs_iadd rfl ?_
  exact xs_iret rfl rfl h.1 h.2.1 h.2.2

set_option maxRecDepth 20000 in
theorem b_MO_weigh_0 {l : Launch} {x : xX} {d mc ms n0 uc us : Nat} {Q : xO → xH → Prop} {cl : Bool} {r0 : Nat} {H : xH}
    (h : xW l x d mc ms mMO_weigh n0 Q cl 2 [some (.ref r0), some (.int 0)] [] H uc us) :
    xW l x d mc ms mMO_weigh n0 Q cl 0 [some (.ref r0), none] [] H uc us := by
  refine xs_iconstV (v := 0) rfl rfl ?_
  refine xs_istore_n rfl (L' := [some (.ref r0), some (.int 0)]) rfl rfl ?_
  exact h

set_option maxRecDepth 20000 in
theorem b_MO_weigh_2 {l : Launch} {x : xX} {d mc ms n0 uc us : Nat} {Q : xO → xH → Prop} {cl : Bool} {r0 : Nat} {v1 : Int32} {H : xH}
    (h : (600 ≤ v1 → ∃ p1, gR H r0 12 22 p1 ∧ (∃ n2 f3, H[(p1 : Nat)]? = some (.inl (2, n2, .inr (.inl f3))) ∧ vp_in 256 n2 ∧ (∀ H4 : xH, H4 = H.set p1 (.inl (2, n2, .inr (.inl (vp_updL f3 ((256 : Int32).toNatClampNeg) (1))))) → xW l x d mc ms mMO_weigh n0 Q false 19 [some (.ref r0), some (.int 0)] [] H4 uc us))) ∧ (¬ 600 ≤ v1 → ∃ p5, gR H r0 12 22 p5 ∧ (∃ n6 f7, H[(p5 : Nat)]? = some (.inl (2, n6, .inr (.inl f7))) ∧ vp_in v1 n6 ∧ (∀ H8 : xH, H8 = H.set p5 (.inl (2, n6, .inr (.inl (vp_updL f7 (v1.toNatClampNeg) (0))))) → xW l x d mc ms mMO_weigh n0 Q false 2 [some (.ref r0), some (.int (v1 + 1))] [] H8 uc us)))) :
    xW l x d mc ms mMO_weigh n0 Q cl 2 [some (.ref r0), some (.int v1)] [] H uc us := by
  refine xs_iload_n rfl rfl ?_
  refine xs_sipushV (v := 600) rfl rfl ?_
  refine xs_icmp_ge (k' := 12) rfl rfl (fun hb => ?_) (fun hb => ?_)
  · have h := h.1 hb
    refine xs_aload_n rfl rfl ?_
    obtain ⟨p1, ⟨_, h1, h2⟩, h⟩ := h
    refine xs_getf rfl fl_12_53 h1 h2 ?_
    refine xs_sipushV (v := 256) rfl rfl ?_
    refine xs_lconstV (v := 1) rfl rfl ?_
    obtain ⟨n2, f3, h1, h2, h⟩ := h
    refine xs_last rfl h1 h2 ?_
    have h := h _ rfl
    generalize H.set p1 (.inl (2, n2, .inr (.inl (vp_updL f3 ((256 : Int32).toNatClampNeg) (1))))) = H4 at h ⊢
    refine xs_iconstV (v := 0) rfl rfl ?_
    refine xs_istore_n rfl (L' := [some (.ref r0), some (.int 0)]) rfl rfl ?_
    exact h
  · have h := h.2 hb
    refine xs_aload_n rfl rfl ?_
    obtain ⟨p5, ⟨_, h1, h2⟩, h⟩ := h
    refine xs_getf rfl fl_12_53 h1 h2 ?_
    refine xs_iload_n rfl rfl ?_
    refine xs_lconstV (v := 0) rfl rfl ?_
    obtain ⟨n6, f7, h1, h2, h⟩ := h
    refine xs_last rfl h1 h2 ?_
    have h := h _ rfl
    generalize H.set p5 (.inl (2, n6, .inr (.inl (vp_updL f7 (v1.toNatClampNeg) (0))))) = H8 at h ⊢
    refine xs_iincV rfl (w := 1) rfl rfl (L' := [some (.ref r0), some (.int (v1 + 1))]) rfl rfl ?_
    refine xs_goto (k' := 2) rfl rfl ?_
    exact h

set_option maxRecDepth 20000 in
theorem b_MO_weigh_19 {l : Launch} {x : xX} {d mc ms n0 uc us : Nat} {Q : xO → xH → Prop} {cl : Bool} {r0 : Nat} {v1 : Int32} {H : xH}
    (h : ∃ a1, gI H r0 12 21 a1 ∧ ((a1 ≤ v1 → uc = mc ∧ us ≤ ms ∧ Q (.inl none) H) ∧ (¬ a1 ≤ v1 → ∃ p2, gR H r0 12 19 p2 ∧ (∃ n3 f4, H[(p2 : Nat)]? = some (.inl (0, n3, .inl f4)) ∧ vp_in v1 n3 ∧ ((¬ (f4 v1.toNatClampNeg) = 1 → ∃ p5, gR H r0 12 22 p5 ∧ (∃ p6, gR H r0 12 19 p6 ∧ (∃ n7 f8, H[(p6 : Nat)]? = some (.inl (0, n7, .inl f8)) ∧ vp_in v1 n7 ∧ (xW l x d mc ms mMO_weigh n0 Q cl 48 [some (.ref r0), some (.int v1)] [.int (f8 v1.toNatClampNeg), .int 257, .ref p5] H uc us)))) ∧ ((f4 v1.toNatClampNeg) = 1 → ∃ p9, gR H r0 12 22 p9 ∧ (∃ p10, gR H r0 12 20 p10 ∧ (∃ n11 f12, H[(p10 : Nat)]? = some (.inl (0, n11, .inl f12)) ∧ vp_in v1 n11 ∧ (∃ n13 f14, H[(p9 : Nat)]? = some (.inl (2, n13, .inr (.inl f14))) ∧ vp_in (f12 v1.toNatClampNeg) n13 ∧ (∃ n15 f16, H[(p9 : Nat)]? = some (.inl (2, n15, .inr (.inl f16))) ∧ vp_in (f12 v1.toNatClampNeg) n15 ∧ (∀ H17 : xH, H17 = H.set p9 (.inl (2, n15, .inr (.inl (vp_updL f16 ((f12 v1.toNatClampNeg).toNatClampNeg) (((f14 (f12 v1.toNatClampNeg).toNatClampNeg) + 1)))))) → xW l x d mc ms mMO_weigh n0 Q false 19 [some (.ref r0), some (.int (v1 + 1))] [] H17 uc us))))))))))) :
    xW l x d mc ms mMO_weigh n0 Q cl 19 [some (.ref r0), some (.int v1)] [] H uc us := by
  refine xs_iload_n rfl rfl ?_
  refine xs_aload_n rfl rfl ?_
  obtain ⟨a1, ⟨_, h1, h2⟩, h⟩ := h
  refine xs_getf rfl fl_12_242 h1 h2 ?_
  refine xs_icmp_ge (k' := 71) rfl rfl (fun hb => ?_) (fun hb => ?_)
  · have h := h.1 hb
    exact xs_vret rfl rfl h.1 h.2.1 h.2.2
  · have h := h.2 hb
    refine xs_aload_n rfl rfl ?_
    obtain ⟨p2, ⟨_, h1, h2⟩, h⟩ := h
    refine xs_getf rfl fl_12_47 h1 h2 ?_
    refine xs_iload_n rfl rfl ?_
    obtain ⟨n3, f4, h1, h2, h⟩ := h
    refine xs_iald rfl h1 h2 ?_
    refine xs_iconstV (v := 1) rfl rfl ?_
    refine xs_icmp_ne (k' := 41) rfl rfl (fun hb => ?_) (fun hb => ?_)
    · have h := h.1 hb
      refine xs_aload_n rfl rfl ?_
      obtain ⟨p5, ⟨_, h1, h2⟩, h⟩ := h
      refine xs_getf rfl fl_12_53 h1 h2 ?_
      refine xs_sipushV (v := 257) rfl rfl ?_
      refine xs_aload_n rfl rfl ?_
      obtain ⟨p6, ⟨_, h1, h2⟩, h⟩ := h
      refine xs_getf rfl fl_12_47 h1 h2 ?_
      refine xs_iload_n rfl rfl ?_
      obtain ⟨n7, f8, h1, h2, h⟩ := h
      refine xs_iald rfl h1 h2 ?_
      exact h
    · have h := h.2 hb
      refine xs_aload_n rfl rfl ?_
      obtain ⟨p9, ⟨_, h1, h2⟩, h⟩ := h
      refine xs_getf rfl fl_12_53 h1 h2 ?_
      refine xs_aload_n rfl rfl ?_
      obtain ⟨p10, ⟨_, h1, h2⟩, h⟩ := h
      refine xs_getf rfl fl_12_50 h1 h2 ?_
      refine xs_iload_n rfl rfl ?_
      obtain ⟨n11, f12, h1, h2, h⟩ := h
      refine xs_iald rfl h1 h2 ?_
      refine xs_dup2 rfl rfl rfl ?_
      obtain ⟨n13, f14, h1, h2, h⟩ := h
      refine xs_lald rfl h1 h2 ?_
      refine xs_lconstV (v := 1) rfl rfl ?_
      refine xs_ladd rfl ?_
      obtain ⟨n15, f16, h1, h2, h⟩ := h
      refine xs_last rfl h1 h2 ?_
      have h := h _ rfl
      generalize H.set p9 (.inl (2, n15, .inr (.inl (vp_updL f16 ((f12 v1.toNatClampNeg).toNatClampNeg) (((f14 (f12 v1.toNatClampNeg).toNatClampNeg) + 1)))))) = H17 at h ⊢
      refine xs_goto (k' := 69) rfl rfl ?_
      refine xs_iincV rfl (w := 1) rfl rfl (L' := [some (.ref r0), some (.int (v1 + 1))]) rfl rfl ?_
      refine xs_goto (k' := 19) rfl rfl ?_
      exact h

set_option maxRecDepth 20000 in
theorem b_MO_weigh_49 {l : Launch} {x : xX} {d mc ms n0 uc us : Nat} {Q : xO → xH → Prop} {cl : Bool} {r0 : Nat} {v1 : Int32} {q0 : Nat} {u1 : Int32} {u2 : Int32} {H : xH}
    (h : ∃ n1 f2, H[(q0 : Nat)]? = some (.inl (2, n1, .inr (.inl f2))) ∧ vp_in (u1 + u2) n1 ∧ (∃ n3 f4, H[(q0 : Nat)]? = some (.inl (2, n3, .inr (.inl f4))) ∧ vp_in (u1 + u2) n3 ∧ (∀ H5 : xH, H5 = H.set q0 (.inl (2, n3, .inr (.inl (vp_updL f4 ((u1 + u2).toNatClampNeg) (((f2 (u1 + u2).toNatClampNeg) + 1)))))) → ∃ p6, gR H5 r0 12 22 p6 ∧ (∃ p7, gR H5 r0 12 20 p7 ∧ (∃ n8 f9, H5[(p7 : Nat)]? = some (.inl (0, n8, .inl f9)) ∧ vp_in v1 n8 ∧ (xW l x d mc ms mMO_weigh n0 Q false 62 [some (.ref r0), some (.int v1)] [.int (f9 v1.toNatClampNeg), .int 400, .ref p6] H5 uc us)))))) :
    xW l x d mc ms mMO_weigh n0 Q cl 49 [some (.ref r0), some (.int v1)] [.int u2, .int u1, .ref q0] H uc us := by
  refine xs_iadd rfl ?_
  refine xs_dup2 rfl rfl rfl ?_
  obtain ⟨n1, f2, h1, h2, h⟩ := h
  refine xs_lald rfl h1 h2 ?_
  refine xs_lconstV (v := 1) rfl rfl ?_
  refine xs_ladd rfl ?_
  obtain ⟨n3, f4, h1, h2, h⟩ := h
  refine xs_last rfl h1 h2 ?_
  have h := h _ rfl
  generalize H.set q0 (.inl (2, n3, .inr (.inl (vp_updL f4 ((u1 + u2).toNatClampNeg) (((f2 (u1 + u2).toNatClampNeg) + 1)))))) = H5 at h ⊢
  refine xs_aload_n rfl rfl ?_
  obtain ⟨p6, ⟨_, h1, h2⟩, h⟩ := h
  refine xs_getf rfl fl_12_53 h1 h2 ?_
  refine xs_sipushV (v := 400) rfl rfl ?_
  refine xs_aload_n rfl rfl ?_
  obtain ⟨p7, ⟨_, h1, h2⟩, h⟩ := h
  refine xs_getf rfl fl_12_50 h1 h2 ?_
  refine xs_iload_n rfl rfl ?_
  obtain ⟨n8, f9, h1, h2, h⟩ := h
  refine xs_iald rfl h1 h2 ?_
  exact h

set_option maxRecDepth 20000 in
theorem b_MO_weigh_63 {l : Launch} {x : xX} {d mc ms n0 uc us : Nat} {Q : xO → xH → Prop} {cl : Bool} {r0 : Nat} {v1 : Int32} {q0 : Nat} {u1 : Int32} {u2 : Int32} {H : xH}
    (h : ∃ n1 f2, H[(q0 : Nat)]? = some (.inl (2, n1, .inr (.inl f2))) ∧ vp_in (u1 + u2) n1 ∧ (∃ n3 f4, H[(q0 : Nat)]? = some (.inl (2, n3, .inr (.inl f4))) ∧ vp_in (u1 + u2) n3 ∧ (∀ H5 : xH, H5 = H.set q0 (.inl (2, n3, .inr (.inl (vp_updL f4 ((u1 + u2).toNatClampNeg) (((f2 (u1 + u2).toNatClampNeg) + 1)))))) → xW l x d mc ms mMO_weigh n0 Q false 19 [some (.ref r0), some (.int (v1 + 1))] [] H5 uc us))) :
    xW l x d mc ms mMO_weigh n0 Q cl 63 [some (.ref r0), some (.int v1)] [.int u2, .int u1, .ref q0] H uc us := by
  refine xs_iadd rfl ?_
  refine xs_dup2 rfl rfl rfl ?_
  obtain ⟨n1, f2, h1, h2, h⟩ := h
  refine xs_lald rfl h1 h2 ?_
  refine xs_lconstV (v := 1) rfl rfl ?_
  refine xs_ladd rfl ?_
  obtain ⟨n3, f4, h1, h2, h⟩ := h
  refine xs_last rfl h1 h2 ?_
  have h := h _ rfl
  generalize H.set q0 (.inl (2, n3, .inr (.inl (vp_updL f4 ((u1 + u2).toNatClampNeg) (((f2 (u1 + u2).toNatClampNeg) + 1)))))) = H5 at h ⊢
  refine xs_iincV rfl (w := 1) rfl rfl (L' := [some (.ref r0), some (.int (v1 + 1))]) rfl rfl ?_
  refine xs_goto (k' := 19) rfl rfl ?_
  exact h

set_option maxRecDepth 20000 in
theorem b_MO_byWeights_0 {l : Launch} {x : xX} {d mc ms n0 uc us : Nat} {Q : xO → xH → Prop} {cl : Bool} {r0 : Nat} {v1 : Int32} {v2 : Int32} {v3 : Int32} {H : xH}
    (h : xW l x d mc ms mMO_byWeights n0 Q cl 4 [some (.ref r0), some (.int v1), some (.int v2), some (.int v3), some (.int 0), some (.int 0), none, none, none] [] H uc us) :
    xW l x d mc ms mMO_byWeights n0 Q cl 0 [some (.ref r0), some (.int v1), some (.int v2), some (.int v3), none, none, none, none, none] [] H uc us := by
  refine xs_iconstV (v := 0) rfl rfl ?_
  refine xs_istore rfl (L' := [some (.ref r0), some (.int v1), some (.int v2), some (.int v3), some (.int 0), none, none, none, none]) rfl rfl ?_
  refine xs_iconstV (v := 0) rfl rfl ?_
  refine xs_istore rfl (L' := [some (.ref r0), some (.int v1), some (.int v2), some (.int v3), some (.int 0), some (.int 0), none, none, none]) rfl rfl ?_
  exact h

set_option maxRecDepth 20000 in
theorem b_MO_byWeights_4 {l : Launch} {x : xX} {d mc ms n0 uc us : Nat} {Q : xO → xH → Prop} {cl : Bool} {r0 : Nat} {v1 : Int32} {v2 : Int32} {v3 : Int32} {v4 : Int32} {v5 : Int32} {H : xH}
    (h : (v2 ≤ v5 → (¬ v4 = 1 → (2 ≤ v4 → xW l x d mc ms mMO_byWeights n0 Q cl 94 [some (.ref r0), some (.int v1), some (.int v2), some (.int v3), some (.int v4), some (.int v5), none, none, none] [.int v3, .int v4, .int v1, .ref r0] H uc us) ∧ (¬ 2 ≤ v4 → uc = mc ∧ us ≤ ms ∧ Q (.inl none) H)) ∧ (v4 = 1 → ∃ p1, gR H r0 12 17 p1 ∧ (∃ p2, gR H r0 12 27 p2 ∧ (∃ n3 f4, H[(p2 : Nat)]? = some (.inl (0, n3, .inl f4)) ∧ vp_in 0 n3 ∧ (∃ n5 f6, H[(p1 : Nat)]? = some (.inl (0, n5, .inl f6)) ∧ 2 ≤ p1 ∧ vp_in (v1 + (f4 (0 : Int32).toNatClampNeg)) n5 ∧ (∀ H7 : xH, H7 = H.set p1 (.inl (0, n5, .inl (upd f6 ((v1 + (f4 (0 : Int32).toNatClampNeg)).toNatClampNeg) (1)))) → (2 ≤ v4 → xW l x d mc ms mMO_byWeights n0 Q false 94 [some (.ref r0), some (.int v1), some (.int v2), some (.int v3), some (.int v4), some (.int v5), none, none, none] [.int v3, .int v4, .int v1, .ref r0] H7 uc us) ∧ (¬ 2 ≤ v4 → uc = mc ∧ us ≤ ms ∧ Q (.inl none) H7))))))) ∧ (¬ v2 ≤ v5 → ∃ p8, gR H r0 12 17 p8 ∧ (∃ n9 f10, H[(p8 : Nat)]? = some (.inl (0, n9, .inl f10)) ∧ 2 ≤ p8 ∧ vp_in (v1 + v5) n9 ∧ (∀ H11 : xH, H11 = H.set p8 (.inl (0, n9, .inl (upd f10 ((v1 + v5).toNatClampNeg) (0)))) → ∃ p12, gR H11 r0 12 22 p12 ∧ (∃ n13 f14, H11[(p12 : Nat)]? = some (.inl (2, n13, .inr (.inl f14))) ∧ vp_in (v1 + v5) n13 ∧ (((lg_cmp (f14 (v1 + v5).toNatClampNeg) 0) ≤ 0 → xW l x d mc ms mMO_byWeights n0 Q false 4 [some (.ref r0), some (.int v1), some (.int v2), some (.int v3), some (.int v4), some (.int (v5 + 1)), none, none, none] [] H11 uc us) ∧ (¬ (lg_cmp (f14 (v1 + v5).toNatClampNeg) 0) ≤ 0 → xW l x d mc ms mMO_byWeights n0 Q false 25 [some (.ref r0), some (.int v1), some (.int v2), some (.int v3), some (.int v4), some (.int v5), some (.int v4), none, none] [] H11 uc us))))))) :
    xW l x d mc ms mMO_byWeights n0 Q cl 4 [some (.ref r0), some (.int v1), some (.int v2), some (.int v3), some (.int v4), some (.int v5), none, none, none] [] H uc us := by
  refine xs_iload rfl rfl ?_
  refine xs_iload_n rfl rfl ?_
  refine xs_icmp_ge (k' := 73) rfl rfl (fun hb => ?_) (fun hb => ?_)
  · have h := h.1 hb
    refine xs_iload rfl rfl ?_
    refine xs_iconstV (v := 1) rfl rfl ?_
    refine xs_icmp_ne (k' := 86) rfl rfl (fun hb => ?_) (fun hb => ?_)
    · have h := h.1 hb
      refine xs_iload rfl rfl ?_
      refine xs_iconstV (v := 2) rfl rfl ?_
      refine xs_icmp_ge (k' := 90) rfl rfl (fun hb => ?_) (fun hb => ?_)
      · have h := h.1 hb
        refine xs_aload_n rfl rfl ?_
        refine xs_iload_n rfl rfl ?_
        refine xs_iload rfl rfl ?_
        refine xs_iload_n rfl rfl ?_
        exact h
      · have h := h.2 hb
        exact xs_vret rfl rfl h.1 h.2.1 h.2.2
    · have h := h.2 hb
      refine xs_aload_n rfl rfl ?_
      obtain ⟨p1, ⟨_, h1, h2⟩, h⟩ := h
      refine xs_getf rfl fl_12_41 h1 h2 ?_
      refine xs_iload_n rfl rfl ?_
      refine xs_aload_n rfl rfl ?_
      obtain ⟨p2, ⟨_, h1, h2⟩, h⟩ := h
      refine xs_getf rfl fl_12_70 h1 h2 ?_
      refine xs_iconstV (v := 0) rfl rfl ?_
      obtain ⟨n3, f4, h1, h2, h⟩ := h
      refine xs_iald rfl h1 h2 ?_
      refine xs_iadd rfl ?_
      refine xs_iconstV (v := 1) rfl rfl ?_
      obtain ⟨n5, f6, h1, h3, h2, h⟩ := h
      refine xs_iast rfl h1 h3 h2 ?_
      have h := h _ rfl
      generalize H.set p1 (.inl (0, n5, .inl (upd f6 ((v1 + (f4 (0 : Int32).toNatClampNeg)).toNatClampNeg) (1)))) = H7 at h ⊢
      refine xs_iload rfl rfl ?_
      refine xs_iconstV (v := 2) rfl rfl ?_
      refine xs_icmp_ge (k' := 90) rfl rfl (fun hb => ?_) (fun hb => ?_)
      · have h := h.1 hb
        refine xs_aload_n rfl rfl ?_
        refine xs_iload_n rfl rfl ?_
        refine xs_iload rfl rfl ?_
        refine xs_iload_n rfl rfl ?_
        exact h
      · have h := h.2 hb
        exact xs_vret rfl rfl h.1 h.2.1 h.2.2
  · have h := h.2 hb
    refine xs_aload_n rfl rfl ?_
    obtain ⟨p8, ⟨_, h1, h2⟩, h⟩ := h
    refine xs_getf rfl fl_12_41 h1 h2 ?_
    refine xs_iload_n rfl rfl ?_
    refine xs_iload rfl rfl ?_
    refine xs_iadd rfl ?_
    refine xs_iconstV (v := 0) rfl rfl ?_
    obtain ⟨n9, f10, h1, h3, h2, h⟩ := h
    refine xs_iast rfl h1 h3 h2 ?_
    have h := h _ rfl
    generalize H.set p8 (.inl (0, n9, .inl (upd f10 ((v1 + v5).toNatClampNeg) (0)))) = H11 at h ⊢
    refine xs_aload_n rfl rfl ?_
    obtain ⟨p12, ⟨_, h1, h2⟩, h⟩ := h
    refine xs_getf rfl fl_12_53 h1 h2 ?_
    refine xs_iload_n rfl rfl ?_
    refine xs_iload rfl rfl ?_
    refine xs_iadd rfl ?_
    obtain ⟨n13, f14, h1, h2, h⟩ := h
    refine xs_lald rfl h1 h2 ?_
    refine xs_lconstV (v := 0) rfl rfl ?_
    refine xs_lcmp rfl ?_
    refine xs_if_le (k' := 71) rfl rfl (fun hb => ?_) (fun hb => ?_)
    · have h := h.1 hb
      refine xs_iincV rfl (w := 1) rfl rfl (L' := [some (.ref r0), some (.int v1), some (.int v2), some (.int v3), some (.int v4), some (.int (v5 + 1)), none, none, none]) rfl rfl ?_
      refine xs_goto (k' := 4) rfl rfl ?_
      exact h
    · have h := h.2 hb
      refine xs_iload rfl rfl ?_
      refine xs_istore rfl (L' := [some (.ref r0), some (.int v1), some (.int v2), some (.int v3), some (.int v4), some (.int v5), some (.int v4), none, none]) rfl rfl ?_
      exact h

set_option maxRecDepth 20000 in
theorem b_MO_byWeights_25 {l : Launch} {x : xX} {d mc ms n0 uc us : Nat} {Q : xO → xH → Prop} {cl : Bool} {r0 : Nat} {v1 : Int32} {v2 : Int32} {v3 : Int32} {v4 : Int32} {v5 : Int32} {v6 : Int32} {H : xH}
    (h : (v6 ≤ 0 → ∃ p1, gR H r0 12 27 p1 ∧ (∃ n2 f3, H[(p1 : Nat)]? = some (.inl (0, n2, .inl f3)) ∧ 2 ≤ p1 ∧ vp_in v6 n2 ∧ (∀ H4 : xH, H4 = H.set p1 (.inl (0, n2, .inl (upd f3 (v6.toNatClampNeg) (v5)))) → xW l x d mc ms mMO_byWeights n0 Q false 4 [some (.ref r0), some (.int v1), some (.int v2), some (.int v3), some (.int (v4 + 1)), some (.int (v5 + 1)), some (.int v6), none, none] [] H4 uc us))) ∧ (¬ v6 ≤ 0 → ∃ p5, gR H r0 12 22 p5 ∧ (∃ n6 f7, H[(p5 : Nat)]? = some (.inl (2, n6, .inr (.inl f7))) ∧ vp_in (v1 + v5) n6 ∧ (∃ p8, gR H r0 12 22 p8 ∧ (∃ p9, gR H r0 12 27 p9 ∧ (∃ n10 f11, H[(p9 : Nat)]? = some (.inl (0, n10, .inl f11)) ∧ vp_in (v6 - 1) n10 ∧ (∃ n12 f13, H[(p8 : Nat)]? = some (.inl (2, n12, .inr (.inl f13))) ∧ vp_in (v1 + (f11 (v6 - 1).toNatClampNeg)) n12 ∧ (∃ p14, gR H r0 12 27 p14 ∧ (∃ n15 f16, H[(p14 : Nat)]? = some (.inl (0, n15, .inl f16)) ∧ vp_in (v6 - 1) n15 ∧ (xW l x d mc ms mMO_byWeights n0 Q cl 51 [some (.ref r0), some (.int v1), some (.int v2), some (.int v3), some (.int v4), some (.int v5), some (.int v6), none, none] [.int (f16 (v6 - 1).toNatClampNeg), .long (f13 (v1 + (f11 (v6 - 1).toNatClampNeg)).toNatClampNeg), .int v5, .long (f7 (v1 + v5).toNatClampNeg)] H uc us)))))))))) :
    xW l x d mc ms mMO_byWeights n0 Q cl 25 [some (.ref r0), some (.int v1), some (.int v2), some (.int v3), some (.int v4), some (.int v5), some (.int v6), none, none] [] H uc us := by
  refine xs_iload rfl rfl ?_
  refine xs_if_le (k' := 65) rfl rfl (fun hb => ?_) (fun hb => ?_)
  · have h := h.1 hb
    refine xs_aload_n rfl rfl ?_
    obtain ⟨p1, ⟨_, h1, h2⟩, h⟩ := h
    refine xs_getf rfl fl_12_70 h1 h2 ?_
    refine xs_iload rfl rfl ?_
    refine xs_iload rfl rfl ?_
    obtain ⟨n2, f3, h1, h3, h2, h⟩ := h
    refine xs_iast rfl h1 h3 h2 ?_
    have h := h _ rfl
    generalize H.set p1 (.inl (0, n2, .inl (upd f3 (v6.toNatClampNeg) (v5)))) = H4 at h ⊢
    refine xs_iincV rfl (w := 1) rfl rfl (L' := [some (.ref r0), some (.int v1), some (.int v2), some (.int v3), some (.int (v4 + 1)), some (.int v5), some (.int v6), none, none]) rfl rfl ?_
    refine xs_iincV rfl (w := 1) rfl rfl (L' := [some (.ref r0), some (.int v1), some (.int v2), some (.int v3), some (.int (v4 + 1)), some (.int (v5 + 1)), some (.int v6), none, none]) rfl rfl ?_
    refine xs_goto (k' := 4) rfl rfl ?_
    exact h
  · have h := h.2 hb
    refine xs_aload_n rfl rfl ?_
    obtain ⟨p5, ⟨_, h1, h2⟩, h⟩ := h
    refine xs_getf rfl fl_12_53 h1 h2 ?_
    refine xs_iload_n rfl rfl ?_
    refine xs_iload rfl rfl ?_
    refine xs_iadd rfl ?_
    obtain ⟨n6, f7, h1, h2, h⟩ := h
    refine xs_lald rfl h1 h2 ?_
    refine xs_iload rfl rfl ?_
    refine xs_aload_n rfl rfl ?_
    obtain ⟨p8, ⟨_, h1, h2⟩, h⟩ := h
    refine xs_getf rfl fl_12_53 h1 h2 ?_
    refine xs_iload_n rfl rfl ?_
    refine xs_aload_n rfl rfl ?_
    obtain ⟨p9, ⟨_, h1, h2⟩, h⟩ := h
    refine xs_getf rfl fl_12_70 h1 h2 ?_
    refine xs_iload rfl rfl ?_
    refine xs_iconstV (v := 1) rfl rfl ?_
    refine xs_isub rfl ?_
    obtain ⟨n10, f11, h1, h2, h⟩ := h
    refine xs_iald rfl h1 h2 ?_
    refine xs_iadd rfl ?_
    obtain ⟨n12, f13, h1, h2, h⟩ := h
    refine xs_lald rfl h1 h2 ?_
    refine xs_aload_n rfl rfl ?_
    obtain ⟨p14, ⟨_, h1, h2⟩, h⟩ := h
    refine xs_getf rfl fl_12_70 h1 h2 ?_
    refine xs_iload rfl rfl ?_
    refine xs_iconstV (v := 1) rfl rfl ?_
    refine xs_isub rfl ?_
    obtain ⟨n15, f16, h1, h2, h⟩ := h
    refine xs_iald rfl h1 h2 ?_
    exact h

set_option maxRecDepth 20000 in
theorem b_MO_byWeights_52 {l : Launch} {x : xX} {d mc ms n0 uc us : Nat} {Q : xO → xH → Prop} {cl : Bool} {r0 : Nat} {v1 : Int32} {v2 : Int32} {v3 : Int32} {v4 : Int32} {v5 : Int32} {v6 : Int32} {u0 : Int32} {H : xH}
    (h : (u0 = 0 → ∃ p1, gR H r0 12 27 p1 ∧ (∃ n2 f3, H[(p1 : Nat)]? = some (.inl (0, n2, .inl f3)) ∧ 2 ≤ p1 ∧ vp_in v6 n2 ∧ (∀ H4 : xH, H4 = H.set p1 (.inl (0, n2, .inl (upd f3 (v6.toNatClampNeg) (v5)))) → xW l x d mc ms mMO_byWeights n0 Q false 4 [some (.ref r0), some (.int v1), some (.int v2), some (.int v3), some (.int (v4 + 1)), some (.int (v5 + 1)), some (.int v6), none, none] [] H4 uc us))) ∧ (¬ u0 = 0 → ∃ p5, gR H r0 12 27 p5 ∧ (∃ p6, gR H r0 12 27 p6 ∧ (∃ n7 f8, H[(p6 : Nat)]? = some (.inl (0, n7, .inl f8)) ∧ vp_in (v6 - 1) n7 ∧ (∃ n9 f10, H[(p5 : Nat)]? = some (.inl (0, n9, .inl f10)) ∧ 2 ≤ p5 ∧ vp_in v6 n9 ∧ (∀ H11 : xH, H11 = H.set p5 (.inl (0, n9, .inl (upd f10 (v6.toNatClampNeg) ((f8 (v6 - 1).toNatClampNeg))))) → xW l x d mc ms mMO_byWeights n0 Q false 25 [some (.ref r0), some (.int v1), some (.int v2), some (.int v3), some (.int v4), some (.int v5), some (.int (v6 + (-1))), none, none] [] H11 uc us)))))) :
    xW l x d mc ms mMO_byWeights n0 Q cl 52 [some (.ref r0), some (.int v1), some (.int v2), some (.int v3), some (.int v4), some (.int v5), some (.int v6), none, none] [.int u0] H uc us := by
  refine xs_if_eq (k' := 65) rfl rfl (fun hb => ?_) (fun hb => ?_)
  · have h := h.1 hb
    refine xs_aload_n rfl rfl ?_
    obtain ⟨p1, ⟨_, h1, h2⟩, h⟩ := h
    refine xs_getf rfl fl_12_70 h1 h2 ?_
    refine xs_iload rfl rfl ?_
    refine xs_iload rfl rfl ?_
    obtain ⟨n2, f3, h1, h3, h2, h⟩ := h
    refine xs_iast rfl h1 h3 h2 ?_
    have h := h _ rfl
    generalize H.set p1 (.inl (0, n2, .inl (upd f3 (v6.toNatClampNeg) (v5)))) = H4 at h ⊢
    refine xs_iincV rfl (w := 1) rfl rfl (L' := [some (.ref r0), some (.int v1), some (.int v2), some (.int v3), some (.int (v4 + 1)), some (.int v5), some (.int v6), none, none]) rfl rfl ?_
    refine xs_iincV rfl (w := 1) rfl rfl (L' := [some (.ref r0), some (.int v1), some (.int v2), some (.int v3), some (.int (v4 + 1)), some (.int (v5 + 1)), some (.int v6), none, none]) rfl rfl ?_
    refine xs_goto (k' := 4) rfl rfl ?_
    exact h
  · have h := h.2 hb
    refine xs_aload_n rfl rfl ?_
    obtain ⟨p5, ⟨_, h1, h2⟩, h⟩ := h
    refine xs_getf rfl fl_12_70 h1 h2 ?_
    refine xs_iload rfl rfl ?_
    refine xs_aload_n rfl rfl ?_
    obtain ⟨p6, ⟨_, h1, h2⟩, h⟩ := h
    refine xs_getf rfl fl_12_70 h1 h2 ?_
    refine xs_iload rfl rfl ?_
    refine xs_iconstV (v := 1) rfl rfl ?_
    refine xs_isub rfl ?_
    obtain ⟨n7, f8, h1, h2, h⟩ := h
    refine xs_iald rfl h1 h2 ?_
    obtain ⟨n9, f10, h1, h3, h2, h⟩ := h
    refine xs_iast rfl h1 h3 h2 ?_
    have h := h _ rfl
    generalize H.set p5 (.inl (0, n9, .inl (upd f10 (v6.toNatClampNeg) ((f8 (v6 - 1).toNatClampNeg))))) = H11 at h ⊢
    refine xs_iincV rfl (w := (-1)) rfl rfl (L' := [some (.ref r0), some (.int v1), some (.int v2), some (.int v3), some (.int v4), some (.int v5), some (.int (v6 + (-1))), none, none]) rfl rfl ?_
    refine xs_goto (k' := 25) rfl rfl ?_
    exact h

set_option maxRecDepth 20000 in
theorem b_MO_byWeights_95 {l : Launch} {x : xX} {d mc ms n0 uc us : Nat} {Q : xO → xH → Prop} {cl : Bool} {r0 : Nat} {v1 : Int32} {v2 : Int32} {v3 : Int32} {v4 : Int32} {v5 : Int32} {H : xH}
    (h : xW l x d mc ms mMO_byWeights n0 Q cl 103 [some (.ref r0), some (.int v1), some (.int v2), some (.int v3), some (.int v4), some (.int (((2 : Int32) * v4) - 2)), some (.int v3), none, none] [] H uc us) :
    xW l x d mc ms mMO_byWeights n0 Q cl 95 [some (.ref r0), some (.int v1), some (.int v2), some (.int v3), some (.int v4), some (.int v5), none, none, none] [] H uc us := by
  refine xs_iconstV (v := 2) rfl rfl ?_
  refine xs_iload rfl rfl ?_
  refine xs_imul rfl ?_
  refine xs_iconstV (v := 2) rfl rfl ?_
  refine xs_isub rfl ?_
  refine xs_istore rfl (L' := [some (.ref r0), some (.int v1), some (.int v2), some (.int v3), some (.int v4), some (.int (((2 : Int32) * v4) - 2)), none, none, none]) rfl rfl ?_
  refine xs_iload_n rfl rfl ?_
  refine xs_istore rfl (L' := [some (.ref r0), some (.int v1), some (.int v2), some (.int v3), some (.int v4), some (.int (((2 : Int32) * v4) - 2)), some (.int v3), none, none]) rfl rfl ?_
  exact h

set_option maxRecDepth 20000 in
theorem b_MO_byWeights_103 {l : Launch} {x : xX} {d mc ms n0 uc us : Nat} {Q : xO → xH → Prop} {cl : Bool} {r0 : Nat} {v1 : Int32} {v2 : Int32} {v3 : Int32} {v4 : Int32} {v5 : Int32} {v6 : Int32} {H : xH}
    (h : (v6 ≤ 0 → uc = mc ∧ us ≤ ms ∧ Q (.inl none) H) ∧ (¬ v6 ≤ 0 → xW l x d mc ms mMO_byWeights n0 Q cl 109 [some (.ref r0), some (.int v1), some (.int v2), some (.int v3), some (.int v4), some (.int v5), some (.int v6), some (.int 0), some (.int 0)] [] H uc us)) :
    xW l x d mc ms mMO_byWeights n0 Q cl 103 [some (.ref r0), some (.int v1), some (.int v2), some (.int v3), some (.int v4), some (.int v5), some (.int v6), none, none] [] H uc us := by
  refine xs_iload rfl rfl ?_
  refine xs_if_le (k' := 157) rfl rfl (fun hb => ?_) (fun hb => ?_)
  · have h := h.1 hb
    exact xs_vret rfl rfl h.1 h.2.1 h.2.2
  · have h := h.2 hb
    refine xs_iconstV (v := 0) rfl rfl ?_
    refine xs_istore rfl (L' := [some (.ref r0), some (.int v1), some (.int v2), some (.int v3), some (.int v4), some (.int v5), some (.int v6), some (.int 0), none]) rfl rfl ?_
    refine xs_iconstV (v := 0) rfl rfl ?_
    refine xs_istore rfl (L' := [some (.ref r0), some (.int v1), some (.int v2), some (.int v3), some (.int v4), some (.int v5), some (.int v6), some (.int 0), some (.int 0)]) rfl rfl ?_
    exact h

set_option maxRecDepth 20000 in
theorem b_MO_byWeights_109 {l : Launch} {x : xX} {d mc ms n0 uc us : Nat} {Q : xO → xH → Prop} {cl : Bool} {r0 : Nat} {v1 : Int32} {v2 : Int32} {v3 : Int32} {v4 : Int32} {v5 : Int32} {v6 : Int32} {v7 : Int32} {v8 : Int32} {H : xH}
    (h : (v5 ≤ v8 → xW l x d mc ms mMO_byWeights n0 Q cl 131 [some (.ref r0), some (.int v1), some (.int v2), some (.int v3), some (.int v4), some (.int v5), some (.int v6), some (.int v7), some (.int 0)] [] H uc us) ∧ (¬ v5 ≤ v8 → ∃ p1, gR H r0 12 25 p1 ∧ (∃ n2 f3, H[(p1 : Nat)]? = some (.inl (3, n2, .inl f3)) ∧ vp_in (((600 : Int32) * v6) + v8) n2 ∧ (((f3 (((600 : Int32) * v6) + v8).toNatClampNeg) = 0 → xW l x d mc ms mMO_byWeights n0 Q cl 109 [some (.ref r0), some (.int v1), some (.int v2), some (.int v3), some (.int v4), some (.int v5), some (.int v6), some (.int v7), some (.int (v8 + 1))] [] H uc us) ∧ (¬ (f3 (((600 : Int32) * v6) + v8).toNatClampNeg) = 0 → xW l x d mc ms mMO_byWeights n0 Q cl 109 [some (.ref r0), some (.int v1), some (.int v2), some (.int v3), some (.int v4), some (.int v5), some (.int v6), some (.int (v7 + 1)), some (.int (v8 + 1))] [] H uc us))))) :
    xW l x d mc ms mMO_byWeights n0 Q cl 109 [some (.ref r0), some (.int v1), some (.int v2), some (.int v3), some (.int v4), some (.int v5), some (.int v6), some (.int v7), some (.int v8)] [] H uc us := by
  refine xs_iload rfl rfl ?_
  refine xs_iload rfl rfl ?_
  refine xs_icmp_ge (k' := 129) rfl rfl (fun hb => ?_) (fun hb => ?_)
  · have h := h.1 hb
    refine xs_iconstV (v := 0) rfl rfl ?_
    refine xs_istore rfl (L' := [some (.ref r0), some (.int v1), some (.int v2), some (.int v3), some (.int v4), some (.int v5), some (.int v6), some (.int v7), some (.int 0)]) rfl rfl ?_
    exact h
  · have h := h.2 hb
    refine xs_aload_n rfl rfl ?_
    obtain ⟨p1, ⟨_, h1, h2⟩, h⟩ := h
    refine xs_getf rfl fl_12_63 h1 h2 ?_
    refine xs_sipushV (v := 600) rfl rfl ?_
    refine xs_iload rfl rfl ?_
    refine xs_imul rfl ?_
    refine xs_iload rfl rfl ?_
    refine xs_iadd rfl ?_
    obtain ⟨n2, f3, h1, h2, h⟩ := h
    refine xs_zald rfl h1 h2 ?_
    refine xs_if_eq (k' := 125) rfl rfl (fun hb => ?_) (fun hb => ?_)
    · have h := h.1 hb
      refine xs_iload rfl rfl ?_
      refine xs_istore rfl (L' := [some (.ref r0), some (.int v1), some (.int v2), some (.int v3), some (.int v4), some (.int v5), some (.int v6), some (.int v7), some (.int v8)]) rfl rfl ?_
      refine xs_iincV rfl (w := 1) rfl rfl (L' := [some (.ref r0), some (.int v1), some (.int v2), some (.int v3), some (.int v4), some (.int v5), some (.int v6), some (.int v7), some (.int (v8 + 1))]) rfl rfl ?_
      refine xs_goto (k' := 109) rfl rfl ?_
      exact h
    · have h := h.2 hb
      refine xs_iload rfl rfl ?_
      refine xs_iconstV (v := 1) rfl rfl ?_
      refine xs_iadd rfl ?_
      refine xs_goto (k' := 126) rfl rfl ?_
      refine xs_istore rfl (L' := [some (.ref r0), some (.int v1), some (.int v2), some (.int v3), some (.int v4), some (.int v5), some (.int v6), some (.int (v7 + 1)), some (.int v8)]) rfl rfl ?_
      refine xs_iincV rfl (w := 1) rfl rfl (L' := [some (.ref r0), some (.int v1), some (.int v2), some (.int v3), some (.int v4), some (.int v5), some (.int v6), some (.int (v7 + 1)), some (.int (v8 + 1))]) rfl rfl ?_
      refine xs_goto (k' := 109) rfl rfl ?_
      exact h

set_option maxRecDepth 20000 in
theorem b_MO_byWeights_131 {l : Launch} {x : xX} {d mc ms n0 uc us : Nat} {Q : xO → xH → Prop} {cl : Bool} {r0 : Nat} {v1 : Int32} {v2 : Int32} {v3 : Int32} {v4 : Int32} {v5 : Int32} {v6 : Int32} {v7 : Int32} {v8 : Int32} {H : xH}
    (h : (v7 ≤ v8 → xW l x d mc ms mMO_byWeights n0 Q cl 103 [some (.ref r0), some (.int v1), some (.int v2), some (.int v3), some (.int v4), some (.int ((2 : Int32) * (v5 - v7))), some (.int (v6 + (-1))), some (.int v7), some (.int v8)] [] H uc us) ∧ (¬ v7 ≤ v8 → ∃ p1, gR H r0 12 17 p1 ∧ (∃ p2, gR H r0 12 27 p2 ∧ (∃ n3 f4, H[(p2 : Nat)]? = some (.inl (0, n3, .inl f4)) ∧ vp_in v8 n3 ∧ (∃ n5 f6, H[(p1 : Nat)]? = some (.inl (0, n5, .inl f6)) ∧ vp_in (v1 + (f4 v8.toNatClampNeg)) n5 ∧ (∃ n7 f8, H[(p1 : Nat)]? = some (.inl (0, n7, .inl f8)) ∧ 2 ≤ p1 ∧ vp_in (v1 + (f4 v8.toNatClampNeg)) n7 ∧ (∀ H9 : xH, H9 = H.set p1 (.inl (0, n7, .inl (upd f8 ((v1 + (f4 v8.toNatClampNeg)).toNatClampNeg) (((f6 (v1 + (f4 v8.toNatClampNeg)).toNatClampNeg) + 1))))) → xW l x d mc ms mMO_byWeights n0 Q false 131 [some (.ref r0), some (.int v1), some (.int v2), some (.int v3), some (.int v4), some (.int v5), some (.int v6), some (.int v7), some (.int (v8 + 1))] [] H9 uc us))))))) :
    xW l x d mc ms mMO_byWeights n0 Q cl 131 [some (.ref r0), some (.int v1), some (.int v2), some (.int v3), some (.int v4), some (.int v5), some (.int v6), some (.int v7), some (.int v8)] [] H uc us := by
  refine xs_iload rfl rfl ?_
  refine xs_iload rfl rfl ?_
  refine xs_icmp_ge (k' := 149) rfl rfl (fun hb => ?_) (fun hb => ?_)
  · have h := h.1 hb
    refine xs_iconstV (v := 2) rfl rfl ?_
    refine xs_iload rfl rfl ?_
    refine xs_iload rfl rfl ?_
    refine xs_isub rfl ?_
    refine xs_imul rfl ?_
    refine xs_istore rfl (L' := [some (.ref r0), some (.int v1), some (.int v2), some (.int v3), some (.int v4), some (.int ((2 : Int32) * (v5 - v7))), some (.int v6), some (.int v7), some (.int v8)]) rfl rfl ?_
    refine xs_iincV rfl (w := (-1)) rfl rfl (L' := [some (.ref r0), some (.int v1), some (.int v2), some (.int v3), some (.int v4), some (.int ((2 : Int32) * (v5 - v7))), some (.int (v6 + (-1))), some (.int v7), some (.int v8)]) rfl rfl ?_
    refine xs_goto (k' := 103) rfl rfl ?_
    exact h
  · have h := h.2 hb
    refine xs_aload_n rfl rfl ?_
    obtain ⟨p1, ⟨_, h1, h2⟩, h⟩ := h
    refine xs_getf rfl fl_12_41 h1 h2 ?_
    refine xs_iload_n rfl rfl ?_
    refine xs_aload_n rfl rfl ?_
    obtain ⟨p2, ⟨_, h1, h2⟩, h⟩ := h
    refine xs_getf rfl fl_12_70 h1 h2 ?_
    refine xs_iload rfl rfl ?_
    obtain ⟨n3, f4, h1, h2, h⟩ := h
    refine xs_iald rfl h1 h2 ?_
    refine xs_iadd rfl ?_
    refine xs_dup2 rfl rfl rfl ?_
    obtain ⟨n5, f6, h1, h2, h⟩ := h
    refine xs_iald rfl h1 h2 ?_
    refine xs_iconstV (v := 1) rfl rfl ?_
    refine xs_iadd rfl ?_
    obtain ⟨n7, f8, h1, h3, h2, h⟩ := h
    refine xs_iast rfl h1 h3 h2 ?_
    have h := h _ rfl
    generalize H.set p1 (.inl (0, n7, .inl (upd f8 ((v1 + (f4 v8.toNatClampNeg)).toNatClampNeg) (((f6 (v1 + (f4 v8.toNatClampNeg)).toNatClampNeg) + 1))))) = H9 at h ⊢
    refine xs_iincV rfl (w := 1) rfl rfl (L' := [some (.ref r0), some (.int v1), some (.int v2), some (.int v3), some (.int v4), some (.int v5), some (.int v6), some (.int v7), some (.int (v8 + 1))]) rfl rfl ?_
    refine xs_goto (k' := 131) rfl rfl ?_
    exact h

set_option maxRecDepth 20000 in
theorem b_MO_isBefore_0 {l : Launch} {x : xX} {d mc ms n0 uc us : Nat} {Q : xO → xH → Prop} {cl : Bool} {v0 : Int64} {v2 : Int32} {v3 : Int64} {v5 : Int32} {H : xH}
    (h : ((lg_cmp v0 v3) < 0 → narrow .boolean (.int 1) = .int 1 ∧ uc = mc ∧ us ≤ ms ∧ Q (.inl (some (.int 1))) H) ∧ (¬ (lg_cmp v0 v3) < 0 → (¬ (lg_cmp v0 v3) = 0 → narrow .boolean (.int 0) = .int 0 ∧ uc = mc ∧ us ≤ ms ∧ Q (.inl (some (.int 0))) H) ∧ ((lg_cmp v0 v3) = 0 → (v5 ≤ v2 → narrow .boolean (.int 0) = .int 0 ∧ uc = mc ∧ us ≤ ms ∧ Q (.inl (some (.int 0))) H) ∧ (¬ v5 ≤ v2 → narrow .boolean (.int 1) = .int 1 ∧ uc = mc ∧ us ≤ ms ∧ Q (.inl (some (.int 1))) H)))) :
    xW l x d mc ms mMO_isBefore n0 Q cl 0 [some (.long v0), none, some (.int v2), some (.long v3), none, some (.int v5)] [] H uc us := by
  refine xs_lload_n rfl rfl ?_
  refine xs_lload_n rfl rfl ?_
  refine xs_lcmp rfl ?_
  refine xs_if_lt (k' := 11) rfl rfl (fun hb => ?_) (fun hb => ?_)
  · have h := h.1 hb
    refine xs_iconstV (v := 1) rfl rfl ?_
    refine xs_goto (k' := 14) rfl rfl ?_
    exact xs_zret rfl rfl h.1 h.2.1 h.2.2.1 h.2.2.2
  · have h := h.2 hb
    refine xs_lload_n rfl rfl ?_
    refine xs_lload_n rfl rfl ?_
    refine xs_lcmp rfl ?_
    refine xs_if_ne (k' := 13) rfl rfl (fun hb => ?_) (fun hb => ?_)
    · have h := h.1 hb
      refine xs_iconstV (v := 0) rfl rfl ?_
      exact xs_zret rfl rfl h.1 h.2.1 h.2.2.1 h.2.2.2
    · have h := h.2 hb
      refine xs_iload_n rfl rfl ?_
      refine xs_iload rfl rfl ?_
      refine xs_icmp_ge (k' := 13) rfl rfl (fun hb => ?_) (fun hb => ?_)
      · have h := h.1 hb
        refine xs_iconstV (v := 0) rfl rfl ?_
        exact xs_zret rfl rfl h.1 h.2.1 h.2.2.1 h.2.2.2
      · have h := h.2 hb
        refine xs_iconstV (v := 1) rfl rfl ?_
        refine xs_goto (k' := 14) rfl rfl ?_
        exact xs_zret rfl rfl h.1 h.2.1 h.2.2.1 h.2.2.2

set_option maxRecDepth 20000 in
theorem b_MO_layRows_0 {l : Launch} {x : xX} {d mc ms n0 uc us : Nat} {Q : xO → xH → Prop} {cl : Bool} {r0 : Nat} {v1 : Int32} {v2 : Int32} {v3 : Int32} {H : xH}
    (h : ∃ p1, gR H r0 12 26 p1 ∧ (∃ n2 f3, H[(p1 : Nat)]? = some (.inl (0, n2, .inl f3)) ∧ 2 ≤ p1 ∧ vp_in 0 n2 ∧ (∀ H4 : xH, H4 = H.set p1 (.inl (0, n2, .inl (upd f3 ((0 : Int32).toNatClampNeg) (0)))) → xW l x d mc ms mMO_layRows n0 Q false 7 [some (.ref r0), some (.int v1), some (.int v2), some (.int v3), some (.int 1), none, none, none, none, none, none, none] [] H4 uc us))) :
    xW l x d mc ms mMO_layRows n0 Q cl 0 [some (.ref r0), some (.int v1), some (.int v2), some (.int v3), none, none, none, none, none, none, none, none] [] H uc us := by
  refine xs_aload_n rfl rfl ?_
  obtain ⟨p1, ⟨_, h1, h2⟩, h⟩ := h
  refine xs_getf rfl fl_12_67 h1 h2 ?_
  refine xs_iconstV (v := 0) rfl rfl ?_
  refine xs_iconstV (v := 0) rfl rfl ?_
  obtain ⟨n2, f3, h1, h3, h2, h⟩ := h
  refine xs_iast rfl h1 h3 h2 ?_
  have h := h _ rfl
  generalize H.set p1 (.inl (0, n2, .inl (upd f3 ((0 : Int32).toNatClampNeg) (0)))) = H4 at h ⊢
  refine xs_iconstV (v := 1) rfl rfl ?_
  refine xs_istore rfl (L' := [some (.ref r0), some (.int v1), some (.int v2), some (.int v3), some (.int 1), none, none, none, none, none, none, none]) rfl rfl ?_
  exact h

set_option maxRecDepth 20000 in
theorem b_MO_layRows_7 {l : Launch} {x : xX} {d mc ms n0 uc us : Nat} {Q : xO → xH → Prop} {cl : Bool} {r0 : Nat} {v1 : Int32} {v2 : Int32} {v3 : Int32} {v4 : Int32} {H : xH}
    (h : (v3 < v4 → uc = mc ∧ us ≤ ms ∧ Q (.inl none) H) ∧ (¬ v3 < v4 → ∃ p1, gR H r0 12 26 p1 ∧ (∃ n2 f3, H[(p1 : Nat)]? = some (.inl (0, n2, .inl f3)) ∧ vp_in (v4 - 1) n2 ∧ (xW l x d mc ms mMO_layRows n0 Q cl 25 [some (.ref r0), some (.int v1), some (.int v2), some (.int v3), some (.int v4), some (.int ((f3 (v4 - 1).toNatClampNeg) / 2)), some (.int 0), some (.int 0), some (.int 0), none, none, none] [] H uc us)))) :
    xW l x d mc ms mMO_layRows n0 Q cl 7 [some (.ref r0), some (.int v1), some (.int v2), some (.int v3), some (.int v4), none, none, none, none, none, none, none] [] H uc us := by
  refine xs_iload rfl rfl ?_
  refine xs_iload_n rfl rfl ?_
  refine xs_icmp_gt (k' := 141) rfl rfl (fun hb => ?_) (fun hb => ?_)
  · have h := h.1 hb
    exact xs_vret rfl rfl h.1 h.2.1 h.2.2
  · have h := h.2 hb
    refine xs_aload_n rfl rfl ?_
    obtain ⟨p1, ⟨_, h1, h2⟩, h⟩ := h
    refine xs_getf rfl fl_12_67 h1 h2 ?_
    refine xs_iload rfl rfl ?_
    refine xs_iconstV (v := 1) rfl rfl ?_
    refine xs_isub rfl ?_
    obtain ⟨n2, f3, h1, h2, h⟩ := h
    refine xs_iald rfl h1 h2 ?_
    refine xs_iconstV (v := 2) rfl rfl ?_
    refine xs_idiv rfl (by decide) ?_
    refine xs_istore rfl (L' := [some (.ref r0), some (.int v1), some (.int v2), some (.int v3), some (.int v4), some (.int ((f3 (v4 - 1).toNatClampNeg) / 2)), none, none, none, none, none, none]) rfl rfl ?_
    refine xs_iconstV (v := 0) rfl rfl ?_
    refine xs_istore rfl (L' := [some (.ref r0), some (.int v1), some (.int v2), some (.int v3), some (.int v4), some (.int ((f3 (v4 - 1).toNatClampNeg) / 2)), some (.int 0), none, none, none, none, none]) rfl rfl ?_
    refine xs_iconstV (v := 0) rfl rfl ?_
    refine xs_istore rfl (L' := [some (.ref r0), some (.int v1), some (.int v2), some (.int v3), some (.int v4), some (.int ((f3 (v4 - 1).toNatClampNeg) / 2)), some (.int 0), some (.int 0), none, none, none, none]) rfl rfl ?_
    refine xs_iconstV (v := 0) rfl rfl ?_
    refine xs_istore rfl (L' := [some (.ref r0), some (.int v1), some (.int v2), some (.int v3), some (.int v4), some (.int ((f3 (v4 - 1).toNatClampNeg) / 2)), some (.int 0), some (.int 0), some (.int 0), none, none, none]) rfl rfl ?_
    exact h

set_option maxRecDepth 20000 in
theorem b_MO_layRows_25 {l : Launch} {x : xX} {d mc ms n0 uc us : Nat} {Q : xO → xH → Prop} {cl : Bool} {r0 : Nat} {v1 : Int32} {v2 : Int32} {v3 : Int32} {v4 : Int32} {v5 : Int32} {v6 : Int32} {v7 : Int32} {v8 : Int32} {H : xH}
    (h : (v6 < v2 → (v5 ≤ v7 → xW l x d mc ms mMO_layRows n0 Q cl 63 [some (.ref r0), some (.int v1), some (.int v2), some (.int v3), some (.int v4), some (.int v5), some (.int v6), some (.int v7), some (.int v8), none, none, none] [.long 0] H uc us) ∧ (¬ v5 ≤ v7 → ∃ p1, gR H r0 12 24 p1 ∧ (∃ n2 f3, H[(p1 : Nat)]? = some (.inl (2, n2, .inr (.inl f3))) ∧ vp_in (((600 : Int32) * (v4 - 1)) + ((2 : Int32) * v7)) n2 ∧ (∃ p4, gR H r0 12 24 p4 ∧ (∃ n5 f6, H[(p4 : Nat)]? = some (.inl (2, n5, .inr (.inl f6))) ∧ vp_in ((((600 : Int32) * (v4 - 1)) + ((2 : Int32) * v7)) + 1) n5 ∧ (xW l x d mc ms mMO_layRows n0 Q cl 63 [some (.ref r0), some (.int v1), some (.int v2), some (.int v3), some (.int v4), some (.int v5), some (.int v6), some (.int v7), some (.int v8), none, none, none] [.long ((f3 (((600 : Int32) * (v4 - 1)) + ((2 : Int32) * v7)).toNatClampNeg) + (f6 ((((600 : Int32) * (v4 - 1)) + ((2 : Int32) * v7)) + 1).toNatClampNeg))] H uc us)))))) ∧ (¬ v6 < v2 → (v5 ≤ v7 → ∃ p7, gR H r0 12 26 p7 ∧ (∃ n8 f9, H[(p7 : Nat)]? = some (.inl (0, n8, .inl f9)) ∧ 2 ≤ p7 ∧ vp_in v4 n8 ∧ (∀ H10 : xH, H10 = H.set p7 (.inl (0, n8, .inl (upd f9 (v4.toNatClampNeg) (v8)))) → xW l x d mc ms mMO_layRows n0 Q false 7 [some (.ref r0), some (.int v1), some (.int v2), some (.int v3), some (.int (v4 + 1)), some (.int v5), some (.int v6), some (.int v7), some (.int v8), none, none, none] [] H10 uc us))) ∧ (¬ v5 ≤ v7 → (v5 ≤ v7 → xW l x d mc ms mMO_layRows n0 Q cl 63 [some (.ref r0), some (.int v1), some (.int v2), some (.int v3), some (.int v4), some (.int v5), some (.int v6), some (.int v7), some (.int v8), none, none, none] [.long 0] H uc us) ∧ (¬ v5 ≤ v7 → ∃ p11, gR H r0 12 24 p11 ∧ (∃ n12 f13, H[(p11 : Nat)]? = some (.inl (2, n12, .inr (.inl f13))) ∧ vp_in (((600 : Int32) * (v4 - 1)) + ((2 : Int32) * v7)) n12 ∧ (∃ p14, gR H r0 12 24 p14 ∧ (∃ n15 f16, H[(p14 : Nat)]? = some (.inl (2, n15, .inr (.inl f16))) ∧ vp_in ((((600 : Int32) * (v4 - 1)) + ((2 : Int32) * v7)) + 1) n15 ∧ (xW l x d mc ms mMO_layRows n0 Q cl 63 [some (.ref r0), some (.int v1), some (.int v2), some (.int v3), some (.int v4), some (.int v5), some (.int v6), some (.int v7), some (.int v8), none, none, none] [.long ((f13 (((600 : Int32) * (v4 - 1)) + ((2 : Int32) * v7)).toNatClampNeg) + (f16 ((((600 : Int32) * (v4 - 1)) + ((2 : Int32) * v7)) + 1).toNatClampNeg))] H uc us)))))))) :
    xW l x d mc ms mMO_layRows n0 Q cl 25 [some (.ref r0), some (.int v1), some (.int v2), some (.int v3), some (.int v4), some (.int v5), some (.int v6), some (.int v7), some (.int v8), none, none, none] [] H uc us := by
  refine xs_iload rfl rfl ?_
  refine xs_iload_n rfl rfl ?_
  refine xs_icmp_lt (k' := 31) rfl rfl (fun hb => ?_) (fun hb => ?_)
  · have h := h.1 hb
    refine xs_iload rfl rfl ?_
    refine xs_iload rfl rfl ?_
    refine xs_icmp_ge (k' := 62) rfl rfl (fun hb => ?_) (fun hb => ?_)
    · have h := h.1 hb
      refine xs_lconstV (v := 0) rfl rfl ?_
      exact h
    · have h := h.2 hb
      refine xs_aload_n rfl rfl ?_
      obtain ⟨p1, ⟨_, h1, h2⟩, h⟩ := h
      refine xs_getf rfl fl_12_60 h1 h2 ?_
      refine xs_sipushV (v := 600) rfl rfl ?_
      refine xs_iload rfl rfl ?_
      refine xs_iconstV (v := 1) rfl rfl ?_
      refine xs_isub rfl ?_
      refine xs_imul rfl ?_
      refine xs_iconstV (v := 2) rfl rfl ?_
      refine xs_iload rfl rfl ?_
      refine xs_imul rfl ?_
      refine xs_iadd rfl ?_
      obtain ⟨n2, f3, h1, h2, h⟩ := h
      refine xs_lald rfl h1 h2 ?_
      refine xs_aload_n rfl rfl ?_
      obtain ⟨p4, ⟨_, h1, h2⟩, h⟩ := h
      refine xs_getf rfl fl_12_60 h1 h2 ?_
      refine xs_sipushV (v := 600) rfl rfl ?_
      refine xs_iload rfl rfl ?_
      refine xs_iconstV (v := 1) rfl rfl ?_
      refine xs_isub rfl ?_
      refine xs_imul rfl ?_
      refine xs_iconstV (v := 2) rfl rfl ?_
      refine xs_iload rfl rfl ?_
      refine xs_imul rfl ?_
      refine xs_iadd rfl ?_
      refine xs_iconstV (v := 1) rfl rfl ?_
      refine xs_iadd rfl ?_
      obtain ⟨n5, f6, h1, h2, h⟩ := h
      refine xs_lald rfl h1 h2 ?_
      refine xs_ladd rfl ?_
      refine xs_goto (k' := 63) rfl rfl ?_
      exact h
  · have h := h.2 hb
    refine xs_iload rfl rfl ?_
    refine xs_iload rfl rfl ?_
    refine xs_icmp_ge (k' := 134) rfl rfl (fun hb => ?_) (fun hb => ?_)
    · have h := h.1 hb
      refine xs_aload_n rfl rfl ?_
      obtain ⟨p7, ⟨_, h1, h2⟩, h⟩ := h
      refine xs_getf rfl fl_12_67 h1 h2 ?_
      refine xs_iload rfl rfl ?_
      refine xs_iload rfl rfl ?_
      obtain ⟨n8, f9, h1, h3, h2, h⟩ := h
      refine xs_iast rfl h1 h3 h2 ?_
      have h := h _ rfl
      generalize H.set p7 (.inl (0, n8, .inl (upd f9 (v4.toNatClampNeg) (v8)))) = H10 at h ⊢
      refine xs_iincV rfl (w := 1) rfl rfl (L' := [some (.ref r0), some (.int v1), some (.int v2), some (.int v3), some (.int (v4 + 1)), some (.int v5), some (.int v6), some (.int v7), some (.int v8), none, none, none]) rfl rfl ?_
      refine xs_goto (k' := 7) rfl rfl ?_
      exact h
    · have h := h.2 hb
      refine xs_iload rfl rfl ?_
      refine xs_iload rfl rfl ?_
      refine xs_icmp_ge (k' := 62) rfl rfl (fun hb => ?_) (fun hb => ?_)
      · have h := h.1 hb
        refine xs_lconstV (v := 0) rfl rfl ?_
        exact h
      · have h := h.2 hb
        refine xs_aload_n rfl rfl ?_
        obtain ⟨p11, ⟨_, h1, h2⟩, h⟩ := h
        refine xs_getf rfl fl_12_60 h1 h2 ?_
        refine xs_sipushV (v := 600) rfl rfl ?_
        refine xs_iload rfl rfl ?_
        refine xs_iconstV (v := 1) rfl rfl ?_
        refine xs_isub rfl ?_
        refine xs_imul rfl ?_
        refine xs_iconstV (v := 2) rfl rfl ?_
        refine xs_iload rfl rfl ?_
        refine xs_imul rfl ?_
        refine xs_iadd rfl ?_
        obtain ⟨n12, f13, h1, h2, h⟩ := h
        refine xs_lald rfl h1 h2 ?_
        refine xs_aload_n rfl rfl ?_
        obtain ⟨p14, ⟨_, h1, h2⟩, h⟩ := h
        refine xs_getf rfl fl_12_60 h1 h2 ?_
        refine xs_sipushV (v := 600) rfl rfl ?_
        refine xs_iload rfl rfl ?_
        refine xs_iconstV (v := 1) rfl rfl ?_
        refine xs_isub rfl ?_
        refine xs_imul rfl ?_
        refine xs_iconstV (v := 2) rfl rfl ?_
        refine xs_iload rfl rfl ?_
        refine xs_imul rfl ?_
        refine xs_iadd rfl ?_
        refine xs_iconstV (v := 1) rfl rfl ?_
        refine xs_iadd rfl ?_
        obtain ⟨n15, f16, h1, h2, h⟩ := h
        refine xs_lald rfl h1 h2 ?_
        refine xs_ladd rfl ?_
        refine xs_goto (k' := 63) rfl rfl ?_
        exact h

set_option maxRecDepth 20000 in
theorem b_MO_layRows_63 {l : Launch} {x : xX} {d mc ms n0 uc us : Nat} {Q : xO → xH → Prop} {cl : Bool} {r0 : Nat} {v1 : Int32} {v2 : Int32} {v3 : Int32} {v4 : Int32} {v5 : Int32} {v6 : Int32} {v7 : Int32} {v8 : Int32} {u0 : Int64} {H : xH}
    (h : (v7 = v5 → xW l x d mc ms mMO_layRows n0 Q cl 82 [some (.ref r0), some (.int v1), some (.int v2), some (.int v3), some (.int v4), some (.int v5), some (.int v6), some (.int v7), some (.int v8), some (.long u0), none, none] [] H uc us) ∧ (¬ v7 = v5 → (v2 ≤ v6 → xW l x d mc ms mMO_layRows n0 Q cl 84 [some (.ref r0), some (.int v1), some (.int v2), some (.int v3), some (.int v4), some (.int v5), some (.int v6), some (.int v7), some (.int v8), some (.long u0), none, none] [] H uc us) ∧ (¬ v2 ≤ v6 → ∃ p1, gR H r0 12 22 p1 ∧ (∃ p2, gR H r0 12 27 p2 ∧ (∃ n3 f4, H[(p2 : Nat)]? = some (.inl (0, n3, .inl f4)) ∧ vp_in v6 n3 ∧ (∃ n5 f6, H[(p1 : Nat)]? = some (.inl (2, n5, .inr (.inl f6))) ∧ vp_in (v1 + (f4 v6.toNatClampNeg)) n5 ∧ ((0 < (lg_cmp (f6 (v1 + (f4 v6.toNatClampNeg)).toNatClampNeg) u0) → xW l x d mc ms mMO_layRows n0 Q cl 84 [some (.ref r0), some (.int v1), some (.int v2), some (.int v3), some (.int v4), some (.int v5), some (.int v6), some (.int v7), some (.int v8), some (.long u0), none, none] [] H uc us) ∧ (¬ 0 < (lg_cmp (f6 (v1 + (f4 v6.toNatClampNeg)).toNatClampNeg) u0) → xW l x d mc ms mMO_layRows n0 Q cl 82 [some (.ref r0), some (.int v1), some (.int v2), some (.int v3), some (.int v4), some (.int v5), some (.int v6), some (.int v7), some (.int v8), some (.long u0), none, none] [] H uc us)))))))) :
    xW l x d mc ms mMO_layRows n0 Q cl 63 [some (.ref r0), some (.int v1), some (.int v2), some (.int v3), some (.int v4), some (.int v5), some (.int v6), some (.int v7), some (.int v8), none, none, none] [.long u0] H uc us := by
  refine xs_lstore rfl (L' := [some (.ref r0), some (.int v1), some (.int v2), some (.int v3), some (.int v4), some (.int v5), some (.int v6), some (.int v7), some (.int v8), some (.long u0), none, none]) rfl rfl ?_
  refine xs_iload rfl rfl ?_
  refine xs_iload rfl rfl ?_
  refine xs_icmp_eq (k' := 82) rfl rfl (fun hb => ?_) (fun hb => ?_)
  · have h := h.1 hb
    exact h
  · have h := h.2 hb
    refine xs_iload rfl rfl ?_
    refine xs_iload_n rfl rfl ?_
    refine xs_icmp_ge (k' := 84) rfl rfl (fun hb => ?_) (fun hb => ?_)
    · have h := h.1 hb
      exact h
    · have h := h.2 hb
      refine xs_aload_n rfl rfl ?_
      obtain ⟨p1, ⟨_, h1, h2⟩, h⟩ := h
      refine xs_getf rfl fl_12_53 h1 h2 ?_
      refine xs_iload_n rfl rfl ?_
      refine xs_aload_n rfl rfl ?_
      obtain ⟨p2, ⟨_, h1, h2⟩, h⟩ := h
      refine xs_getf rfl fl_12_70 h1 h2 ?_
      refine xs_iload rfl rfl ?_
      obtain ⟨n3, f4, h1, h2, h⟩ := h
      refine xs_iald rfl h1 h2 ?_
      refine xs_iadd rfl ?_
      obtain ⟨n5, f6, h1, h2, h⟩ := h
      refine xs_lald rfl h1 h2 ?_
      refine xs_lload rfl rfl ?_
      refine xs_lcmp rfl ?_
      refine xs_if_gt (k' := 84) rfl rfl (fun hb => ?_) (fun hb => ?_)
      · have h := h.1 hb
        exact h
      · have h := h.2 hb
        exact h

set_option maxRecDepth 20000 in
theorem b_MO_layRows_82 {l : Launch} {x : xX} {d mc ms n0 uc us : Nat} {Q : xO → xH → Prop} {cl : Bool} {r0 : Nat} {v1 : Int32} {v2 : Int32} {v3 : Int32} {v4 : Int32} {v5 : Int32} {v6 : Int32} {v7 : Int32} {v8 : Int32} {v9 : Int64} {H : xH}
    (h : xW l x d mc ms mMO_layRows n0 Q cl 85 [some (.ref r0), some (.int v1), some (.int v2), some (.int v3), some (.int v4), some (.int v5), some (.int v6), some (.int v7), some (.int v8), some (.long v9), none, none] [.int 1] H uc us) :
    xW l x d mc ms mMO_layRows n0 Q cl 82 [some (.ref r0), some (.int v1), some (.int v2), some (.int v3), some (.int v4), some (.int v5), some (.int v6), some (.int v7), some (.int v8), some (.long v9), none, none] [] H uc us := by
  refine xs_iconstV (v := 1) rfl rfl ?_
  refine xs_goto (k' := 85) rfl rfl ?_
  exact h

set_option maxRecDepth 20000 in
theorem b_MO_layRows_84 {l : Launch} {x : xX} {d mc ms n0 uc us : Nat} {Q : xO → xH → Prop} {cl : Bool} {r0 : Nat} {v1 : Int32} {v2 : Int32} {v3 : Int32} {v4 : Int32} {v5 : Int32} {v6 : Int32} {v7 : Int32} {v8 : Int32} {v9 : Int64} {H : xH}
    (h : xW l x d mc ms mMO_layRows n0 Q cl 85 [some (.ref r0), some (.int v1), some (.int v2), some (.int v3), some (.int v4), some (.int v5), some (.int v6), some (.int v7), some (.int v8), some (.long v9), none, none] [.int 0] H uc us) :
    xW l x d mc ms mMO_layRows n0 Q cl 84 [some (.ref r0), some (.int v1), some (.int v2), some (.int v3), some (.int v4), some (.int v5), some (.int v6), some (.int v7), some (.int v8), some (.long v9), none, none] [] H uc us := by
  refine xs_iconstV (v := 0) rfl rfl ?_
  exact h

set_option maxRecDepth 20000 in
theorem b_MO_layRows_85 {l : Launch} {x : xX} {d mc ms n0 uc us : Nat} {Q : xO → xH → Prop} {cl : Bool} {r0 : Nat} {v1 : Int32} {v2 : Int32} {v3 : Int32} {v4 : Int32} {v5 : Int32} {v6 : Int32} {v7 : Int32} {v8 : Int32} {v9 : Int64} {u0 : Int32} {H : xH}
    (h : ∃ p1, gR H r0 12 24 p1 ∧ ((u0 = 0 → xW l x d mc ms mMO_layRows n0 Q cl 106 [some (.ref r0), some (.int v1), some (.int v2), some (.int v3), some (.int v4), some (.int v5), some (.int v6), some (.int v7), some (.int v8), some (.long v9), none, some (.int u0)] [.long v9, .int (((600 : Int32) * v4) + v8), .ref p1] H uc us) ∧ (¬ u0 = 0 → ∃ p2, gR H r0 12 22 p2 ∧ (∃ p3, gR H r0 12 27 p3 ∧ (∃ n4 f5, H[(p3 : Nat)]? = some (.inl (0, n4, .inl f5)) ∧ vp_in v6 n4 ∧ (∃ n6 f7, H[(p2 : Nat)]? = some (.inl (2, n6, .inr (.inl f7))) ∧ vp_in (v1 + (f5 v6.toNatClampNeg)) n6 ∧ (xW l x d mc ms mMO_layRows n0 Q cl 106 [some (.ref r0), some (.int v1), some (.int v2), some (.int v3), some (.int v4), some (.int v5), some (.int v6), some (.int v7), some (.int v8), some (.long v9), none, some (.int u0)] [.long (f7 (v1 + (f5 v6.toNatClampNeg)).toNatClampNeg), .int (((600 : Int32) * v4) + v8), .ref p1] H uc us))))))) :
    xW l x d mc ms mMO_layRows n0 Q cl 85 [some (.ref r0), some (.int v1), some (.int v2), some (.int v3), some (.int v4), some (.int v5), some (.int v6), some (.int v7), some (.int v8), some (.long v9), none, none] [.int u0] H uc us := by
  refine xs_istore rfl (L' := [some (.ref r0), some (.int v1), some (.int v2), some (.int v3), some (.int v4), some (.int v5), some (.int v6), some (.int v7), some (.int v8), some (.long v9), none, some (.int u0)]) rfl rfl ?_
  refine xs_aload_n rfl rfl ?_
  obtain ⟨p1, ⟨_, h1, h2⟩, h⟩ := h
  refine xs_getf rfl fl_12_60 h1 h2 ?_
  refine xs_sipushV (v := 600) rfl rfl ?_
  refine xs_iload rfl rfl ?_
  refine xs_imul rfl ?_
  refine xs_iload rfl rfl ?_
  refine xs_iadd rfl ?_
  refine xs_iload rfl rfl ?_
  refine xs_if_eq (k' := 105) rfl rfl (fun hb => ?_) (fun hb => ?_)
  · have h := h.1 hb
    refine xs_lload rfl rfl ?_
    exact h
  · have h := h.2 hb
    refine xs_aload_n rfl rfl ?_
    obtain ⟨p2, ⟨_, h1, h2⟩, h⟩ := h
    refine xs_getf rfl fl_12_53 h1 h2 ?_
    refine xs_iload_n rfl rfl ?_
    refine xs_aload_n rfl rfl ?_
    obtain ⟨p3, ⟨_, h1, h2⟩, h⟩ := h
    refine xs_getf rfl fl_12_70 h1 h2 ?_
    refine xs_iload rfl rfl ?_
    obtain ⟨n4, f5, h1, h2, h⟩ := h
    refine xs_iald rfl h1 h2 ?_
    refine xs_iadd rfl ?_
    obtain ⟨n6, f7, h1, h2, h⟩ := h
    refine xs_lald rfl h1 h2 ?_
    refine xs_goto (k' := 106) rfl rfl ?_
    exact h

set_option maxRecDepth 20000 in
theorem b_MO_layRows_106 {l : Launch} {x : xX} {d mc ms n0 uc us : Nat} {Q : xO → xH → Prop} {cl : Bool} {r0 : Nat} {v1 : Int32} {v2 : Int32} {v3 : Int32} {v4 : Int32} {v5 : Int32} {v6 : Int32} {v7 : Int32} {v8 : Int32} {v9 : Int64} {v11 : Int32} {q0 : Nat} {u1 : Int32} {u2 : Int64} {H : xH}
    (h : ∃ n1 f2, H[(q0 : Nat)]? = some (.inl (2, n1, .inr (.inl f2))) ∧ vp_in u1 n1 ∧ (∀ H3 : xH, H3 = H.set q0 (.inl (2, n1, .inr (.inl (vp_updL f2 (u1.toNatClampNeg) (u2))))) → ∃ p4, gR H3 r0 12 25 p4 ∧ (∃ n5 f6, H3[(p4 : Nat)]? = some (.inl (3, n5, .inl f6)) ∧ vp_in (((600 : Int32) * v4) + v8) n5 ∧ (∀ H7 : xH, H7 = H3.set p4 (.inl (3, n5, .inl (upd f6 ((((600 : Int32) * v4) + v8).toNatClampNeg) (vp_nar .boolean (v11))))) → (v11 = 0 → xW l x d mc ms mMO_layRows n0 Q false 123 [some (.ref r0), some (.int v1), some (.int v2), some (.int v3), some (.int v4), some (.int v5), some (.int v6), some (.int v7), some (.int v8), some (.long v9), none, some (.int v11)] [.int v6] H7 uc us) ∧ (¬ v11 = 0 → xW l x d mc ms mMO_layRows n0 Q false 123 [some (.ref r0), some (.int v1), some (.int v2), some (.int v3), some (.int v4), some (.int v5), some (.int v6), some (.int v7), some (.int v8), some (.long v9), none, some (.int v11)] [.int (v6 + 1)] H7 uc us))))) :
    xW l x d mc ms mMO_layRows n0 Q cl 106 [some (.ref r0), some (.int v1), some (.int v2), some (.int v3), some (.int v4), some (.int v5), some (.int v6), some (.int v7), some (.int v8), some (.long v9), none, some (.int v11)] [.long u2, .int u1, .ref q0] H uc us := by
  obtain ⟨n1, f2, h1, h2, h⟩ := h
  refine xs_last rfl h1 h2 ?_
  have h := h _ rfl
  generalize H.set q0 (.inl (2, n1, .inr (.inl (vp_updL f2 (u1.toNatClampNeg) (u2))))) = H3 at h ⊢
  refine xs_aload_n rfl rfl ?_
  obtain ⟨p4, ⟨_, h1, h2⟩, h⟩ := h
  refine xs_getf rfl fl_12_63 h1 h2 ?_
  refine xs_sipushV (v := 600) rfl rfl ?_
  refine xs_iload rfl rfl ?_
  refine xs_imul rfl ?_
  refine xs_iload rfl rfl ?_
  refine xs_iadd rfl ?_
  refine xs_iload rfl rfl ?_
  obtain ⟨n5, f6, h1, h2, h⟩ := h
  refine xs_zast rfl h1 h2 ?_
  have h := h _ rfl
  generalize H3.set p4 (.inl (3, n5, .inl (upd f6 ((((600 : Int32) * v4) + v8).toNatClampNeg) (vp_nar .boolean (v11))))) = H7 at h ⊢
  refine xs_iload rfl rfl ?_
  refine xs_if_eq (k' := 122) rfl rfl (fun hb => ?_) (fun hb => ?_)
  · have h := h.1 hb
    refine xs_iload rfl rfl ?_
    exact h
  · have h := h.2 hb
    refine xs_iload rfl rfl ?_
    refine xs_iconstV (v := 1) rfl rfl ?_
    refine xs_iadd rfl ?_
    refine xs_goto (k' := 123) rfl rfl ?_
    exact h

set_option maxRecDepth 20000 in
theorem b_MO_layRows_123 {l : Launch} {x : xX} {d mc ms n0 uc us : Nat} {Q : xO → xH → Prop} {cl : Bool} {r0 : Nat} {v1 : Int32} {v2 : Int32} {v3 : Int32} {v4 : Int32} {v5 : Int32} {v6 : Int32} {v7 : Int32} {v8 : Int32} {v9 : Int64} {v11 : Int32} {u0 : Int32} {H : xH}
    (h : (v11 = 0 → xW l x d mc ms mMO_layRows n0 Q cl 131 [some (.ref r0), some (.int v1), some (.int v2), some (.int v3), some (.int v4), some (.int v5), some (.int u0), some (.int v7), some (.int v8), some (.long v9), none, some (.int v11)] [.int (v7 + 1)] H uc us) ∧ (¬ v11 = 0 → xW l x d mc ms mMO_layRows n0 Q cl 131 [some (.ref r0), some (.int v1), some (.int v2), some (.int v3), some (.int v4), some (.int v5), some (.int u0), some (.int v7), some (.int v8), some (.long v9), none, some (.int v11)] [.int v7] H uc us)) :
    xW l x d mc ms mMO_layRows n0 Q cl 123 [some (.ref r0), some (.int v1), some (.int v2), some (.int v3), some (.int v4), some (.int v5), some (.int v6), some (.int v7), some (.int v8), some (.long v9), none, some (.int v11)] [.int u0] H uc us := by
  refine xs_istore rfl (L' := [some (.ref r0), some (.int v1), some (.int v2), some (.int v3), some (.int v4), some (.int v5), some (.int u0), some (.int v7), some (.int v8), some (.long v9), none, some (.int v11)]) rfl rfl ?_
  refine xs_iload rfl rfl ?_
  refine xs_if_eq (k' := 128) rfl rfl (fun hb => ?_) (fun hb => ?_)
  · have h := h.1 hb
    refine xs_iload rfl rfl ?_
    refine xs_iconstV (v := 1) rfl rfl ?_
    refine xs_iadd rfl ?_
    exact h
  · have h := h.2 hb
    refine xs_iload rfl rfl ?_
    refine xs_goto (k' := 131) rfl rfl ?_
    exact h

set_option maxRecDepth 20000 in
theorem b_MO_layRows_131 {l : Launch} {x : xX} {d mc ms n0 uc us : Nat} {Q : xO → xH → Prop} {cl : Bool} {r0 : Nat} {v1 : Int32} {v2 : Int32} {v3 : Int32} {v4 : Int32} {v5 : Int32} {v6 : Int32} {v7 : Int32} {v8 : Int32} {v9 : Int64} {v11 : Int32} {u0 : Int32} {H : xH}
    (h : xW l x d mc ms mMO_layRows n0 Q cl 25 [some (.ref r0), some (.int v1), some (.int v2), some (.int v3), some (.int v4), some (.int v5), some (.int v6), some (.int u0), some (.int (v8 + 1)), some (.long v9), none, some (.int v11)] [] H uc us) :
    xW l x d mc ms mMO_layRows n0 Q cl 131 [some (.ref r0), some (.int v1), some (.int v2), some (.int v3), some (.int v4), some (.int v5), some (.int v6), some (.int v7), some (.int v8), some (.long v9), none, some (.int v11)] [.int u0] H uc us := by
  refine xs_istore rfl (L' := [some (.ref r0), some (.int v1), some (.int v2), some (.int v3), some (.int v4), some (.int v5), some (.int v6), some (.int u0), some (.int v8), some (.long v9), none, some (.int v11)]) rfl rfl ?_
  refine xs_iincV rfl (w := 1) rfl rfl (L' := [some (.ref r0), some (.int v1), some (.int v2), some (.int v3), some (.int v4), some (.int v5), some (.int v6), some (.int u0), some (.int (v8 + 1)), some (.long v9), none, some (.int v11)]) rfl rfl ?_
  refine xs_goto (k' := 25) rfl rfl ?_
  exact h

set_option maxRecDepth 20000 in
theorem b_MO_lastOf_0 {l : Launch} {x : xX} {d mc ms n0 uc us : Nat} {Q : xO → xH → Prop} {cl : Bool} {r0 : Nat} {v1 : Int32} {v2 : Int32} {H : xH}
    (h : xW l x d mc ms mMO_lastOf n0 Q cl 4 [some (.ref r0), some (.int v1), some (.int v2), some (.int 0), some (.int 0)] [] H uc us) :
    xW l x d mc ms mMO_lastOf n0 Q cl 0 [some (.ref r0), some (.int v1), some (.int v2), none, none] [] H uc us := by
  refine xs_iconstV (v := 0) rfl rfl ?_
  refine xs_istore_n rfl (L' := [some (.ref r0), some (.int v1), some (.int v2), some (.int 0), none]) rfl rfl ?_
  refine xs_iconstV (v := 0) rfl rfl ?_
  refine xs_istore rfl (L' := [some (.ref r0), some (.int v1), some (.int v2), some (.int 0), some (.int 0)]) rfl rfl ?_
  exact h

set_option maxRecDepth 20000 in
theorem b_MO_lastOf_4 {l : Launch} {x : xX} {d mc ms n0 uc us : Nat} {Q : xO → xH → Prop} {cl : Bool} {r0 : Nat} {v1 : Int32} {v2 : Int32} {v3 : Int32} {v4 : Int32} {H : xH}
    (h : (v2 ≤ v4 → uc = mc ∧ us ≤ ms ∧ Q (.inl (some (.int v3))) H) ∧ (¬ v2 ≤ v4 → ∃ n1 f2, H[(r0 : Nat)]? = some (.inl (0, n1, .inl f2)) ∧ vp_in (v1 + v4) n1 ∧ (((f2 (v1 + v4).toNatClampNeg) ≤ 0 → xW l x d mc ms mMO_lastOf n0 Q cl 4 [some (.ref r0), some (.int v1), some (.int v2), some (.int v3), some (.int (v4 + 1))] [] H uc us) ∧ (¬ (f2 (v1 + v4).toNatClampNeg) ≤ 0 → xW l x d mc ms mMO_lastOf n0 Q cl 4 [some (.ref r0), some (.int v1), some (.int v2), some (.int (v4 + 1)), some (.int (v4 + 1))] [] H uc us)))) :
    xW l x d mc ms mMO_lastOf n0 Q cl 4 [some (.ref r0), some (.int v1), some (.int v2), some (.int v3), some (.int v4)] [] H uc us := by
  refine xs_iload rfl rfl ?_
  refine xs_iload_n rfl rfl ?_
  refine xs_icmp_ge (k' := 21) rfl rfl (fun hb => ?_) (fun hb => ?_)
  · have h := h.1 hb
    refine xs_iload_n rfl rfl ?_
    exact xs_iret rfl rfl h.1 h.2.1 h.2.2
  · have h := h.2 hb
    refine xs_aload_n rfl rfl ?_
    refine xs_iload_n rfl rfl ?_
    refine xs_iload rfl rfl ?_
    refine xs_iadd rfl ?_
    obtain ⟨n1, f2, h1, h2, h⟩ := h
    refine xs_iald rfl h1 h2 ?_
    refine xs_if_le (k' := 17) rfl rfl (fun hb => ?_) (fun hb => ?_)
    · have h := h.1 hb
      refine xs_iload_n rfl rfl ?_
      refine xs_istore_n rfl (L' := [some (.ref r0), some (.int v1), some (.int v2), some (.int v3), some (.int v4)]) rfl rfl ?_
      refine xs_iincV rfl (w := 1) rfl rfl (L' := [some (.ref r0), some (.int v1), some (.int v2), some (.int v3), some (.int (v4 + 1))]) rfl rfl ?_
      refine xs_goto (k' := 4) rfl rfl ?_
      exact h
    · have h := h.2 hb
      refine xs_iload rfl rfl ?_
      refine xs_iconstV (v := 1) rfl rfl ?_
      refine xs_iadd rfl ?_
      refine xs_goto (k' := 18) rfl rfl ?_
      refine xs_istore_n rfl (L' := [some (.ref r0), some (.int v1), some (.int v2), some (.int (v4 + 1)), some (.int v4)]) rfl rfl ?_
      refine xs_iincV rfl (w := 1) rfl rfl (L' := [some (.ref r0), some (.int v1), some (.int v2), some (.int (v4 + 1)), some (.int (v4 + 1))]) rfl rfl ?_
      refine xs_goto (k' := 4) rfl rfl ?_
      exact h

set_option maxRecDepth 20000 in
theorem b_MO_tellRow_0 {l : Launch} {x : xX} {d mc ms n0 uc us : Nat} {Q : xO → xH → Prop} {cl : Bool} {r0 : Nat} {v1 : Int32} {H : xH}
    (h : ∃ c1, H[(r0 : Nat)]? = some (.inr (12, c1)) ∧ 30 < c1.length ∧ (∀ H2 : xH, H2 = H.set r0 (.inr (12, c1.set 30 (.int 0))) → xW l x d mc ms mMO_tellRow n0 Q false 5 [some (.ref r0), some (.int v1), some (.int 0), none, none, none, none] [] H2 uc us)) :
    xW l x d mc ms mMO_tellRow n0 Q cl 0 [some (.ref r0), some (.int v1), none, none, none, none, none] [] H uc us := by
  refine xs_aload_n rfl rfl ?_
  refine xs_iconstV (v := 0) rfl rfl ?_
  obtain ⟨c1, h1, h2, h⟩ := h
  refine xs_putf rfl fl_12_251 h1 (fun q hq => by cases hq; rfl) rfl h2 ?_
  have h := h _ rfl
  generalize H.set r0 (.inr (12, c1.set 30 (.int 0))) = H2 at h ⊢
  refine xs_iconstV (v := 0) rfl rfl ?_
  refine xs_istore_n rfl (L' := [some (.ref r0), some (.int v1), some (.int 0), none, none, none, none]) rfl rfl ?_
  exact h

set_option maxRecDepth 20000 in
theorem b_MO_tellRow_5 {l : Launch} {x : xX} {d mc ms n0 uc us : Nat} {Q : xO → xH → Prop} {cl : Bool} {r0 : Nat} {v1 : Int32} {v2 : Int32} {H : xH}
    (h : (v1 ≤ v2 → uc = mc ∧ us ≤ ms ∧ Q (.inl none) H) ∧ (¬ v1 ≤ v2 → xW l x d mc ms mMO_tellRow n0 Q cl 11 [some (.ref r0), some (.int v1), some (.int v2), none, none, none, none] [.int v1, .int v2, .ref r0] H uc us)) :
    xW l x d mc ms mMO_tellRow n0 Q cl 5 [some (.ref r0), some (.int v1), some (.int v2), none, none, none, none] [] H uc us := by
  refine xs_iload_n rfl rfl ?_
  refine xs_iload_n rfl rfl ?_
  refine xs_icmp_ge (k' := 110) rfl rfl (fun hb => ?_) (fun hb => ?_)
  · have h := h.1 hb
    exact xs_vret rfl rfl h.1 h.2.1 h.2.2
  · have h := h.2 hb
    refine xs_aload_n rfl rfl ?_
    refine xs_iload_n rfl rfl ?_
    refine xs_iload_n rfl rfl ?_
    exact h

set_option maxRecDepth 20000 in
theorem b_MO_tellRow_12 {l : Launch} {x : xX} {d mc ms n0 uc us : Nat} {Q : xO → xH → Prop} {cl : Bool} {r0 : Nat} {v1 : Int32} {v2 : Int32} {u0 : Int32} {H : xH}
    (h : ∃ p1, gR H r0 12 18 p1 ∧ (∃ n2 f3, H[(p1 : Nat)]? = some (.inl (0, n2, .inl f3)) ∧ vp_in v2 n2 ∧ ((¬ (f3 v2.toNatClampNeg) = 0 → ∃ p4, gR H r0 12 18 p4 ∧ (∃ n5 f6, H[(p4 : Nat)]? = some (.inl (0, n5, .inl f6)) ∧ vp_in v2 n5 ∧ (xW l x d mc ms mMO_tellRow n0 Q cl 57 [some (.ref r0), some (.int v1), some (.int v2), some (.int u0), none, none, none] [.int 0, .int (f6 v2.toNatClampNeg), .ref r0] H uc us))) ∧ ((f3 v2.toNatClampNeg) = 0 → (u0 ≤ 2 → ∃ p7, gR H r0 12 18 p7 ∧ (∃ n8 f9, H[(p7 : Nat)]? = some (.inl (0, n8, .inl f9)) ∧ vp_in v2 n8 ∧ (xW l x d mc ms mMO_tellRow n0 Q cl 57 [some (.ref r0), some (.int v1), some (.int v2), some (.int u0), none, none, none] [.int 0, .int (f9 v2.toNatClampNeg), .ref r0] H uc us))) ∧ (¬ u0 ≤ 2 → (u0 ≤ 138 → (u0 ≤ 10 → (u0 ≤ 10 → xW l x d mc ms mMO_tellRow n0 Q cl 45 [some (.ref r0), some (.int v1), some (.int v2), some (.int u0), some (.int u0), none, none] [.int (u0 - 3), .int 17, .ref r0] H uc us) ∧ (¬ u0 ≤ 10 → xW l x d mc ms mMO_tellRow n0 Q cl 45 [some (.ref r0), some (.int v1), some (.int v2), some (.int u0), some (.int u0), none, none] [.int (u0 - 11), .int 17, .ref r0] H uc us)) ∧ (¬ u0 ≤ 10 → (u0 ≤ 10 → xW l x d mc ms mMO_tellRow n0 Q cl 45 [some (.ref r0), some (.int v1), some (.int v2), some (.int u0), some (.int u0), none, none] [.int (u0 - 3), .int 18, .ref r0] H uc us) ∧ (¬ u0 ≤ 10 → xW l x d mc ms mMO_tellRow n0 Q cl 45 [some (.ref r0), some (.int v1), some (.int v2), some (.int u0), some (.int u0), none, none] [.int (u0 - 11), .int 18, .ref r0] H uc us))) ∧ (¬ u0 ≤ 138 → ((138 : Int32) ≤ 10 → ((138 : Int32) ≤ 10 → xW l x d mc ms mMO_tellRow n0 Q cl 45 [some (.ref r0), some (.int v1), some (.int v2), some (.int u0), some (.int 138), none, none] [.int ((138 : Int32) - 3), .int 17, .ref r0] H uc us) ∧ (¬ (138 : Int32) ≤ 10 → xW l x d mc ms mMO_tellRow n0 Q cl 45 [some (.ref r0), some (.int v1), some (.int v2), some (.int u0), some (.int 138), none, none] [.int ((138 : Int32) - 11), .int 17, .ref r0] H uc us)) ∧ (¬ (138 : Int32) ≤ 10 → ((138 : Int32) ≤ 10 → xW l x d mc ms mMO_tellRow n0 Q cl 45 [some (.ref r0), some (.int v1), some (.int v2), some (.int u0), some (.int 138), none, none] [.int ((138 : Int32) - 3), .int 18, .ref r0] H uc us) ∧ (¬ (138 : Int32) ≤ 10 → xW l x d mc ms mMO_tellRow n0 Q cl 45 [some (.ref r0), some (.int v1), some (.int v2), some (.int u0), some (.int 138), none, none] [.int ((138 : Int32) - 11), .int 18, .ref r0] H uc us)))))))) :
    xW l x d mc ms mMO_tellRow n0 Q cl 12 [some (.ref r0), some (.int v1), some (.int v2), none, none, none, none] [.int u0] H uc us := by
  refine xs_istore_n rfl (L' := [some (.ref r0), some (.int v1), some (.int v2), some (.int u0), none, none, none]) rfl rfl ?_
  refine xs_aload_n rfl rfl ?_
  obtain ⟨p1, ⟨_, h1, h2⟩, h⟩ := h
  refine xs_getf rfl fl_12_44 h1 h2 ?_
  refine xs_iload_n rfl rfl ?_
  obtain ⟨n2, f3, h1, h2, h⟩ := h
  refine xs_iald rfl h1 h2 ?_
  refine xs_if_ne (k' := 51) rfl rfl (fun hb => ?_) (fun hb => ?_)
  · have h := h.1 hb
    refine xs_aload_n rfl rfl ?_
    refine xs_aload_n rfl rfl ?_
    obtain ⟨p4, ⟨_, h1, h2⟩, h⟩ := h
    refine xs_getf rfl fl_12_44 h1 h2 ?_
    refine xs_iload_n rfl rfl ?_
    obtain ⟨n5, f6, h1, h2, h⟩ := h
    refine xs_iald rfl h1 h2 ?_
    refine xs_iconstV (v := 0) rfl rfl ?_
    exact h
  · have h := h.2 hb
    refine xs_iload_n rfl rfl ?_
    refine xs_iconstV (v := 2) rfl rfl ?_
    refine xs_icmp_le (k' := 51) rfl rfl (fun hb => ?_) (fun hb => ?_)
    · have h := h.1 hb
      refine xs_aload_n rfl rfl ?_
      refine xs_aload_n rfl rfl ?_
      obtain ⟨p7, ⟨_, h1, h2⟩, h⟩ := h
      refine xs_getf rfl fl_12_44 h1 h2 ?_
      refine xs_iload_n rfl rfl ?_
      obtain ⟨n8, f9, h1, h2, h⟩ := h
      refine xs_iald rfl h1 h2 ?_
      refine xs_iconstV (v := 0) rfl rfl ?_
      exact h
    · have h := h.2 hb
      refine xs_iload_n rfl rfl ?_
      refine xs_sipushV (v := 138) rfl rfl ?_
      refine xs_icmp_le (k' := 26) rfl rfl (fun hb => ?_) (fun hb => ?_)
      · have h := h.1 hb
        refine xs_iload_n rfl rfl ?_
        refine xs_istore rfl (L' := [some (.ref r0), some (.int v1), some (.int v2), some (.int u0), some (.int u0), none, none]) rfl rfl ?_
        refine xs_aload_n rfl rfl ?_
        refine xs_iload rfl rfl ?_
        refine xs_bipushV (v := 10) rfl rfl ?_
        refine xs_icmp_le (k' := 34) rfl rfl (fun hb => ?_) (fun hb => ?_)
        · have h := h.1 hb
          refine xs_bipushV (v := 17) rfl rfl ?_
          refine xs_iload rfl rfl ?_
          refine xs_bipushV (v := 10) rfl rfl ?_
          refine xs_icmp_le (k' := 42) rfl rfl (fun hb => ?_) (fun hb => ?_)
          · have h := h.1 hb
            refine xs_iload rfl rfl ?_
            refine xs_iconstV (v := 3) rfl rfl ?_
            refine xs_isub rfl ?_
            exact h
          · have h := h.2 hb
            refine xs_iload rfl rfl ?_
            refine xs_bipushV (v := 11) rfl rfl ?_
            refine xs_isub rfl ?_
            refine xs_goto (k' := 45) rfl rfl ?_
            exact h
        · have h := h.2 hb
          refine xs_bipushV (v := 18) rfl rfl ?_
          refine xs_goto (k' := 35) rfl rfl ?_
          refine xs_iload rfl rfl ?_
          refine xs_bipushV (v := 10) rfl rfl ?_
          refine xs_icmp_le (k' := 42) rfl rfl (fun hb => ?_) (fun hb => ?_)
          · have h := h.1 hb
            refine xs_iload rfl rfl ?_
            refine xs_iconstV (v := 3) rfl rfl ?_
            refine xs_isub rfl ?_
            exact h
          · have h := h.2 hb
            refine xs_iload rfl rfl ?_
            refine xs_bipushV (v := 11) rfl rfl ?_
            refine xs_isub rfl ?_
            refine xs_goto (k' := 45) rfl rfl ?_
            exact h
      · have h := h.2 hb
        refine xs_sipushV (v := 138) rfl rfl ?_
        refine xs_goto (k' := 27) rfl rfl ?_
        refine xs_istore rfl (L' := [some (.ref r0), some (.int v1), some (.int v2), some (.int u0), some (.int 138), none, none]) rfl rfl ?_
        refine xs_aload_n rfl rfl ?_
        refine xs_iload rfl rfl ?_
        refine xs_bipushV (v := 10) rfl rfl ?_
        refine xs_icmp_le (k' := 34) rfl rfl (fun hb => ?_) (fun hb => ?_)
        · have h := h.1 hb
          refine xs_bipushV (v := 17) rfl rfl ?_
          refine xs_iload rfl rfl ?_
          refine xs_bipushV (v := 10) rfl rfl ?_
          refine xs_icmp_le (k' := 42) rfl rfl (fun hb => ?_) (fun hb => ?_)
          · have h := h.1 hb
            refine xs_iload rfl rfl ?_
            refine xs_iconstV (v := 3) rfl rfl ?_
            refine xs_isub rfl ?_
            exact h
          · have h := h.2 hb
            refine xs_iload rfl rfl ?_
            refine xs_bipushV (v := 11) rfl rfl ?_
            refine xs_isub rfl ?_
            refine xs_goto (k' := 45) rfl rfl ?_
            exact h
        · have h := h.2 hb
          refine xs_bipushV (v := 18) rfl rfl ?_
          refine xs_goto (k' := 35) rfl rfl ?_
          refine xs_iload rfl rfl ?_
          refine xs_bipushV (v := 10) rfl rfl ?_
          refine xs_icmp_le (k' := 42) rfl rfl (fun hb => ?_) (fun hb => ?_)
          · have h := h.1 hb
            refine xs_iload rfl rfl ?_
            refine xs_iconstV (v := 3) rfl rfl ?_
            refine xs_isub rfl ?_
            exact h
          · have h := h.2 hb
            refine xs_iload rfl rfl ?_
            refine xs_bipushV (v := 11) rfl rfl ?_
            refine xs_isub rfl ?_
            refine xs_goto (k' := 45) rfl rfl ?_
            exact h

set_option maxRecDepth 20000 in
theorem b_MO_tellRow_46 {l : Launch} {x : xX} {d mc ms n0 uc us : Nat} {Q : xO → xH → Prop} {cl : Bool} {r0 : Nat} {v1 : Int32} {v2 : Int32} {v3 : Int32} {v4 : Int32} {H : xH}
    (h : xW l x d mc ms mMO_tellRow n0 Q cl 5 [some (.ref r0), some (.int v1), some (.int (v2 + v4)), some (.int v3), some (.int v4), none, none] [] H uc us) :
    xW l x d mc ms mMO_tellRow n0 Q cl 46 [some (.ref r0), some (.int v1), some (.int v2), some (.int v3), some (.int v4), none, none] [] H uc us := by
  refine xs_iload_n rfl rfl ?_
  refine xs_iload rfl rfl ?_
  refine xs_iadd rfl ?_
  refine xs_istore_n rfl (L' := [some (.ref r0), some (.int v1), some (.int (v2 + v4)), some (.int v3), some (.int v4), none, none]) rfl rfl ?_
  refine xs_goto (k' := 109) rfl rfl ?_
  refine xs_goto (k' := 5) rfl rfl ?_
  exact h

set_option maxRecDepth 20000 in
theorem b_MO_tellRow_58 {l : Launch} {x : xX} {d mc ms n0 uc us : Nat} {Q : xO → xH → Prop} {cl : Bool} {r0 : Nat} {v1 : Int32} {v2 : Int32} {v3 : Int32} {H : xH}
    (h : ∃ p1, gR H r0 12 18 p1 ∧ (∃ n2 f3, H[(p1 : Nat)]? = some (.inl (0, n2, .inl f3)) ∧ vp_in v2 n2 ∧ ((¬ (f3 v2.toNatClampNeg) = 0 → ∃ p4, gR H r0 12 18 p4 ∧ (∃ n5 f6, H[(p4 : Nat)]? = some (.inl (0, n5, .inl f6)) ∧ vp_in v2 n5 ∧ (xW l x d mc ms mMO_tellRow n0 Q cl 75 [some (.ref r0), some (.int v1), some (.int (v2 + 1)), some (.int v3), some (.int (v3 - 1)), some (.int (f6 v2.toNatClampNeg)), none] [] H uc us))) ∧ ((f3 v2.toNatClampNeg) = 0 → ∃ p7, gR H r0 12 18 p7 ∧ (∃ n8 f9, H[(p7 : Nat)]? = some (.inl (0, n8, .inl f9)) ∧ vp_in v2 n8 ∧ (xW l x d mc ms mMO_tellRow n0 Q cl 75 [some (.ref r0), some (.int v1), some (.int (v2 + 1)), some (.int v3), some (.int 0), some (.int (f9 v2.toNatClampNeg)), none] [] H uc us)))))) :
    xW l x d mc ms mMO_tellRow n0 Q cl 58 [some (.ref r0), some (.int v1), some (.int v2), some (.int v3), none, none, none] [] H uc us := by
  refine xs_aload_n rfl rfl ?_
  obtain ⟨p1, ⟨_, h1, h2⟩, h⟩ := h
  refine xs_getf rfl fl_12_44 h1 h2 ?_
  refine xs_iload_n rfl rfl ?_
  obtain ⟨n2, f3, h1, h2, h⟩ := h
  refine xs_iald rfl h1 h2 ?_
  refine xs_if_ne (k' := 65) rfl rfl (fun hb => ?_) (fun hb => ?_)
  · have h := h.1 hb
    refine xs_iload_n rfl rfl ?_
    refine xs_iconstV (v := 1) rfl rfl ?_
    refine xs_isub rfl ?_
    refine xs_istore rfl (L' := [some (.ref r0), some (.int v1), some (.int v2), some (.int v3), some (.int (v3 - 1)), none, none]) rfl rfl ?_
    refine xs_aload_n rfl rfl ?_
    obtain ⟨p4, ⟨_, h1, h2⟩, h⟩ := h
    refine xs_getf rfl fl_12_44 h1 h2 ?_
    refine xs_iload_n rfl rfl ?_
    obtain ⟨n5, f6, h1, h2, h⟩ := h
    refine xs_iald rfl h1 h2 ?_
    refine xs_istore rfl (L' := [some (.ref r0), some (.int v1), some (.int v2), some (.int v3), some (.int (v3 - 1)), some (.int (f6 v2.toNatClampNeg)), none]) rfl rfl ?_
    refine xs_iincV rfl (w := 1) rfl rfl (L' := [some (.ref r0), some (.int v1), some (.int (v2 + 1)), some (.int v3), some (.int (v3 - 1)), some (.int (f6 v2.toNatClampNeg)), none]) rfl rfl ?_
    exact h
  · have h := h.2 hb
    refine xs_iconstV (v := 0) rfl rfl ?_
    refine xs_goto (k' := 68) rfl rfl ?_
    refine xs_istore rfl (L' := [some (.ref r0), some (.int v1), some (.int v2), some (.int v3), some (.int 0), none, none]) rfl rfl ?_
    refine xs_aload_n rfl rfl ?_
    obtain ⟨p7, ⟨_, h1, h2⟩, h⟩ := h
    refine xs_getf rfl fl_12_44 h1 h2 ?_
    refine xs_iload_n rfl rfl ?_
    obtain ⟨n8, f9, h1, h2, h⟩ := h
    refine xs_iald rfl h1 h2 ?_
    refine xs_istore rfl (L' := [some (.ref r0), some (.int v1), some (.int v2), some (.int v3), some (.int 0), some (.int (f9 v2.toNatClampNeg)), none]) rfl rfl ?_
    refine xs_iincV rfl (w := 1) rfl rfl (L' := [some (.ref r0), some (.int v1), some (.int (v2 + 1)), some (.int v3), some (.int 0), some (.int (f9 v2.toNatClampNeg)), none]) rfl rfl ?_
    exact h

set_option maxRecDepth 20000 in
theorem b_MO_tellRow_75 {l : Launch} {x : xX} {d mc ms n0 uc us : Nat} {Q : xO → xH → Prop} {cl : Bool} {r0 : Nat} {v1 : Int32} {v2 : Int32} {v3 : Int32} {v4 : Int32} {v5 : Int32} {H : xH}
    (h : (v4 ≤ 2 → xW l x d mc ms mMO_tellRow n0 Q cl 100 [some (.ref r0), some (.int v1), some (.int v2), some (.int v3), some (.int v4), some (.int v5), none] [] H uc us) ∧ (¬ v4 ≤ 2 → (v4 ≤ 6 → xW l x d mc ms mMO_tellRow n0 Q cl 90 [some (.ref r0), some (.int v1), some (.int v2), some (.int v3), some (.int v4), some (.int v5), some (.int v4)] [.int (v4 - 3), .int 16, .ref r0] H uc us) ∧ (¬ v4 ≤ 6 → xW l x d mc ms mMO_tellRow n0 Q cl 90 [some (.ref r0), some (.int v1), some (.int v2), some (.int v3), some (.int v4), some (.int v5), some (.int 6)] [.int ((6 : Int32) - 3), .int 16, .ref r0] H uc us))) :
    xW l x d mc ms mMO_tellRow n0 Q cl 75 [some (.ref r0), some (.int v1), some (.int v2), some (.int v3), some (.int v4), some (.int v5), none] [] H uc us := by
  refine xs_iload rfl rfl ?_
  refine xs_iconstV (v := 2) rfl rfl ?_
  refine xs_icmp_le (k' := 100) rfl rfl (fun hb => ?_) (fun hb => ?_)
  · have h := h.1 hb
    exact h
  · have h := h.2 hb
    refine xs_iload rfl rfl ?_
    refine xs_bipushV (v := 6) rfl rfl ?_
    refine xs_icmp_le (k' := 83) rfl rfl (fun hb => ?_) (fun hb => ?_)
    · have h := h.1 hb
      refine xs_iload rfl rfl ?_
      refine xs_istore rfl (L' := [some (.ref r0), some (.int v1), some (.int v2), some (.int v3), some (.int v4), some (.int v5), some (.int v4)]) rfl rfl ?_
      refine xs_aload_n rfl rfl ?_
      refine xs_bipushV (v := 16) rfl rfl ?_
      refine xs_iload rfl rfl ?_
      refine xs_iconstV (v := 3) rfl rfl ?_
      refine xs_isub rfl ?_
      exact h
    · have h := h.2 hb
      refine xs_bipushV (v := 6) rfl rfl ?_
      refine xs_goto (k' := 84) rfl rfl ?_
      refine xs_istore rfl (L' := [some (.ref r0), some (.int v1), some (.int v2), some (.int v3), some (.int v4), some (.int v5), some (.int 6)]) rfl rfl ?_
      refine xs_aload_n rfl rfl ?_
      refine xs_bipushV (v := 16) rfl rfl ?_
      refine xs_iload rfl rfl ?_
      refine xs_iconstV (v := 3) rfl rfl ?_
      refine xs_isub rfl ?_
      exact h

set_option maxRecDepth 20000 in
theorem b_MO_tellRow_91 {l : Launch} {x : xX} {d mc ms n0 uc us : Nat} {Q : xO → xH → Prop} {cl : Bool} {r0 : Nat} {v1 : Int32} {v2 : Int32} {v3 : Int32} {v4 : Int32} {v5 : Int32} {v6 : Int32} {H : xH}
    (h : xW l x d mc ms mMO_tellRow n0 Q cl 75 [some (.ref r0), some (.int v1), some (.int (v2 + v6)), some (.int v3), some (.int (v4 - v6)), some (.int v5), some (.int v6)] [] H uc us) :
    xW l x d mc ms mMO_tellRow n0 Q cl 91 [some (.ref r0), some (.int v1), some (.int v2), some (.int v3), some (.int v4), some (.int v5), some (.int v6)] [] H uc us := by
  refine xs_iload_n rfl rfl ?_
  refine xs_iload rfl rfl ?_
  refine xs_iadd rfl ?_
  refine xs_istore_n rfl (L' := [some (.ref r0), some (.int v1), some (.int (v2 + v6)), some (.int v3), some (.int v4), some (.int v5), some (.int v6)]) rfl rfl ?_
  refine xs_iload rfl rfl ?_
  refine xs_iload rfl rfl ?_
  refine xs_isub rfl ?_
  refine xs_istore rfl (L' := [some (.ref r0), some (.int v1), some (.int (v2 + v6)), some (.int v3), some (.int (v4 - v6)), some (.int v5), some (.int v6)]) rfl rfl ?_
  refine xs_goto (k' := 75) rfl rfl ?_
  exact h

set_option maxRecDepth 20000 in
theorem b_MO_tellRow_100 {l : Launch} {x : xX} {d mc ms n0 uc us : Nat} {Q : xO → xH → Prop} {cl : Bool} {r0 : Nat} {v1 : Int32} {v2 : Int32} {v3 : Int32} {v4 : Int32} {v5 : Int32} {H : xH}
    (h : (v4 ≤ 0 → xW l x d mc ms mMO_tellRow n0 Q cl 5 [some (.ref r0), some (.int v1), some (.int v2), some (.int v3), some (.int v4), some (.int v5), none] [] H uc us) ∧ (¬ v4 ≤ 0 → xW l x d mc ms mMO_tellRow n0 Q cl 105 [some (.ref r0), some (.int v1), some (.int v2), some (.int v3), some (.int v4), some (.int v5), none] [.int 0, .int v5, .ref r0] H uc us)) :
    xW l x d mc ms mMO_tellRow n0 Q cl 100 [some (.ref r0), some (.int v1), some (.int v2), some (.int v3), some (.int v4), some (.int v5), none] [] H uc us := by
  refine xs_iload rfl rfl ?_
  refine xs_if_le (k' := 109) rfl rfl (fun hb => ?_) (fun hb => ?_)
  · have h := h.1 hb
    refine xs_goto (k' := 5) rfl rfl ?_
    exact h
  · have h := h.2 hb
    refine xs_aload_n rfl rfl ?_
    refine xs_iload rfl rfl ?_
    refine xs_iconstV (v := 0) rfl rfl ?_
    exact h

set_option maxRecDepth 20000 in
theorem b_MO_tellRow_106 {l : Launch} {x : xX} {d mc ms n0 uc us : Nat} {Q : xO → xH → Prop} {cl : Bool} {r0 : Nat} {v1 : Int32} {v2 : Int32} {v3 : Int32} {v4 : Int32} {v5 : Int32} {H : xH}
    (h : xW l x d mc ms mMO_tellRow n0 Q cl 100 [some (.ref r0), some (.int v1), some (.int (v2 + 1)), some (.int v3), some (.int (v4 + (-1))), some (.int v5), none] [] H uc us) :
    xW l x d mc ms mMO_tellRow n0 Q cl 106 [some (.ref r0), some (.int v1), some (.int v2), some (.int v3), some (.int v4), some (.int v5), none] [] H uc us := by
  refine xs_iincV rfl (w := 1) rfl rfl (L' := [some (.ref r0), some (.int v1), some (.int (v2 + 1)), some (.int v3), some (.int v4), some (.int v5), none]) rfl rfl ?_
  refine xs_iincV rfl (w := (-1)) rfl rfl (L' := [some (.ref r0), some (.int v1), some (.int (v2 + 1)), some (.int v3), some (.int (v4 + (-1))), some (.int v5), none]) rfl rfl ?_
  refine xs_goto (k' := 100) rfl rfl ?_
  exact h

set_option maxRecDepth 20000 in
theorem b_MO_run_0 {l : Launch} {x : xX} {d mc ms n0 uc us : Nat} {Q : xO → xH → Prop} {cl : Bool} {r0 : Nat} {v1 : Int32} {v2 : Int32} {H : xH}
    (h : xW l x d mc ms mMO_run n0 Q cl 2 [some (.ref r0), some (.int v1), some (.int v2), some (.int 0)] [] H uc us) :
    xW l x d mc ms mMO_run n0 Q cl 0 [some (.ref r0), some (.int v1), some (.int v2), none] [] H uc us := by
  refine xs_iconstV (v := 0) rfl rfl ?_
  refine xs_istore_n rfl (L' := [some (.ref r0), some (.int v1), some (.int v2), some (.int 0)]) rfl rfl ?_
  exact h

set_option maxRecDepth 20000 in
theorem b_MO_run_2 {l : Launch} {x : xX} {d mc ms n0 uc us : Nat} {Q : xO → xH → Prop} {cl : Bool} {r0 : Nat} {v1 : Int32} {v2 : Int32} {v3 : Int32} {H : xH}
    (h : (v2 ≤ (v1 + v3) → uc = mc ∧ us ≤ ms ∧ Q (.inl (some (.int v3))) H) ∧ (¬ v2 ≤ (v1 + v3) → ∃ p1, gR H r0 12 18 p1 ∧ (∃ n2 f3, H[(p1 : Nat)]? = some (.inl (0, n2, .inl f3)) ∧ vp_in (v1 + v3) n2 ∧ (∃ p4, gR H r0 12 18 p4 ∧ (∃ n5 f6, H[(p4 : Nat)]? = some (.inl (0, n5, .inl f6)) ∧ vp_in v1 n5 ∧ ((¬ (f3 (v1 + v3).toNatClampNeg) = (f6 v1.toNatClampNeg) → uc = mc ∧ us ≤ ms ∧ Q (.inl (some (.int v3))) H) ∧ ((f3 (v1 + v3).toNatClampNeg) = (f6 v1.toNatClampNeg) → xW l x d mc ms mMO_run n0 Q cl 2 [some (.ref r0), some (.int v1), some (.int v2), some (.int (v3 + 1))] [] H uc us))))))) :
    xW l x d mc ms mMO_run n0 Q cl 2 [some (.ref r0), some (.int v1), some (.int v2), some (.int v3)] [] H uc us := by
  refine xs_iload_n rfl rfl ?_
  refine xs_iload_n rfl rfl ?_
  refine xs_iadd rfl ?_
  refine xs_iload_n rfl rfl ?_
  refine xs_icmp_ge (k' := 20) rfl rfl (fun hb => ?_) (fun hb => ?_)
  · have h := h.1 hb
    refine xs_iload_n rfl rfl ?_
    exact xs_iret rfl rfl h.1 h.2.1 h.2.2
  · have h := h.2 hb
    refine xs_aload_n rfl rfl ?_
    obtain ⟨p1, ⟨_, h1, h2⟩, h⟩ := h
    refine xs_getf rfl fl_12_44 h1 h2 ?_
    refine xs_iload_n rfl rfl ?_
    refine xs_iload_n rfl rfl ?_
    refine xs_iadd rfl ?_
    obtain ⟨n2, f3, h1, h2, h⟩ := h
    refine xs_iald rfl h1 h2 ?_
    refine xs_aload_n rfl rfl ?_
    obtain ⟨p4, ⟨_, h1, h2⟩, h⟩ := h
    refine xs_getf rfl fl_12_44 h1 h2 ?_
    refine xs_iload_n rfl rfl ?_
    obtain ⟨n5, f6, h1, h2, h⟩ := h
    refine xs_iald rfl h1 h2 ?_
    refine xs_icmp_ne (k' := 20) rfl rfl (fun hb => ?_) (fun hb => ?_)
    · have h := h.1 hb
      refine xs_iload_n rfl rfl ?_
      exact xs_iret rfl rfl h.1 h.2.1 h.2.2
    · have h := h.2 hb
      refine xs_iincV rfl (w := 1) rfl rfl (L' := [some (.ref r0), some (.int v1), some (.int v2), some (.int (v3 + 1))]) rfl rfl ?_
      refine xs_goto (k' := 2) rfl rfl ?_
      exact h

set_option maxRecDepth 20000 in
theorem b_MO_tell_0 {l : Launch} {x : xX} {d mc ms n0 uc us : Nat} {Q : xO → xH → Prop} {cl : Bool} {r0 : Nat} {v1 : Int32} {v2 : Int32} {H : xH}
    (h : ∃ p1, gR H r0 12 28 p1 ∧ (∃ a2, gI H r0 12 30 a2 ∧ (∃ n3 f4, H[(p1 : Nat)]? = some (.inl (0, n3, .inl f4)) ∧ 2 ≤ p1 ∧ vp_in a2 n3 ∧ (∀ H5 : xH, H5 = H.set p1 (.inl (0, n3, .inl (upd f4 (a2.toNatClampNeg) (v1)))) → ∃ p6, gR H5 r0 12 29 p6 ∧ (∃ a7, gI H5 r0 12 30 a7 ∧ (∃ n8 f9, H5[(p6 : Nat)]? = some (.inl (0, n8, .inl f9)) ∧ 2 ≤ p6 ∧ vp_in a7 n8 ∧ (∀ H10 : xH, H10 = H5.set p6 (.inl (0, n8, .inl (upd f9 (a7.toNatClampNeg) (v2)))) → ∃ a11, gI H10 r0 12 30 a11 ∧ (∃ c12, H10[(r0 : Nat)]? = some (.inr (12, c12)) ∧ 30 < c12.length ∧ (∀ H13 : xH, H13 = H10.set r0 (.inr (12, c12.set 30 (.int (a11 + 1)))) → uc = mc ∧ us ≤ ms ∧ Q (.inl none) H13))))))))) :
    xW l x d mc ms mMO_tell n0 Q cl 0 [some (.ref r0), some (.int v1), some (.int v2)] [] H uc us := by
  refine xs_aload_n rfl rfl ?_
  obtain ⟨p1, ⟨_, h1, h2⟩, h⟩ := h
  refine xs_getf rfl fl_12_73 h1 h2 ?_
  refine xs_aload_n rfl rfl ?_
  obtain ⟨a2, ⟨_, h1, h2⟩, h⟩ := h
  refine xs_getf rfl fl_12_251 h1 h2 ?_
  refine xs_iload_n rfl rfl ?_
  obtain ⟨n3, f4, h1, h3, h2, h⟩ := h
  refine xs_iast rfl h1 h3 h2 ?_
  have h := h _ rfl
  generalize H.set p1 (.inl (0, n3, .inl (upd f4 (a2.toNatClampNeg) (v1)))) = H5 at h ⊢
  refine xs_aload_n rfl rfl ?_
  obtain ⟨p6, ⟨_, h1, h2⟩, h⟩ := h
  refine xs_getf rfl fl_12_76 h1 h2 ?_
  refine xs_aload_n rfl rfl ?_
  obtain ⟨a7, ⟨_, h1, h2⟩, h⟩ := h
  refine xs_getf rfl fl_12_251 h1 h2 ?_
  refine xs_iload_n rfl rfl ?_
  obtain ⟨n8, f9, h1, h3, h2, h⟩ := h
  refine xs_iast rfl h1 h3 h2 ?_
  have h := h _ rfl
  generalize H5.set p6 (.inl (0, n8, .inl (upd f9 (a7.toNatClampNeg) (v2)))) = H10 at h ⊢
  refine xs_aload_n rfl rfl ?_
  refine xs_dup rfl rfl ?_
  obtain ⟨a11, ⟨_, h1, h2⟩, h⟩ := h
  refine xs_getf rfl fl_12_251 h1 h2 ?_
  refine xs_iconstV (v := 1) rfl rfl ?_
  refine xs_iadd rfl ?_
  obtain ⟨c12, h1, h2, h⟩ := h
  refine xs_putf rfl fl_12_251 h1 (fun q hq => by cases hq; rfl) rfl h2 ?_
  have h := h _ rfl
  generalize H10.set r0 (.inr (12, c12.set 30 (.int (a11 + 1)))) = H13 at h ⊢
  exact xs_vret rfl rfl h.1 h.2.1 h.2.2

set_option maxRecDepth 20000 in
theorem b_MO_toldBits_0 {l : Launch} {x : xX} {d mc ms n0 uc us : Nat} {Q : xO → xH → Prop} {cl : Bool} {v0 : Int32} {H : xH}
    (h : (¬ v0 = 16 → (¬ v0 = 17 → (¬ v0 = 18 → uc = mc ∧ us ≤ ms ∧ Q (.inl (some (.int 0))) H) ∧ (v0 = 18 → uc = mc ∧ us ≤ ms ∧ Q (.inl (some (.int 7))) H)) ∧ (v0 = 17 → uc = mc ∧ us ≤ ms ∧ Q (.inl (some (.int 3))) H)) ∧ (v0 = 16 → uc = mc ∧ us ≤ ms ∧ Q (.inl (some (.int 2))) H)) :
    xW l x d mc ms mMO_toldBits n0 Q cl 0 [some (.int v0)] [] H uc us := by
  refine xs_iload_n rfl rfl ?_
  refine xs_bipushV (v := 16) rfl rfl ?_
  refine xs_icmp_ne (k' := 5) rfl rfl (fun hb => ?_) (fun hb => ?_)
  · have h := h.1 hb
    refine xs_iload_n rfl rfl ?_
    refine xs_bipushV (v := 17) rfl rfl ?_
    refine xs_icmp_ne (k' := 10) rfl rfl (fun hb => ?_) (fun hb => ?_)
    · have h := h.1 hb
      refine xs_iload_n rfl rfl ?_
      refine xs_bipushV (v := 18) rfl rfl ?_
      refine xs_icmp_ne (k' := 15) rfl rfl (fun hb => ?_) (fun hb => ?_)
      · have h := h.1 hb
        refine xs_iconstV (v := 0) rfl rfl ?_
        exact xs_iret rfl rfl h.1 h.2.1 h.2.2
      · have h := h.2 hb
        refine xs_bipushV (v := 7) rfl rfl ?_
        refine xs_goto (k' := 16) rfl rfl ?_
        exact xs_iret rfl rfl h.1 h.2.1 h.2.2
    · have h := h.2 hb
      refine xs_iconstV (v := 3) rfl rfl ?_
      refine xs_goto (k' := 16) rfl rfl ?_
      exact xs_iret rfl rfl h.1 h.2.1 h.2.2
  · have h := h.2 hb
    refine xs_iconstV (v := 2) rfl rfl ?_
    refine xs_goto (k' := 16) rfl rfl ?_
    exact xs_iret rfl rfl h.1 h.2.1 h.2.2

set_option maxRecDepth 20000 in
theorem b_MO_putPlain_0 {l : Launch} {x : xX} {d mc ms n0 uc us : Nat} {Q : xO → xH → Prop} {cl : Bool} {r0 : Nat} {v1 : Int32} {v2 : Int32} {H : xH}
    (h : xW l x d mc ms mMO_putPlain n0 Q cl 1 [some (.ref r0), some (.int v1), some (.int v2), none] [.ref r0] H uc us) :
    xW l x d mc ms mMO_putPlain n0 Q cl 0 [some (.ref r0), some (.int v1), some (.int v2), none] [] H uc us := by
  refine xs_aload_n rfl rfl ?_
  exact h

set_option maxRecDepth 20000 in
theorem b_MO_putPlain_2 {l : Launch} {x : xX} {d mc ms n0 uc us : Nat} {Q : xO → xH → Prop} {cl : Bool} {r0 : Nat} {v1 : Int32} {v2 : Int32} {H : xH}
    (h : xW l x d mc ms mMO_putPlain n0 Q cl 5 [some (.ref r0), some (.int v1), some (.int v2), none] [.int v2, .int 16, .ref r0] H uc us) :
    xW l x d mc ms mMO_putPlain n0 Q cl 2 [some (.ref r0), some (.int v1), some (.int v2), none] [] H uc us := by
  refine xs_aload_n rfl rfl ?_
  refine xs_bipushV (v := 16) rfl rfl ?_
  refine xs_iload_n rfl rfl ?_
  exact h

set_option maxRecDepth 20000 in
theorem b_MO_putPlain_6 {l : Launch} {x : xX} {d mc ms n0 uc us : Nat} {Q : xO → xH → Prop} {cl : Bool} {r0 : Nat} {v1 : Int32} {v2 : Int32} {H : xH}
    (h : xW l x d mc ms mMO_putPlain n0 Q cl 11 [some (.ref r0), some (.int v1), some (.int v2), none] [.int ((65535 : Int32) - v2), .int 16, .ref r0] H uc us) :
    xW l x d mc ms mMO_putPlain n0 Q cl 6 [some (.ref r0), some (.int v1), some (.int v2), none] [] H uc us := by
  refine xs_aload_n rfl rfl ?_
  refine xs_bipushV (v := 16) rfl rfl ?_
  refine xs_ldc rfl kc_12_170 ?_
  refine xs_iload_n rfl rfl ?_
  refine xs_isub rfl ?_
  exact h

set_option maxRecDepth 20000 in
theorem b_MO_putPlain_12 {l : Launch} {x : xX} {d mc ms n0 uc us : Nat} {Q : xO → xH → Prop} {cl : Bool} {r0 : Nat} {v1 : Int32} {v2 : Int32} {H : xH}
    (h : xW l x d mc ms mMO_putPlain n0 Q cl 14 [some (.ref r0), some (.int v1), some (.int v2), some (.int 0)] [] H uc us) :
    xW l x d mc ms mMO_putPlain n0 Q cl 12 [some (.ref r0), some (.int v1), some (.int v2), none] [] H uc us := by
  refine xs_iconstV (v := 0) rfl rfl ?_
  refine xs_istore_n rfl (L' := [some (.ref r0), some (.int v1), some (.int v2), some (.int 0)]) rfl rfl ?_
  exact h

set_option maxRecDepth 20000 in
theorem b_MO_putPlain_14 {l : Launch} {x : xX} {d mc ms n0 uc us : Nat} {Q : xO → xH → Prop} {cl : Bool} {r0 : Nat} {v1 : Int32} {v2 : Int32} {v3 : Int32} {H : xH}
    (h : (v2 ≤ v3 → uc = mc ∧ us ≤ ms ∧ Q (.inl none) H) ∧ (¬ v2 ≤ v3 → ∃ p1, gR H r0 12 1 p1 ∧ (∃ n2 f3, H[(p1 : Nat)]? = some (.inl (1, n2, .inl f3)) ∧ vp_in (v1 + v3) n2 ∧ (xW l x d mc ms mMO_putPlain n0 Q cl 27 [some (.ref r0), some (.int v1), some (.int v2), some (.int v3)] [.int ((f3 (v1 + v3).toNatClampNeg) &&& 255), .int 8, .ref r0] H uc us)))) :
    xW l x d mc ms mMO_putPlain n0 Q cl 14 [some (.ref r0), some (.int v1), some (.int v2), some (.int v3)] [] H uc us := by
  refine xs_iload_n rfl rfl ?_
  refine xs_iload_n rfl rfl ?_
  refine xs_icmp_ge (k' := 30) rfl rfl (fun hb => ?_) (fun hb => ?_)
  · have h := h.1 hb
    exact xs_vret rfl rfl h.1 h.2.1 h.2.2
  · have h := h.2 hb
    refine xs_aload_n rfl rfl ?_
    refine xs_bipushV (v := 8) rfl rfl ?_
    refine xs_aload_n rfl rfl ?_
    obtain ⟨p1, ⟨_, h1, h2⟩, h⟩ := h
    refine xs_getf rfl fl_12_8 h1 h2 ?_
    refine xs_iload_n rfl rfl ?_
    refine xs_iload_n rfl rfl ?_
    refine xs_iadd rfl ?_
    obtain ⟨n2, f3, h1, h2, h⟩ := h
    refine xs_bald rfl h1 h2 ?_
    refine xs_sipushV (v := 255) rfl rfl ?_
    refine xs_iand rfl ?_
    exact h

set_option maxRecDepth 20000 in
theorem b_MO_putPlain_28 {l : Launch} {x : xX} {d mc ms n0 uc us : Nat} {Q : xO → xH → Prop} {cl : Bool} {r0 : Nat} {v1 : Int32} {v2 : Int32} {v3 : Int32} {H : xH}
    (h : xW l x d mc ms mMO_putPlain n0 Q cl 14 [some (.ref r0), some (.int v1), some (.int v2), some (.int (v3 + 1))] [] H uc us) :
    xW l x d mc ms mMO_putPlain n0 Q cl 28 [some (.ref r0), some (.int v1), some (.int v2), some (.int v3)] [] H uc us := by
  refine xs_iincV rfl (w := 1) rfl rfl (L' := [some (.ref r0), some (.int v1), some (.int v2), some (.int (v3 + 1))]) rfl rfl ?_
  refine xs_goto (k' := 14) rfl rfl ?_
  exact h

set_option maxRecDepth 20000 in
theorem b_MO_pad_0 {l : Launch} {x : xX} {d mc ms n0 uc us : Nat} {Q : xO → xH → Prop} {cl : Bool} {r0 : Nat} {H : xH}
    (h : ∃ a1, gI H r0 12 13 a1 ∧ (((a1 - a1 / 8 * 8) = 0 → uc = mc ∧ us ≤ ms ∧ Q (.inl none) H) ∧ (¬ (a1 - a1 / 8 * 8) = 0 → xW l x d mc ms mMO_pad n0 Q cl 7 [some (.ref r0)] [.int 0, .ref r0] H uc us))) :
    xW l x d mc ms mMO_pad n0 Q cl 0 [some (.ref r0)] [] H uc us := by
  refine xs_aload_n rfl rfl ?_
  obtain ⟨a1, ⟨_, h1, h2⟩, h⟩ := h
  refine xs_getf rfl fl_12_118 h1 h2 ?_
  refine xs_bipushV (v := 8) rfl rfl ?_
  refine xs_irem rfl (by decide) ?_
  refine xs_if_eq (k' := 9) rfl rfl (fun hb => ?_) (fun hb => ?_)
  · have h := h.1 hb
    exact xs_vret rfl rfl h.1 h.2.1 h.2.2
  · have h := h.2 hb
    refine xs_aload_n rfl rfl ?_
    refine xs_iconstV (v := 0) rfl rfl ?_
    exact h

set_option maxRecDepth 20000 in
theorem b_MO_pad_8 {l : Launch} {x : xX} {d mc ms n0 uc us : Nat} {Q : xO → xH → Prop} {cl : Bool} {r0 : Nat} {H : xH}
    (h : xW l x d mc ms mMO_pad n0 Q cl 0 [some (.ref r0)] [] H uc us) :
    xW l x d mc ms mMO_pad n0 Q cl 8 [some (.ref r0)] [] H uc us := by
  refine xs_goto (k' := 0) rfl rfl ?_
  exact h

set_option maxRecDepth 20000 in
theorem b_MO_putPieces_0 {l : Launch} {x : xX} {d mc ms n0 uc us : Nat} {Q : xO → xH → Prop} {cl : Bool} {r0 : Nat} {H : xH}
    (h : xW l x d mc ms mMO_putPieces n0 Q cl 3 [some (.ref r0), none, none, none] [.int 288, .int 0, .ref r0] H uc us) :
    xW l x d mc ms mMO_putPieces n0 Q cl 0 [some (.ref r0), none, none, none] [] H uc us := by
  refine xs_aload_n rfl rfl ?_
  refine xs_iconstV (v := 0) rfl rfl ?_
  refine xs_sipushV (v := 288) rfl rfl ?_
  exact h

set_option maxRecDepth 20000 in
theorem b_MO_putPieces_4 {l : Launch} {x : xX} {d mc ms n0 uc us : Nat} {Q : xO → xH → Prop} {cl : Bool} {r0 : Nat} {H : xH}
    (h : xW l x d mc ms mMO_putPieces n0 Q cl 7 [some (.ref r0), none, none, none] [.int 32, .int 400, .ref r0] H uc us) :
    xW l x d mc ms mMO_putPieces n0 Q cl 4 [some (.ref r0), none, none, none] [] H uc us := by
  refine xs_aload_n rfl rfl ?_
  refine xs_sipushV (v := 400) rfl rfl ?_
  refine xs_bipushV (v := 32) rfl rfl ?_
  exact h

set_option maxRecDepth 20000 in
theorem b_MO_putPieces_8 {l : Launch} {x : xX} {d mc ms n0 uc us : Nat} {Q : xO → xH → Prop} {cl : Bool} {r0 : Nat} {H : xH}
    (h : xW l x d mc ms mMO_putPieces n0 Q cl 10 [some (.ref r0), some (.int 0), none, none] [] H uc us) :
    xW l x d mc ms mMO_putPieces n0 Q cl 8 [some (.ref r0), none, none, none] [] H uc us := by
  refine xs_iconstV (v := 0) rfl rfl ?_
  refine xs_istore_n rfl (L' := [some (.ref r0), some (.int 0), none, none]) rfl rfl ?_
  exact h

set_option maxRecDepth 20000 in
theorem b_MO_putPieces_10 {l : Launch} {x : xX} {d mc ms n0 uc us : Nat} {Q : xO → xH → Prop} {cl : Bool} {r0 : Nat} {v1 : Int32} {H : xH}
    (h : ∃ a1, gI H r0 12 21 a1 ∧ ((a1 ≤ v1 → xW l x d mc ms mMO_putPieces n0 Q cl 75 [some (.ref r0), some (.int v1), none, none] [.int 256, .ref r0] H uc us) ∧ (¬ a1 ≤ v1 → ∃ p2, gR H r0 12 19 p2 ∧ (∃ n3 f4, H[(p2 : Nat)]? = some (.inl (0, n3, .inl f4)) ∧ vp_in v1 n3 ∧ ((¬ (f4 v1.toNatClampNeg) = 1 → ∃ p5, gR H r0 12 19 p5 ∧ (∃ n6 f7, H[(p5 : Nat)]? = some (.inl (0, n6, .inl f7)) ∧ vp_in v1 n6 ∧ (xW l x d mc ms mMO_putPieces n0 Q cl 31 [some (.ref r0), some (.int v1), none, none] [.int (f7 v1.toNatClampNeg)] H uc us))) ∧ ((f4 v1.toNatClampNeg) = 1 → ∃ p8, gR H r0 12 20 p8 ∧ (∃ n9 f10, H[(p8 : Nat)]? = some (.inl (0, n9, .inl f10)) ∧ vp_in v1 n9 ∧ (xW l x d mc ms mMO_putPieces n0 Q cl 25 [some (.ref r0), some (.int v1), none, none] [.int (f10 v1.toNatClampNeg), .ref r0] H uc us)))))))) :
    xW l x d mc ms mMO_putPieces n0 Q cl 10 [some (.ref r0), some (.int v1), none, none] [] H uc us := by
  refine xs_iload_n rfl rfl ?_
  refine xs_aload_n rfl rfl ?_
  obtain ⟨a1, ⟨_, h1, h2⟩, h⟩ := h
  refine xs_getf rfl fl_12_242 h1 h2 ?_
  refine xs_icmp_ge (k' := 73) rfl rfl (fun hb => ?_) (fun hb => ?_)
  · have h := h.1 hb
    refine xs_aload_n rfl rfl ?_
    refine xs_sipushV (v := 256) rfl rfl ?_
    exact h
  · have h := h.2 hb
    refine xs_aload_n rfl rfl ?_
    obtain ⟨p2, ⟨_, h1, h2⟩, h⟩ := h
    refine xs_getf rfl fl_12_47 h1 h2 ?_
    refine xs_iload_n rfl rfl ?_
    obtain ⟨n3, f4, h1, h2, h⟩ := h
    refine xs_iald rfl h1 h2 ?_
    refine xs_iconstV (v := 1) rfl rfl ?_
    refine xs_icmp_ne (k' := 27) rfl rfl (fun hb => ?_) (fun hb => ?_)
    · have h := h.1 hb
      refine xs_aload_n rfl rfl ?_
      obtain ⟨p5, ⟨_, h1, h2⟩, h⟩ := h
      refine xs_getf rfl fl_12_47 h1 h2 ?_
      refine xs_iload_n rfl rfl ?_
      obtain ⟨n6, f7, h1, h2, h⟩ := h
      refine xs_iald rfl h1 h2 ?_
      exact h
    · have h := h.2 hb
      refine xs_aload_n rfl rfl ?_
      refine xs_aload_n rfl rfl ?_
      obtain ⟨p8, ⟨_, h1, h2⟩, h⟩ := h
      refine xs_getf rfl fl_12_50 h1 h2 ?_
      refine xs_iload_n rfl rfl ?_
      obtain ⟨n9, f10, h1, h2, h⟩ := h
      refine xs_iald rfl h1 h2 ?_
      exact h

set_option maxRecDepth 20000 in
theorem b_MO_putPieces_26 {l : Launch} {x : xX} {d mc ms n0 uc us : Nat} {Q : xO → xH → Prop} {cl : Bool} {r0 : Nat} {v1 : Int32} {H : xH}
    (h : xW l x d mc ms mMO_putPieces n0 Q cl 71 [some (.ref r0), some (.int v1), none, none] [] H uc us) :
    xW l x d mc ms mMO_putPieces n0 Q cl 26 [some (.ref r0), some (.int v1), none, none] [] H uc us := by
  refine xs_goto (k' := 71) rfl rfl ?_
  exact h

set_option maxRecDepth 20000 in
theorem b_MO_putPieces_32 {l : Launch} {x : xX} {d mc ms n0 uc us : Nat} {Q : xO → xH → Prop} {cl : Bool} {r0 : Nat} {v1 : Int32} {u0 : Int32} {H : xH}
    (h : ∃ p1, gR H r0 12 20 p1 ∧ (∃ n2 f3, H[(p1 : Nat)]? = some (.inl (0, n2, .inl f3)) ∧ vp_in v1 n2 ∧ (xW l x d mc ms mMO_putPieces n0 Q cl 37 [some (.ref r0), some (.int v1), some (.int u0), none] [.int (f3 v1.toNatClampNeg)] H uc us))) :
    xW l x d mc ms mMO_putPieces n0 Q cl 32 [some (.ref r0), some (.int v1), none, none] [.int u0] H uc us := by
  refine xs_istore_n rfl (L' := [some (.ref r0), some (.int v1), some (.int u0), none]) rfl rfl ?_
  refine xs_aload_n rfl rfl ?_
  obtain ⟨p1, ⟨_, h1, h2⟩, h⟩ := h
  refine xs_getf rfl fl_12_50 h1 h2 ?_
  refine xs_iload_n rfl rfl ?_
  obtain ⟨n2, f3, h1, h2, h⟩ := h
  refine xs_iald rfl h1 h2 ?_
  exact h

set_option maxRecDepth 20000 in
theorem b_MO_putPieces_38 {l : Launch} {x : xX} {d mc ms n0 uc us : Nat} {Q : xO → xH → Prop} {cl : Bool} {r0 : Nat} {v1 : Int32} {v2 : Int32} {u0 : Int32} {H : xH}
    (h : xW l x d mc ms mMO_putPieces n0 Q cl 43 [some (.ref r0), some (.int v1), some (.int v2), some (.int u0)] [.int ((257 : Int32) + v2), .ref r0] H uc us) :
    xW l x d mc ms mMO_putPieces n0 Q cl 38 [some (.ref r0), some (.int v1), some (.int v2), none] [.int u0] H uc us := by
  refine xs_istore_n rfl (L' := [some (.ref r0), some (.int v1), some (.int v2), some (.int u0)]) rfl rfl ?_
  refine xs_aload_n rfl rfl ?_
  refine xs_sipushV (v := 257) rfl rfl ?_
  refine xs_iload_n rfl rfl ?_
  refine xs_iadd rfl ?_
  exact h

set_option maxRecDepth 20000 in
theorem b_MO_putPieces_44 {l : Launch} {x : xX} {d mc ms n0 uc us : Nat} {Q : xO → xH → Prop} {cl : Bool} {r0 : Nat} {v1 : Int32} {v2 : Int32} {v3 : Int32} {H : xH}
    (h : xW l x d mc ms mMO_putPieces n0 Q cl 46 [some (.ref r0), some (.int v1), some (.int v2), some (.int v3)] [.int v2, .ref r0] H uc us) :
    xW l x d mc ms mMO_putPieces n0 Q cl 44 [some (.ref r0), some (.int v1), some (.int v2), some (.int v3)] [] H uc us := by
  refine xs_aload_n rfl rfl ?_
  refine xs_iload_n rfl rfl ?_
  exact h

set_option maxRecDepth 20000 in
theorem b_MO_putPieces_47 {l : Launch} {x : xX} {d mc ms n0 uc us : Nat} {Q : xO → xH → Prop} {cl : Bool} {r0 : Nat} {v1 : Int32} {v2 : Int32} {v3 : Int32} {q0 : Nat} {u1 : Int32} {H : xH}
    (h : ∃ p1, gR H r0 12 19 p1 ∧ (∃ n2 f3, H[(p1 : Nat)]? = some (.inl (0, n2, .inl f3)) ∧ vp_in v1 n2 ∧ (xW l x d mc ms mMO_putPieces n0 Q cl 52 [some (.ref r0), some (.int v1), some (.int v2), some (.int v3)] [.int v2, .int (f3 v1.toNatClampNeg), .int u1, .ref q0] H uc us))) :
    xW l x d mc ms mMO_putPieces n0 Q cl 47 [some (.ref r0), some (.int v1), some (.int v2), some (.int v3)] [.int u1, .ref q0] H uc us := by
  refine xs_aload_n rfl rfl ?_
  obtain ⟨p1, ⟨_, h1, h2⟩, h⟩ := h
  refine xs_getf rfl fl_12_47 h1 h2 ?_
  refine xs_iload_n rfl rfl ?_
  obtain ⟨n2, f3, h1, h2, h⟩ := h
  refine xs_iald rfl h1 h2 ?_
  refine xs_iload_n rfl rfl ?_
  exact h

set_option maxRecDepth 20000 in
theorem b_MO_putPieces_53 {l : Launch} {x : xX} {d mc ms n0 uc us : Nat} {Q : xO → xH → Prop} {cl : Bool} {r0 : Nat} {v1 : Int32} {v2 : Int32} {v3 : Int32} {q0 : Nat} {u1 : Int32} {u2 : Int32} {u3 : Int32} {H : xH}
    (h : xW l x d mc ms mMO_putPieces n0 Q cl 54 [some (.ref r0), some (.int v1), some (.int v2), some (.int v3)] [.int (u2 - u3), .int u1, .ref q0] H uc us) :
    xW l x d mc ms mMO_putPieces n0 Q cl 53 [some (.ref r0), some (.int v1), some (.int v2), some (.int v3)] [.int u3, .int u2, .int u1, .ref q0] H uc us := by
  refine xs_isub rfl ?_
  exact h

set_option maxRecDepth 20000 in
theorem b_MO_putPieces_55 {l : Launch} {x : xX} {d mc ms n0 uc us : Nat} {Q : xO → xH → Prop} {cl : Bool} {r0 : Nat} {v1 : Int32} {v2 : Int32} {v3 : Int32} {H : xH}
    (h : xW l x d mc ms mMO_putPieces n0 Q cl 59 [some (.ref r0), some (.int v1), some (.int v2), some (.int v3)] [.int ((400 : Int32) + v3), .ref r0] H uc us) :
    xW l x d mc ms mMO_putPieces n0 Q cl 55 [some (.ref r0), some (.int v1), some (.int v2), some (.int v3)] [] H uc us := by
  refine xs_aload_n rfl rfl ?_
  refine xs_sipushV (v := 400) rfl rfl ?_
  refine xs_iload_n rfl rfl ?_
  refine xs_iadd rfl ?_
  exact h

set_option maxRecDepth 20000 in
theorem b_MO_putPieces_60 {l : Launch} {x : xX} {d mc ms n0 uc us : Nat} {Q : xO → xH → Prop} {cl : Bool} {r0 : Nat} {v1 : Int32} {v2 : Int32} {v3 : Int32} {H : xH}
    (h : xW l x d mc ms mMO_putPieces n0 Q cl 62 [some (.ref r0), some (.int v1), some (.int v2), some (.int v3)] [.int v3, .ref r0] H uc us) :
    xW l x d mc ms mMO_putPieces n0 Q cl 60 [some (.ref r0), some (.int v1), some (.int v2), some (.int v3)] [] H uc us := by
  refine xs_aload_n rfl rfl ?_
  refine xs_iload_n rfl rfl ?_
  exact h

set_option maxRecDepth 20000 in
theorem b_MO_putPieces_63 {l : Launch} {x : xX} {d mc ms n0 uc us : Nat} {Q : xO → xH → Prop} {cl : Bool} {r0 : Nat} {v1 : Int32} {v2 : Int32} {v3 : Int32} {q0 : Nat} {u1 : Int32} {H : xH}
    (h : ∃ p1, gR H r0 12 20 p1 ∧ (∃ n2 f3, H[(p1 : Nat)]? = some (.inl (0, n2, .inl f3)) ∧ vp_in v1 n2 ∧ (xW l x d mc ms mMO_putPieces n0 Q cl 68 [some (.ref r0), some (.int v1), some (.int v2), some (.int v3)] [.int v3, .int (f3 v1.toNatClampNeg), .int u1, .ref q0] H uc us))) :
    xW l x d mc ms mMO_putPieces n0 Q cl 63 [some (.ref r0), some (.int v1), some (.int v2), some (.int v3)] [.int u1, .ref q0] H uc us := by
  refine xs_aload_n rfl rfl ?_
  obtain ⟨p1, ⟨_, h1, h2⟩, h⟩ := h
  refine xs_getf rfl fl_12_50 h1 h2 ?_
  refine xs_iload_n rfl rfl ?_
  obtain ⟨n2, f3, h1, h2, h⟩ := h
  refine xs_iald rfl h1 h2 ?_
  refine xs_iload_n rfl rfl ?_
  exact h

set_option maxRecDepth 20000 in
theorem b_MO_putPieces_69 {l : Launch} {x : xX} {d mc ms n0 uc us : Nat} {Q : xO → xH → Prop} {cl : Bool} {r0 : Nat} {v1 : Int32} {v2 : Int32} {v3 : Int32} {q0 : Nat} {u1 : Int32} {u2 : Int32} {u3 : Int32} {H : xH}
    (h : xW l x d mc ms mMO_putPieces n0 Q cl 70 [some (.ref r0), some (.int v1), some (.int v2), some (.int v3)] [.int (u2 - u3), .int u1, .ref q0] H uc us) :
    xW l x d mc ms mMO_putPieces n0 Q cl 69 [some (.ref r0), some (.int v1), some (.int v2), some (.int v3)] [.int u3, .int u2, .int u1, .ref q0] H uc us := by
  refine xs_isub rfl ?_
  exact h

set_option maxRecDepth 20000 in
theorem b_MO_putPieces_71 {l : Launch} {x : xX} {d mc ms n0 uc us : Nat} {Q : xO → xH → Prop} {cl : Bool} {r0 : Nat} {v1 : Int32} {H : xH}
    (h : xW l x d mc ms mMO_putPieces n0 Q cl 10 [some (.ref r0), some (.int (v1 + 1)), none, none] [] H uc us) :
    xW l x d mc ms mMO_putPieces n0 Q cl 71 [some (.ref r0), some (.int v1), none, none] [] H uc us := by
  refine xs_iincV rfl (w := 1) rfl rfl (L' := [some (.ref r0), some (.int (v1 + 1)), none, none]) rfl rfl ?_
  refine xs_goto (k' := 10) rfl rfl ?_
  exact h

set_option maxRecDepth 20000 in
theorem b_MO_putPieces_76 {l : Launch} {x : xX} {d mc ms n0 uc us : Nat} {Q : xO → xH → Prop} {cl : Bool} {r0 : Nat} {v1 : Int32} {H : xH}
    (h : uc = mc ∧ us ≤ ms ∧ Q (.inl none) H) :
    xW l x d mc ms mMO_putPieces n0 Q cl 76 [some (.ref r0), some (.int v1), none, none] [] H uc us := by
  exact xs_vret rfl rfl h.1 h.2.1 h.2.2

set_option maxRecDepth 20000 in
theorem b_MO_makeCodes_0 {l : Launch} {x : xX} {d mc ms n0 uc us : Nat} {Q : xO → xH → Prop} {cl : Bool} {r0 : Nat} {v1 : Int32} {v2 : Int32} {H : xH}
    (h : xW l x d mc ms mMO_makeCodes n0 Q cl 4 [some (.ref r0), some (.int v1), some (.int v2), some (.int 0), some (.int 1), none] [] H uc us) :
    xW l x d mc ms mMO_makeCodes n0 Q cl 0 [some (.ref r0), some (.int v1), some (.int v2), none, none, none] [] H uc us := by
  refine xs_iconstV (v := 0) rfl rfl ?_
  refine xs_istore_n rfl (L' := [some (.ref r0), some (.int v1), some (.int v2), some (.int 0), none, none]) rfl rfl ?_
  refine xs_iconstV (v := 1) rfl rfl ?_
  refine xs_istore rfl (L' := [some (.ref r0), some (.int v1), some (.int v2), some (.int 0), some (.int 1), none]) rfl rfl ?_
  exact h

set_option maxRecDepth 20000 in
theorem b_MO_makeCodes_4 {l : Launch} {x : xX} {d mc ms n0 uc us : Nat} {Q : xO → xH → Prop} {cl : Bool} {r0 : Nat} {v1 : Int32} {v2 : Int32} {v3 : Int32} {v4 : Int32} {H : xH}
    (h : (16 ≤ v4 → uc = mc ∧ us ≤ ms ∧ Q (.inl none) H) ∧ (¬ 16 ≤ v4 → xW l x d mc ms mMO_makeCodes n0 Q cl 13 [some (.ref r0), some (.int v1), some (.int v2), some (.int ((2 : Int32) * v3)), some (.int v4), some (.int 0)] [] H uc us)) :
    xW l x d mc ms mMO_makeCodes n0 Q cl 4 [some (.ref r0), some (.int v1), some (.int v2), some (.int v3), some (.int v4), none] [] H uc us := by
  refine xs_iload rfl rfl ?_
  refine xs_bipushV (v := 16) rfl rfl ?_
  refine xs_icmp_ge (k' := 36) rfl rfl (fun hb => ?_) (fun hb => ?_)
  · have h := h.1 hb
    exact xs_vret rfl rfl h.1 h.2.1 h.2.2
  · have h := h.2 hb
    refine xs_iconstV (v := 2) rfl rfl ?_
    refine xs_iload_n rfl rfl ?_
    refine xs_imul rfl ?_
    refine xs_istore_n rfl (L' := [some (.ref r0), some (.int v1), some (.int v2), some (.int ((2 : Int32) * v3)), some (.int v4), none]) rfl rfl ?_
    refine xs_iconstV (v := 0) rfl rfl ?_
    refine xs_istore rfl (L' := [some (.ref r0), some (.int v1), some (.int v2), some (.int ((2 : Int32) * v3)), some (.int v4), some (.int 0)]) rfl rfl ?_
    exact h

set_option maxRecDepth 20000 in
theorem b_MO_makeCodes_13 {l : Launch} {x : xX} {d mc ms n0 uc us : Nat} {Q : xO → xH → Prop} {cl : Bool} {r0 : Nat} {v1 : Int32} {v2 : Int32} {v3 : Int32} {v4 : Int32} {v5 : Int32} {H : xH}
    (h : (v2 ≤ v5 → xW l x d mc ms mMO_makeCodes n0 Q cl 4 [some (.ref r0), some (.int v1), some (.int v2), some (.int v3), some (.int (v4 + 1)), some (.int v5)] [] H uc us) ∧ (¬ v2 ≤ v5 → ∃ p1, gR H r0 12 17 p1 ∧ (∃ n2 f3, H[(p1 : Nat)]? = some (.inl (0, n2, .inl f3)) ∧ vp_in (v1 + v5) n2 ∧ ((¬ (f3 (v1 + v5).toNatClampNeg) = v4 → xW l x d mc ms mMO_makeCodes n0 Q cl 13 [some (.ref r0), some (.int v1), some (.int v2), some (.int v3), some (.int v4), some (.int (v5 + 1))] [] H uc us) ∧ ((f3 (v1 + v5).toNatClampNeg) = v4 → ∃ p4, gR H r0 12 23 p4 ∧ (∃ n5 f6, H[(p4 : Nat)]? = some (.inl (0, n5, .inl f6)) ∧ 2 ≤ p4 ∧ vp_in (v1 + v5) n5 ∧ (∀ H7 : xH, H7 = H.set p4 (.inl (0, n5, .inl (upd f6 ((v1 + v5).toNatClampNeg) (v3)))) → xW l x d mc ms mMO_makeCodes n0 Q false 13 [some (.ref r0), some (.int v1), some (.int v2), some (.int (v3 + 1)), some (.int v4), some (.int (v5 + 1))] [] H7 uc us))))))) :
    xW l x d mc ms mMO_makeCodes n0 Q cl 13 [some (.ref r0), some (.int v1), some (.int v2), some (.int v3), some (.int v4), some (.int v5)] [] H uc us := by
  refine xs_iload rfl rfl ?_
  refine xs_iload_n rfl rfl ?_
  refine xs_icmp_ge (k' := 34) rfl rfl (fun hb => ?_) (fun hb => ?_)
  · have h := h.1 hb
    refine xs_iincV rfl (w := 1) rfl rfl (L' := [some (.ref r0), some (.int v1), some (.int v2), some (.int v3), some (.int (v4 + 1)), some (.int v5)]) rfl rfl ?_
    refine xs_goto (k' := 4) rfl rfl ?_
    exact h
  · have h := h.2 hb
    refine xs_aload_n rfl rfl ?_
    obtain ⟨p1, ⟨_, h1, h2⟩, h⟩ := h
    refine xs_getf rfl fl_12_41 h1 h2 ?_
    refine xs_iload_n rfl rfl ?_
    refine xs_iload rfl rfl ?_
    refine xs_iadd rfl ?_
    obtain ⟨n2, f3, h1, h2, h⟩ := h
    refine xs_iald rfl h1 h2 ?_
    refine xs_iload rfl rfl ?_
    refine xs_icmp_ne (k' := 32) rfl rfl (fun hb => ?_) (fun hb => ?_)
    · have h := h.1 hb
      refine xs_iincV rfl (w := 1) rfl rfl (L' := [some (.ref r0), some (.int v1), some (.int v2), some (.int v3), some (.int v4), some (.int (v5 + 1))]) rfl rfl ?_
      refine xs_goto (k' := 13) rfl rfl ?_
      exact h
    · have h := h.2 hb
      refine xs_aload_n rfl rfl ?_
      obtain ⟨p4, ⟨_, h1, h2⟩, h⟩ := h
      refine xs_getf rfl fl_12_57 h1 h2 ?_
      refine xs_iload_n rfl rfl ?_
      refine xs_iload rfl rfl ?_
      refine xs_iadd rfl ?_
      refine xs_iload_n rfl rfl ?_
      obtain ⟨n5, f6, h1, h3, h2, h⟩ := h
      refine xs_iast rfl h1 h3 h2 ?_
      have h := h _ rfl
      generalize H.set p4 (.inl (0, n5, .inl (upd f6 ((v1 + v5).toNatClampNeg) (v3)))) = H7 at h ⊢
      refine xs_iincV rfl (w := 1) rfl rfl (L' := [some (.ref r0), some (.int v1), some (.int v2), some (.int (v3 + 1)), some (.int v4), some (.int v5)]) rfl rfl ?_
      refine xs_iincV rfl (w := 1) rfl rfl (L' := [some (.ref r0), some (.int v1), some (.int v2), some (.int (v3 + 1)), some (.int v4), some (.int (v5 + 1))]) rfl rfl ?_
      refine xs_goto (k' := 13) rfl rfl ?_
      exact h

set_option maxRecDepth 20000 in
theorem b_MO_putCode_0 {l : Launch} {x : xX} {d mc ms n0 uc us : Nat} {Q : xO → xH → Prop} {cl : Bool} {r0 : Nat} {v1 : Int32} {H : xH}
    (h : ∃ p1, gR H r0 12 17 p1 ∧ (∃ n2 f3, H[(p1 : Nat)]? = some (.inl (0, n2, .inl f3)) ∧ vp_in v1 n2 ∧ (xW l x d mc ms mMO_putCode n0 Q cl 7 [some (.ref r0), some (.int v1), some (.int ((f3 v1.toNatClampNeg) - 1))] [] H uc us))) :
    xW l x d mc ms mMO_putCode n0 Q cl 0 [some (.ref r0), some (.int v1), none] [] H uc us := by
  refine xs_aload_n rfl rfl ?_
  obtain ⟨p1, ⟨_, h1, h2⟩, h⟩ := h
  refine xs_getf rfl fl_12_41 h1 h2 ?_
  refine xs_iload_n rfl rfl ?_
  obtain ⟨n2, f3, h1, h2, h⟩ := h
  refine xs_iald rfl h1 h2 ?_
  refine xs_iconstV (v := 1) rfl rfl ?_
  refine xs_isub rfl ?_
  refine xs_istore_n rfl (L' := [some (.ref r0), some (.int v1), some (.int ((f3 v1.toNatClampNeg) - 1))]) rfl rfl ?_
  exact h

set_option maxRecDepth 20000 in
theorem b_MO_putCode_7 {l : Launch} {x : xX} {d mc ms n0 uc us : Nat} {Q : xO → xH → Prop} {cl : Bool} {r0 : Nat} {v1 : Int32} {v2 : Int32} {H : xH}
    (h : (v2 < 0 → uc = mc ∧ us ≤ ms ∧ Q (.inl none) H) ∧ (¬ v2 < 0 → ∃ p1, gR H r0 12 23 p1 ∧ (∃ n2 f3, H[(p1 : Nat)]? = some (.inl (0, n2, .inl f3)) ∧ vp_in v1 n2 ∧ (xW l x d mc ms mMO_putCode n0 Q cl 18 [some (.ref r0), some (.int v1), some (.int v2)] [.int (((f3 v1.toNatClampNeg) >>> ((v2 : Int32) &&& 31)) &&& 1), .ref r0] H uc us)))) :
    xW l x d mc ms mMO_putCode n0 Q cl 7 [some (.ref r0), some (.int v1), some (.int v2)] [] H uc us := by
  refine xs_iload_n rfl rfl ?_
  refine xs_if_lt (k' := 21) rfl rfl (fun hb => ?_) (fun hb => ?_)
  · have h := h.1 hb
    exact xs_vret rfl rfl h.1 h.2.1 h.2.2
  · have h := h.2 hb
    refine xs_aload_n rfl rfl ?_
    refine xs_aload_n rfl rfl ?_
    obtain ⟨p1, ⟨_, h1, h2⟩, h⟩ := h
    refine xs_getf rfl fl_12_57 h1 h2 ?_
    refine xs_iload_n rfl rfl ?_
    obtain ⟨n2, f3, h1, h2, h⟩ := h
    refine xs_iald rfl h1 h2 ?_
    refine xs_iload_n rfl rfl ?_
    refine xs_ishr rfl ?_
    refine xs_iconstV (v := 1) rfl rfl ?_
    refine xs_iand rfl ?_
    exact h

set_option maxRecDepth 20000 in
theorem b_MO_putCode_19 {l : Launch} {x : xX} {d mc ms n0 uc us : Nat} {Q : xO → xH → Prop} {cl : Bool} {r0 : Nat} {v1 : Int32} {v2 : Int32} {H : xH}
    (h : xW l x d mc ms mMO_putCode n0 Q cl 7 [some (.ref r0), some (.int v1), some (.int (v2 + (-1)))] [] H uc us) :
    xW l x d mc ms mMO_putCode n0 Q cl 19 [some (.ref r0), some (.int v1), some (.int v2)] [] H uc us := by
  refine xs_iincV rfl (w := (-1)) rfl rfl (L' := [some (.ref r0), some (.int v1), some (.int (v2 + (-1)))]) rfl rfl ?_
  refine xs_goto (k' := 7) rfl rfl ?_
  exact h

set_option maxRecDepth 20000 in
theorem b_MO_putPlanned_0 {l : Launch} {x : xX} {d mc ms n0 uc us : Nat} {Q : xO → xH → Prop} {cl : Bool} {r0 : Nat} {H : xH}
    (h : xW l x d mc ms mMO_putPlanned n0 Q cl 3 [some (.ref r0), none] [.int 19, .int 500, .ref r0] H uc us) :
    xW l x d mc ms mMO_putPlanned n0 Q cl 0 [some (.ref r0), none] [] H uc us := by
  refine xs_aload_n rfl rfl ?_
  refine xs_sipushV (v := 500) rfl rfl ?_
  refine xs_bipushV (v := 19) rfl rfl ?_
  exact h

set_option maxRecDepth 20000 in
theorem b_MO_putPlanned_4 {l : Launch} {x : xX} {d mc ms n0 uc us : Nat} {Q : xO → xH → Prop} {cl : Bool} {r0 : Nat} {H : xH}
    (h : ∃ a1, gI H r0 12 31 a1 ∧ (xW l x d mc ms mMO_putPlanned n0 Q cl 10 [some (.ref r0), none] [.int (a1 - 257), .int 5, .ref r0] H uc us)) :
    xW l x d mc ms mMO_putPlanned n0 Q cl 4 [some (.ref r0), none] [] H uc us := by
  refine xs_aload_n rfl rfl ?_
  refine xs_iconstV (v := 5) rfl rfl ?_
  refine xs_aload_n rfl rfl ?_
  obtain ⟨a1, ⟨_, h1, h2⟩, h⟩ := h
  refine xs_getf rfl fl_12_270 h1 h2 ?_
  refine xs_sipushV (v := 257) rfl rfl ?_
  refine xs_isub rfl ?_
  exact h

set_option maxRecDepth 20000 in
theorem b_MO_putPlanned_11 {l : Launch} {x : xX} {d mc ms n0 uc us : Nat} {Q : xO → xH → Prop} {cl : Bool} {r0 : Nat} {H : xH}
    (h : ∃ a1, gI H r0 12 32 a1 ∧ (xW l x d mc ms mMO_putPlanned n0 Q cl 17 [some (.ref r0), none] [.int (a1 - 1), .int 5, .ref r0] H uc us)) :
    xW l x d mc ms mMO_putPlanned n0 Q cl 11 [some (.ref r0), none] [] H uc us := by
  refine xs_aload_n rfl rfl ?_
  refine xs_iconstV (v := 5) rfl rfl ?_
  refine xs_aload_n rfl rfl ?_
  obtain ⟨a1, ⟨_, h1, h2⟩, h⟩ := h
  refine xs_getf rfl fl_12_273 h1 h2 ?_
  refine xs_iconstV (v := 1) rfl rfl ?_
  refine xs_isub rfl ?_
  exact h

set_option maxRecDepth 20000 in
theorem b_MO_putPlanned_18 {l : Launch} {x : xX} {d mc ms n0 uc us : Nat} {Q : xO → xH → Prop} {cl : Bool} {r0 : Nat} {H : xH}
    (h : ∃ a1, gI H r0 12 33 a1 ∧ (xW l x d mc ms mMO_putPlanned n0 Q cl 24 [some (.ref r0), none] [.int (a1 - 4), .int 4, .ref r0] H uc us)) :
    xW l x d mc ms mMO_putPlanned n0 Q cl 18 [some (.ref r0), none] [] H uc us := by
  refine xs_aload_n rfl rfl ?_
  refine xs_iconstV (v := 4) rfl rfl ?_
  refine xs_aload_n rfl rfl ?_
  obtain ⟨a1, ⟨_, h1, h2⟩, h⟩ := h
  refine xs_getf rfl fl_12_279 h1 h2 ?_
  refine xs_iconstV (v := 4) rfl rfl ?_
  refine xs_isub rfl ?_
  exact h

set_option maxRecDepth 20000 in
theorem b_MO_putPlanned_25 {l : Launch} {x : xX} {d mc ms n0 uc us : Nat} {Q : xO → xH → Prop} {cl : Bool} {r0 : Nat} {H : xH}
    (h : xW l x d mc ms mMO_putPlanned n0 Q cl 27 [some (.ref r0), some (.int 0)] [] H uc us) :
    xW l x d mc ms mMO_putPlanned n0 Q cl 25 [some (.ref r0), none] [] H uc us := by
  refine xs_iconstV (v := 0) rfl rfl ?_
  refine xs_istore_n rfl (L' := [some (.ref r0), some (.int 0)]) rfl rfl ?_
  exact h

set_option maxRecDepth 20000 in
theorem b_MO_putPlanned_27 {l : Launch} {x : xX} {d mc ms n0 uc us : Nat} {Q : xO → xH → Prop} {cl : Bool} {r0 : Nat} {v1 : Int32} {H : xH}
    (h : ∃ a1, gI H r0 12 33 a1 ∧ ((a1 ≤ v1 → xW l x d mc ms mMO_putPlanned n0 Q cl 45 [some (.ref r0), some (.int 0)] [] H uc us) ∧ (¬ a1 ≤ v1 → ∃ p2, gR H r0 12 17 p2 ∧ (xW l x d mc ms mMO_putPlanned n0 Q cl 37 [some (.ref r0), some (.int v1)] [.int v1, .int 500, .ref p2, .int 3, .ref r0] H uc us)))) :
    xW l x d mc ms mMO_putPlanned n0 Q cl 27 [some (.ref r0), some (.int v1)] [] H uc us := by
  refine xs_iload_n rfl rfl ?_
  refine xs_aload_n rfl rfl ?_
  obtain ⟨a1, ⟨_, h1, h2⟩, h⟩ := h
  refine xs_getf rfl fl_12_279 h1 h2 ?_
  refine xs_icmp_ge (k' := 43) rfl rfl (fun hb => ?_) (fun hb => ?_)
  · have h := h.1 hb
    refine xs_iconstV (v := 0) rfl rfl ?_
    refine xs_istore_n rfl (L' := [some (.ref r0), some (.int 0)]) rfl rfl ?_
    exact h
  · have h := h.2 hb
    refine xs_aload_n rfl rfl ?_
    refine xs_iconstV (v := 3) rfl rfl ?_
    refine xs_aload_n rfl rfl ?_
    obtain ⟨p2, ⟨_, h1, h2⟩, h⟩ := h
    refine xs_getf rfl fl_12_41 h1 h2 ?_
    refine xs_sipushV (v := 500) rfl rfl ?_
    refine xs_iload_n rfl rfl ?_
    exact h

set_option maxRecDepth 20000 in
theorem b_MO_putPlanned_38 {l : Launch} {x : xX} {d mc ms n0 uc us : Nat} {Q : xO → xH → Prop} {cl : Bool} {r0 : Nat} {v1 : Int32} {q0 : Nat} {u1 : Int32} {q2 : Nat} {u3 : Int32} {u4 : Int32} {H : xH}
    (h : ∃ n1 f2, H[(q2 : Nat)]? = some (.inl (0, n1, .inl f2)) ∧ vp_in (u3 + u4) n1 ∧ (xW l x d mc ms mMO_putPlanned n0 Q cl 40 [some (.ref r0), some (.int v1)] [.int (f2 (u3 + u4).toNatClampNeg), .int u1, .ref q0] H uc us)) :
    xW l x d mc ms mMO_putPlanned n0 Q cl 38 [some (.ref r0), some (.int v1)] [.int u4, .int u3, .ref q2, .int u1, .ref q0] H uc us := by
  refine xs_iadd rfl ?_
  obtain ⟨n1, f2, h1, h2, h⟩ := h
  refine xs_iald rfl h1 h2 ?_
  exact h

set_option maxRecDepth 20000 in
theorem b_MO_putPlanned_41 {l : Launch} {x : xX} {d mc ms n0 uc us : Nat} {Q : xO → xH → Prop} {cl : Bool} {r0 : Nat} {v1 : Int32} {H : xH}
    (h : xW l x d mc ms mMO_putPlanned n0 Q cl 27 [some (.ref r0), some (.int (v1 + 1))] [] H uc us) :
    xW l x d mc ms mMO_putPlanned n0 Q cl 41 [some (.ref r0), some (.int v1)] [] H uc us := by
  refine xs_iincV rfl (w := 1) rfl rfl (L' := [some (.ref r0), some (.int (v1 + 1))]) rfl rfl ?_
  refine xs_goto (k' := 27) rfl rfl ?_
  exact h

set_option maxRecDepth 20000 in
theorem b_MO_putPlanned_45 {l : Launch} {x : xX} {d mc ms n0 uc us : Nat} {Q : xO → xH → Prop} {cl : Bool} {r0 : Nat} {v1 : Int32} {H : xH}
    (h : ∃ a1, gI H r0 12 30 a1 ∧ ((a1 ≤ v1 → xW l x d mc ms mMO_putPlanned n0 Q cl 71 [some (.ref r0), some (.int v1)] [.ref r0] H uc us) ∧ (¬ a1 ≤ v1 → ∃ p2, gR H r0 12 28 p2 ∧ (∃ n3 f4, H[(p2 : Nat)]? = some (.inl (0, n3, .inl f4)) ∧ vp_in v1 n3 ∧ (xW l x d mc ms mMO_putPlanned n0 Q cl 56 [some (.ref r0), some (.int v1)] [.int ((500 : Int32) + (f4 v1.toNatClampNeg)), .ref r0] H uc us))))) :
    xW l x d mc ms mMO_putPlanned n0 Q cl 45 [some (.ref r0), some (.int v1)] [] H uc us := by
  refine xs_iload_n rfl rfl ?_
  refine xs_aload_n rfl rfl ?_
  obtain ⟨a1, ⟨_, h1, h2⟩, h⟩ := h
  refine xs_getf rfl fl_12_251 h1 h2 ?_
  refine xs_icmp_ge (k' := 70) rfl rfl (fun hb => ?_) (fun hb => ?_)
  · have h := h.1 hb
    refine xs_aload_n rfl rfl ?_
    exact h
  · have h := h.2 hb
    refine xs_aload_n rfl rfl ?_
    refine xs_sipushV (v := 500) rfl rfl ?_
    refine xs_aload_n rfl rfl ?_
    obtain ⟨p2, ⟨_, h1, h2⟩, h⟩ := h
    refine xs_getf rfl fl_12_73 h1 h2 ?_
    refine xs_iload_n rfl rfl ?_
    obtain ⟨n3, f4, h1, h2, h⟩ := h
    refine xs_iald rfl h1 h2 ?_
    refine xs_iadd rfl ?_
    exact h

set_option maxRecDepth 20000 in
theorem b_MO_putPlanned_57 {l : Launch} {x : xX} {d mc ms n0 uc us : Nat} {Q : xO → xH → Prop} {cl : Bool} {r0 : Nat} {v1 : Int32} {H : xH}
    (h : ∃ p1, gR H r0 12 28 p1 ∧ (∃ n2 f3, H[(p1 : Nat)]? = some (.inl (0, n2, .inl f3)) ∧ vp_in v1 n2 ∧ (xW l x d mc ms mMO_putPlanned n0 Q cl 62 [some (.ref r0), some (.int v1)] [.int (f3 v1.toNatClampNeg), .ref r0] H uc us))) :
    xW l x d mc ms mMO_putPlanned n0 Q cl 57 [some (.ref r0), some (.int v1)] [] H uc us := by
  refine xs_aload_n rfl rfl ?_
  refine xs_aload_n rfl rfl ?_
  obtain ⟨p1, ⟨_, h1, h2⟩, h⟩ := h
  refine xs_getf rfl fl_12_73 h1 h2 ?_
  refine xs_iload_n rfl rfl ?_
  obtain ⟨n2, f3, h1, h2, h⟩ := h
  refine xs_iald rfl h1 h2 ?_
  exact h

set_option maxRecDepth 20000 in
theorem b_MO_putPlanned_63 {l : Launch} {x : xX} {d mc ms n0 uc us : Nat} {Q : xO → xH → Prop} {cl : Bool} {r0 : Nat} {v1 : Int32} {q0 : Nat} {u1 : Int32} {H : xH}
    (h : ∃ p1, gR H r0 12 29 p1 ∧ (∃ n2 f3, H[(p1 : Nat)]? = some (.inl (0, n2, .inl f3)) ∧ vp_in v1 n2 ∧ (xW l x d mc ms mMO_putPlanned n0 Q cl 67 [some (.ref r0), some (.int v1)] [.int (f3 v1.toNatClampNeg), .int u1, .ref q0] H uc us))) :
    xW l x d mc ms mMO_putPlanned n0 Q cl 63 [some (.ref r0), some (.int v1)] [.int u1, .ref q0] H uc us := by
  refine xs_aload_n rfl rfl ?_
  obtain ⟨p1, ⟨_, h1, h2⟩, h⟩ := h
  refine xs_getf rfl fl_12_76 h1 h2 ?_
  refine xs_iload_n rfl rfl ?_
  obtain ⟨n2, f3, h1, h2, h⟩ := h
  refine xs_iald rfl h1 h2 ?_
  exact h

set_option maxRecDepth 20000 in
theorem b_MO_putPlanned_68 {l : Launch} {x : xX} {d mc ms n0 uc us : Nat} {Q : xO → xH → Prop} {cl : Bool} {r0 : Nat} {v1 : Int32} {H : xH}
    (h : xW l x d mc ms mMO_putPlanned n0 Q cl 45 [some (.ref r0), some (.int (v1 + 1))] [] H uc us) :
    xW l x d mc ms mMO_putPlanned n0 Q cl 68 [some (.ref r0), some (.int v1)] [] H uc us := by
  refine xs_iincV rfl (w := 1) rfl rfl (L' := [some (.ref r0), some (.int (v1 + 1))]) rfl rfl ?_
  refine xs_goto (k' := 45) rfl rfl ?_
  exact h

set_option maxRecDepth 20000 in
theorem b_MO_putPlanned_72 {l : Launch} {x : xX} {d mc ms n0 uc us : Nat} {Q : xO → xH → Prop} {cl : Bool} {r0 : Nat} {v1 : Int32} {H : xH}
    (h : uc = mc ∧ us ≤ ms ∧ Q (.inl none) H) :
    xW l x d mc ms mMO_putPlanned n0 Q cl 72 [some (.ref r0), some (.int v1)] [] H uc us := by
  exact xs_vret rfl rfl h.1 h.2.1 h.2.2

set_option maxRecDepth 20000 in
theorem b_MO_putFour_0 {l : Launch} {x : xX} {d mc ms n0 uc us : Nat} {Q : xO → xH → Prop} {cl : Bool} {r0 : Nat} {v1 : Int64} {H : xH}
    (h : xW l x d mc ms mMO_putFour n0 Q cl 2 [some (.ref r0), some (.long v1), none, some (.int 0)] [] H uc us) :
    xW l x d mc ms mMO_putFour n0 Q cl 0 [some (.ref r0), some (.long v1), none, none] [] H uc us := by
  refine xs_iconstV (v := 0) rfl rfl ?_
  refine xs_istore_n rfl (L' := [some (.ref r0), some (.long v1), none, some (.int 0)]) rfl rfl ?_
  exact h

set_option maxRecDepth 20000 in
theorem b_MO_putFour_2 {l : Launch} {x : xX} {d mc ms n0 uc us : Nat} {Q : xO → xH → Prop} {cl : Bool} {r0 : Nat} {v1 : Int64} {v3 : Int32} {H : xH}
    (h : (4 ≤ v3 → uc = mc ∧ us ≤ ms ∧ Q (.inl none) H) ∧ (¬ 4 ≤ v3 → xW l x d mc ms mMO_putFour n0 Q cl 15 [some (.ref r0), some (.long v1), none, some (.int v3)] [.int ((v1 >>> (((8 : Int32) * v3).toInt64 &&& 63)).toInt32 &&& 255), .int 8, .ref r0] H uc us)) :
    xW l x d mc ms mMO_putFour n0 Q cl 2 [some (.ref r0), some (.long v1), none, some (.int v3)] [] H uc us := by
  refine xs_iload_n rfl rfl ?_
  refine xs_iconstV (v := 4) rfl rfl ?_
  refine xs_icmp_ge (k' := 18) rfl rfl (fun hb => ?_) (fun hb => ?_)
  · have h := h.1 hb
    exact xs_vret rfl rfl h.1 h.2.1 h.2.2
  · have h := h.2 hb
    refine xs_aload_n rfl rfl ?_
    refine xs_bipushV (v := 8) rfl rfl ?_
    refine xs_lload_n rfl rfl ?_
    refine xs_bipushV (v := 8) rfl rfl ?_
    refine xs_iload_n rfl rfl ?_
    refine xs_imul rfl ?_
    refine xs_lshr rfl ?_
    refine xs_l2i rfl ?_
    refine xs_sipushV (v := 255) rfl rfl ?_
    refine xs_iand rfl ?_
    exact h

set_option maxRecDepth 20000 in
theorem b_MO_putFour_16 {l : Launch} {x : xX} {d mc ms n0 uc us : Nat} {Q : xO → xH → Prop} {cl : Bool} {r0 : Nat} {v1 : Int64} {v3 : Int32} {H : xH}
    (h : xW l x d mc ms mMO_putFour n0 Q cl 2 [some (.ref r0), some (.long v1), none, some (.int (v3 + 1))] [] H uc us) :
    xW l x d mc ms mMO_putFour n0 Q cl 16 [some (.ref r0), some (.long v1), none, some (.int v3)] [] H uc us := by
  refine xs_iincV rfl (w := 1) rfl rfl (L' := [some (.ref r0), some (.long v1), none, some (.int (v3 + 1))]) rfl rfl ?_
  refine xs_goto (k' := 2) rfl rfl ?_
  exact h

set_option maxRecDepth 20000 in
theorem b_MO_fault_0 {l : Launch} {x : xX} {d mc ms n0 uc us : Nat} {Q : xO → xH → Prop} {cl : Bool} {r0 : Nat} {H : xH}
    (h : ∃ c1, H[(r0 : Nat)]? = some (.inr (12, c1)) ∧ 0 < c1.length ∧ (∀ H2 : xH, H2 = H.set r0 (.inr (12, c1.set 0 (.int 0))) → ∃ a3, gI H2 r0 12 5 a3 ∧ (uc = mc ∧ us ≤ ms ∧ Q (.inl (some (.int a3))) H2))) :
    xW l x d mc ms mMO_fault n0 Q cl 0 [some (.ref r0)] [] H uc us := by
  refine xs_aload_n rfl rfl ?_
  refine xs_iconstV (v := 0) rfl rfl ?_
  obtain ⟨c1, h1, h2, h⟩ := h
  refine xs_putf rfl fl_12_79 h1 (fun q hq => by cases hq; rfl) rfl h2 ?_
  have h := h _ rfl
  generalize H.set r0 (.inr (12, c1.set 0 (.int 0))) = H2 at h ⊢
  refine xs_aload_n rfl rfl ?_
  obtain ⟨a3, ⟨_, h1, h2⟩, h⟩ := h
  refine xs_getf rfl fl_12_115 h1 h2 ?_
  exact xs_iret rfl rfl h.1 h.2.1 h.2.2

set_option maxRecDepth 20000 in
theorem b_MO_place_0 {l : Launch} {x : xX} {d mc ms n0 uc us : Nat} {Q : xO → xH → Prop} {cl : Bool} {r0 : Nat} {H : xH}
    (h : ∃ c1, H[(r0 : Nat)]? = some (.inr (12, c1)) ∧ 0 < c1.length ∧ (∀ H2 : xH, H2 = H.set r0 (.inr (12, c1.set 0 (.int 0))) → ∃ a3, gI H2 r0 12 6 a3 ∧ (uc = mc ∧ us ≤ ms ∧ Q (.inl (some (.int a3))) H2))) :
    xW l x d mc ms mMO_place n0 Q cl 0 [some (.ref r0)] [] H uc us := by
  refine xs_aload_n rfl rfl ?_
  refine xs_iconstV (v := 0) rfl rfl ?_
  obtain ⟨c1, h1, h2, h⟩ := h
  refine xs_putf rfl fl_12_79 h1 (fun q hq => by cases hq; rfl) rfl h2 ?_
  have h := h _ rfl
  generalize H.set r0 (.inr (12, c1.set 0 (.int 0))) = H2 at h ⊢
  refine xs_aload_n rfl rfl ?_
  obtain ⟨a3, ⟨_, h1, h2⟩, h⟩ := h
  refine xs_getf rfl fl_12_18 h1 h2 ?_
  exact xs_iret rfl rfl h.1 h.2.1 h.2.2

set_option maxRecDepth 20000 in
theorem b_MO_size_0 {l : Launch} {x : xX} {d mc ms n0 uc us : Nat} {Q : xO → xH → Prop} {cl : Bool} {r0 : Nat} {H : xH}
    (h : ∃ c1, H[(r0 : Nat)]? = some (.inr (12, c1)) ∧ 0 < c1.length ∧ (∀ H2 : xH, H2 = H.set r0 (.inr (12, c1.set 0 (.int 0))) → ∃ a3, gI H2 r0 12 4 a3 ∧ (uc = mc ∧ us ≤ ms ∧ Q (.inl (some (.int a3))) H2))) :
    xW l x d mc ms mMO_size n0 Q cl 0 [some (.ref r0)] [] H uc us := by
  refine xs_aload_n rfl rfl ?_
  refine xs_iconstV (v := 0) rfl rfl ?_
  obtain ⟨c1, h1, h2, h⟩ := h
  refine xs_putf rfl fl_12_79 h1 (fun q hq => by cases hq; rfl) rfl h2 ?_
  have h := h _ rfl
  generalize H.set r0 (.inr (12, c1.set 0 (.int 0))) = H2 at h ⊢
  refine xs_aload_n rfl rfl ?_
  obtain ⟨a3, ⟨_, h1, h2⟩, h⟩ := h
  refine xs_getf rfl fl_12_146 h1 h2 ?_
  exact xs_iret rfl rfl h.1 h.2.1 h.2.2

set_option maxRecDepth 20000 in
theorem b_MO_out_0 {l : Launch} {x : xX} {d mc ms n0 uc us : Nat} {Q : xO → xH → Prop} {cl : Bool} {r0 : Nat} {v1 : Int32} {H : xH}
    (h : (v1 < 0 → ∃ c1, H[(r0 : Nat)]? = some (.inr (12, c1)) ∧ 0 < c1.length ∧ (∀ H2 : xH, H2 = H.set r0 (.inr (12, c1.set 0 (.int 1))) → ∃ a3, gI H2 r0 12 0 a3 ∧ ((a3 ≤ 0 → ∃ p4, gR H2 r0 12 3 p4 ∧ (∃ n5 f6, H2[(p4 : Nat)]? = some (.inl (1, n5, .inl f6)) ∧ vp_in v1 n5 ∧ (uc = mc ∧ us ≤ ms ∧ Q (.inl (some (.int ((f6 v1.toNatClampNeg) &&& 255)))) H2))) ∧ (¬ a3 ≤ 0 → uc = mc ∧ us ≤ ms ∧ Q (.inl (some (.int 0))) H2)))) ∧ (¬ v1 < 0 → ∃ a7, gI H r0 12 4 a7 ∧ ((v1 < a7 → ∃ c8, H[(r0 : Nat)]? = some (.inr (12, c8)) ∧ 0 < c8.length ∧ (∀ H9 : xH, H9 = H.set r0 (.inr (12, c8.set 0 (.int 0))) → ∃ a10, gI H9 r0 12 0 a10 ∧ ((a10 ≤ 0 → ∃ p11, gR H9 r0 12 3 p11 ∧ (∃ n12 f13, H9[(p11 : Nat)]? = some (.inl (1, n12, .inl f13)) ∧ vp_in v1 n12 ∧ (uc = mc ∧ us ≤ ms ∧ Q (.inl (some (.int ((f13 v1.toNatClampNeg) &&& 255)))) H9))) ∧ (¬ a10 ≤ 0 → uc = mc ∧ us ≤ ms ∧ Q (.inl (some (.int 0))) H9)))) ∧ (¬ v1 < a7 → ∃ c14, H[(r0 : Nat)]? = some (.inr (12, c14)) ∧ 0 < c14.length ∧ (∀ H15 : xH, H15 = H.set r0 (.inr (12, c14.set 0 (.int 1))) → ∃ a16, gI H15 r0 12 0 a16 ∧ ((a16 ≤ 0 → ∃ p17, gR H15 r0 12 3 p17 ∧ (∃ n18 f19, H15[(p17 : Nat)]? = some (.inl (1, n18, .inl f19)) ∧ vp_in v1 n18 ∧ (uc = mc ∧ us ≤ ms ∧ Q (.inl (some (.int ((f19 v1.toNatClampNeg) &&& 255)))) H15))) ∧ (¬ a16 ≤ 0 → uc = mc ∧ us ≤ ms ∧ Q (.inl (some (.int 0))) H15))))))) :
    xW l x d mc ms mMO_out n0 Q cl 0 [some (.ref r0), some (.int v1)] [] H uc us := by
  refine xs_aload_n rfl rfl ?_
  refine xs_iload_n rfl rfl ?_
  refine xs_if_lt (k' := 7) rfl rfl (fun hb => ?_) (fun hb => ?_)
  · have h := h.1 hb
    refine xs_iconstV (v := 1) rfl rfl ?_
    refine xs_goto (k' := 10) rfl rfl ?_
    obtain ⟨c1, h1, h2, h⟩ := h
    refine xs_putf rfl fl_12_79 h1 (fun q hq => by cases hq; rfl) rfl h2 ?_
    have h := h _ rfl
    generalize H.set r0 (.inr (12, c1.set 0 (.int 1))) = H2 at h ⊢
    refine xs_aload_n rfl rfl ?_
    obtain ⟨a3, ⟨_, h1, h2⟩, h⟩ := h
    refine xs_getf rfl fl_12_79 h1 h2 ?_
    refine xs_if_le (k' := 16) rfl rfl (fun hb => ?_) (fun hb => ?_)
    · have h := h.1 hb
      refine xs_aload_n rfl rfl ?_
      obtain ⟨p4, ⟨_, h1, h2⟩, h⟩ := h
      refine xs_getf rfl fl_12_15 h1 h2 ?_
      refine xs_iload_n rfl rfl ?_
      obtain ⟨n5, f6, h1, h2, h⟩ := h
      refine xs_bald rfl h1 h2 ?_
      refine xs_sipushV (v := 255) rfl rfl ?_
      refine xs_iand rfl ?_
      exact xs_iret rfl rfl h.1 h.2.1 h.2.2
    · have h := h.2 hb
      refine xs_iconstV (v := 0) rfl rfl ?_
      refine xs_goto (k' := 22) rfl rfl ?_
      exact xs_iret rfl rfl h.1 h.2.1 h.2.2
  · have h := h.2 hb
    refine xs_iload_n rfl rfl ?_
    refine xs_aload_n rfl rfl ?_
    obtain ⟨a7, ⟨_, h1, h2⟩, h⟩ := h
    refine xs_getf rfl fl_12_146 h1 h2 ?_
    refine xs_icmp_lt (k' := 9) rfl rfl (fun hb => ?_) (fun hb => ?_)
    · have h := h.1 hb
      refine xs_iconstV (v := 0) rfl rfl ?_
      obtain ⟨c8, h1, h2, h⟩ := h
      refine xs_putf rfl fl_12_79 h1 (fun q hq => by cases hq; rfl) rfl h2 ?_
      have h := h _ rfl
      generalize H.set r0 (.inr (12, c8.set 0 (.int 0))) = H9 at h ⊢
      refine xs_aload_n rfl rfl ?_
      obtain ⟨a10, ⟨_, h1, h2⟩, h⟩ := h
      refine xs_getf rfl fl_12_79 h1 h2 ?_
      refine xs_if_le (k' := 16) rfl rfl (fun hb => ?_) (fun hb => ?_)
      · have h := h.1 hb
        refine xs_aload_n rfl rfl ?_
        obtain ⟨p11, ⟨_, h1, h2⟩, h⟩ := h
        refine xs_getf rfl fl_12_15 h1 h2 ?_
        refine xs_iload_n rfl rfl ?_
        obtain ⟨n12, f13, h1, h2, h⟩ := h
        refine xs_bald rfl h1 h2 ?_
        refine xs_sipushV (v := 255) rfl rfl ?_
        refine xs_iand rfl ?_
        exact xs_iret rfl rfl h.1 h.2.1 h.2.2
      · have h := h.2 hb
        refine xs_iconstV (v := 0) rfl rfl ?_
        refine xs_goto (k' := 22) rfl rfl ?_
        exact xs_iret rfl rfl h.1 h.2.1 h.2.2
    · have h := h.2 hb
      refine xs_iconstV (v := 1) rfl rfl ?_
      refine xs_goto (k' := 10) rfl rfl ?_
      obtain ⟨c14, h1, h2, h⟩ := h
      refine xs_putf rfl fl_12_79 h1 (fun q hq => by cases hq; rfl) rfl h2 ?_
      have h := h _ rfl
      generalize H.set r0 (.inr (12, c14.set 0 (.int 1))) = H15 at h ⊢
      refine xs_aload_n rfl rfl ?_
      obtain ⟨a16, ⟨_, h1, h2⟩, h⟩ := h
      refine xs_getf rfl fl_12_79 h1 h2 ?_
      refine xs_if_le (k' := 16) rfl rfl (fun hb => ?_) (fun hb => ?_)
      · have h := h.1 hb
        refine xs_aload_n rfl rfl ?_
        obtain ⟨p17, ⟨_, h1, h2⟩, h⟩ := h
        refine xs_getf rfl fl_12_15 h1 h2 ?_
        refine xs_iload_n rfl rfl ?_
        obtain ⟨n18, f19, h1, h2, h⟩ := h
        refine xs_bald rfl h1 h2 ?_
        refine xs_sipushV (v := 255) rfl rfl ?_
        refine xs_iand rfl ?_
        exact xs_iret rfl rfl h.1 h.2.1 h.2.2
      · have h := h.2 hb
        refine xs_iconstV (v := 0) rfl rfl ?_
        refine xs_goto (k' := 22) rfl rfl ?_
        exact xs_iret rfl rfl h.1 h.2.1 h.2.2

set_option maxRecDepth 20000 in
theorem b_MO_turn_0 {l : Launch} {x : xX} {d mc ms n0 uc us : Nat} {Q : xO → xH → Prop} {cl : Bool} {r0 : Nat} {H : xH}
    (h : ∃ a1, gI H r0 12 4 a1 ∧ ((a1 ≤ 32768 → ∃ c2, H[(r0 : Nat)]? = some (.inr (12, c2)) ∧ 0 < c2.length ∧ (∀ H3 : xH, H3 = H.set r0 (.inr (12, c2.set 0 (.int 0))) → ∃ a4, gI H3 r0 12 0 a4 ∧ ((a4 ≤ 0 → xW l x d mc ms mMO_turn n0 Q false 16 [some (.ref r0), some (.int 0)] [] H3 uc us) ∧ (¬ a4 ≤ 0 → uc = mc ∧ us ≤ ms ∧ Q (.inl (some (.int 0))) H3)))) ∧ (¬ a1 ≤ 32768 → ∃ c5, H[(r0 : Nat)]? = some (.inr (12, c5)) ∧ 0 < c5.length ∧ (∀ H6 : xH, H6 = H.set r0 (.inr (12, c5.set 0 (.int 1))) → ∃ a7, gI H6 r0 12 0 a7 ∧ ((a7 ≤ 0 → xW l x d mc ms mMO_turn n0 Q false 16 [some (.ref r0), some (.int 0)] [] H6 uc us) ∧ (¬ a7 ≤ 0 → uc = mc ∧ us ≤ ms ∧ Q (.inl (some (.int 0))) H6)))))) :
    xW l x d mc ms mMO_turn n0 Q cl 0 [some (.ref r0), none] [] H uc us := by
  refine xs_aload_n rfl rfl ?_
  refine xs_aload_n rfl rfl ?_
  obtain ⟨a1, ⟨_, h1, h2⟩, h⟩ := h
  refine xs_getf rfl fl_12_146 h1 h2 ?_
  refine xs_ldc rfl kc_12_7 ?_
  refine xs_icmp_le (k' := 7) rfl rfl (fun hb => ?_) (fun hb => ?_)
  · have h := h.1 hb
    refine xs_iconstV (v := 0) rfl rfl ?_
    obtain ⟨c2, h1, h2, h⟩ := h
    refine xs_putf rfl fl_12_79 h1 (fun q hq => by cases hq; rfl) rfl h2 ?_
    have h := h _ rfl
    generalize H.set r0 (.inr (12, c2.set 0 (.int 0))) = H3 at h ⊢
    refine xs_aload_n rfl rfl ?_
    obtain ⟨a4, ⟨_, h1, h2⟩, h⟩ := h
    refine xs_getf rfl fl_12_79 h1 h2 ?_
    refine xs_if_le (k' := 14) rfl rfl (fun hb => ?_) (fun hb => ?_)
    · have h := h.1 hb
      refine xs_iconstV (v := 0) rfl rfl ?_
      refine xs_istore_n rfl (L' := [some (.ref r0), some (.int 0)]) rfl rfl ?_
      exact h
    · have h := h.2 hb
      refine xs_iconstV (v := 0) rfl rfl ?_
      exact xs_iret rfl rfl h.1 h.2.1 h.2.2
  · have h := h.2 hb
    refine xs_iconstV (v := 1) rfl rfl ?_
    refine xs_goto (k' := 8) rfl rfl ?_
    obtain ⟨c5, h1, h2, h⟩ := h
    refine xs_putf rfl fl_12_79 h1 (fun q hq => by cases hq; rfl) rfl h2 ?_
    have h := h _ rfl
    generalize H.set r0 (.inr (12, c5.set 0 (.int 1))) = H6 at h ⊢
    refine xs_aload_n rfl rfl ?_
    obtain ⟨a7, ⟨_, h1, h2⟩, h⟩ := h
    refine xs_getf rfl fl_12_79 h1 h2 ?_
    refine xs_if_le (k' := 14) rfl rfl (fun hb => ?_) (fun hb => ?_)
    · have h := h.1 hb
      refine xs_iconstV (v := 0) rfl rfl ?_
      refine xs_istore_n rfl (L' := [some (.ref r0), some (.int 0)]) rfl rfl ?_
      exact h
    · have h := h.2 hb
      refine xs_iconstV (v := 0) rfl rfl ?_
      exact xs_iret rfl rfl h.1 h.2.1 h.2.2

set_option maxRecDepth 20000 in
theorem b_MO_turn_16 {l : Launch} {x : xX} {d mc ms n0 uc us : Nat} {Q : xO → xH → Prop} {cl : Bool} {r0 : Nat} {v1 : Int32} {H : xH}
    (h : ∃ a1, gI H r0 12 4 a1 ∧ ((a1 ≤ v1 → ∃ a2, gI H r0 12 4 a2 ∧ (∃ c3, H[(r0 : Nat)]? = some (.inr (12, c3)) ∧ 2 < c3.length ∧ (∀ H4 : xH, H4 = H.set r0 (.inr (12, c3.set 2 (.int a2))) → ∃ a5, gI H4 r0 12 2 a5 ∧ (uc = mc ∧ us ≤ ms ∧ Q (.inl (some (.int a5))) H4)))) ∧ (¬ a1 ≤ v1 → ∃ p6, gR H r0 12 1 p6 ∧ (∃ p7, gR H r0 12 3 p7 ∧ (∃ n8 f9, H[(p7 : Nat)]? = some (.inl (1, n8, .inl f9)) ∧ vp_in v1 n8 ∧ (∃ n10 f11, H[(p6 : Nat)]? = some (.inl (1, n10, .inl f11)) ∧ vp_in v1 n10 ∧ (∀ H12 : xH, H12 = H.set p6 (.inl (1, n10, .inl (upd f11 (v1.toNatClampNeg) (vp_nar .byte ((f9 v1.toNatClampNeg)))))) → xW l x d mc ms mMO_turn n0 Q false 16 [some (.ref r0), some (.int (v1 + 1))] [] H12 uc us))))))) :
    xW l x d mc ms mMO_turn n0 Q cl 16 [some (.ref r0), some (.int v1)] [] H uc us := by
  refine xs_iload_n rfl rfl ?_
  refine xs_aload_n rfl rfl ?_
  obtain ⟨a1, ⟨_, h1, h2⟩, h⟩ := h
  refine xs_getf rfl fl_12_146 h1 h2 ?_
  refine xs_icmp_ge (k' := 30) rfl rfl (fun hb => ?_) (fun hb => ?_)
  · have h := h.1 hb
    refine xs_aload_n rfl rfl ?_
    refine xs_aload_n rfl rfl ?_
    obtain ⟨a2, ⟨_, h1, h2⟩, h⟩ := h
    refine xs_getf rfl fl_12_146 h1 h2 ?_
    obtain ⟨c3, h1, h2, h⟩ := h
    refine xs_putf rfl fl_12_82 h1 (fun q hq => by cases hq; rfl) rfl h2 ?_
    have h := h _ rfl
    generalize H.set r0 (.inr (12, c3.set 2 (.int a2))) = H4 at h ⊢
    refine xs_aload_n rfl rfl ?_
    obtain ⟨a5, ⟨_, h1, h2⟩, h⟩ := h
    refine xs_getf rfl fl_12_82 h1 h2 ?_
    exact xs_iret rfl rfl h.1 h.2.1 h.2.2
  · have h := h.2 hb
    refine xs_aload_n rfl rfl ?_
    obtain ⟨p6, ⟨_, h1, h2⟩, h⟩ := h
    refine xs_getf rfl fl_12_8 h1 h2 ?_
    refine xs_iload_n rfl rfl ?_
    refine xs_aload_n rfl rfl ?_
    obtain ⟨p7, ⟨_, h1, h2⟩, h⟩ := h
    refine xs_getf rfl fl_12_15 h1 h2 ?_
    refine xs_iload_n rfl rfl ?_
    obtain ⟨n8, f9, h1, h2, h⟩ := h
    refine xs_bald rfl h1 h2 ?_
    obtain ⟨n10, f11, h1, h2, h⟩ := h
    refine xs_bast rfl h1 h2 ?_
    have h := h _ rfl
    generalize H.set p6 (.inl (1, n10, .inl (upd f11 (v1.toNatClampNeg) (vp_nar .byte ((f9 v1.toNatClampNeg)))))) = H12 at h ⊢
    refine xs_iincV rfl (w := 1) rfl rfl (L' := [some (.ref r0), some (.int (v1 + 1))]) rfl rfl ?_
    refine xs_goto (k' := 16) rfl rfl ?_
    exact h

set_option maxRecDepth 20000 in
theorem b_MO_blocks_0 {l : Launch} {x : xX} {d mc ms n0 uc us : Nat} {Q : xO → xH → Prop} {cl : Bool} {r0 : Nat} {H : xH}
    (h : ∃ c1, H[(r0 : Nat)]? = some (.inr (12, c1)) ∧ 0 < c1.length ∧ (∀ H2 : xH, H2 = H.set r0 (.inr (12, c1.set 0 (.int 0))) → ∃ a3, gI H2 r0 12 7 a3 ∧ (uc = mc ∧ us ≤ ms ∧ Q (.inl (some (.int a3))) H2))) :
    xW l x d mc ms mMO_blocks n0 Q cl 0 [some (.ref r0)] [] H uc us := by
  refine xs_aload_n rfl rfl ?_
  refine xs_iconstV (v := 0) rfl rfl ?_
  obtain ⟨c1, h1, h2, h⟩ := h
  refine xs_putf rfl fl_12_79 h1 (fun q hq => by cases hq; rfl) rfl h2 ?_
  have h := h _ rfl
  generalize H.set r0 (.inr (12, c1.set 0 (.int 0))) = H2 at h ⊢
  refine xs_aload_n rfl rfl ?_
  obtain ⟨a3, ⟨_, h1, h2⟩, h⟩ := h
  refine xs_getf rfl fl_12_171 h1 h2 ?_
  exact xs_iret rfl rfl h.1 h.2.1 h.2.2

set_option maxRecDepth 20000 in
theorem b_MO_block_0 {l : Launch} {x : xX} {d mc ms n0 uc us : Nat} {Q : xO → xH → Prop} {cl : Bool} {r0 : Nat} {v1 : Int32} {v2 : Int32} {H : xH}
    (h : (v1 < 0 → xW l x d mc ms mMO_block n0 Q cl 20 [some (.ref r0), some (.int v1), some (.int v2)] [.int 1, .ref r0] H uc us) ∧ (¬ v1 < 0 → ∃ a1, gI H r0 12 7 a1 ∧ ((a1 ≤ v1 → xW l x d mc ms mMO_block n0 Q cl 20 [some (.ref r0), some (.int v1), some (.int v2)] [.int 1, .ref r0] H uc us) ∧ (¬ a1 ≤ v1 → (v1 ≤ 63 → (v2 < 0 → xW l x d mc ms mMO_block n0 Q cl 20 [some (.ref r0), some (.int v1), some (.int v2)] [.int 2, .ref r0] H uc us) ∧ (¬ v2 < 0 → (v2 ≤ 3 → xW l x d mc ms mMO_block n0 Q cl 20 [some (.ref r0), some (.int v1), some (.int v2)] [.int 0, .ref r0] H uc us) ∧ (¬ v2 ≤ 3 → xW l x d mc ms mMO_block n0 Q cl 20 [some (.ref r0), some (.int v1), some (.int v2)] [.int 2, .ref r0] H uc us))) ∧ (¬ v1 ≤ 63 → xW l x d mc ms mMO_block n0 Q cl 20 [some (.ref r0), some (.int v1), some (.int v2)] [.int 1, .ref r0] H uc us))))) :
    xW l x d mc ms mMO_block n0 Q cl 0 [some (.ref r0), some (.int v1), some (.int v2)] [] H uc us := by
  refine xs_aload_n rfl rfl ?_
  refine xs_iload_n rfl rfl ?_
  refine xs_if_lt (k' := 10) rfl rfl (fun hb => ?_) (fun hb => ?_)
  · have h := h.1 hb
    refine xs_iconstV (v := 1) rfl rfl ?_
    refine xs_goto (k' := 20) rfl rfl ?_
    exact h
  · have h := h.2 hb
    refine xs_iload_n rfl rfl ?_
    refine xs_aload_n rfl rfl ?_
    obtain ⟨a1, ⟨_, h1, h2⟩, h⟩ := h
    refine xs_getf rfl fl_12_171 h1 h2 ?_
    refine xs_icmp_ge (k' := 10) rfl rfl (fun hb => ?_) (fun hb => ?_)
    · have h := h.1 hb
      refine xs_iconstV (v := 1) rfl rfl ?_
      refine xs_goto (k' := 20) rfl rfl ?_
      exact h
    · have h := h.2 hb
      refine xs_iload_n rfl rfl ?_
      refine xs_bipushV (v := 63) rfl rfl ?_
      refine xs_icmp_le (k' := 12) rfl rfl (fun hb => ?_) (fun hb => ?_)
      · have h := h.1 hb
        refine xs_iload_n rfl rfl ?_
        refine xs_if_lt (k' := 17) rfl rfl (fun hb => ?_) (fun hb => ?_)
        · have h := h.1 hb
          refine xs_iconstV (v := 2) rfl rfl ?_
          refine xs_goto (k' := 20) rfl rfl ?_
          exact h
        · have h := h.2 hb
          refine xs_iload_n rfl rfl ?_
          refine xs_iconstV (v := 3) rfl rfl ?_
          refine xs_icmp_le (k' := 19) rfl rfl (fun hb => ?_) (fun hb => ?_)
          · have h := h.1 hb
            refine xs_iconstV (v := 0) rfl rfl ?_
            exact h
          · have h := h.2 hb
            refine xs_iconstV (v := 2) rfl rfl ?_
            refine xs_goto (k' := 20) rfl rfl ?_
            exact h
      · have h := h.2 hb
        refine xs_iconstV (v := 1) rfl rfl ?_
        refine xs_goto (k' := 20) rfl rfl ?_
        exact h

set_option maxRecDepth 20000 in
theorem b_MO_block_20 {l : Launch} {x : xX} {d mc ms n0 uc us : Nat} {Q : xO → xH → Prop} {cl : Bool} {r0 : Nat} {v1 : Int32} {v2 : Int32} {q0 : Nat} {u1 : Int32} {H : xH}
    (h : ∃ c1, H[(q0 : Nat)]? = some (.inr (12, c1)) ∧ 0 < c1.length ∧ (∀ H2 : xH, H2 = H.set q0 (.inr (12, c1.set 0 (.int u1))) → ∃ a3, gI H2 r0 12 0 a3 ∧ ((a3 ≤ 0 → (¬ v2 = 0 → (¬ v2 = 1 → (¬ v2 = 2 → ∃ p4, gR H2 r0 12 12 p4 ∧ (∃ n5 f6, H2[(p4 : Nat)]? = some (.inl (0, n5, .inl f6)) ∧ vp_in v1 n5 ∧ (xW l x d mc ms mMO_block n0 Q false 53 [some (.ref r0), some (.int v1), some (.int v2)] [.int (f6 v1.toNatClampNeg)] H2 uc us))) ∧ (v2 = 2 → ∃ p7, gR H2 r0 12 11 p7 ∧ (∃ n8 f9, H2[(p7 : Nat)]? = some (.inl (0, n8, .inl f9)) ∧ vp_in v1 n8 ∧ (xW l x d mc ms mMO_block n0 Q false 53 [some (.ref r0), some (.int v1), some (.int v2)] [.int (f9 v1.toNatClampNeg)] H2 uc us)))) ∧ (v2 = 1 → ∃ p10, gR H2 r0 12 10 p10 ∧ (∃ n11 f12, H2[(p10 : Nat)]? = some (.inl (0, n11, .inl f12)) ∧ vp_in v1 n11 ∧ (xW l x d mc ms mMO_block n0 Q false 53 [some (.ref r0), some (.int v1), some (.int v2)] [.int (f12 v1.toNatClampNeg)] H2 uc us)))) ∧ (v2 = 0 → ∃ p13, gR H2 r0 12 9 p13 ∧ (∃ n14 f15, H2[(p13 : Nat)]? = some (.inl (0, n14, .inl f15)) ∧ vp_in v1 n14 ∧ (xW l x d mc ms mMO_block n0 Q false 53 [some (.ref r0), some (.int v1), some (.int v2)] [.int (f15 v1.toNatClampNeg)] H2 uc us)))) ∧ (¬ a3 ≤ 0 → uc = mc ∧ us ≤ ms ∧ Q (.inl (some (.int 0))) H2)))) :
    xW l x d mc ms mMO_block n0 Q cl 20 [some (.ref r0), some (.int v1), some (.int v2)] [.int u1, .ref q0] H uc us := by
  obtain ⟨c1, h1, h2, h⟩ := h
  refine xs_putf rfl fl_12_79 h1 (fun q hq => by cases hq; rfl) rfl h2 ?_
  have h := h _ rfl
  generalize H.set q0 (.inr (12, c1.set 0 (.int u1))) = H2 at h ⊢
  refine xs_aload_n rfl rfl ?_
  obtain ⟨a3, ⟨_, h1, h2⟩, h⟩ := h
  refine xs_getf rfl fl_12_79 h1 h2 ?_
  refine xs_if_le (k' := 26) rfl rfl (fun hb => ?_) (fun hb => ?_)
  · have h := h.1 hb
    refine xs_iload_n rfl rfl ?_
    refine xs_if_ne (k' := 33) rfl rfl (fun hb => ?_) (fun hb => ?_)
    · have h := h.1 hb
      refine xs_iload_n rfl rfl ?_
      refine xs_iconstV (v := 1) rfl rfl ?_
      refine xs_icmp_ne (k' := 41) rfl rfl (fun hb => ?_) (fun hb => ?_)
      · have h := h.1 hb
        refine xs_iload_n rfl rfl ?_
        refine xs_iconstV (v := 2) rfl rfl ?_
        refine xs_icmp_ne (k' := 49) rfl rfl (fun hb => ?_) (fun hb => ?_)
        · have h := h.1 hb
          refine xs_aload_n rfl rfl ?_
          obtain ⟨p4, ⟨_, h1, h2⟩, h⟩ := h
          refine xs_getf rfl fl_12_32 h1 h2 ?_
          refine xs_iload_n rfl rfl ?_
          obtain ⟨n5, f6, h1, h2, h⟩ := h
          refine xs_iald rfl h1 h2 ?_
          exact h
        · have h := h.2 hb
          refine xs_aload_n rfl rfl ?_
          obtain ⟨p7, ⟨_, h1, h2⟩, h⟩ := h
          refine xs_getf rfl fl_12_29 h1 h2 ?_
          refine xs_iload_n rfl rfl ?_
          obtain ⟨n8, f9, h1, h2, h⟩ := h
          refine xs_iald rfl h1 h2 ?_
          refine xs_goto (k' := 53) rfl rfl ?_
          exact h
      · have h := h.2 hb
        refine xs_aload_n rfl rfl ?_
        obtain ⟨p10, ⟨_, h1, h2⟩, h⟩ := h
        refine xs_getf rfl fl_12_26 h1 h2 ?_
        refine xs_iload_n rfl rfl ?_
        obtain ⟨n11, f12, h1, h2, h⟩ := h
        refine xs_iald rfl h1 h2 ?_
        refine xs_goto (k' := 53) rfl rfl ?_
        exact h
    · have h := h.2 hb
      refine xs_aload_n rfl rfl ?_
      obtain ⟨p13, ⟨_, h1, h2⟩, h⟩ := h
      refine xs_getf rfl fl_12_22 h1 h2 ?_
      refine xs_iload_n rfl rfl ?_
      obtain ⟨n14, f15, h1, h2, h⟩ := h
      refine xs_iald rfl h1 h2 ?_
      refine xs_goto (k' := 53) rfl rfl ?_
      exact h
  · have h := h.2 hb
    refine xs_iconstV (v := 0) rfl rfl ?_
    exact xs_iret rfl rfl h.1 h.2.1 h.2.2

set_option maxRecDepth 20000 in
theorem b_MO_block_53 {l : Launch} {x : xX} {d mc ms n0 uc us : Nat} {Q : xO → xH → Prop} {cl : Bool} {r0 : Nat} {v1 : Int32} {v2 : Int32} {u0 : Int32} {H : xH}
    (h : uc = mc ∧ us ≤ ms ∧ Q (.inl (some (.int u0))) H) :
    xW l x d mc ms mMO_block n0 Q cl 53 [some (.ref r0), some (.int v1), some (.int v2)] [.int u0] H uc us := by
  exact xs_iret rfl rfl h.1 h.2.1 h.2.2

set_option maxRecDepth 20000 in
theorem b_MO_stretches_0 {l : Launch} {x : xX} {d mc ms n0 uc us : Nat} {Q : xO → xH → Prop} {cl : Bool} {r0 : Nat} {H : xH}
    (h : ∃ c1, H[(r0 : Nat)]? = some (.inr (12, c1)) ∧ 0 < c1.length ∧ (∀ H2 : xH, H2 = H.set r0 (.inr (12, c1.set 0 (.int 0))) → ∃ a3, gI H2 r0 12 8 a3 ∧ (uc = mc ∧ us ≤ ms ∧ Q (.inl (some (.int a3))) H2))) :
    xW l x d mc ms mMO_stretches n0 Q cl 0 [some (.ref r0)] [] H uc us := by
  refine xs_aload_n rfl rfl ?_
  refine xs_iconstV (v := 0) rfl rfl ?_
  obtain ⟨c1, h1, h2, h⟩ := h
  refine xs_putf rfl fl_12_79 h1 (fun q hq => by cases hq; rfl) rfl h2 ?_
  have h := h _ rfl
  generalize H.set r0 (.inr (12, c1.set 0 (.int 0))) = H2 at h ⊢
  refine xs_aload_n rfl rfl ?_
  obtain ⟨a3, ⟨_, h1, h2⟩, h⟩ := h
  refine xs_getf rfl fl_12_164 h1 h2 ?_
  exact xs_iret rfl rfl h.1 h.2.1 h.2.2

