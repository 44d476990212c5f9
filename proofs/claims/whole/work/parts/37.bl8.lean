set_option maxRecDepth 20000 in
theorem b_AR_rangeCheck_0 {l : Launch} {x : xX} {d mc ms n0 uc us : Nat} {Q : xO → xH → Prop} {cl : Bool} {v0 : Int32} {v1 : Int32} {v2 : Int32} {H : xH}
    (h : (v1 ≤ v2 → (0 ≤ v1 → (v2 ≤ v0 → uc = mc ∧ us ≤ ms ∧ Q (.inl none) H) ∧ (¬ v2 ≤ v0 → xW l x d mc ms mAR_rangeCheck n0 Q cl 31 [some (.int v0), some (.int v1), some (.int v2)] [] H uc us)) ∧ (¬ 0 ≤ v1 → xW l x d mc ms mAR_rangeCheck n0 Q cl 23 [some (.int v0), some (.int v1), some (.int v2)] [] H uc us)) ∧ (¬ v1 ≤ v2 → xW l x d mc ms mAR_rangeCheck n0 Q cl 3 [some (.int v0), some (.int v1), some (.int v2)] [] H uc us)) :
    xW l x d mc ms mAR_rangeCheck n0 Q cl 0 [some (.int v0), some (.int v1), some (.int v2)] [] H uc us := by
  refine xs_iload_n rfl rfl ?_
  refine xs_iload_n rfl rfl ?_
  refine xs_icmp_le (k' := 21) rfl rfl (fun hb => ?_) (fun hb => ?_)
  · have h := h.1 hb
    refine xs_iload_n rfl rfl ?_
    refine xs_if_ge (k' := 28) rfl rfl (fun hb => ?_) (fun hb => ?_)
    · have h := h.1 hb
      refine xs_iload_n rfl rfl ?_
      refine xs_iload_n rfl rfl ?_
      refine xs_icmp_le (k' := 36) rfl rfl (fun hb => ?_) (fun hb => ?_)
      · have h := h.1 hb
        exact xs_vret rfl rfl h.1 h.2.1 h.2.2
      · have h := h.2 hb
        exact h
    · have h := h.2 hb
      exact h
  · have h := h.2 hb
    exact h

