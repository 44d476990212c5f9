/-! the law's sections -/
theorem lg_cmp_0 (a : Int64) : lg_cmp a a = 0 := by unfold lg_cmp; rw [if_neg (fun h => Int64.lt_irrefl h), if_pos rfl]
section LawS
variable {l : Launch} {x : xX} {mc ms n0 uc us : Nat} {Q : xO → xH → Prop} {cl : Bool} {H : xH} {Ls : Nat} {xs : Nat → Int32} {i : Nat} {y5 y6 y7 : Option Value} {v1 v2 v3 v4 v5 : Int32} {d1 d2 n m : Nat}
theorem c_MO_thrownG {d : Nat} {cd : Int32} {fs : List Value} (h : H[74]? = some (.inr (12, .int cd :: fs))) : xCr l x d 0 0 mMO_thrown [.ref 74] H (fun o H' => o = some (.int cd) ∧ H' = H) := by
  refine xCt.of (by decide) rfl ck_MO_thrown (Nat.le_of_ble_eq_true rfl) rfl ?_
  exact b_MO_thrown_0 ⟨cd, ⟨_, h, rfl⟩, rfl, Nat.le_refl _, _, rfl, rfl, rfl⟩
set_option maxRecDepth 100000 in
theorem lx_feed {Q1 : Option Value → xH → Prop} (hs : H[0]? = some (aI Ls xs)) (p1 : vp_in (nI i + 1) Ls) (e1 : xs (nI i + 1).toNatClampNeg = v1) (p2 : vp_in (nI i + 2) Ls) (e2 : xs (nI i + 2).toNatClampNeg = v2) (p3 : vp_in (nI i + 3) Ls) (e3 : xs (nI i + 3).toNatClampNeg = v3) (p4 : vp_in (nI i + 4) Ls) (e4 : xs (nI i + 4).toNatClampNeg = v4) (p5 : vp_in (nI i + 5) Ls) (e5 : xs (nI i + 5).toNatClampNeg = v5) (hC : xCtW l x d1 n m mLA_feed [.ref 2, .int v1, .int v2, .int v3, .int v4, .int v5, .ref 95] H Q1) (hd1 : d1 + 1 ≤ 1750) (hn : uc + n ≤ mc) (hm : us + m ≤ ms)
    (hM : ∀ v H1, Q1 v H1 → ∃ (c : Int32) (fs : List Value), v = some (.int c) ∧ H1[0]? = some (aI Ls xs) ∧ H1[74]? = some (.inr (12, fs)) ∧ ∃ (d2 : Nat) (Q2 : Option Value → xH → Prop), d2 + 1 ≤ 1750 ∧ xCr l x d2 0 0 mMO_feed [.ref 74, .int v1, .int v2, .int v3, .int v4, .int v5] H1 Q2 ∧ ∀ o H2, Q2 o H2 → ∃ (b : Int32) (f : Nat → Int64) (fs2 : List Value), o = some (.int b) ∧ H2[74]? = some (.inr (12, .int c :: fs2)) ∧ (c = 0 → H2[95]? = some (aJ 1 f) ∧ f 0 = b.toInt64) ∧ ∀ y5 y6 y7, xW l x 1750 mc ms mLA_law n0 Q false 456 [some (.ref 0), some (.ref 2), some (.ref 74), some (.ref 95), some (.int (nI i)), y5, y6, y7] [] H2 (uc + n) (us + m)) :
    xW l x 1750 mc ms mLA_law n0 Q cl 25 [some (.ref 0), some (.ref 2), some (.ref 74), some (.ref 95), some (.int (nI i)), y5, y6, y7] [] H uc us := by
  refine xs_aload_n rfl rfl ?_
  refine xs_aload_n rfl rfl ?_
  refine xs_iload rfl rfl ?_
  refine xs_iconstV (v := 1) rfl rfl ?_
  refine xs_iadd rfl ?_
  refine xs_iald rfl hs p1 ?_
  rw [e1]
  refine xs_aload_n rfl rfl ?_
  refine xs_iload rfl rfl ?_
  refine xs_iconstV (v := 2) rfl rfl ?_
  refine xs_iadd rfl ?_
  refine xs_iald rfl hs p2 ?_
  rw [e2]
  refine xs_aload_n rfl rfl ?_
  refine xs_iload rfl rfl ?_
  refine xs_iconstV (v := 3) rfl rfl ?_
  refine xs_iadd rfl ?_
  refine xs_iald rfl hs p3 ?_
  rw [e3]
  refine xs_aload_n rfl rfl ?_
  refine xs_iload rfl rfl ?_
  refine xs_iconstV (v := 4) rfl rfl ?_
  refine xs_iadd rfl ?_
  refine xs_iald rfl hs p4 ?_
  rw [e4]
  refine xs_aload_n rfl rfl ?_
  refine xs_iload rfl rfl ?_
  refine xs_iconstV (v := 5) rfl rfl ?_
  refine xs_iadd rfl ?_
  refine xs_iald rfl hs p5 ?_
  rw [e5]
  refine xs_aload_n rfl rfl ?_
  refine xs_callSW (S := []) rfl lw_55 hC hd1 rfl rfl (Nat.le_of_ble_eq_true rfl) hn hm ?_
  intro v H1 hv
  obtain ⟨c, fs, rfl, hs1, h74, d2, Q2, hd2, hM2, hK⟩ := hM v H1 hv
  refine xs_istore (L' := [some (.ref 0), some (.ref 2), some (.ref 74), some (.ref 95), some (.int (nI i)), some (.int c), y6, y7]) rfl rfl rfl ?_
  refine xs_aload_n rfl rfl ?_
  refine xs_aload_n rfl rfl ?_
  refine xs_iload rfl rfl ?_
  refine xs_iconstV (v := 1) rfl rfl ?_
  refine xs_iadd rfl ?_
  refine xs_iald rfl hs1 p1 ?_
  rw [e1]
  refine xs_aload_n rfl rfl ?_
  refine xs_iload rfl rfl ?_
  refine xs_iconstV (v := 2) rfl rfl ?_
  refine xs_iadd rfl ?_
  refine xs_iald rfl hs1 p2 ?_
  rw [e2]
  refine xs_aload_n rfl rfl ?_
  refine xs_iload rfl rfl ?_
  refine xs_iconstV (v := 3) rfl rfl ?_
  refine xs_iadd rfl ?_
  refine xs_iald rfl hs1 p3 ?_
  rw [e3]
  refine xs_aload_n rfl rfl ?_
  refine xs_iload rfl rfl ?_
  refine xs_iconstV (v := 4) rfl rfl ?_
  refine xs_iadd rfl ?_
  refine xs_iald rfl hs1 p4 ?_
  rw [e4]
  refine xs_aload_n rfl rfl ?_
  refine xs_iload rfl rfl ?_
  refine xs_iconstV (v := 5) rfl rfl ?_
  refine xs_iadd rfl ?_
  refine xs_iald rfl hs1 p5 ?_
  rw [e5]
  refine xs_callV (As := [.int v1, .int v2, .int v3, .int v4, .int v5]) (S := []) rfl lk_16_60 hM2 hd2 h74 rfl rfl rfl rfl (Nat.le_of_ble_eq_true rfl) (by omega) (by omega) ?_
  intro o H2 ho
  obtain ⟨b, f, fs2, rfl, g74, g95, hW⟩ := hK o H2 ho
  refine xs_istore (L' := [some (.ref 0), some (.ref 2), some (.ref 74), some (.ref 95), some (.int (nI i)), some (.int c), some (.int b), y7]) rfl rfl rfl ?_
  refine xs_aload_n rfl rfl ?_
  refine xs_callV (As := []) (S := []) (d' := 0) rfl lk_16_61 (c_MO_thrownG g74) (by decide) g74 rfl rfl rfl rfl (Nat.le_of_ble_eq_true rfl) (by omega) (by omega) ?_
  rintro _ _ ⟨rfl, rfl⟩
  refine xs_iload rfl rfl ?_
  refine xs_icmp_eq (k' := 88) rfl rfl (fun _ => ?_) (fun h => absurd rfl h)
  refine xs_iload rfl rfl ?_
  refine xs_if_ne (k' := 99) rfl rfl (fun _ => xs_goto (k' := 456) rfl rfl (hW _ _ _)) (fun h0 => ?_)
  obtain ⟨h95, hf⟩ := g95 h0
  refine xs_aload_n rfl rfl ?_
  refine xs_iconstV (v := 0) rfl rfl ?_
  refine xs_lald rfl h95 (vp_in_nI (n := 0) (by decide) (by decide)) ?_
  refine xs_iload rfl rfl ?_
  refine xs_i2l rfl ?_
  refine xs_lcmp rfl ?_
  rw [show f (0 : Int32).toNatClampNeg = b.toInt64 from hf, lg_cmp_0]
  refine xs_if_eq (k' := 99) rfl rfl (fun _ => xs_goto (k' := 456) rfl rfl (hW _ _ _)) (fun h => absurd rfl h)
set_option maxRecDepth 100000 in
theorem lx_end {Q1 : Option Value → xH → Prop} (hs : H[0]? = some (aI Ls xs)) (p1 : vp_in (nI i + 1) Ls) (e1 : xs (nI i + 1).toNatClampNeg = v1) (hC : xCtW l x d1 n m mLA_end [.ref 2, .int v1] H Q1) (hd1 : d1 + 1 ≤ 1750) (hn : uc + n ≤ mc) (hm : us + m ≤ ms)
    (hM : ∀ v H1, Q1 v H1 → ∃ (c : Int32) (fs : List Value), v = some (.int c) ∧ H1[0]? = some (aI Ls xs) ∧ H1[74]? = some (.inr (12, fs)) ∧ ∃ (d2 : Nat) (Q2 : Option Value → xH → Prop), d2 + 1 ≤ 1750 ∧ xCr l x d2 0 0 mMO_end [.ref 74, .int v1] H1 Q2 ∧ ∀ o H2, Q2 o H2 → ∃ (fs2 : List Value), o = none ∧ H2[74]? = some (.inr (12, .int c :: fs2)) ∧ ∀ y5 y6 y7, xW l x 1750 mc ms mLA_law n0 Q false 456 [some (.ref 0), some (.ref 2), some (.ref 74), some (.ref 95), some (.int (nI i)), y5, y6, y7] [] H2 (uc + n) (us + m)) :
    xW l x 1750 mc ms mLA_law n0 Q cl 100 [some (.ref 0), some (.ref 2), some (.ref 74), some (.ref 95), some (.int (nI i)), y5, y6, y7] [] H uc us := by
  refine xs_aload_n rfl rfl ?_
  refine xs_aload_n rfl rfl ?_
  refine xs_iload rfl rfl ?_
  refine xs_iconstV (v := 1) rfl rfl ?_
  refine xs_iadd rfl ?_
  refine xs_iald rfl hs p1 ?_
  rw [e1]
  refine xs_callSW (S := []) rfl lw_64 hC hd1 rfl rfl (Nat.le_of_ble_eq_true rfl) hn hm ?_
  intro v H1 hv
  obtain ⟨c, fs, rfl, hs1, h74, d2, Q2, hd2, hM2, hK⟩ := hM v H1 hv
  refine xs_istore (L' := [some (.ref 0), some (.ref 2), some (.ref 74), some (.ref 95), some (.int (nI i)), some (.int c), y6, y7]) rfl rfl rfl ?_
  refine xs_aload_n rfl rfl ?_
  refine xs_aload_n rfl rfl ?_
  refine xs_iload rfl rfl ?_
  refine xs_iconstV (v := 1) rfl rfl ?_
  refine xs_iadd rfl ?_
  refine xs_iald rfl hs1 p1 ?_
  rw [e1]
  refine xs_callV (As := [.int v1]) (S := []) rfl lk_16_67 hM2 hd2 h74 rfl rfl rfl rfl (Nat.le_of_ble_eq_true rfl) (by omega) (by omega) ?_
  intro o H2 ho
  obtain ⟨fs2, rfl, g74, hW⟩ := hK o H2 ho
  refine xs_aload_n rfl rfl ?_
  refine xs_callV (As := []) (S := []) (d' := 0) rfl lk_16_61 (c_MO_thrownG g74) (by decide) g74 rfl rfl rfl rfl (Nat.le_of_ble_eq_true rfl) (by omega) (by omega) ?_
  rintro _ _ ⟨rfl, rfl⟩
  refine xs_iload rfl rfl ?_
  refine xs_icmp_eq (k' := 121) rfl rfl (fun _ => ?_) (fun h => absurd rfl h)
  exact xs_goto (k' := 456) rfl rfl (hW _ _ _)
set_option maxRecDepth 100000 in
theorem lx_again {Q1 : Option Value → xH → Prop} (hs : H[0]? = some (aI Ls xs)) (p1 : vp_in (nI i + 1) Ls) (e1 : xs (nI i + 1).toNatClampNeg = v1) (p2 : vp_in (nI i + 2) Ls) (e2 : xs (nI i + 2).toNatClampNeg = v2) (hC : xCtW l x d1 n m mLA_again [.ref 2, .int v1, .int v2, .ref 95] H Q1) (hd1 : d1 + 1 ≤ 1750) (hn : uc + n ≤ mc) (hm : us + m ≤ ms)
    (hM : ∀ v H1, Q1 v H1 → ∃ (c : Int32) (fs : List Value), v = some (.int c) ∧ H1[0]? = some (aI Ls xs) ∧ H1[74]? = some (.inr (12, fs)) ∧ ∃ (d2 : Nat) (Q2 : Option Value → xH → Prop), d2 + 1 ≤ 1750 ∧ xCr l x d2 0 0 mMO_again [.ref 74, .int v1, .int v2] H1 Q2 ∧ ∀ o H2, Q2 o H2 → ∃ (b : Int32) (f : Nat → Int64) (fs2 : List Value), o = some (.int b) ∧ H2[74]? = some (.inr (12, .int c :: fs2)) ∧ (c = 0 → H2[95]? = some (aJ 1 f) ∧ f 0 = b.toInt64) ∧ ∀ y5 y6 y7, xW l x 1750 mc ms mLA_law n0 Q false 456 [some (.ref 0), some (.ref 2), some (.ref 74), some (.ref 95), some (.int (nI i)), y5, y6, y7] [] H2 (uc + n) (us + m)) :
    xW l x 1750 mc ms mLA_law n0 Q cl 122 [some (.ref 0), some (.ref 2), some (.ref 74), some (.ref 95), some (.int (nI i)), y5, y6, y7] [] H uc us := by
  refine xs_aload_n rfl rfl ?_
  refine xs_aload_n rfl rfl ?_
  refine xs_iload rfl rfl ?_
  refine xs_iconstV (v := 1) rfl rfl ?_
  refine xs_iadd rfl ?_
  refine xs_iald rfl hs p1 ?_
  rw [e1]
  refine xs_aload_n rfl rfl ?_
  refine xs_iload rfl rfl ?_
  refine xs_iconstV (v := 2) rfl rfl ?_
  refine xs_iadd rfl ?_
  refine xs_iald rfl hs p2 ?_
  rw [e2]
  refine xs_aload_n rfl rfl ?_
  refine xs_callSW (S := []) rfl lw_68 hC hd1 rfl rfl (Nat.le_of_ble_eq_true rfl) hn hm ?_
  intro v H1 hv
  obtain ⟨c, fs, rfl, hs1, h74, d2, Q2, hd2, hM2, hK⟩ := hM v H1 hv
  refine xs_istore (L' := [some (.ref 0), some (.ref 2), some (.ref 74), some (.ref 95), some (.int (nI i)), some (.int c), y6, y7]) rfl rfl rfl ?_
  refine xs_aload_n rfl rfl ?_
  refine xs_aload_n rfl rfl ?_
  refine xs_iload rfl rfl ?_
  refine xs_iconstV (v := 1) rfl rfl ?_
  refine xs_iadd rfl ?_
  refine xs_iald rfl hs1 p1 ?_
  rw [e1]
  refine xs_aload_n rfl rfl ?_
  refine xs_iload rfl rfl ?_
  refine xs_iconstV (v := 2) rfl rfl ?_
  refine xs_iadd rfl ?_
  refine xs_iald rfl hs1 p2 ?_
  rw [e2]
  refine xs_callV (As := [.int v1, .int v2]) (S := []) rfl lk_16_71 hM2 hd2 h74 rfl rfl rfl rfl (Nat.le_of_ble_eq_true rfl) (by omega) (by omega) ?_
  intro o H2 ho
  obtain ⟨b, f, fs2, rfl, g74, g95, hW⟩ := hK o H2 ho
  refine xs_istore (L' := [some (.ref 0), some (.ref 2), some (.ref 74), some (.ref 95), some (.int (nI i)), some (.int c), some (.int b), y7]) rfl rfl rfl ?_
  refine xs_aload_n rfl rfl ?_
  refine xs_callV (As := []) (S := []) (d' := 0) rfl lk_16_61 (c_MO_thrownG g74) (by decide) g74 rfl rfl rfl rfl (Nat.le_of_ble_eq_true rfl) (by omega) (by omega) ?_
  rintro _ _ ⟨rfl, rfl⟩
  refine xs_iload rfl rfl ?_
  refine xs_icmp_eq (k' := 155) rfl rfl (fun _ => ?_) (fun h => absurd rfl h)
  refine xs_iload rfl rfl ?_
  refine xs_if_ne (k' := 166) rfl rfl (fun _ => xs_goto (k' := 456) rfl rfl (hW _ _ _)) (fun h0 => ?_)
  obtain ⟨h95, hf⟩ := g95 h0
  refine xs_aload_n rfl rfl ?_
  refine xs_iconstV (v := 0) rfl rfl ?_
  refine xs_lald rfl h95 (vp_in_nI (n := 0) (by decide) (by decide)) ?_
  refine xs_iload rfl rfl ?_
  refine xs_i2l rfl ?_
  refine xs_lcmp rfl ?_
  rw [show f (0 : Int32).toNatClampNeg = b.toInt64 from hf, lg_cmp_0]
  refine xs_if_eq (k' := 166) rfl rfl (fun _ => xs_goto (k' := 456) rfl rfl (hW _ _ _)) (fun h => absurd rfl h)
set_option maxRecDepth 100000 in
theorem lx_change {Q1 : Option Value → xH → Prop} (hs : H[0]? = some (aI Ls xs)) (p1 : vp_in (nI i + 1) Ls) (e1 : xs (nI i + 1).toNatClampNeg = v1) (p2 : vp_in (nI i + 2) Ls) (e2 : xs (nI i + 2).toNatClampNeg = v2) (hC : xCtW l x d1 n m mLA_change [.ref 2, .int v1, .int v2, .ref 95] H Q1) (hd1 : d1 + 1 ≤ 1750) (hn : uc + n ≤ mc) (hm : us + m ≤ ms)
    (hM : ∀ v H1, Q1 v H1 → ∃ (c : Int32) (fs : List Value), v = some (.int c) ∧ H1[0]? = some (aI Ls xs) ∧ H1[74]? = some (.inr (12, fs)) ∧ ∃ (d2 : Nat) (Q2 : Option Value → xH → Prop), d2 + 1 ≤ 1750 ∧ xCr l x d2 0 0 mMO_change [.ref 74, .int v1, .int v2] H1 Q2 ∧ ∀ o H2, Q2 o H2 → ∃ (b : Int32) (f : Nat → Int64) (fs2 : List Value), o = some (.int b) ∧ H2[74]? = some (.inr (12, .int c :: fs2)) ∧ (c = 0 → H2[95]? = some (aJ 1 f) ∧ f 0 = b.toInt64) ∧ ∀ y5 y6 y7, xW l x 1750 mc ms mLA_law n0 Q false 456 [some (.ref 0), some (.ref 2), some (.ref 74), some (.ref 95), some (.int (nI i)), y5, y6, y7] [] H2 (uc + n) (us + m)) :
    xW l x 1750 mc ms mLA_law n0 Q cl 167 [some (.ref 0), some (.ref 2), some (.ref 74), some (.ref 95), some (.int (nI i)), y5, y6, y7] [] H uc us := by
  refine xs_aload_n rfl rfl ?_
  refine xs_aload_n rfl rfl ?_
  refine xs_iload rfl rfl ?_
  refine xs_iconstV (v := 1) rfl rfl ?_
  refine xs_iadd rfl ?_
  refine xs_iald rfl hs p1 ?_
  rw [e1]
  refine xs_aload_n rfl rfl ?_
  refine xs_iload rfl rfl ?_
  refine xs_iconstV (v := 2) rfl rfl ?_
  refine xs_iadd rfl ?_
  refine xs_iald rfl hs p2 ?_
  rw [e2]
  refine xs_aload_n rfl rfl ?_
  refine xs_callSW (S := []) rfl lw_72 hC hd1 rfl rfl (Nat.le_of_ble_eq_true rfl) hn hm ?_
  intro v H1 hv
  obtain ⟨c, fs, rfl, hs1, h74, d2, Q2, hd2, hM2, hK⟩ := hM v H1 hv
  refine xs_istore (L' := [some (.ref 0), some (.ref 2), some (.ref 74), some (.ref 95), some (.int (nI i)), some (.int c), y6, y7]) rfl rfl rfl ?_
  refine xs_aload_n rfl rfl ?_
  refine xs_aload_n rfl rfl ?_
  refine xs_iload rfl rfl ?_
  refine xs_iconstV (v := 1) rfl rfl ?_
  refine xs_iadd rfl ?_
  refine xs_iald rfl hs1 p1 ?_
  rw [e1]
  refine xs_aload_n rfl rfl ?_
  refine xs_iload rfl rfl ?_
  refine xs_iconstV (v := 2) rfl rfl ?_
  refine xs_iadd rfl ?_
  refine xs_iald rfl hs1 p2 ?_
  rw [e2]
  refine xs_callV (As := [.int v1, .int v2]) (S := []) rfl lk_16_74 hM2 hd2 h74 rfl rfl rfl rfl (Nat.le_of_ble_eq_true rfl) (by omega) (by omega) ?_
  intro o H2 ho
  obtain ⟨b, f, fs2, rfl, g74, g95, hW⟩ := hK o H2 ho
  refine xs_istore (L' := [some (.ref 0), some (.ref 2), some (.ref 74), some (.ref 95), some (.int (nI i)), some (.int c), some (.int b), y7]) rfl rfl rfl ?_
  refine xs_aload_n rfl rfl ?_
  refine xs_callV (As := []) (S := []) (d' := 0) rfl lk_16_61 (c_MO_thrownG g74) (by decide) g74 rfl rfl rfl rfl (Nat.le_of_ble_eq_true rfl) (by omega) (by omega) ?_
  rintro _ _ ⟨rfl, rfl⟩
  refine xs_iload rfl rfl ?_
  refine xs_icmp_eq (k' := 200) rfl rfl (fun _ => ?_) (fun h => absurd rfl h)
  refine xs_iload rfl rfl ?_
  refine xs_if_ne (k' := 211) rfl rfl (fun _ => xs_goto (k' := 456) rfl rfl (hW _ _ _)) (fun h0 => ?_)
  obtain ⟨h95, hf⟩ := g95 h0
  refine xs_aload_n rfl rfl ?_
  refine xs_iconstV (v := 0) rfl rfl ?_
  refine xs_lald rfl h95 (vp_in_nI (n := 0) (by decide) (by decide)) ?_
  refine xs_iload rfl rfl ?_
  refine xs_i2l rfl ?_
  refine xs_lcmp rfl ?_
  rw [show f (0 : Int32).toNatClampNeg = b.toInt64 from hf, lg_cmp_0]
  refine xs_if_eq (k' := 211) rfl rfl (fun _ => xs_goto (k' := 456) rfl rfl (hW _ _ _)) (fun h => absurd rfl h)
set_option maxRecDepth 100000 in
theorem lx_pack {Q1 : Option Value → xH → Prop} (hs : H[0]? = some (aI Ls xs)) (p1 : vp_in (nI i + 1) Ls) (e1 : xs (nI i + 1).toNatClampNeg = v1) (hC : xCtW l x d1 n m mLA_pack [.ref 2, .int v1, .ref 95] H Q1) (hd1 : d1 + 1 ≤ 1750) (hn : uc + n ≤ mc) (hm : us + m ≤ ms)
    (hM : ∀ v H1, Q1 v H1 → ∃ (c : Int32) (fs : List Value), v = some (.int c) ∧ H1[0]? = some (aI Ls xs) ∧ H1[74]? = some (.inr (12, fs)) ∧ ∃ (d2 : Nat) (Q2 : Option Value → xH → Prop), d2 + 1 ≤ 1750 ∧ xCr l x d2 0 0 mMO_pack [.ref 74, .int v1] H1 Q2 ∧ ∀ o H2, Q2 o H2 → ∃ (b : Int32) (f : Nat → Int64) (fs2 : List Value), o = some (.int b) ∧ H2[74]? = some (.inr (12, .int c :: fs2)) ∧ (c = 0 → H2[95]? = some (aJ 1 f) ∧ f 0 = b.toInt64) ∧ ∀ y5 y6 y7, xW l x 1750 mc ms mLA_law n0 Q false 456 [some (.ref 0), some (.ref 2), some (.ref 74), some (.ref 95), some (.int (nI i)), y5, y6, y7] [] H2 (uc + n) (us + m)) :
    xW l x 1750 mc ms mLA_law n0 Q cl 212 [some (.ref 0), some (.ref 2), some (.ref 74), some (.ref 95), some (.int (nI i)), y5, y6, y7] [] H uc us := by
  refine xs_aload_n rfl rfl ?_
  refine xs_aload_n rfl rfl ?_
  refine xs_iload rfl rfl ?_
  refine xs_iconstV (v := 1) rfl rfl ?_
  refine xs_iadd rfl ?_
  refine xs_iald rfl hs p1 ?_
  rw [e1]
  refine xs_aload_n rfl rfl ?_
  refine xs_callSW (S := []) rfl lw_75 hC hd1 rfl rfl (Nat.le_of_ble_eq_true rfl) hn hm ?_
  intro v H1 hv
  obtain ⟨c, fs, rfl, hs1, h74, d2, Q2, hd2, hM2, hK⟩ := hM v H1 hv
  refine xs_istore (L' := [some (.ref 0), some (.ref 2), some (.ref 74), some (.ref 95), some (.int (nI i)), some (.int c), y6, y7]) rfl rfl rfl ?_
  refine xs_aload_n rfl rfl ?_
  refine xs_aload_n rfl rfl ?_
  refine xs_iload rfl rfl ?_
  refine xs_iconstV (v := 1) rfl rfl ?_
  refine xs_iadd rfl ?_
  refine xs_iald rfl hs1 p1 ?_
  rw [e1]
  refine xs_callV (As := [.int v1]) (S := []) rfl lk_16_78 hM2 hd2 h74 rfl rfl rfl rfl (Nat.le_of_ble_eq_true rfl) (by omega) (by omega) ?_
  intro o H2 ho
  obtain ⟨b, f, fs2, rfl, g74, g95, hW⟩ := hK o H2 ho
  refine xs_istore (L' := [some (.ref 0), some (.ref 2), some (.ref 74), some (.ref 95), some (.int (nI i)), some (.int c), some (.int b), y7]) rfl rfl rfl ?_
  refine xs_aload_n rfl rfl ?_
  refine xs_callV (As := []) (S := []) (d' := 0) rfl lk_16_61 (c_MO_thrownG g74) (by decide) g74 rfl rfl rfl rfl (Nat.le_of_ble_eq_true rfl) (by omega) (by omega) ?_
  rintro _ _ ⟨rfl, rfl⟩
  refine xs_iload rfl rfl ?_
  refine xs_icmp_eq (k' := 235) rfl rfl (fun _ => ?_) (fun h => absurd rfl h)
  refine xs_iload rfl rfl ?_
  refine xs_if_ne (k' := 246) rfl rfl (fun _ => xs_goto (k' := 456) rfl rfl (hW _ _ _)) (fun h0 => ?_)
  obtain ⟨h95, hf⟩ := g95 h0
  refine xs_aload_n rfl rfl ?_
  refine xs_iconstV (v := 0) rfl rfl ?_
  refine xs_lald rfl h95 (vp_in_nI (n := 0) (by decide) (by decide)) ?_
  refine xs_iload rfl rfl ?_
  refine xs_i2l rfl ?_
  refine xs_lcmp rfl ?_
  rw [show f (0 : Int32).toNatClampNeg = b.toInt64 from hf, lg_cmp_0]
  refine xs_if_eq (k' := 246) rfl rfl (fun _ => xs_goto (k' := 456) rfl rfl (hW _ _ _)) (fun h => absurd rfl h)
set_option maxRecDepth 100000 in
theorem lx_unpack {Q1 : Option Value → xH → Prop} (hs : H[0]? = some (aI Ls xs)) (p1 : vp_in (nI i + 1) Ls) (e1 : xs (nI i + 1).toNatClampNeg = v1) (hC : xCtW l x d1 n m mLA_unpack [.ref 2, .int v1, .ref 95] H Q1) (hd1 : d1 + 1 ≤ 1750) (hn : uc + n ≤ mc) (hm : us + m ≤ ms)
    (hM : ∀ v H1, Q1 v H1 → ∃ (c : Int32) (fs : List Value), v = some (.int c) ∧ H1[0]? = some (aI Ls xs) ∧ H1[74]? = some (.inr (12, fs)) ∧ ∃ (d2 : Nat) (Q2 : Option Value → xH → Prop), d2 + 1 ≤ 1750 ∧ xCr l x d2 0 0 mMO_unpack [.ref 74, .int v1] H1 Q2 ∧ ∀ o H2, Q2 o H2 → ∃ (b : Int32) (f : Nat → Int64) (fs2 : List Value), o = some (.int b) ∧ H2[74]? = some (.inr (12, .int c :: fs2)) ∧ (c = 0 → H2[95]? = some (aJ 1 f) ∧ f 0 = b.toInt64) ∧ ∀ y5 y6 y7, xW l x 1750 mc ms mLA_law n0 Q false 456 [some (.ref 0), some (.ref 2), some (.ref 74), some (.ref 95), some (.int (nI i)), y5, y6, y7] [] H2 (uc + n) (us + m)) :
    xW l x 1750 mc ms mLA_law n0 Q cl 247 [some (.ref 0), some (.ref 2), some (.ref 74), some (.ref 95), some (.int (nI i)), y5, y6, y7] [] H uc us := by
  refine xs_aload_n rfl rfl ?_
  refine xs_aload_n rfl rfl ?_
  refine xs_iload rfl rfl ?_
  refine xs_iconstV (v := 1) rfl rfl ?_
  refine xs_iadd rfl ?_
  refine xs_iald rfl hs p1 ?_
  rw [e1]
  refine xs_aload_n rfl rfl ?_
  refine xs_callSW (S := []) rfl lw_79 hC hd1 rfl rfl (Nat.le_of_ble_eq_true rfl) hn hm ?_
  intro v H1 hv
  obtain ⟨c, fs, rfl, hs1, h74, d2, Q2, hd2, hM2, hK⟩ := hM v H1 hv
  refine xs_istore (L' := [some (.ref 0), some (.ref 2), some (.ref 74), some (.ref 95), some (.int (nI i)), some (.int c), y6, y7]) rfl rfl rfl ?_
  refine xs_aload_n rfl rfl ?_
  refine xs_aload_n rfl rfl ?_
  refine xs_iload rfl rfl ?_
  refine xs_iconstV (v := 1) rfl rfl ?_
  refine xs_iadd rfl ?_
  refine xs_iald rfl hs1 p1 ?_
  rw [e1]
  refine xs_callV (As := [.int v1]) (S := []) rfl lk_16_81 hM2 hd2 h74 rfl rfl rfl rfl (Nat.le_of_ble_eq_true rfl) (by omega) (by omega) ?_
  intro o H2 ho
  obtain ⟨b, f, fs2, rfl, g74, g95, hW⟩ := hK o H2 ho
  refine xs_istore (L' := [some (.ref 0), some (.ref 2), some (.ref 74), some (.ref 95), some (.int (nI i)), some (.int c), some (.int b), y7]) rfl rfl rfl ?_
  refine xs_aload_n rfl rfl ?_
  refine xs_callV (As := []) (S := []) (d' := 0) rfl lk_16_61 (c_MO_thrownG g74) (by decide) g74 rfl rfl rfl rfl (Nat.le_of_ble_eq_true rfl) (by omega) (by omega) ?_
  rintro _ _ ⟨rfl, rfl⟩
  refine xs_iload rfl rfl ?_
  refine xs_icmp_eq (k' := 270) rfl rfl (fun _ => ?_) (fun h => absurd rfl h)
  refine xs_iload rfl rfl ?_
  refine xs_if_ne (k' := 281) rfl rfl (fun _ => xs_goto (k' := 456) rfl rfl (hW _ _ _)) (fun h0 => ?_)
  obtain ⟨h95, hf⟩ := g95 h0
  refine xs_aload_n rfl rfl ?_
  refine xs_iconstV (v := 0) rfl rfl ?_
  refine xs_lald rfl h95 (vp_in_nI (n := 0) (by decide) (by decide)) ?_
  refine xs_iload rfl rfl ?_
  refine xs_i2l rfl ?_
  refine xs_lcmp rfl ?_
  rw [show f (0 : Int32).toNatClampNeg = b.toInt64 from hf, lg_cmp_0]
  refine xs_if_eq (k' := 281) rfl rfl (fun _ => xs_goto (k' := 456) rfl rfl (hW _ _ _)) (fun h => absurd rfl h)
set_option maxRecDepth 100000 in
theorem lx_out {Q1 : Option Value → xH → Prop} (hs : H[0]? = some (aI Ls xs)) (p1 : vp_in (nI i + 1) Ls) (e1 : xs (nI i + 1).toNatClampNeg = v1) (hC : xCtW l x d1 n m mLA_out [.ref 2, .int v1, .ref 95] H Q1) (hd1 : d1 + 1 ≤ 1750) (hn : uc + n ≤ mc) (hm : us + m ≤ ms)
    (hM : ∀ v H1, Q1 v H1 → ∃ (c : Int32) (fs : List Value), v = some (.int c) ∧ H1[0]? = some (aI Ls xs) ∧ H1[74]? = some (.inr (12, fs)) ∧ ∃ (d2 : Nat) (Q2 : Option Value → xH → Prop), d2 + 1 ≤ 1750 ∧ xCr l x d2 0 0 mMO_out [.ref 74, .int v1] H1 Q2 ∧ ∀ o H2, Q2 o H2 → ∃ (b : Int32) (f : Nat → Int64) (fs2 : List Value), o = some (.int b) ∧ H2[74]? = some (.inr (12, .int c :: fs2)) ∧ (c = 0 → H2[95]? = some (aJ 1 f) ∧ f 0 = b.toInt64) ∧ ∀ y5 y6 y7, xW l x 1750 mc ms mLA_law n0 Q false 456 [some (.ref 0), some (.ref 2), some (.ref 74), some (.ref 95), some (.int (nI i)), y5, y6, y7] [] H2 (uc + n) (us + m)) :
    xW l x 1750 mc ms mLA_law n0 Q cl 303 [some (.ref 0), some (.ref 2), some (.ref 74), some (.ref 95), some (.int (nI i)), y5, y6, y7] [] H uc us := by
  refine xs_aload_n rfl rfl ?_
  refine xs_aload_n rfl rfl ?_
  refine xs_iload rfl rfl ?_
  refine xs_iconstV (v := 1) rfl rfl ?_
  refine xs_iadd rfl ?_
  refine xs_iald rfl hs p1 ?_
  rw [e1]
  refine xs_aload_n rfl rfl ?_
  refine xs_callSW (S := []) rfl lw_94 hC hd1 rfl rfl (Nat.le_of_ble_eq_true rfl) hn hm ?_
  intro v H1 hv
  obtain ⟨c, fs, rfl, hs1, h74, d2, Q2, hd2, hM2, hK⟩ := hM v H1 hv
  refine xs_istore (L' := [some (.ref 0), some (.ref 2), some (.ref 74), some (.ref 95), some (.int (nI i)), some (.int c), y6, y7]) rfl rfl rfl ?_
  refine xs_aload_n rfl rfl ?_
  refine xs_aload_n rfl rfl ?_
  refine xs_iload rfl rfl ?_
  refine xs_iconstV (v := 1) rfl rfl ?_
  refine xs_iadd rfl ?_
  refine xs_iald rfl hs1 p1 ?_
  rw [e1]
  refine xs_callV (As := [.int v1]) (S := []) rfl lk_16_96 hM2 hd2 h74 rfl rfl rfl rfl (Nat.le_of_ble_eq_true rfl) (by omega) (by omega) ?_
  intro o H2 ho
  obtain ⟨b, f, fs2, rfl, g74, g95, hW⟩ := hK o H2 ho
  refine xs_istore (L' := [some (.ref 0), some (.ref 2), some (.ref 74), some (.ref 95), some (.int (nI i)), some (.int c), some (.int b), y7]) rfl rfl rfl ?_
  refine xs_aload_n rfl rfl ?_
  refine xs_callV (As := []) (S := []) (d' := 0) rfl lk_16_61 (c_MO_thrownG g74) (by decide) g74 rfl rfl rfl rfl (Nat.le_of_ble_eq_true rfl) (by omega) (by omega) ?_
  rintro _ _ ⟨rfl, rfl⟩
  refine xs_iload rfl rfl ?_
  refine xs_icmp_eq (k' := 326) rfl rfl (fun _ => ?_) (fun h => absurd rfl h)
  refine xs_iload rfl rfl ?_
  refine xs_if_ne (k' := 337) rfl rfl (fun _ => xs_goto (k' := 456) rfl rfl (hW _ _ _)) (fun h0 => ?_)
  obtain ⟨h95, hf⟩ := g95 h0
  refine xs_aload_n rfl rfl ?_
  refine xs_iconstV (v := 0) rfl rfl ?_
  refine xs_lald rfl h95 (vp_in_nI (n := 0) (by decide) (by decide)) ?_
  refine xs_iload rfl rfl ?_
  refine xs_i2l rfl ?_
  refine xs_lcmp rfl ?_
  rw [show f (0 : Int32).toNatClampNeg = b.toInt64 from hf, lg_cmp_0]
  refine xs_if_eq (k' := 337) rfl rfl (fun _ => xs_goto (k' := 456) rfl rfl (hW _ _ _)) (fun h => absurd rfl h)
set_option maxRecDepth 100000 in
theorem lx_turn {Q1 : Option Value → xH → Prop} (hs : H[0]? = some (aI Ls xs)) (hC : xCtW l x d1 n m mLA_turn [.ref 2, .ref 95] H Q1) (hd1 : d1 + 1 ≤ 1750) (hn : uc + n ≤ mc) (hm : us + m ≤ ms)
    (hM : ∀ v H1, Q1 v H1 → ∃ (c : Int32) (fs : List Value), v = some (.int c) ∧ H1[0]? = some (aI Ls xs) ∧ H1[74]? = some (.inr (12, fs)) ∧ ∃ (d2 : Nat) (Q2 : Option Value → xH → Prop), d2 + 1 ≤ 1750 ∧ xCr l x d2 0 0 mMO_turn [.ref 74] H1 Q2 ∧ ∀ o H2, Q2 o H2 → ∃ (b : Int32) (f : Nat → Int64) (fs2 : List Value), o = some (.int b) ∧ H2[74]? = some (.inr (12, .int c :: fs2)) ∧ (c = 0 → H2[95]? = some (aJ 1 f) ∧ f 0 = b.toInt64) ∧ ∀ y5 y6 y7, xW l x 1750 mc ms mLA_law n0 Q false 456 [some (.ref 0), some (.ref 2), some (.ref 74), some (.ref 95), some (.int (nI i)), y5, y6, y7] [] H2 (uc + n) (us + m)) :
    xW l x 1750 mc ms mLA_law n0 Q cl 338 [some (.ref 0), some (.ref 2), some (.ref 74), some (.ref 95), some (.int (nI i)), y5, y6, y7] [] H uc us := by
  refine xs_aload_n rfl rfl ?_
  refine xs_aload_n rfl rfl ?_
  refine xs_callSW (S := []) rfl lw_97 hC hd1 rfl rfl (Nat.le_of_ble_eq_true rfl) hn hm ?_
  intro v H1 hv
  obtain ⟨c, fs, rfl, hs1, h74, d2, Q2, hd2, hM2, hK⟩ := hM v H1 hv
  refine xs_istore (L' := [some (.ref 0), some (.ref 2), some (.ref 74), some (.ref 95), some (.int (nI i)), some (.int c), y6, y7]) rfl rfl rfl ?_
  refine xs_aload_n rfl rfl ?_
  refine xs_callV (As := []) (S := []) rfl lk_16_100 hM2 hd2 h74 rfl rfl rfl rfl (Nat.le_of_ble_eq_true rfl) (by omega) (by omega) ?_
  intro o H2 ho
  obtain ⟨b, f, fs2, rfl, g74, g95, hW⟩ := hK o H2 ho
  refine xs_istore (L' := [some (.ref 0), some (.ref 2), some (.ref 74), some (.ref 95), some (.int (nI i)), some (.int c), some (.int b), y7]) rfl rfl rfl ?_
  refine xs_aload_n rfl rfl ?_
  refine xs_callV (As := []) (S := []) (d' := 0) rfl lk_16_61 (c_MO_thrownG g74) (by decide) g74 rfl rfl rfl rfl (Nat.le_of_ble_eq_true rfl) (by omega) (by omega) ?_
  rintro _ _ ⟨rfl, rfl⟩
  refine xs_iload rfl rfl ?_
  refine xs_icmp_eq (k' := 351) rfl rfl (fun _ => ?_) (fun h => absurd rfl h)
  refine xs_iload rfl rfl ?_
  refine xs_if_ne (k' := 362) rfl rfl (fun _ => xs_goto (k' := 456) rfl rfl (hW _ _ _)) (fun h0 => ?_)
  obtain ⟨h95, hf⟩ := g95 h0
  refine xs_aload_n rfl rfl ?_
  refine xs_iconstV (v := 0) rfl rfl ?_
  refine xs_lald rfl h95 (vp_in_nI (n := 0) (by decide) (by decide)) ?_
  refine xs_iload rfl rfl ?_
  refine xs_i2l rfl ?_
  refine xs_lcmp rfl ?_
  rw [show f (0 : Int32).toNatClampNeg = b.toInt64 from hf, lg_cmp_0]
  refine xs_if_eq (k' := 362) rfl rfl (fun _ => xs_goto (k' := 456) rfl rfl (hW _ _ _)) (fun h => absurd rfl h)
set_option maxRecDepth 100000 in
theorem lx_sum {Q1 : Option Value → xH → Prop} (hs : H[0]? = some (aI Ls xs)) (p1 : vp_in (nI i + 1) Ls) (e1 : xs (nI i + 1).toNatClampNeg = v1) (hC : xCtW l x d1 n m mLA_sum [.ref 2, .int v1, .ref 95] H Q1) (hd1 : d1 + 1 ≤ 1750) (hn : uc + n ≤ mc) (hm : us + m ≤ ms)
    (hM : ∀ v H1, Q1 v H1 → ∃ (c : Int32) (fs : List Value), v = some (.int c) ∧ H1[0]? = some (aI Ls xs) ∧ H1[74]? = some (.inr (12, fs)) ∧ ∃ (d2 : Nat) (Q2 : Option Value → xH → Prop), d2 + 1 ≤ 1750 ∧ xCr l x d2 0 0 mMO_sum [.ref 74, .int v1] H1 Q2 ∧ ∀ o H2, Q2 o H2 → ∃ (b : Int64) (f : Nat → Int64) (fs2 : List Value), o = some (.long b) ∧ H2[74]? = some (.inr (12, .int c :: fs2)) ∧ (c = 0 → H2[95]? = some (aJ 1 f) ∧ f 0 = b) ∧ ∀ y5 y6 y7, xW l x 1750 mc ms mLA_law n0 Q false 456 [some (.ref 0), some (.ref 2), some (.ref 74), some (.ref 95), some (.int (nI i)), y5, y6, y7] [] H2 (uc + n) (us + m)) :
    xW l x 1750 mc ms mLA_law n0 Q cl 363 [some (.ref 0), some (.ref 2), some (.ref 74), some (.ref 95), some (.int (nI i)), y5, y6, y7] [] H uc us := by
  refine xs_aload_n rfl rfl ?_
  refine xs_aload_n rfl rfl ?_
  refine xs_iload rfl rfl ?_
  refine xs_iconstV (v := 1) rfl rfl ?_
  refine xs_iadd rfl ?_
  refine xs_iald rfl hs p1 ?_
  rw [e1]
  refine xs_aload_n rfl rfl ?_
  refine xs_callSW (S := []) rfl lw_101 hC hd1 rfl rfl (Nat.le_of_ble_eq_true rfl) hn hm ?_
  intro v H1 hv
  obtain ⟨c, fs, rfl, hs1, h74, d2, Q2, hd2, hM2, hK⟩ := hM v H1 hv
  refine xs_istore (L' := [some (.ref 0), some (.ref 2), some (.ref 74), some (.ref 95), some (.int (nI i)), some (.int c), y6, y7]) rfl rfl rfl ?_
  refine xs_aload_n rfl rfl ?_
  refine xs_aload_n rfl rfl ?_
  refine xs_iload rfl rfl ?_
  refine xs_iconstV (v := 1) rfl rfl ?_
  refine xs_iadd rfl ?_
  refine xs_iald rfl hs1 p1 ?_
  rw [e1]
  refine xs_callV (As := [.int v1]) (S := []) rfl lk_16_103 hM2 hd2 h74 rfl rfl rfl rfl (Nat.le_of_ble_eq_true rfl) (by omega) (by omega) ?_
  intro o H2 ho
  obtain ⟨b, f, fs2, rfl, g74, g95, hW⟩ := hK o H2 ho
  refine xs_lstore (L' := [some (.ref 0), some (.ref 2), some (.ref 74), some (.ref 95), some (.int (nI i)), some (.int c), some (.long b), none]) rfl rfl rfl ?_
  refine xs_aload_n rfl rfl ?_
  refine xs_callV (As := []) (S := []) (d' := 0) rfl lk_16_61 (c_MO_thrownG g74) (by decide) g74 rfl rfl rfl rfl (Nat.le_of_ble_eq_true rfl) (by omega) (by omega) ?_
  rintro _ _ ⟨rfl, rfl⟩
  refine xs_iload rfl rfl ?_
  refine xs_icmp_eq (k' := 386) rfl rfl (fun _ => ?_) (fun h => absurd rfl h)
  refine xs_iload rfl rfl ?_
  refine xs_if_ne (k' := 396) rfl rfl (fun _ => xs_goto (k' := 456) rfl rfl (hW _ _ _)) (fun h0 => ?_)
  obtain ⟨h95, hf⟩ := g95 h0
  refine xs_aload_n rfl rfl ?_
  refine xs_iconstV (v := 0) rfl rfl ?_
  refine xs_lald rfl h95 (vp_in_nI (n := 0) (by decide) (by decide)) ?_
  refine xs_lload rfl rfl ?_
  refine xs_lcmp rfl ?_
  rw [show f (0 : Int32).toNatClampNeg = b from hf, lg_cmp_0]
  refine xs_if_eq (k' := 396) rfl rfl (fun _ => xs_goto (k' := 456) rfl rfl (hW _ _ _)) (fun h => absurd rfl h)
set_option maxRecDepth 100000 in
theorem lx_block {Q1 : Option Value → xH → Prop} (hs : H[0]? = some (aI Ls xs)) (p1 : vp_in (nI i + 1) Ls) (e1 : xs (nI i + 1).toNatClampNeg = v1) (p2 : vp_in (nI i + 2) Ls) (e2 : xs (nI i + 2).toNatClampNeg = v2) (hC : xCtW l x d1 n m mLA_block [.ref 2, .int v1, .int v2, .ref 95] H Q1) (hd1 : d1 + 1 ≤ 1750) (hn : uc + n ≤ mc) (hm : us + m ≤ ms)
    (hM : ∀ v H1, Q1 v H1 → ∃ (c : Int32) (fs : List Value), v = some (.int c) ∧ H1[0]? = some (aI Ls xs) ∧ H1[74]? = some (.inr (12, fs)) ∧ ∃ (d2 : Nat) (Q2 : Option Value → xH → Prop), d2 + 1 ≤ 1750 ∧ xCr l x d2 0 0 mMO_block [.ref 74, .int v1, .int v2] H1 Q2 ∧ ∀ o H2, Q2 o H2 → ∃ (b : Int32) (f : Nat → Int64) (fs2 : List Value), o = some (.int b) ∧ H2[74]? = some (.inr (12, .int c :: fs2)) ∧ (c = 0 → H2[95]? = some (aJ 1 f) ∧ f 0 = b.toInt64) ∧ ∀ y5 y6 y7, xW l x 1750 mc ms mLA_law n0 Q false 456 [some (.ref 0), some (.ref 2), some (.ref 74), some (.ref 95), some (.int (nI i)), y5, y6, y7] [] H2 (uc + n) (us + m)) :
    xW l x 1750 mc ms mLA_law n0 Q cl 404 [some (.ref 0), some (.ref 2), some (.ref 74), some (.ref 95), some (.int (nI i)), y5, y6, y7] [] H uc us := by
  refine xs_aload_n rfl rfl ?_
  refine xs_aload_n rfl rfl ?_
  refine xs_iload rfl rfl ?_
  refine xs_iconstV (v := 1) rfl rfl ?_
  refine xs_iadd rfl ?_
  refine xs_iald rfl hs p1 ?_
  rw [e1]
  refine xs_aload_n rfl rfl ?_
  refine xs_iload rfl rfl ?_
  refine xs_iconstV (v := 2) rfl rfl ?_
  refine xs_iadd rfl ?_
  refine xs_iald rfl hs p2 ?_
  rw [e2]
  refine xs_aload_n rfl rfl ?_
  refine xs_callSW (S := []) rfl lw_108 hC hd1 rfl rfl (Nat.le_of_ble_eq_true rfl) hn hm ?_
  intro v H1 hv
  obtain ⟨c, fs, rfl, hs1, h74, d2, Q2, hd2, hM2, hK⟩ := hM v H1 hv
  refine xs_istore (L' := [some (.ref 0), some (.ref 2), some (.ref 74), some (.ref 95), some (.int (nI i)), some (.int c), y6, y7]) rfl rfl rfl ?_
  refine xs_aload_n rfl rfl ?_
  refine xs_aload_n rfl rfl ?_
  refine xs_iload rfl rfl ?_
  refine xs_iconstV (v := 1) rfl rfl ?_
  refine xs_iadd rfl ?_
  refine xs_iald rfl hs1 p1 ?_
  rw [e1]
  refine xs_aload_n rfl rfl ?_
  refine xs_iload rfl rfl ?_
  refine xs_iconstV (v := 2) rfl rfl ?_
  refine xs_iadd rfl ?_
  refine xs_iald rfl hs1 p2 ?_
  rw [e2]
  refine xs_callV (As := [.int v1, .int v2]) (S := []) rfl lk_16_110 hM2 hd2 h74 rfl rfl rfl rfl (Nat.le_of_ble_eq_true rfl) (by omega) (by omega) ?_
  intro o H2 ho
  obtain ⟨b, f, fs2, rfl, g74, g95, hW⟩ := hK o H2 ho
  refine xs_istore (L' := [some (.ref 0), some (.ref 2), some (.ref 74), some (.ref 95), some (.int (nI i)), some (.int c), some (.int b), y7]) rfl rfl rfl ?_
  refine xs_aload_n rfl rfl ?_
  refine xs_callV (As := []) (S := []) (d' := 0) rfl lk_16_61 (c_MO_thrownG g74) (by decide) g74 rfl rfl rfl rfl (Nat.le_of_ble_eq_true rfl) (by omega) (by omega) ?_
  rintro _ _ ⟨rfl, rfl⟩
  refine xs_iload rfl rfl ?_
  refine xs_icmp_eq (k' := 437) rfl rfl (fun _ => ?_) (fun h => absurd rfl h)
  refine xs_iload rfl rfl ?_
  refine xs_if_ne (k' := 448) rfl rfl (fun _ => xs_goto (k' := 456) rfl rfl (hW _ _ _)) (fun h0 => ?_)
  obtain ⟨h95, hf⟩ := g95 h0
  refine xs_aload_n rfl rfl ?_
  refine xs_iconstV (v := 0) rfl rfl ?_
  refine xs_lald rfl h95 (vp_in_nI (n := 0) (by decide) (by decide)) ?_
  refine xs_iload rfl rfl ?_
  refine xs_i2l rfl ?_
  refine xs_lcmp rfl ?_
  rw [show f (0 : Int32).toNatClampNeg = b.toInt64 from hf, lg_cmp_0]
  refine xs_if_eq (k' := 448) rfl rfl (fun _ => xs_goto (k' := 456) rfl rfl (hW _ _ _)) (fun h => absurd rfl h)
set_option maxRecDepth 100000 in
theorem lx_fault {c : Int32} {fs gs : List Value} {H2 : xH} (h2 : H[2]? = some (.inr (0, fs))) (h74 : H[74]? = some (.inr (12, gs))) (hC : xCr l x d1 0 0 mRP_fault [.ref 2] H (fun o H' => o = some (.int c) ∧ H' = H)) (hM : xCr l x d2 0 0 mMO_fault [.ref 74] H (fun o H' => o = some (.int c) ∧ H' = H2)) (hd1 : d1 + 1 ≤ 1750) (hd2 : d2 + 1 ≤ 1750) (hn : uc ≤ mc) (hm : us ≤ ms) (hW : xW l x 1750 mc ms mLA_law n0 Q false 456 [some (.ref 0), some (.ref 2), some (.ref 74), some (.ref 95), some (.int (nI i)), y5, y6, y7] [] H2 uc us) :
    xW l x 1750 mc ms mLA_law n0 Q cl 282 [some (.ref 0), some (.ref 2), some (.ref 74), some (.ref 95), some (.int (nI i)), y5, y6, y7] [] H uc us := by
  refine xs_aload_n rfl rfl ?_
  refine xs_callV (As := []) (S := []) rfl lk_16_82 hC hd1 h2 rfl rfl rfl rfl (Nat.le_of_ble_eq_true rfl) hn hm ?_
  rintro _ _ ⟨rfl, rfl⟩
  refine xs_aload_n rfl rfl ?_
  refine xs_callV (As := []) (S := [.int c]) rfl lk_16_85 hM hd2 h74 rfl rfl rfl rfl (Nat.le_of_ble_eq_true rfl) hn hm ?_
  rintro _ _ ⟨rfl, rfl⟩
  exact xs_icmp_eq (k' := 456) rfl rfl (fun _ => hW) (fun h => absurd rfl h)
set_option maxRecDepth 100000 in
theorem lx_place {c : Int32} {fs gs : List Value} {H2 : xH} (h2 : H[2]? = some (.inr (0, fs))) (h74 : H[74]? = some (.inr (12, gs))) (hC : xCr l x d1 0 0 mRP_place [.ref 2] H (fun o H' => o = some (.int c) ∧ H' = H)) (hM : xCr l x d2 0 0 mMO_place [.ref 74] H (fun o H' => o = some (.int c) ∧ H' = H2)) (hd1 : d1 + 1 ≤ 1750) (hd2 : d2 + 1 ≤ 1750) (hn : uc ≤ mc) (hm : us ≤ ms) (hW : xW l x 1750 mc ms mLA_law n0 Q false 456 [some (.ref 0), some (.ref 2), some (.ref 74), some (.ref 95), some (.int (nI i)), y5, y6, y7] [] H2 uc us) :
    xW l x 1750 mc ms mLA_law n0 Q cl 289 [some (.ref 0), some (.ref 2), some (.ref 74), some (.ref 95), some (.int (nI i)), y5, y6, y7] [] H uc us := by
  refine xs_aload_n rfl rfl ?_
  refine xs_callV (As := []) (S := []) rfl lk_16_86 hC hd1 h2 rfl rfl rfl rfl (Nat.le_of_ble_eq_true rfl) hn hm ?_
  rintro _ _ ⟨rfl, rfl⟩
  refine xs_aload_n rfl rfl ?_
  refine xs_callV (As := []) (S := [.int c]) rfl lk_16_89 hM hd2 h74 rfl rfl rfl rfl (Nat.le_of_ble_eq_true rfl) hn hm ?_
  rintro _ _ ⟨rfl, rfl⟩
  exact xs_icmp_eq (k' := 456) rfl rfl (fun _ => hW) (fun h => absurd rfl h)
set_option maxRecDepth 100000 in
theorem lx_size {c : Int32} {fs gs : List Value} {H2 : xH} (h2 : H[2]? = some (.inr (0, fs))) (h74 : H[74]? = some (.inr (12, gs))) (hC : xCr l x d1 0 0 mRP_size [.ref 2] H (fun o H' => o = some (.int c) ∧ H' = H)) (hM : xCr l x d2 0 0 mMO_size [.ref 74] H (fun o H' => o = some (.int c) ∧ H' = H2)) (hd1 : d1 + 1 ≤ 1750) (hd2 : d2 + 1 ≤ 1750) (hn : uc ≤ mc) (hm : us ≤ ms) (hW : xW l x 1750 mc ms mLA_law n0 Q false 456 [some (.ref 0), some (.ref 2), some (.ref 74), some (.ref 95), some (.int (nI i)), y5, y6, y7] [] H2 uc us) :
    xW l x 1750 mc ms mLA_law n0 Q cl 296 [some (.ref 0), some (.ref 2), some (.ref 74), some (.ref 95), some (.int (nI i)), y5, y6, y7] [] H uc us := by
  refine xs_aload_n rfl rfl ?_
  refine xs_callV (As := []) (S := []) rfl lk_16_90 hC hd1 h2 rfl rfl rfl rfl (Nat.le_of_ble_eq_true rfl) hn hm ?_
  rintro _ _ ⟨rfl, rfl⟩
  refine xs_aload_n rfl rfl ?_
  refine xs_callV (As := []) (S := [.int c]) rfl lk_16_93 hM hd2 h74 rfl rfl rfl rfl (Nat.le_of_ble_eq_true rfl) hn hm ?_
  rintro _ _ ⟨rfl, rfl⟩
  exact xs_icmp_eq (k' := 456) rfl rfl (fun _ => hW) (fun h => absurd rfl h)
set_option maxRecDepth 100000 in
theorem lx_blocks {c : Int32} {fs gs : List Value} {H2 : xH} (h2 : H[2]? = some (.inr (0, fs))) (h74 : H[74]? = some (.inr (12, gs))) (hC : xCr l x d1 0 0 mRP_blocks [.ref 2] H (fun o H' => o = some (.int c) ∧ H' = H)) (hM : xCr l x d2 0 0 mMO_blocks [.ref 74] H (fun o H' => o = some (.int c) ∧ H' = H2)) (hd1 : d1 + 1 ≤ 1750) (hd2 : d2 + 1 ≤ 1750) (hn : uc ≤ mc) (hm : us ≤ ms) (hW : xW l x 1750 mc ms mLA_law n0 Q false 456 [some (.ref 0), some (.ref 2), some (.ref 74), some (.ref 95), some (.int (nI i)), y5, y6, y7] [] H2 uc us) :
    xW l x 1750 mc ms mLA_law n0 Q cl 397 [some (.ref 0), some (.ref 2), some (.ref 74), some (.ref 95), some (.int (nI i)), y5, y6, y7] [] H uc us := by
  refine xs_aload_n rfl rfl ?_
  refine xs_callV (As := []) (S := []) rfl lk_16_104 hC hd1 h2 rfl rfl rfl rfl (Nat.le_of_ble_eq_true rfl) hn hm ?_
  rintro _ _ ⟨rfl, rfl⟩
  refine xs_aload_n rfl rfl ?_
  refine xs_callV (As := []) (S := [.int c]) rfl lk_16_107 hM hd2 h74 rfl rfl rfl rfl (Nat.le_of_ble_eq_true rfl) hn hm ?_
  rintro _ _ ⟨rfl, rfl⟩
  exact xs_icmp_eq (k' := 456) rfl rfl (fun _ => hW) (fun h => absurd rfl h)
set_option maxRecDepth 100000 in
theorem lx_stretches {c : Int32} {fs gs : List Value} {H2 : xH} (h2 : H[2]? = some (.inr (0, fs))) (h74 : H[74]? = some (.inr (12, gs))) (hC : xCr l x d1 0 0 mRP_stretches [.ref 2] H (fun o H' => o = some (.int c) ∧ H' = H)) (hM : xCr l x d2 0 0 mMO_stretches [.ref 74] H (fun o H' => o = some (.int c) ∧ H' = H2)) (hd1 : d1 + 1 ≤ 1750) (hd2 : d2 + 1 ≤ 1750) (hn : uc ≤ mc) (hm : us ≤ ms) (hW : xW l x 1750 mc ms mLA_law n0 Q false 456 [some (.ref 0), some (.ref 2), some (.ref 74), some (.ref 95), some (.int (nI i)), y5, y6, y7] [] H2 uc us) :
    xW l x 1750 mc ms mLA_law n0 Q cl 449 [some (.ref 0), some (.ref 2), some (.ref 74), some (.ref 95), some (.int (nI i)), y5, y6, y7] [] H uc us := by
  refine xs_aload_n rfl rfl ?_
  refine xs_callV (As := []) (S := []) rfl lk_16_111 hC hd1 h2 rfl rfl rfl rfl (Nat.le_of_ble_eq_true rfl) hn hm ?_
  rintro _ _ ⟨rfl, rfl⟩
  refine xs_aload_n rfl rfl ?_
  refine xs_callV (As := []) (S := [.int c]) rfl lk_16_114 hM hd2 h74 rfl rfl rfl rfl (Nat.le_of_ble_eq_true rfl) hn hm ?_
  rintro _ _ ⟨rfl, rfl⟩
  exact xs_icmp_eq (k' := 456) rfl rfl (fun _ => hW) (fun h => absurd rfl h)
end LawS
