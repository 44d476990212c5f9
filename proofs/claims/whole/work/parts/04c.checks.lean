theorem x_ck_app {b : ByteArray} : ∀ (l1 l2 : List Instr) (pc pc2 : Nat), x_ck b pc l1 = true → pc + x_pc l1 l1.length = pc2 → x_ck b pc2 l2 = true → x_ck b pc (l1 ++ l2) = true := by
  intro l1
  induction l1 with
  | nil =>
    intro l2 pc pc2 _ h h2
    have h : pc + 0 = pc2 := h
    rw [show pc = pc2 by omega]
    exact h2
  | cons i t ih =>
    intro l2 pc pc2 h1 h h2
    rw [x_ck, Bool.and_eq_true] at h1
    show (decide _ && x_ck b (pc + x_len i) (t ++ l2)) = true
    rw [Bool.and_eq_true]
    exact ⟨h1.1, ih l2 _ pc2 h1.2 (by have h : pc + (x_len i + x_pc t t.length) = pc2 := h; omega) h2⟩
theorem x_ck_td {b : ByteArray} {l : List Instr} {pc n pc2 : Nat} (h1 : x_ck b pc (l.take n) = true) (h : pc + x_pc (l.take n) (l.take n).length = pc2) (h2 : x_ck b pc2 (l.drop n) = true) : x_ck b pc l = true := by
  have := x_ck_app _ _ pc pc2 h1 h h2
  rw [List.take_append_drop] at this
  exact this
theorem ck_LAp0 : x_ck mLA_law.2.1 0 (List.take 58 mLA_law.2.2.2.2.2) = true := by decide +kernel
theorem ck_LAp1 : x_ck mLA_law.2.1 158 (List.take 58 (List.drop 58 mLA_law.2.2.2.2.2)) = true := by decide +kernel
theorem ck_LAp2 : x_ck mLA_law.2.1 243 (List.take 58 (List.drop 58 (List.drop 58 mLA_law.2.2.2.2.2))) = true := by decide +kernel
theorem ck_LAp3 : x_ck mLA_law.2.1 332 (List.take 58 (List.drop 58 (List.drop 58 (List.drop 58 mLA_law.2.2.2.2.2)))) = true := by decide +kernel
theorem ck_LAp4 : x_ck mLA_law.2.1 423 (List.take 58 (List.drop 58 (List.drop 58 (List.drop 58 (List.drop 58 mLA_law.2.2.2.2.2))))) = true := by decide +kernel
theorem ck_LAp5 : x_ck mLA_law.2.1 518 (List.take 58 (List.drop 58 (List.drop 58 (List.drop 58 (List.drop 58 (List.drop 58 mLA_law.2.2.2.2.2)))))) = true := by decide +kernel
theorem ck_LAp6 : x_ck mLA_law.2.1 618 (List.take 58 (List.drop 58 (List.drop 58 (List.drop 58 (List.drop 58 (List.drop 58 (List.drop 58 mLA_law.2.2.2.2.2))))))) = true := by decide +kernel
theorem ck_LAp7 : x_ck mLA_law.2.1 713 (List.drop 58 (List.drop 58 (List.drop 58 (List.drop 58 (List.drop 58 (List.drop 58 (List.drop 58 mLA_law.2.2.2.2.2))))))) = true := by decide +kernel
theorem ck_LA_law : x_ck mLA_law.2.1 0 mLA_law.2.2.2.2.2 = true := (x_ck_td (pc := 0) (pc2 := 158) ck_LAp0 (by decide +kernel) (x_ck_td (pc := 158) (pc2 := 243) ck_LAp1 (by decide +kernel) (x_ck_td (pc := 243) (pc2 := 332) ck_LAp2 (by decide +kernel) (x_ck_td (pc := 332) (pc2 := 423) ck_LAp3 (by decide +kernel) (x_ck_td (pc := 423) (pc2 := 518) ck_LAp4 (by decide +kernel) (x_ck_td (pc := 518) (pc2 := 618) ck_LAp5 (by decide +kernel) (x_ck_td (pc := 618) (pc2 := 713) ck_LAp6 (by decide +kernel) ck_LAp7)))))))
