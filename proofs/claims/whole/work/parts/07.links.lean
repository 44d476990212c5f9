theorem x_tb1 {w : Cond} (h : w ∈ tables_1_1) (hg : x_gw w = true := by rfl) : w ∈ x_tw := List.mem_filter.mpr ⟨List.mem_append_right _ (show w ∈ tables_1_1 ++ (tables_1_2 ++ (tables_1_3 ++ (tables_1_4 ++ (tables_1_5 ++ (tables_1_6 ++ tables_1_7))))) from List.mem_append_left _ h), hg⟩
theorem x_tb2 {w : Cond} (h : w ∈ tables_1_2) (hg : x_gw w = true := by rfl) : w ∈ x_tw := List.mem_filter.mpr ⟨List.mem_append_right _ (show w ∈ tables_1_1 ++ (tables_1_2 ++ (tables_1_3 ++ (tables_1_4 ++ (tables_1_5 ++ (tables_1_6 ++ tables_1_7))))) from List.mem_append_right _ (List.mem_append_left _ h)), hg⟩
theorem x_tb3 {w : Cond} (h : w ∈ tables_1_3) (hg : x_gw w = true := by rfl) : w ∈ x_tw := List.mem_filter.mpr ⟨List.mem_append_right _ (show w ∈ tables_1_1 ++ (tables_1_2 ++ (tables_1_3 ++ (tables_1_4 ++ (tables_1_5 ++ (tables_1_6 ++ tables_1_7))))) from List.mem_append_right _ (List.mem_append_right _ (List.mem_append_left _ h))), hg⟩
theorem x_tb4 {w : Cond} (h : w ∈ tables_1_4) (hg : x_gw w = true := by rfl) : w ∈ x_tw := List.mem_filter.mpr ⟨List.mem_append_right _ (show w ∈ tables_1_1 ++ (tables_1_2 ++ (tables_1_3 ++ (tables_1_4 ++ (tables_1_5 ++ (tables_1_6 ++ tables_1_7))))) from List.mem_append_right _ (List.mem_append_right _ (List.mem_append_right _ (List.mem_append_left _ h)))), hg⟩
theorem x_tb5 {w : Cond} (h : w ∈ tables_1_5) (hg : x_gw w = true := by rfl) : w ∈ x_tw := List.mem_filter.mpr ⟨List.mem_append_right _ (show w ∈ tables_1_1 ++ (tables_1_2 ++ (tables_1_3 ++ (tables_1_4 ++ (tables_1_5 ++ (tables_1_6 ++ tables_1_7))))) from List.mem_append_right _ (List.mem_append_right _ (List.mem_append_right _ (List.mem_append_right _ (List.mem_append_left _ h))))), hg⟩
theorem x_tb6 {w : Cond} (h : w ∈ tables_1_6) (hg : x_gw w = true := by rfl) : w ∈ x_tw := List.mem_filter.mpr ⟨List.mem_append_right _ (show w ∈ tables_1_1 ++ (tables_1_2 ++ (tables_1_3 ++ (tables_1_4 ++ (tables_1_5 ++ (tables_1_6 ++ tables_1_7))))) from List.mem_append_right _ (List.mem_append_right _ (List.mem_append_right _ (List.mem_append_right _ (List.mem_append_right _ (List.mem_append_left _ h)))))), hg⟩
theorem x_tb7 {w : Cond} (h : w ∈ tables_1_7) (hg : x_gw w = true := by rfl) : w ∈ x_tw := List.mem_filter.mpr ⟨List.mem_append_right _ (show w ∈ tables_1_1 ++ (tables_1_2 ++ (tables_1_3 ++ (tables_1_4 ++ (tables_1_5 ++ (tables_1_6 ++ tables_1_7))))) from List.mem_append_right _ (List.mem_append_right _ (List.mem_append_right _ (List.mem_append_right _ (List.mem_append_right _ (List.mem_append_right _ (h))))))), hg⟩
theorem x_in0 : ∀ k, k < 6 → u_lay "RowPacker" x_T0 k ∈ x_tw
  | 0, _ => x_tb2 (List.mem_of_getElem? (i := 157) rfl)
  | 1, _ => x_tb2 (List.mem_of_getElem? (i := 159) rfl)
  | 2, _ => x_tb2 (List.mem_of_getElem? (i := 161) rfl)
  | 3, _ => x_tb2 (List.mem_of_getElem? (i := 163) rfl)
  | 4, _ => x_tb2 (List.mem_of_getElem? (i := 165) rfl)
  | 5, _ => x_tb2 (List.mem_of_getElem? (i := 167) rfl)
  | k + 6, h => absurd h (by omega)
theorem x_tk0 : ∀ k, k < 6 → parseFieldDescriptor (x_T0 k).2.2.1 = some (x_ty0 k) := by decide +kernel
theorem x_nm0 : ∀ a, a < 6 → ∀ b, b < 6 → a ≠ b → (x_T0 a).2.1 ≠ (x_T0 b).2.1 := by decide +kernel
theorem x_in1 : ∀ k, k < 3 → u_lay "RowPacker$BitWriter" x_T1 k ∈ x_tw
  | 0, _ => x_tb2 (List.mem_of_getElem? (i := 6) rfl)
  | 1, _ => x_tb2 (List.mem_of_getElem? (i := 8) rfl)
  | 2, _ => x_tb2 (List.mem_of_getElem? (i := 10) rfl)
  | k + 3, h => absurd h (by omega)
theorem x_tk1 : ∀ k, k < 3 → parseFieldDescriptor (x_T1 k).2.2.1 = some (x_ty1 k) := by decide +kernel
theorem x_nm1 : ∀ a, a < 3 → ∀ b, b < 3 → a ≠ b → (x_T1 a).2.1 ≠ (x_T1 b).2.1 := by decide +kernel
theorem x_in2 : ∀ k, k < 7 → u_lay "RowPacker$Finder" x_T2 k ∈ x_tw
  | 0, _ => x_tb1 (List.mem_of_getElem? (i := 222) rfl)
  | 1, _ => x_tb1 (List.mem_of_getElem? (i := 224) rfl)
  | 2, _ => x_tb1 (List.mem_of_getElem? (i := 226) rfl)
  | 3, _ => x_tb1 (List.mem_of_getElem? (i := 228) rfl)
  | 4, _ => x_tb1 (List.mem_of_getElem? (i := 230) rfl)
  | 5, _ => x_tb1 (List.mem_of_getElem? (i := 232) rfl)
  | 6, _ => x_tb1 (List.mem_of_getElem? (i := 234) rfl)
  | k + 7, h => absurd h (by omega)
theorem x_tk2 : ∀ k, k < 7 → parseFieldDescriptor (x_T2 k).2.2.1 = some (x_ty2 k) := by decide +kernel
theorem x_nm2 : ∀ a, a < 7 → ∀ b, b < 7 → a ≠ b → (x_T2 a).2.1 ≠ (x_T2 b).2.1 := by decide +kernel
theorem x_in3 : ∀ k, k < 12 → u_lay "RowPacker$MadeCodes" x_T3 k ∈ x_tw
  | 0, _ => x_tb1 (List.mem_of_getElem? (i := 181) rfl)
  | 1, _ => x_tb1 (List.mem_of_getElem? (i := 183) rfl)
  | 2, _ => x_tb1 (List.mem_of_getElem? (i := 185) rfl)
  | 3, _ => x_tb1 (List.mem_of_getElem? (i := 187) rfl)
  | 4, _ => x_tb1 (List.mem_of_getElem? (i := 189) rfl)
  | 5, _ => x_tb1 (List.mem_of_getElem? (i := 191) rfl)
  | 6, _ => x_tb1 (List.mem_of_getElem? (i := 193) rfl)
  | 7, _ => x_tb1 (List.mem_of_getElem? (i := 195) rfl)
  | 8, _ => x_tb1 (List.mem_of_getElem? (i := 197) rfl)
  | 9, _ => x_tb1 (List.mem_of_getElem? (i := 199) rfl)
  | 10, _ => x_tb1 (List.mem_of_getElem? (i := 201) rfl)
  | 11, _ => x_tb1 (List.mem_of_getElem? (i := 203) rfl)
  | k + 12, h => absurd h (by omega)
theorem x_tk3 : ∀ k, k < 12 → parseFieldDescriptor (x_T3 k).2.2.1 = some (x_ty3 k) := by decide +kernel
theorem x_nm3 : ∀ a, a < 12 → ∀ b, b < 12 → a ≠ b → (x_T3 a).2.1 ≠ (x_T3 b).2.1 := by decide +kernel
theorem x_in4 : ∀ k, k < 16 → u_lay "RowPacker$Packer" x_T4 k ∈ x_tw
  | 0, _ => x_tb2 (List.mem_of_getElem? (i := 43) rfl)
  | 1, _ => x_tb2 (List.mem_of_getElem? (i := 45) rfl)
  | 2, _ => x_tb2 (List.mem_of_getElem? (i := 47) rfl)
  | 3, _ => x_tb2 (List.mem_of_getElem? (i := 49) rfl)
  | 4, _ => x_tb2 (List.mem_of_getElem? (i := 51) rfl)
  | 5, _ => x_tb2 (List.mem_of_getElem? (i := 53) rfl)
  | 6, _ => x_tb2 (List.mem_of_getElem? (i := 55) rfl)
  | 7, _ => x_tb2 (List.mem_of_getElem? (i := 57) rfl)
  | 8, _ => x_tb2 (List.mem_of_getElem? (i := 59) rfl)
  | 9, _ => x_tb2 (List.mem_of_getElem? (i := 61) rfl)
  | 10, _ => x_tb2 (List.mem_of_getElem? (i := 63) rfl)
  | 11, _ => x_tb2 (List.mem_of_getElem? (i := 65) rfl)
  | 12, _ => x_tb2 (List.mem_of_getElem? (i := 67) rfl)
  | 13, _ => x_tb2 (List.mem_of_getElem? (i := 69) rfl)
  | 14, _ => x_tb2 (List.mem_of_getElem? (i := 71) rfl)
  | 15, _ => x_tb2 (List.mem_of_getElem? (i := 73) rfl)
  | k + 16, h => absurd h (by omega)
theorem x_tk4 : ∀ k, k < 16 → parseFieldDescriptor (x_T4 k).2.2.1 = some (x_ty4 k) := by decide +kernel
theorem x_nm4 : ∀ a, a < 16 → ∀ b, b < 16 → a ≠ b → (x_T4 a).2.1 ≠ (x_T4 b).2.1 := by decide +kernel
theorem x_in5 : ∀ k, k < 4 → u_lay "RowPacker$ReadCode" x_T5 k ∈ x_tw
  | 0, _ => x_tb2 (List.mem_of_getElem? (i := 95) rfl)
  | 1, _ => x_tb2 (List.mem_of_getElem? (i := 97) rfl)
  | 2, _ => x_tb2 (List.mem_of_getElem? (i := 99) rfl)
  | 3, _ => x_tb2 (List.mem_of_getElem? (i := 101) rfl)
  | k + 4, h => absurd h (by omega)
theorem x_tk5 : ∀ k, k < 4 → parseFieldDescriptor (x_T5 k).2.2.1 = some (x_ty5 k) := by decide +kernel
theorem x_nm5 : ∀ a, a < 4 → ∀ b, b < 4 → a ≠ b → (x_T5 a).2.1 ≠ (x_T5 b).2.1 := by decide +kernel
theorem x_in6 : ∀ k, k < 5 → u_lay "RowPacker$Report" x_T6 k ∈ x_tw
  | 0, _ => x_tb1 (List.mem_of_getElem? (i := 84) rfl)
  | 1, _ => x_tb1 (List.mem_of_getElem? (i := 86) rfl)
  | 2, _ => x_tb1 (List.mem_of_getElem? (i := 88) rfl)
  | 3, _ => x_tb1 (List.mem_of_getElem? (i := 90) rfl)
  | 4, _ => x_tb1 (List.mem_of_getElem? (i := 92) rfl)
  | k + 5, h => absurd h (by omega)
theorem x_tk6 : ∀ k, k < 5 → parseFieldDescriptor (x_T6 k).2.2.1 = some (x_ty6 k) := by decide +kernel
theorem x_nm6 : ∀ a, a < 5 → ∀ b, b < 5 → a ≠ b → (x_T6 a).2.1 ≠ (x_T6 b).2.1 := by decide +kernel
theorem x_in7 : ∀ k, k < 2 → u_lay "RowPacker$Row" x_T7 k ∈ x_tw
  | 0, _ => x_tb1 (List.mem_of_getElem? (i := 57) rfl)
  | 1, _ => x_tb1 (List.mem_of_getElem? (i := 59) rfl)
  | k + 2, h => absurd h (by omega)
theorem x_tk7 : ∀ k, k < 2 → parseFieldDescriptor (x_T7 k).2.2.1 = some (x_ty7 k) := by decide +kernel
theorem x_nm7 : ∀ a, a < 2 → ∀ b, b < 2 → a ≠ b → (x_T7 a).2.1 ≠ (x_T7 b).2.1 := by decide +kernel
theorem x_in8 : ∀ k, k < 1 → u_lay "RowPacker$Sums" x_T8 k ∈ x_tw
  | 0, _ => x_tb1 (List.mem_of_getElem? (i := 104) rfl)
  | k + 1, h => absurd h (by omega)
theorem x_tk8 : ∀ k, k < 1 → parseFieldDescriptor (x_T8 k).2.2.1 = some (x_ty8 k) := by decide +kernel
theorem x_nm8 : ∀ a, a < 1 → ∀ b, b < 1 → a ≠ b → (x_T8 a).2.1 ≠ (x_T8 b).2.1 := by decide +kernel
theorem x_in9 : ∀ k, k < 13 → u_lay "RowPacker$Unpacker" x_T9 k ∈ x_tw
  | 0, _ => x_tb2 (List.mem_of_getElem? (i := 124) rfl)
  | 1, _ => x_tb2 (List.mem_of_getElem? (i := 126) rfl)
  | 2, _ => x_tb2 (List.mem_of_getElem? (i := 128) rfl)
  | 3, _ => x_tb2 (List.mem_of_getElem? (i := 130) rfl)
  | 4, _ => x_tb2 (List.mem_of_getElem? (i := 132) rfl)
  | 5, _ => x_tb2 (List.mem_of_getElem? (i := 134) rfl)
  | 6, _ => x_tb2 (List.mem_of_getElem? (i := 136) rfl)
  | 7, _ => x_tb2 (List.mem_of_getElem? (i := 138) rfl)
  | 8, _ => x_tb2 (List.mem_of_getElem? (i := 140) rfl)
  | 9, _ => x_tb2 (List.mem_of_getElem? (i := 142) rfl)
  | 10, _ => x_tb2 (List.mem_of_getElem? (i := 144) rfl)
  | 11, _ => x_tb2 (List.mem_of_getElem? (i := 146) rfl)
  | 12, _ => x_tb2 (List.mem_of_getElem? (i := 148) rfl)
  | k + 13, h => absurd h (by omega)
theorem x_tk9 : ∀ k, k < 13 → parseFieldDescriptor (x_T9 k).2.2.1 = some (x_ty9 k) := by decide +kernel
theorem x_nm9 : ∀ a, a < 13 → ∀ b, b < 13 → a ≠ b → (x_T9 a).2.1 ≠ (x_T9 b).2.1 := by decide +kernel
theorem x_in10 : ∀ k, k < 6 → u_lay "RowPacker$Weigher" x_T10 k ∈ x_tw
  | 0, _ => x_tb1 (List.mem_of_getElem? (i := 153) rfl)
  | 1, _ => x_tb1 (List.mem_of_getElem? (i := 155) rfl)
  | 2, _ => x_tb1 (List.mem_of_getElem? (i := 157) rfl)
  | 3, _ => x_tb1 (List.mem_of_getElem? (i := 159) rfl)
  | 4, _ => x_tb1 (List.mem_of_getElem? (i := 161) rfl)
  | 5, _ => x_tb1 (List.mem_of_getElem? (i := 163) rfl)
  | k + 6, h => absurd h (by omega)
theorem x_tk10 : ∀ k, k < 6 → parseFieldDescriptor (x_T10 k).2.2.1 = some (x_ty10 k) := by decide +kernel
theorem x_nm10 : ∀ a, a < 6 → ∀ b, b < 6 → a ≠ b → (x_T10 a).2.1 ≠ (x_T10 b).2.1 := by decide +kernel
theorem x_in11 : ∀ k, k < 3 → u_lay "RowPacker$WriteCode" x_T11 k ∈ x_tw
  | 0, _ => x_tb1 (List.mem_of_getElem? (i := 126) rfl)
  | 1, _ => x_tb1 (List.mem_of_getElem? (i := 128) rfl)
  | 2, _ => x_tb1 (List.mem_of_getElem? (i := 130) rfl)
  | k + 3, h => absurd h (by omega)
theorem x_tk11 : ∀ k, k < 3 → parseFieldDescriptor (x_T11 k).2.2.1 = some (x_ty11 k) := by decide +kernel
theorem x_nm11 : ∀ a, a < 3 → ∀ b, b < 3 → a ≠ b → (x_T11 a).2.1 ≠ (x_T11 b).2.1 := by decide +kernel
theorem x_in12 : ∀ k, k < 34 → u_lay "RowPackerModel" x_T12 k ∈ x_tw
  | 0, _ => x_tb6 (List.mem_of_getElem? (i := 61) rfl)
  | 1, _ => x_tb6 (List.mem_of_getElem? (i := 63) rfl)
  | 2, _ => x_tb6 (List.mem_of_getElem? (i := 65) rfl)
  | 3, _ => x_tb6 (List.mem_of_getElem? (i := 67) rfl)
  | 4, _ => x_tb6 (List.mem_of_getElem? (i := 69) rfl)
  | 5, _ => x_tb6 (List.mem_of_getElem? (i := 71) rfl)
  | 6, _ => x_tb6 (List.mem_of_getElem? (i := 73) rfl)
  | 7, _ => x_tb6 (List.mem_of_getElem? (i := 75) rfl)
  | 8, _ => x_tb6 (List.mem_of_getElem? (i := 77) rfl)
  | 9, _ => x_tb6 (List.mem_of_getElem? (i := 79) rfl)
  | 10, _ => x_tb6 (List.mem_of_getElem? (i := 81) rfl)
  | 11, _ => x_tb6 (List.mem_of_getElem? (i := 83) rfl)
  | 12, _ => x_tb6 (List.mem_of_getElem? (i := 85) rfl)
  | 13, _ => x_tb6 (List.mem_of_getElem? (i := 87) rfl)
  | 14, _ => x_tb6 (List.mem_of_getElem? (i := 89) rfl)
  | 15, _ => x_tb6 (List.mem_of_getElem? (i := 91) rfl)
  | 16, _ => x_tb6 (List.mem_of_getElem? (i := 93) rfl)
  | 17, _ => x_tb6 (List.mem_of_getElem? (i := 95) rfl)
  | 18, _ => x_tb6 (List.mem_of_getElem? (i := 97) rfl)
  | 19, _ => x_tb6 (List.mem_of_getElem? (i := 99) rfl)
  | 20, _ => x_tb6 (List.mem_of_getElem? (i := 101) rfl)
  | 21, _ => x_tb6 (List.mem_of_getElem? (i := 103) rfl)
  | 22, _ => x_tb6 (List.mem_of_getElem? (i := 105) rfl)
  | 23, _ => x_tb6 (List.mem_of_getElem? (i := 107) rfl)
  | 24, _ => x_tb6 (List.mem_of_getElem? (i := 109) rfl)
  | 25, _ => x_tb6 (List.mem_of_getElem? (i := 111) rfl)
  | 26, _ => x_tb6 (List.mem_of_getElem? (i := 113) rfl)
  | 27, _ => x_tb6 (List.mem_of_getElem? (i := 115) rfl)
  | 28, _ => x_tb6 (List.mem_of_getElem? (i := 117) rfl)
  | 29, _ => x_tb6 (List.mem_of_getElem? (i := 119) rfl)
  | 30, _ => x_tb6 (List.mem_of_getElem? (i := 121) rfl)
  | 31, _ => x_tb6 (List.mem_of_getElem? (i := 123) rfl)
  | 32, _ => x_tb6 (List.mem_of_getElem? (i := 125) rfl)
  | 33, _ => x_tb6 (List.mem_of_getElem? (i := 127) rfl)
  | k + 34, h => absurd h (by omega)
theorem x_tk12 : ∀ k, k < 34 → parseFieldDescriptor (x_T12 k).2.2.1 = some (x_ty12 k) := by decide +kernel
theorem x_nm12 : ∀ a, a < 34 → ∀ b, b < 34 → a ≠ b → (x_T12 a).2.1 ≠ (x_T12 b).2.1 := by decide +kernel
theorem x_in13 : ∀ k, k < 0 → u_lay "java/lang/IllegalStateException" x_T13 k ∈ x_tw
  | k, h => absurd h (by omega)
theorem x_tk13 : ∀ k, k < 0 → parseFieldDescriptor (x_T13 k).2.2.1 = some (x_ty13 k) := by decide +kernel
theorem x_nm13 : ∀ a, a < 0 → ∀ b, b < 0 → a ≠ b → (x_T13 a).2.1 ≠ (x_T13 b).2.1 := by decide +kernel
theorem x_in14 : ∀ k, k < 0 → u_lay "java/lang/IllegalArgumentException" x_T14 k ∈ x_tw
  | k, h => absurd h (by omega)
theorem x_tk14 : ∀ k, k < 0 → parseFieldDescriptor (x_T14 k).2.2.1 = some (x_ty14 k) := by decide +kernel
theorem x_nm14 : ∀ a, a < 0 → ∀ b, b < 0 → a ≠ b → (x_T14 a).2.1 ≠ (x_T14 b).2.1 := by decide +kernel
theorem x_in15 : ∀ k, k < 0 → u_lay "java/lang/IndexOutOfBoundsException" x_T15 k ∈ x_tw
  | k, h => absurd h (by omega)
theorem x_tk15 : ∀ k, k < 0 → parseFieldDescriptor (x_T15 k).2.2.1 = some (x_ty15 k) := by decide +kernel
theorem x_nm15 : ∀ a, a < 0 → ∀ b, b < 0 → a ≠ b → (x_T15 a).2.1 ≠ (x_T15 b).2.1 := by decide +kernel
/-- a class of the list: its words, its types, its names apart -/
def x_okc (ci : Nat) (q : vw_C) : Prop := (∀ w ∈ u_ws q.1 q.2.1 q.2.2, w ∈ x_tw) ∧ (∀ k, k < q.2.2 → parseFieldDescriptor (q.2.1 k).2.2.1 = some (x_tys ci k)) ∧ ∀ a, a < q.2.2 → ∀ b, b < q.2.2 → a ≠ b → (q.2.1 a).2.1 ≠ (q.2.1 b).2.1
theorem x_okc_of {ci : Nat} {C : String} {T : u_T} {N : Nat} (h1 : ∀ k, k < N → u_lay C T k ∈ x_tw) (h2 : ∀ k, k < N → parseFieldDescriptor (T k).2.2.1 = some (x_tys ci k)) (h3 : ∀ a, a < N → ∀ b, b < N → a ≠ b → (T a).2.1 ≠ (T b).2.1) : x_okc ci (C, T, N) := ⟨fun w hw => by obtain ⟨k, hk, rfl⟩ := List.mem_map.mp hw; exact h1 k (List.mem_range.mp hk), h2, h3⟩
theorem x_okc_all : ∀ (ci : Nat) (q : vw_C), x_cl[ci]? = some q → x_okc ci q
  | 0, q, h => by cases h; exact x_okc_of x_in0 x_tk0 x_nm0
  | 1, q, h => by cases h; exact x_okc_of x_in1 x_tk1 x_nm1
  | 2, q, h => by cases h; exact x_okc_of x_in2 x_tk2 x_nm2
  | 3, q, h => by cases h; exact x_okc_of x_in3 x_tk3 x_nm3
  | 4, q, h => by cases h; exact x_okc_of x_in4 x_tk4 x_nm4
  | 5, q, h => by cases h; exact x_okc_of x_in5 x_tk5 x_nm5
  | 6, q, h => by cases h; exact x_okc_of x_in6 x_tk6 x_nm6
  | 7, q, h => by cases h; exact x_okc_of x_in7 x_tk7 x_nm7
  | 8, q, h => by cases h; exact x_okc_of x_in8 x_tk8 x_nm8
  | 9, q, h => by cases h; exact x_okc_of x_in9 x_tk9 x_nm9
  | 10, q, h => by cases h; exact x_okc_of x_in10 x_tk10 x_nm10
  | 11, q, h => by cases h; exact x_okc_of x_in11 x_tk11 x_nm11
  | 12, q, h => by cases h; exact x_okc_of x_in12 x_tk12 x_nm12
  | 13, q, h => by cases h; exact x_okc_of x_in13 x_tk13 x_nm13
  | 14, q, h => by cases h; exact x_okc_of x_in14 x_tk14 x_nm14
  | 15, q, h => by cases h; exact x_okc_of x_in15 x_tk15 x_nm15
  | k + 16, q, h => by simp [x_cl] at h
def x_FL (own idx ci k : Nat) : Prop := ∃ q : vw_C, x_cl[ci]? = some q ∧ k < q.2.2 ∧ Cond.fieldLink (x_cn own) idx (q.2.1 k).1 (q.2.1 k).2.1 (q.2.1 k).2.2.1 ∈ x_tw
theorem fl_7_7 : x_FL 7 7 7 0 := ⟨_, rfl, by decide, x_tb1 (List.mem_of_getElem? (i := 47) rfl)⟩
theorem fl_7_13 : x_FL 7 13 7 1 := ⟨_, rfl, by decide, x_tb1 (List.mem_of_getElem? (i := 55) rfl)⟩
theorem fl_2_62 : x_FL 2 62 7 0 := ⟨_, rfl, by decide, x_tb1 (List.mem_of_getElem? (i := 48) rfl)⟩
theorem fl_2_43 : x_FL 2 43 7 1 := ⟨_, rfl, by decide, x_tb1 (List.mem_of_getElem? (i := 56) rfl)⟩
theorem fl_2_36 : x_FL 2 36 2 0 := ⟨_, rfl, by decide, x_tb1 (List.mem_of_getElem? (i := 213) rfl)⟩
theorem fl_2_74 : x_FL 2 74 2 1 := ⟨_, rfl, by decide, x_tb1 (List.mem_of_getElem? (i := 216) rfl)⟩
theorem fl_2_19 : x_FL 2 19 2 2 := ⟨_, rfl, by decide, x_tb1 (List.mem_of_getElem? (i := 217) rfl)⟩
theorem fl_2_11 : x_FL 2 11 2 3 := ⟨_, rfl, by decide, x_tb1 (List.mem_of_getElem? (i := 218) rfl)⟩
theorem fl_2_16 : x_FL 2 16 2 4 := ⟨_, rfl, by decide, x_tb1 (List.mem_of_getElem? (i := 219) rfl)⟩
theorem fl_2_29 : x_FL 2 29 2 5 := ⟨_, rfl, by decide, x_tb1 (List.mem_of_getElem? (i := 220) rfl)⟩
theorem fl_2_33 : x_FL 2 33 2 6 := ⟨_, rfl, by decide, x_tb1 (List.mem_of_getElem? (i := 221) rfl)⟩
theorem fl_0_73 : x_FL 0 73 7 0 := ⟨_, rfl, by decide, x_tb1 (List.mem_of_getElem? (i := 49) rfl)⟩
theorem fl_0_53 : x_FL 0 53 7 1 := ⟨_, rfl, by decide, x_tb1 (List.mem_of_getElem? (i := 51) rfl)⟩
theorem fl_0_109 : x_FL 0 109 6 0 := ⟨_, rfl, by decide, x_tb1 (List.mem_of_getElem? (i := 71) rfl)⟩
theorem fl_0_87 : x_FL 0 87 6 1 := ⟨_, rfl, by decide, x_tb1 (List.mem_of_getElem? (i := 74) rfl)⟩
theorem fl_0_90 : x_FL 0 90 6 2 := ⟨_, rfl, by decide, x_tb1 (List.mem_of_getElem? (i := 77) rfl)⟩
theorem fl_0_106 : x_FL 0 106 6 3 := ⟨_, rfl, by decide, x_tb1 (List.mem_of_getElem? (i := 79) rfl)⟩
theorem fl_0_113 : x_FL 0 113 6 4 := ⟨_, rfl, by decide, x_tb1 (List.mem_of_getElem? (i := 82) rfl)⟩
theorem fl_0_15 : x_FL 0 15 0 0 := ⟨_, rfl, by decide, x_tb2 (List.mem_of_getElem? (i := 151) rfl)⟩
theorem fl_0_20 : x_FL 0 20 0 1 := ⟨_, rfl, by decide, x_tb2 (List.mem_of_getElem? (i := 152) rfl)⟩
theorem fl_0_26 : x_FL 0 26 0 2 := ⟨_, rfl, by decide, x_tb2 (List.mem_of_getElem? (i := 153) rfl)⟩
theorem fl_0_33 : x_FL 0 33 0 3 := ⟨_, rfl, by decide, x_tb2 (List.mem_of_getElem? (i := 154) rfl)⟩
theorem fl_0_42 : x_FL 0 42 0 4 := ⟨_, rfl, by decide, x_tb2 (List.mem_of_getElem? (i := 155) rfl)⟩
theorem fl_0_49 : x_FL 0 49 0 5 := ⟨_, rfl, by decide, x_tb2 (List.mem_of_getElem? (i := 156) rfl)⟩
theorem fl_9_144 : x_FL 9 144 7 0 := ⟨_, rfl, by decide, x_tb1 (List.mem_of_getElem? (i := 50) rfl)⟩
theorem fl_9_68 : x_FL 9 68 7 1 := ⟨_, rfl, by decide, x_tb1 (List.mem_of_getElem? (i := 53) rfl)⟩
theorem fl_9_95 : x_FL 9 95 6 1 := ⟨_, rfl, by decide, x_tb1 (List.mem_of_getElem? (i := 73) rfl)⟩
theorem fl_9_102 : x_FL 9 102 6 2 := ⟨_, rfl, by decide, x_tb1 (List.mem_of_getElem? (i := 76) rfl)⟩
theorem fl_9_229 : x_FL 9 229 6 4 := ⟨_, rfl, by decide, x_tb1 (List.mem_of_getElem? (i := 83) rfl)⟩
theorem fl_9_151 : x_FL 9 151 5 0 := ⟨_, rfl, by decide, x_tb2 (List.mem_of_getElem? (i := 89) rfl)⟩
theorem fl_9_154 : x_FL 9 154 5 1 := ⟨_, rfl, by decide, x_tb2 (List.mem_of_getElem? (i := 91) rfl)⟩
theorem fl_9_148 : x_FL 9 148 5 2 := ⟨_, rfl, by decide, x_tb2 (List.mem_of_getElem? (i := 93) rfl)⟩
theorem fl_9_34 : x_FL 9 34 9 0 := ⟨_, rfl, by decide, x_tb2 (List.mem_of_getElem? (i := 111) rfl)⟩
theorem fl_9_38 : x_FL 9 38 9 1 := ⟨_, rfl, by decide, x_tb2 (List.mem_of_getElem? (i := 112) rfl)⟩
theorem fl_9_41 : x_FL 9 41 9 2 := ⟨_, rfl, by decide, x_tb2 (List.mem_of_getElem? (i := 113) rfl)⟩
theorem fl_9_45 : x_FL 9 45 9 3 := ⟨_, rfl, by decide, x_tb2 (List.mem_of_getElem? (i := 114) rfl)⟩
theorem fl_9_12 : x_FL 9 12 9 4 := ⟨_, rfl, by decide, x_tb2 (List.mem_of_getElem? (i := 115) rfl)⟩
theorem fl_9_18 : x_FL 9 18 9 5 := ⟨_, rfl, by decide, x_tb2 (List.mem_of_getElem? (i := 116) rfl)⟩
theorem fl_9_21 : x_FL 9 21 9 6 := ⟨_, rfl, by decide, x_tb2 (List.mem_of_getElem? (i := 117) rfl)⟩
theorem fl_9_24 : x_FL 9 24 9 7 := ⟨_, rfl, by decide, x_tb2 (List.mem_of_getElem? (i := 118) rfl)⟩
theorem fl_9_27 : x_FL 9 27 9 8 := ⟨_, rfl, by decide, x_tb2 (List.mem_of_getElem? (i := 119) rfl)⟩
theorem fl_9_30 : x_FL 9 30 9 9 := ⟨_, rfl, by decide, x_tb2 (List.mem_of_getElem? (i := 120) rfl)⟩
theorem fl_9_74 : x_FL 9 74 9 10 := ⟨_, rfl, by decide, x_tb2 (List.mem_of_getElem? (i := 121) rfl)⟩
theorem fl_9_77 : x_FL 9 77 9 11 := ⟨_, rfl, by decide, x_tb2 (List.mem_of_getElem? (i := 122) rfl)⟩
theorem fl_9_81 : x_FL 9 81 9 12 := ⟨_, rfl, by decide, x_tb2 (List.mem_of_getElem? (i := 123) rfl)⟩
theorem fl_1_13 : x_FL 1 13 7 1 := ⟨_, rfl, by decide, x_tb1 (List.mem_of_getElem? (i := 52) rfl)⟩
theorem fl_1_39 : x_FL 1 39 11 0 := ⟨_, rfl, by decide, x_tb1 (List.mem_of_getElem? (i := 122) rfl)⟩
theorem fl_1_33 : x_FL 1 33 11 1 := ⟨_, rfl, by decide, x_tb1 (List.mem_of_getElem? (i := 124) rfl)⟩
theorem fl_1_7 : x_FL 1 7 1 0 := ⟨_, rfl, by decide, x_tb2 (List.mem_of_getElem? (i := 3) rfl)⟩
theorem fl_1_19 : x_FL 1 19 1 1 := ⟨_, rfl, by decide, x_tb2 (List.mem_of_getElem? (i := 4) rfl)⟩
theorem fl_1_22 : x_FL 1 22 1 2 := ⟨_, rfl, by decide, x_tb2 (List.mem_of_getElem? (i := 5) rfl)⟩
theorem fl_4_114 : x_FL 4 114 7 1 := ⟨_, rfl, by decide, x_tb1 (List.mem_of_getElem? (i := 54) rfl)⟩
theorem fl_4_185 : x_FL 4 185 6 4 := ⟨_, rfl, by decide, x_tb1 (List.mem_of_getElem? (i := 81) rfl)⟩
theorem fl_4_71 : x_FL 4 71 11 0 := ⟨_, rfl, by decide, x_tb1 (List.mem_of_getElem? (i := 120) rfl)⟩
theorem fl_4_202 : x_FL 4 202 3 0 := ⟨_, rfl, by decide, x_tb1 (List.mem_of_getElem? (i := 168) rfl)⟩
theorem fl_4_205 : x_FL 4 205 3 1 := ⟨_, rfl, by decide, x_tb1 (List.mem_of_getElem? (i := 170) rfl)⟩
theorem fl_4_158 : x_FL 4 158 2 0 := ⟨_, rfl, by decide, x_tb1 (List.mem_of_getElem? (i := 214) rfl)⟩
theorem fl_4_161 : x_FL 4 161 2 1 := ⟨_, rfl, by decide, x_tb1 (List.mem_of_getElem? (i := 215) rfl)⟩
theorem fl_4_43 : x_FL 4 43 4 0 := ⟨_, rfl, by decide, x_tb2 (List.mem_of_getElem? (i := 27) rfl)⟩
theorem fl_4_47 : x_FL 4 47 4 1 := ⟨_, rfl, by decide, x_tb2 (List.mem_of_getElem? (i := 28) rfl)⟩
theorem fl_4_51 : x_FL 4 51 4 2 := ⟨_, rfl, by decide, x_tb2 (List.mem_of_getElem? (i := 29) rfl)⟩
theorem fl_4_60 : x_FL 4 60 4 3 := ⟨_, rfl, by decide, x_tb2 (List.mem_of_getElem? (i := 30) rfl)⟩
theorem fl_4_67 : x_FL 4 67 4 4 := ⟨_, rfl, by decide, x_tb2 (List.mem_of_getElem? (i := 31) rfl)⟩
theorem fl_4_14 : x_FL 4 14 4 5 := ⟨_, rfl, by decide, x_tb2 (List.mem_of_getElem? (i := 32) rfl)⟩
theorem fl_4_20 : x_FL 4 20 4 6 := ⟨_, rfl, by decide, x_tb2 (List.mem_of_getElem? (i := 33) rfl)⟩
theorem fl_4_26 : x_FL 4 26 4 7 := ⟨_, rfl, by decide, x_tb2 (List.mem_of_getElem? (i := 34) rfl)⟩
theorem fl_4_30 : x_FL 4 30 4 8 := ⟨_, rfl, by decide, x_tb2 (List.mem_of_getElem? (i := 35) rfl)⟩
theorem fl_4_34 : x_FL 4 34 4 9 := ⟨_, rfl, by decide, x_tb2 (List.mem_of_getElem? (i := 36) rfl)⟩
theorem fl_4_37 : x_FL 4 37 4 10 := ⟨_, rfl, by decide, x_tb2 (List.mem_of_getElem? (i := 37) rfl)⟩
theorem fl_4_40 : x_FL 4 40 4 11 := ⟨_, rfl, by decide, x_tb2 (List.mem_of_getElem? (i := 38) rfl)⟩
theorem fl_4_107 : x_FL 4 107 4 12 := ⟨_, rfl, by decide, x_tb2 (List.mem_of_getElem? (i := 39) rfl)⟩
theorem fl_4_149 : x_FL 4 149 4 13 := ⟨_, rfl, by decide, x_tb2 (List.mem_of_getElem? (i := 40) rfl)⟩
theorem fl_4_146 : x_FL 4 146 4 14 := ⟨_, rfl, by decide, x_tb2 (List.mem_of_getElem? (i := 41) rfl)⟩
theorem fl_4_99 : x_FL 4 99 4 15 := ⟨_, rfl, by decide, x_tb2 (List.mem_of_getElem? (i := 42) rfl)⟩
theorem fl_6_11 : x_FL 6 11 6 0 := ⟨_, rfl, by decide, x_tb1 (List.mem_of_getElem? (i := 70) rfl)⟩
theorem fl_6_19 : x_FL 6 19 6 1 := ⟨_, rfl, by decide, x_tb1 (List.mem_of_getElem? (i := 72) rfl)⟩
theorem fl_6_15 : x_FL 6 15 6 2 := ⟨_, rfl, by decide, x_tb1 (List.mem_of_getElem? (i := 75) rfl)⟩
theorem fl_6_22 : x_FL 6 22 6 3 := ⟨_, rfl, by decide, x_tb1 (List.mem_of_getElem? (i := 78) rfl)⟩
theorem fl_6_25 : x_FL 6 25 6 4 := ⟨_, rfl, by decide, x_tb1 (List.mem_of_getElem? (i := 80) rfl)⟩
theorem fl_8_7 : x_FL 8 7 8 0 := ⟨_, rfl, by decide, x_tb1 (List.mem_of_getElem? (i := 103) rfl)⟩
theorem fl_11_15 : x_FL 11 15 11 0 := ⟨_, rfl, by decide, x_tb1 (List.mem_of_getElem? (i := 119) rfl)⟩
theorem fl_11_18 : x_FL 11 18 11 1 := ⟨_, rfl, by decide, x_tb1 (List.mem_of_getElem? (i := 123) rfl)⟩
theorem fl_11_9 : x_FL 11 9 11 2 := ⟨_, rfl, by decide, x_tb1 (List.mem_of_getElem? (i := 125) rfl)⟩
theorem fl_3_46 : x_FL 3 46 11 0 := ⟨_, rfl, by decide, x_tb1 (List.mem_of_getElem? (i := 121) rfl)⟩
theorem fl_3_14 : x_FL 3 14 3 0 := ⟨_, rfl, by decide, x_tb1 (List.mem_of_getElem? (i := 167) rfl)⟩
theorem fl_3_20 : x_FL 3 20 3 1 := ⟨_, rfl, by decide, x_tb1 (List.mem_of_getElem? (i := 169) rfl)⟩
theorem fl_3_23 : x_FL 3 23 3 2 := ⟨_, rfl, by decide, x_tb1 (List.mem_of_getElem? (i := 171) rfl)⟩
theorem fl_3_29 : x_FL 3 29 3 3 := ⟨_, rfl, by decide, x_tb1 (List.mem_of_getElem? (i := 172) rfl)⟩
theorem fl_3_33 : x_FL 3 33 3 4 := ⟨_, rfl, by decide, x_tb1 (List.mem_of_getElem? (i := 173) rfl)⟩
theorem fl_3_37 : x_FL 3 37 3 5 := ⟨_, rfl, by decide, x_tb1 (List.mem_of_getElem? (i := 174) rfl)⟩
theorem fl_3_40 : x_FL 3 40 3 6 := ⟨_, rfl, by decide, x_tb1 (List.mem_of_getElem? (i := 175) rfl)⟩
theorem fl_3_43 : x_FL 3 43 3 7 := ⟨_, rfl, by decide, x_tb1 (List.mem_of_getElem? (i := 176) rfl)⟩
theorem fl_3_87 : x_FL 3 87 3 8 := ⟨_, rfl, by decide, x_tb1 (List.mem_of_getElem? (i := 177) rfl)⟩
theorem fl_3_56 : x_FL 3 56 3 9 := ⟨_, rfl, by decide, x_tb1 (List.mem_of_getElem? (i := 178) rfl)⟩
theorem fl_3_66 : x_FL 3 66 3 10 := ⟨_, rfl, by decide, x_tb1 (List.mem_of_getElem? (i := 179) rfl)⟩
theorem fl_3_81 : x_FL 3 81 3 11 := ⟨_, rfl, by decide, x_tb1 (List.mem_of_getElem? (i := 180) rfl)⟩
theorem fl_10_9 : x_FL 10 9 10 0 := ⟨_, rfl, by decide, x_tb1 (List.mem_of_getElem? (i := 147) rfl)⟩
theorem fl_10_15 : x_FL 10 15 10 1 := ⟨_, rfl, by decide, x_tb1 (List.mem_of_getElem? (i := 148) rfl)⟩
theorem fl_10_38 : x_FL 10 38 10 2 := ⟨_, rfl, by decide, x_tb1 (List.mem_of_getElem? (i := 149) rfl)⟩
theorem fl_10_18 : x_FL 10 18 10 3 := ⟨_, rfl, by decide, x_tb1 (List.mem_of_getElem? (i := 150) rfl)⟩
theorem fl_10_21 : x_FL 10 21 10 4 := ⟨_, rfl, by decide, x_tb1 (List.mem_of_getElem? (i := 151) rfl)⟩
theorem fl_10_24 : x_FL 10 24 10 5 := ⟨_, rfl, by decide, x_tb1 (List.mem_of_getElem? (i := 152) rfl)⟩
theorem fl_5_9 : x_FL 5 9 5 0 := ⟨_, rfl, by decide, x_tb2 (List.mem_of_getElem? (i := 88) rfl)⟩
theorem fl_5_15 : x_FL 5 15 5 1 := ⟨_, rfl, by decide, x_tb2 (List.mem_of_getElem? (i := 90) rfl)⟩
theorem fl_5_27 : x_FL 5 27 5 2 := ⟨_, rfl, by decide, x_tb2 (List.mem_of_getElem? (i := 92) rfl)⟩
theorem fl_5_18 : x_FL 5 18 5 3 := ⟨_, rfl, by decide, x_tb2 (List.mem_of_getElem? (i := 94) rfl)⟩
theorem fl_12_79 : x_FL 12 79 12 0 := ⟨_, rfl, by decide, x_tb6 (List.mem_of_getElem? (i := 27) rfl)⟩
theorem fl_12_8 : x_FL 12 8 12 1 := ⟨_, rfl, by decide, x_tb6 (List.mem_of_getElem? (i := 28) rfl)⟩
theorem fl_12_82 : x_FL 12 82 12 2 := ⟨_, rfl, by decide, x_tb6 (List.mem_of_getElem? (i := 29) rfl)⟩
theorem fl_12_15 : x_FL 12 15 12 3 := ⟨_, rfl, by decide, x_tb6 (List.mem_of_getElem? (i := 30) rfl)⟩
theorem fl_12_146 : x_FL 12 146 12 4 := ⟨_, rfl, by decide, x_tb6 (List.mem_of_getElem? (i := 31) rfl)⟩
theorem fl_12_115 : x_FL 12 115 12 5 := ⟨_, rfl, by decide, x_tb6 (List.mem_of_getElem? (i := 32) rfl)⟩
theorem fl_12_18 : x_FL 12 18 12 6 := ⟨_, rfl, by decide, x_tb6 (List.mem_of_getElem? (i := 33) rfl)⟩
theorem fl_12_171 : x_FL 12 171 12 7 := ⟨_, rfl, by decide, x_tb6 (List.mem_of_getElem? (i := 34) rfl)⟩
theorem fl_12_164 : x_FL 12 164 12 8 := ⟨_, rfl, by decide, x_tb6 (List.mem_of_getElem? (i := 35) rfl)⟩
theorem fl_12_22 : x_FL 12 22 12 9 := ⟨_, rfl, by decide, x_tb6 (List.mem_of_getElem? (i := 36) rfl)⟩
theorem fl_12_26 : x_FL 12 26 12 10 := ⟨_, rfl, by decide, x_tb6 (List.mem_of_getElem? (i := 37) rfl)⟩
theorem fl_12_29 : x_FL 12 29 12 11 := ⟨_, rfl, by decide, x_tb6 (List.mem_of_getElem? (i := 38) rfl)⟩
theorem fl_12_32 : x_FL 12 32 12 12 := ⟨_, rfl, by decide, x_tb6 (List.mem_of_getElem? (i := 39) rfl)⟩
theorem fl_12_118 : x_FL 12 118 12 13 := ⟨_, rfl, by decide, x_tb6 (List.mem_of_getElem? (i := 40) rfl)⟩
theorem fl_12_152 : x_FL 12 152 12 14 := ⟨_, rfl, by decide, x_tb6 (List.mem_of_getElem? (i := 41) rfl)⟩
theorem fl_12_35 : x_FL 12 35 12 15 := ⟨_, rfl, by decide, x_tb6 (List.mem_of_getElem? (i := 42) rfl)⟩
theorem fl_12_38 : x_FL 12 38 12 16 := ⟨_, rfl, by decide, x_tb6 (List.mem_of_getElem? (i := 43) rfl)⟩
theorem fl_12_41 : x_FL 12 41 12 17 := ⟨_, rfl, by decide, x_tb6 (List.mem_of_getElem? (i := 44) rfl)⟩
theorem fl_12_44 : x_FL 12 44 12 18 := ⟨_, rfl, by decide, x_tb6 (List.mem_of_getElem? (i := 45) rfl)⟩
theorem fl_12_47 : x_FL 12 47 12 19 := ⟨_, rfl, by decide, x_tb6 (List.mem_of_getElem? (i := 46) rfl)⟩
theorem fl_12_50 : x_FL 12 50 12 20 := ⟨_, rfl, by decide, x_tb6 (List.mem_of_getElem? (i := 47) rfl)⟩
theorem fl_12_242 : x_FL 12 242 12 21 := ⟨_, rfl, by decide, x_tb6 (List.mem_of_getElem? (i := 48) rfl)⟩
theorem fl_12_53 : x_FL 12 53 12 22 := ⟨_, rfl, by decide, x_tb6 (List.mem_of_getElem? (i := 49) rfl)⟩
theorem fl_12_57 : x_FL 12 57 12 23 := ⟨_, rfl, by decide, x_tb6 (List.mem_of_getElem? (i := 50) rfl)⟩
theorem fl_12_60 : x_FL 12 60 12 24 := ⟨_, rfl, by decide, x_tb6 (List.mem_of_getElem? (i := 51) rfl)⟩
theorem fl_12_63 : x_FL 12 63 12 25 := ⟨_, rfl, by decide, x_tb6 (List.mem_of_getElem? (i := 52) rfl)⟩
theorem fl_12_67 : x_FL 12 67 12 26 := ⟨_, rfl, by decide, x_tb6 (List.mem_of_getElem? (i := 53) rfl)⟩
theorem fl_12_70 : x_FL 12 70 12 27 := ⟨_, rfl, by decide, x_tb6 (List.mem_of_getElem? (i := 54) rfl)⟩
theorem fl_12_73 : x_FL 12 73 12 28 := ⟨_, rfl, by decide, x_tb6 (List.mem_of_getElem? (i := 55) rfl)⟩
theorem fl_12_76 : x_FL 12 76 12 29 := ⟨_, rfl, by decide, x_tb6 (List.mem_of_getElem? (i := 56) rfl)⟩
theorem fl_12_251 : x_FL 12 251 12 30 := ⟨_, rfl, by decide, x_tb6 (List.mem_of_getElem? (i := 57) rfl)⟩
theorem fl_12_270 : x_FL 12 270 12 31 := ⟨_, rfl, by decide, x_tb6 (List.mem_of_getElem? (i := 58) rfl)⟩
theorem fl_12_273 : x_FL 12 273 12 32 := ⟨_, rfl, by decide, x_tb6 (List.mem_of_getElem? (i := 59) rfl)⟩
theorem fl_12_279 : x_FL 12 279 12 33 := ⟨_, rfl, by decide, x_tb6 (List.mem_of_getElem? (i := 60) rfl)⟩
def x_KC (own idx : Nat) (v : Int32) : Prop := Cond.constant (x_cn own) idx v ∈ x_tw
def x_KL (own idx : Nat) (v : Int64) : Prop := Cond.constantLong (x_cn own) idx v ∈ x_tw
theorem kc_0_11 : x_KC 0 11 (32768) := x_tb1 (List.mem_of_getElem? (i := 42) rfl)
theorem kc_0_19 : x_KC 0 19 (65536) := x_tb1 (List.mem_of_getElem? (i := 63) rfl)
theorem kc_8_13 : x_KC 8 13 (-306674912) := x_tb1 (List.mem_of_getElem? (i := 102) rfl)
theorem kc_8_20 : x_KC 8 20 (65521) := x_tb4 (List.mem_of_getElem? (i := 63) rfl)
theorem kc_2_15 : x_KC 2 15 (32768) := x_tb1 (List.mem_of_getElem? (i := 212) rfl)
theorem kc_2_66 : x_KC 2 66 (-1640531535) := x_tb3 (List.mem_of_getElem? (i := 146) rfl)
theorem kc_4_103 : x_KC 4 103 (32768) := x_tb3 (List.mem_of_getElem? (i := 125) rfl)
theorem kc_4_223 : x_KC 4 223 (65535) := x_tb4 (List.mem_of_getElem? (i := 26) rfl)
theorem kl_8_21 : x_KL 8 21 (65536) := x_tb4 (List.mem_of_getElem? (i := 64) rfl)
theorem kl_8_23 : x_KL 8 23 (4294967295) := x_tb4 (List.mem_of_getElem? (i := 73) rfl)
theorem kc_9_80 : x_KC 9 80 (32768) := x_tb4 (List.mem_of_getElem? (i := 86) rfl)
theorem kc_9_157 : x_KC 9 157 (262144) := x_tb4 (List.mem_of_getElem? (i := 130) rfl)
theorem kc_9_175 : x_KC 9 175 (65535) := x_tb4 (List.mem_of_getElem? (i := 139) rfl)
theorem kc_9_176 : x_KC 9 176 (65536) := x_tb4 (List.mem_of_getElem? (i := 140) rfl)
theorem kl_9_132 : x_KL 9 132 (65535) := x_tb4 (List.mem_of_getElem? (i := 125) rfl)
theorem kc_5_31 : x_KC 5 31 (32768) := x_tb5 (List.mem_of_getElem? (i := 208) rfl)
theorem kc_12_7 : x_KC 12 7 (32768) := x_tb6 (List.mem_of_getElem? (i := 25) rfl)
theorem kc_12_14 : x_KC 12 14 (65536) := x_tb6 (List.mem_of_getElem? (i := 26) rfl)
theorem kc_12_170 : x_KC 12 170 (65535) := x_tb6 (List.mem_of_getElem? (i := 203) rfl)
theorem kl_12_89 : x_KL 12 89 (65521) := x_tb6 (List.mem_of_getElem? (i := 162) rfl)
theorem kl_12_91 : x_KL 12 91 (65536) := x_tb6 (List.mem_of_getElem? (i := 163) rfl)
theorem kl_12_93 : x_KL 12 93 (4294967295) := x_tb6 (List.mem_of_getElem? (i := 167) rfl)
theorem kl_12_95 : x_KL 12 95 (255) := x_tb6 (List.mem_of_getElem? (i := 168) rfl)
theorem kl_12_97 : x_KL 12 97 (2) := x_tb6 (List.mem_of_getElem? (i := 169) rfl)
theorem kl_12_99 : x_KL 12 99 (3988292384) := x_tb6 (List.mem_of_getElem? (i := 170) rfl)
theorem kl_12_196 : x_KL 12 196 (256) := x_tb7 (List.mem_of_getElem? (i := 27) rfl)
theorem kl_12_210 : x_KL 12 210 (65535) := x_tb7 (List.mem_of_getElem? (i := 48) rfl)
def x_SL (own idx : Nat) : Prop := Cond.fieldLinkNest (x_cn own) idx "RowPacker" "ORDER_OF_LENGTHS" "[I" "RowPacker" ∈ x_tw
theorem sl_3_84 : x_SL 3 84 := x_tb3 (List.mem_of_getElem? (i := 232) rfl)
theorem sl_9_198 : x_SL 9 198 := x_tb5 (List.mem_of_getElem? (i := 203) rfl)
/-- a class that is made: its link, its slots, initialised -/
def x_NC (own idx ci n : Nat) : Prop := Cond.classLink (x_cn own) idx (x_cn ci) ∈ x_tw ∧ Cond.instantiable (x_cn ci) n ∈ x_tw ∧ Cond.initialized (x_cn ci) ∈ x_tw
theorem nc_0_9 : x_NC 0 9 7 2 := ⟨x_tb1 (List.mem_of_getElem? (i := 40) rfl), x_tb1 (List.mem_of_getElem? (i := 41) rfl), x_tb1 (List.mem_of_getElem? (i := 2) rfl)⟩
theorem nc_0_23 : x_NC 0 23 6 5 := ⟨x_tb1 (List.mem_of_getElem? (i := 64) rfl), x_tb1 (List.mem_of_getElem? (i := 65) rfl), x_tb1 (List.mem_of_getElem? (i := 3) rfl)⟩
theorem nc_0_30 : x_NC 0 30 8 1 := ⟨x_tb1 (List.mem_of_getElem? (i := 96) rfl), x_tb1 (List.mem_of_getElem? (i := 97) rfl), x_tb1 (List.mem_of_getElem? (i := 4) rfl)⟩
theorem nc_0_37 : x_NC 0 37 4 16 := ⟨x_tb1 (List.mem_of_getElem? (i := 107) rfl), x_tb1 (List.mem_of_getElem? (i := 108) rfl), x_tb1 (List.mem_of_getElem? (i := 5) rfl)⟩
theorem nc_0_46 : x_NC 0 46 9 13 := ⟨x_tb2 (List.mem_of_getElem? (i := 76) rfl), x_tb2 (List.mem_of_getElem? (i := 77) rfl), x_tb1 (List.mem_of_getElem? (i := 12) rfl)⟩
theorem nc_0_57 : x_NC 0 57 13 6 := ⟨x_tb2 (List.mem_of_getElem? (i := 198) rfl), x_tb2 (List.mem_of_getElem? (i := 199) rfl), x_tb1 (List.mem_of_getElem? (i := 18) rfl)⟩
theorem nc_0_63 : x_NC 0 63 14 6 := ⟨x_tb3 (List.mem_of_getElem? (i := 39) rfl), x_tb3 (List.mem_of_getElem? (i := 40) rfl), x_tb1 (List.mem_of_getElem? (i := 19) rfl)⟩
theorem nc_0_70 : x_NC 0 70 15 6 := ⟨x_tb3 (List.mem_of_getElem? (i := 73) rfl), x_tb3 (List.mem_of_getElem? (i := 74) rfl), x_tb1 (List.mem_of_getElem? (i := 20) rfl)⟩
theorem nc_4_9 : x_NC 4 9 11 3 := ⟨x_tb1 (List.mem_of_getElem? (i := 113) rfl), x_tb1 (List.mem_of_getElem? (i := 114) rfl), x_tb1 (List.mem_of_getElem? (i := 6) rfl)⟩
theorem nc_4_23 : x_NC 4 23 3 12 := ⟨x_tb1 (List.mem_of_getElem? (i := 133) rfl), x_tb1 (List.mem_of_getElem? (i := 134) rfl), x_tb1 (List.mem_of_getElem? (i := 7) rfl)⟩
theorem nc_4_55 : x_NC 4 55 2 7 := ⟨x_tb1 (List.mem_of_getElem? (i := 206) rfl), x_tb1 (List.mem_of_getElem? (i := 207) rfl), x_tb1 (List.mem_of_getElem? (i := 9) rfl)⟩
theorem nc_4_64 : x_NC 4 64 1 3 := ⟨x_tb1 (List.mem_of_getElem? (i := 237) rfl), x_tb1 (List.mem_of_getElem? (i := 238) rfl), x_tb1 (List.mem_of_getElem? (i := 10) rfl)⟩
theorem nc_3_9 : x_NC 3 9 11 3 := ⟨x_tb1 (List.mem_of_getElem? (i := 139) rfl), x_tb1 (List.mem_of_getElem? (i := 114) rfl), x_tb1 (List.mem_of_getElem? (i := 6) rfl)⟩
theorem nc_3_26 : x_NC 3 26 10 6 := ⟨x_tb1 (List.mem_of_getElem? (i := 141) rfl), x_tb1 (List.mem_of_getElem? (i := 142) rfl), x_tb1 (List.mem_of_getElem? (i := 8) rfl)⟩
theorem nc_9_9 : x_NC 9 9 5 4 := ⟨x_tb2 (List.mem_of_getElem? (i := 82) rfl), x_tb2 (List.mem_of_getElem? (i := 83) rfl), x_tb1 (List.mem_of_getElem? (i := 13) rfl)⟩
