/-- a method: name, bytes, locals, what it returns, its class's number, its instructions -/
abbrev xM : Type := MethodName × ByteArray × Nat × Option FieldType × Nat × List Instr
/-- the length of an instruction in the forms that this class has -/
def x_len (i : Instr) : Nat := match i with
  | .bipush _ => 2
  | .sipush _ => 3
  | .ldc _ => 2
  | .ldc2_w _ => 3
  | .iload _ => 2
  | .lload _ => 2
  | .aload _ => 2
  | .istore _ => 2
  | .lstore _ => 2
  | .astore _ => 2
  | .iinc _ _ => 3
  | .getfield _ => 3
  | .putfield _ => 3
  | .getstatic _ => 3
  | .new _ => 3
  | .newarray _ => 2
  | .invokevirtual _ => 3
  | .invokespecial _ => 3
  | .invokestatic _ => 3
  | .goto _ => 3
  | .if_icmp _ _ => 3
  | .ifCond _ _ => 3
  | .tableswitch _ _ _ _ => 76
  | _ => 1
def x_ck (b : ByteArray) : Nat → List Instr → Bool
  | _, [] => true
  | pc, i :: t => decide (decode b pc = .ok (i, x_len i)) && x_ck b (pc + x_len i) t
def x_pc : List Instr → Nat → Nat
  | _, 0 => 0
  | [], _ + 1 => 0
  | i :: t, k + 1 => x_len i + x_pc t k
theorem x_ck_at {b : ByteArray} : ∀ (cd : List Instr) (pc : Nat), x_ck b pc cd = true → ∀ (k : Nat) (i : Instr), cd[k]? = some i → decode b (pc + x_pc cd k) = .ok (i, x_len i) := by
  intro cd
  induction cd with
  | nil => intro pc _ k i h; simp at h
  | cons a t ih =>
    intro pc h k i hk
    rw [x_ck, Bool.and_eq_true, decide_eq_true_eq] at h
    cases k with
    | zero =>
      rw [List.getElem?_cons_zero] at hk
      cases hk
      exact h.1
    | succ k =>
      rw [List.getElem?_cons_succ] at hk
      have := ih _ h.2 k i hk
      rw [x_pc, ← Nat.add_assoc]
      exact this
theorem x_pcS : ∀ (cd : List Instr) (k : Nat) (i : Instr), cd[k]? = some i → x_pc cd (k + 1) = x_pc cd k + x_len i := by
  intro cd
  induction cd with
  | nil => intro k i h; simp at h
  | cons a t ih =>
    intro k i hk
    cases k with
    | zero =>
      rw [List.getElem?_cons_zero] at hk
      cases hk
      cases t <;> simp [x_pc]
    | succ k =>
      rw [List.getElem?_cons_succ] at hk
      rw [x_pc, ih k i hk, x_pc, Nat.add_assoc]
-- names and tables, written by wip/gen/gen.py
def x_cn (k : Nat) : String := match k with
  | 0 => "RowPacker"
  | 1 => "RowPacker$BitWriter"
  | 2 => "RowPacker$Finder"
  | 3 => "RowPacker$MadeCodes"
  | 4 => "RowPacker$Packer"
  | 5 => "RowPacker$ReadCode"
  | 6 => "RowPacker$Report"
  | 7 => "RowPacker$Row"
  | 8 => "RowPacker$Sums"
  | 9 => "RowPacker$Unpacker"
  | 10 => "RowPacker$Weigher"
  | 11 => "RowPacker$WriteCode"
  | 12 => "RowPackerModel"
  | 13 => "java/lang/IllegalStateException"
  | 14 => "java/lang/IllegalArgumentException"
  | 15 => "java/lang/IndexOutOfBoundsException"
  | 16 => "RowPackerLaw"
  | 17 => "java/util/Arrays"
  | _ => "java/lang/Math"
def x_T0 : u_T := fun k => match k with
  | 0 => ("RowPacker", "tape", "LRowPacker$Row;", true)
  | 1 => ("RowPacker", "result", "LRowPacker$Row;", true)
  | 2 => ("RowPacker", "report", "LRowPacker$Report;", true)
  | 3 => ("RowPacker", "sums", "LRowPacker$Sums;", true)
  | 4 => ("RowPacker", "packer", "LRowPacker$Packer;", true)
  | _ => ("RowPacker", "unpacker", "LRowPacker$Unpacker;", true)
def x_ty0 : Nat → FieldType := fun k => match k with
  | 0 => (.object "RowPacker$Row")
  | 1 => (.object "RowPacker$Row")
  | 2 => (.object "RowPacker$Report")
  | 3 => (.object "RowPacker$Sums")
  | 4 => (.object "RowPacker$Packer")
  | _ => (.object "RowPacker$Unpacker")
def x_T1 : u_T := fun k => match k with
  | 0 => ("RowPacker$BitWriter", "row", "LRowPacker$Row;", true)
  | 1 => ("RowPacker$BitWriter", "held", "I", false)
  | _ => ("RowPacker$BitWriter", "heldBits", "I", false)
def x_ty1 : Nat → FieldType := fun k => match k with
  | 0 => (.object "RowPacker$Row")
  | 1 => .int
  | _ => .int
def x_T2 : u_T := fun k => match k with
  | 0 => ("RowPacker$Finder", "length", "I", false)
  | 1 => ("RowPacker$Finder", "distance", "I", false)
  | 2 => ("RowPacker$Finder", "tape", "LRowPacker$Row;", true)
  | 3 => ("RowPacker$Finder", "latest", "[I", true)
  | 4 => ("RowPacker$Finder", "before", "[I", true)
  | 5 => ("RowPacker$Finder", "entered", "I", false)
  | _ => ("RowPacker$Finder", "found", "I", false)
def x_ty2 : Nat → FieldType := fun k => match k with
  | 0 => .int
  | 1 => .int
  | 2 => (.object "RowPacker$Row")
  | 3 => (.array .int)
  | 4 => (.array .int)
  | 5 => .int
  | _ => .int
def x_T3 : u_T := fun k => match k with
  | 0 => ("RowPacker$MadeCodes", "letters", "LRowPacker$WriteCode;", true)
  | 1 => ("RowPacker$MadeCodes", "distances", "LRowPacker$WriteCode;", true)
  | 2 => ("RowPacker$MadeCodes", "lengths", "LRowPacker$WriteCode;", true)
  | 3 => ("RowPacker$MadeCodes", "weigher", "LRowPacker$Weigher;", true)
  | 4 => ("RowPacker$MadeCodes", "row", "[I", true)
  | 5 => ("RowPacker$MadeCodes", "toldSymbols", "[I", true)
  | 6 => ("RowPacker$MadeCodes", "toldNumbers", "[I", true)
  | 7 => ("RowPacker$MadeCodes", "toldWeights", "[I", true)
  | 8 => ("RowPacker$MadeCodes", "told", "I", false)
  | 9 => ("RowPacker$MadeCodes", "manyLetters", "I", false)
  | 10 => ("RowPacker$MadeCodes", "manyDistances", "I", false)
  | _ => ("RowPacker$MadeCodes", "manyLengths", "I", false)
def x_ty3 : Nat → FieldType := fun k => match k with
  | 0 => (.object "RowPacker$WriteCode")
  | 1 => (.object "RowPacker$WriteCode")
  | 2 => (.object "RowPacker$WriteCode")
  | 3 => (.object "RowPacker$Weigher")
  | 4 => (.array .int)
  | 5 => (.array .int)
  | 6 => (.array .int)
  | 7 => (.array .int)
  | 8 => .int
  | 9 => .int
  | 10 => .int
  | _ => .int
def x_T4 : u_T := fun k => match k with
  | 0 => ("RowPacker$Packer", "tape", "LRowPacker$Row;", true)
  | 1 => ("RowPacker$Packer", "report", "LRowPacker$Report;", true)
  | 2 => ("RowPacker$Packer", "sums", "LRowPacker$Sums;", true)
  | 3 => ("RowPacker$Packer", "finder", "LRowPacker$Finder;", true)
  | 4 => ("RowPacker$Packer", "writer", "LRowPacker$BitWriter;", true)
  | 5 => ("RowPacker$Packer", "fixedLetters", "LRowPacker$WriteCode;", true)
  | 6 => ("RowPacker$Packer", "fixedDistances", "LRowPacker$WriteCode;", true)
  | 7 => ("RowPacker$Packer", "made", "LRowPacker$MadeCodes;", true)
  | 8 => ("RowPacker$Packer", "pieceLengths", "[I", true)
  | 9 => ("RowPacker$Packer", "pieceValues", "[I", true)
  | 10 => ("RowPacker$Packer", "letterWeights", "[I", true)
  | 11 => ("RowPacker$Packer", "distanceWeights", "[I", true)
  | 12 => ("RowPacker$Packer", "pieces", "I", false)
  | 13 => ("RowPacker$Packer", "bitsOfNumbers", "I", false)
  | 14 => ("RowPacker$Packer", "blockBegin", "I", false)
  | _ => ("RowPacker$Packer", "at", "I", false)
def x_ty4 : Nat → FieldType := fun k => match k with
  | 0 => (.object "RowPacker$Row")
  | 1 => (.object "RowPacker$Report")
  | 2 => (.object "RowPacker$Sums")
  | 3 => (.object "RowPacker$Finder")
  | 4 => (.object "RowPacker$BitWriter")
  | 5 => (.object "RowPacker$WriteCode")
  | 6 => (.object "RowPacker$WriteCode")
  | 7 => (.object "RowPacker$MadeCodes")
  | 8 => (.array .int)
  | 9 => (.array .int)
  | 10 => (.array .int)
  | 11 => (.array .int)
  | 12 => .int
  | 13 => .int
  | 14 => .int
  | _ => .int
def x_T5 : u_T := fun k => match k with
  | 0 => ("RowPacker$ReadCode", "counts", "[I", true)
  | 1 => ("RowPacker$ReadCode", "symbols", "[I", true)
  | 2 => ("RowPacker$ReadCode", "coded", "I", false)
  | _ => ("RowPacker$ReadCode", "starts", "[I", true)
def x_ty5 : Nat → FieldType := fun k => match k with
  | 0 => (.array .int)
  | 1 => (.array .int)
  | 2 => .int
  | _ => (.array .int)
def x_T6 : u_T := fun k => match k with
  | 0 => ("RowPacker$Report", "told", "[I", true)
  | 1 => ("RowPacker$Report", "fault", "I", false)
  | 2 => ("RowPacker$Report", "place", "I", false)
  | 3 => ("RowPacker$Report", "blocks", "I", false)
  | _ => ("RowPacker$Report", "stretches", "I", false)
def x_ty6 : Nat → FieldType := fun k => match k with
  | 0 => (.array .int)
  | 1 => .int
  | 2 => .int
  | 3 => .int
  | _ => .int
def x_T7 : u_T := fun k => match k with
  | 0 => ("RowPacker$Row", "cells", "[B", true)
  | _ => ("RowPacker$Row", "many", "I", false)
def x_ty7 : Nat → FieldType := fun k => match k with
  | 0 => (.array .byte)
  | _ => .int
def x_T8 : u_T := fun k => match k with
  | _ => ("RowPacker$Sums", "steps", "[I", true)
def x_ty8 : Nat → FieldType := fun k => match k with
  | _ => (.array .int)
def x_T9 : u_T := fun k => match k with
  | 0 => ("RowPacker$Unpacker", "tape", "LRowPacker$Row;", true)
  | 1 => ("RowPacker$Unpacker", "result", "LRowPacker$Row;", true)
  | 2 => ("RowPacker$Unpacker", "report", "LRowPacker$Report;", true)
  | 3 => ("RowPacker$Unpacker", "sums", "LRowPacker$Sums;", true)
  | 4 => ("RowPacker$Unpacker", "fixedLetters", "LRowPacker$ReadCode;", true)
  | 5 => ("RowPacker$Unpacker", "fixedDistances", "LRowPacker$ReadCode;", true)
  | 6 => ("RowPacker$Unpacker", "lengthsCode", "LRowPacker$ReadCode;", true)
  | 7 => ("RowPacker$Unpacker", "letters", "LRowPacker$ReadCode;", true)
  | 8 => ("RowPacker$Unpacker", "distances", "LRowPacker$ReadCode;", true)
  | 9 => ("RowPacker$Unpacker", "lengths", "[I", true)
  | 10 => ("RowPacker$Unpacker", "at", "I", false)
  | 11 => ("RowPacker$Unpacker", "endOfTape", "I", false)
  | _ => ("RowPacker$Unpacker", "memberBegin", "I", false)
def x_ty9 : Nat → FieldType := fun k => match k with
  | 0 => (.object "RowPacker$Row")
  | 1 => (.object "RowPacker$Row")
  | 2 => (.object "RowPacker$Report")
  | 3 => (.object "RowPacker$Sums")
  | 4 => (.object "RowPacker$ReadCode")
  | 5 => (.object "RowPacker$ReadCode")
  | 6 => (.object "RowPacker$ReadCode")
  | 7 => (.object "RowPacker$ReadCode")
  | 8 => (.object "RowPacker$ReadCode")
  | 9 => (.array .int)
  | 10 => .int
  | 11 => .int
  | _ => .int
def x_T10 : u_T := fun k => match k with
  | 0 => ("RowPacker$Weigher", "symbols", "[I", true)
  | 1 => ("RowPacker$Weigher", "symbolWeights", "[I", true)
  | 2 => ("RowPacker$Weigher", "many", "I", false)
  | 3 => ("RowPacker$Weigher", "row", "[I", false)
  | 4 => ("RowPacker$Weigher", "rowAfter", "[I", false)
  | _ => ("RowPacker$Weigher", "alone", "[Z", true)
def x_ty10 : Nat → FieldType := fun k => match k with
  | 0 => (.array .int)
  | 1 => (.array .int)
  | 2 => .int
  | 3 => (.array .int)
  | 4 => (.array .int)
  | _ => (.array .boolean)
def x_T11 : u_T := fun k => match k with
  | 0 => ("RowPacker$WriteCode", "lengths", "[I", true)
  | 1 => ("RowPacker$WriteCode", "words", "[I", true)
  | _ => ("RowPacker$WriteCode", "next", "[I", true)
def x_ty11 : Nat → FieldType := fun k => match k with
  | 0 => (.array .int)
  | 1 => (.array .int)
  | _ => (.array .int)
def x_T12 : u_T := fun k => match k with
  | 0 => ("RowPackerModel", "code", "I", false)
  | 1 => ("RowPackerModel", "tape", "[B", true)
  | 2 => ("RowPackerModel", "taped", "I", false)
  | 3 => ("RowPackerModel", "out", "[B", true)
  | 4 => ("RowPackerModel", "size", "I", false)
  | 5 => ("RowPackerModel", "fault", "I", false)
  | 6 => ("RowPackerModel", "place", "I", false)
  | 7 => ("RowPackerModel", "blocks", "I", false)
  | 8 => ("RowPackerModel", "stretches", "I", false)
  | 9 => ("RowPackerModel", "kinds", "[I", true)
  | 10 => ("RowPackerModel", "firsts", "[I", true)
  | 11 => ("RowPackerModel", "bitCounts", "[I", true)
  | 12 => ("RowPackerModel", "byteCounts", "[I", true)
  | 13 => ("RowPackerModel", "at", "I", false)
  | 14 => ("RowPackerModel", "memberBegin", "I", false)
  | 15 => ("RowPackerModel", "counts", "[I", true)
  | 16 => ("RowPackerModel", "ordered", "[I", true)
  | 17 => ("RowPackerModel", "lengths", "[I", true)
  | 18 => ("RowPackerModel", "row", "[I", true)
  | 19 => ("RowPackerModel", "pieceLength", "[I", true)
  | 20 => ("RowPackerModel", "pieceValue", "[I", true)
  | 21 => ("RowPackerModel", "pieces", "I", false)
  | 22 => ("RowPackerModel", "weights", "[J", true)
  | 23 => ("RowPackerModel", "codes", "[I", true)
  | 24 => ("RowPackerModel", "things", "[J", true)
  | 25 => ("RowPackerModel", "isSymbol", "[Z", true)
  | 26 => ("RowPackerModel", "thingCount", "[I", true)
  | 27 => ("RowPackerModel", "byWeight", "[I", true)
  | 28 => ("RowPackerModel", "told", "[I", true)
  | 29 => ("RowPackerModel", "toldNumber", "[I", true)
  | 30 => ("RowPackerModel", "toldCount", "I", false)
  | 31 => ("RowPackerModel", "lettersUsed", "I", false)
  | 32 => ("RowPackerModel", "distancesUsed", "I", false)
  | _ => ("RowPackerModel", "lengthsUsed", "I", false)
def x_ty12 : Nat → FieldType := fun k => match k with
  | 0 => .int
  | 1 => (.array .byte)
  | 2 => .int
  | 3 => (.array .byte)
  | 4 => .int
  | 5 => .int
  | 6 => .int
  | 7 => .int
  | 8 => .int
  | 9 => (.array .int)
  | 10 => (.array .int)
  | 11 => (.array .int)
  | 12 => (.array .int)
  | 13 => .int
  | 14 => .int
  | 15 => (.array .int)
  | 16 => (.array .int)
  | 17 => (.array .int)
  | 18 => (.array .int)
  | 19 => (.array .int)
  | 20 => (.array .int)
  | 21 => .int
  | 22 => (.array .long)
  | 23 => (.array .int)
  | 24 => (.array .long)
  | 25 => (.array .boolean)
  | 26 => (.array .int)
  | 27 => (.array .int)
  | 28 => (.array .int)
  | 29 => (.array .int)
  | 30 => .int
  | 31 => .int
  | 32 => .int
  | _ => .int
def x_T13 : u_T := fun k => match k with
  | _ => ("", "", "", false)
def x_ty13 : Nat → FieldType := fun k => match k with
  | _ => .int
def x_T14 : u_T := fun k => match k with
  | _ => ("", "", "", false)
def x_ty14 : Nat → FieldType := fun k => match k with
  | _ => .int
def x_T15 : u_T := fun k => match k with
  | _ => ("", "", "", false)
def x_ty15 : Nat → FieldType := fun k => match k with
  | _ => .int
def x_cl : List vw_C := [("RowPacker", x_T0, 6), ("RowPacker$BitWriter", x_T1, 3), ("RowPacker$Finder", x_T2, 7), ("RowPacker$MadeCodes", x_T3, 12), ("RowPacker$Packer", x_T4, 16), ("RowPacker$ReadCode", x_T5, 4), ("RowPacker$Report", x_T6, 5), ("RowPacker$Row", x_T7, 2), ("RowPacker$Sums", x_T8, 1), ("RowPacker$Unpacker", x_T9, 13), ("RowPacker$Weigher", x_T10, 6), ("RowPacker$WriteCode", x_T11, 3), ("RowPackerModel", x_T12, 34), ("java/lang/IllegalStateException", x_T13, 0), ("java/lang/IllegalArgumentException", x_T14, 0), ("java/lang/IndexOutOfBoundsException", x_T15, 0)]
def x_tys (c : Nat) : Nat → FieldType := match c with
  | 0 => x_ty0
  | 1 => x_ty1
  | 2 => x_ty2
  | 3 => x_ty3
  | 4 => x_ty4
  | 5 => x_ty5
  | 6 => x_ty6
  | 7 => x_ty7
  | 8 => x_ty8
  | 9 => x_ty9
  | 10 => x_ty10
  | 11 => x_ty11
  | 12 => x_ty12
  | _ => x_ty13
def x_fl (own : Nat) : List (Nat × (Nat × Nat)) := match own with
  | 0 => [(73, (7, 0)), (53, (7, 1)), (109, (6, 0)), (87, (6, 1)), (90, (6, 2)), (106, (6, 3)), (113, (6, 4)), (15, (0, 0)), (20, (0, 1)), (26, (0, 2)), (33, (0, 3)), (42, (0, 4)), (49, (0, 5))]
  | 1 => [(13, (7, 1)), (39, (11, 0)), (33, (11, 1)), (7, (1, 0)), (19, (1, 1)), (22, (1, 2))]
  | 2 => [(62, (7, 0)), (43, (7, 1)), (36, (2, 0)), (74, (2, 1)), (19, (2, 2)), (11, (2, 3)), (16, (2, 4)), (29, (2, 5)), (33, (2, 6))]
  | 3 => [(46, (11, 0)), (14, (3, 0)), (20, (3, 1)), (23, (3, 2)), (29, (3, 3)), (33, (3, 4)), (37, (3, 5)), (40, (3, 6)), (43, (3, 7)), (87, (3, 8)), (56, (3, 9)), (66, (3, 10)), (81, (3, 11))]
  | 4 => [(114, (7, 1)), (185, (6, 4)), (71, (11, 0)), (202, (3, 0)), (205, (3, 1)), (158, (2, 0)), (161, (2, 1)), (43, (4, 0)), (47, (4, 1)), (51, (4, 2)), (60, (4, 3)), (67, (4, 4)), (14, (4, 5)), (20, (4, 6)), (26, (4, 7)), (30, (4, 8)), (34, (4, 9)), (37, (4, 10)), (40, (4, 11)), (107, (4, 12)), (149, (4, 13)), (146, (4, 14)), (99, (4, 15))]
  | 5 => [(9, (5, 0)), (15, (5, 1)), (27, (5, 2)), (18, (5, 3))]
  | 6 => [(11, (6, 0)), (19, (6, 1)), (15, (6, 2)), (22, (6, 3)), (25, (6, 4))]
  | 7 => [(7, (7, 0)), (13, (7, 1))]
  | 8 => [(7, (8, 0))]
  | 9 => [(144, (7, 0)), (68, (7, 1)), (95, (6, 1)), (102, (6, 2)), (229, (6, 4)), (151, (5, 0)), (154, (5, 1)), (148, (5, 2)), (34, (9, 0)), (38, (9, 1)), (41, (9, 2)), (45, (9, 3)), (12, (9, 4)), (18, (9, 5)), (21, (9, 6)), (24, (9, 7)), (27, (9, 8)), (30, (9, 9)), (74, (9, 10)), (77, (9, 11)), (81, (9, 12))]
  | 10 => [(9, (10, 0)), (15, (10, 1)), (38, (10, 2)), (18, (10, 3)), (21, (10, 4)), (24, (10, 5))]
  | 11 => [(15, (11, 0)), (18, (11, 1)), (9, (11, 2))]
  | 12 => [(79, (12, 0)), (8, (12, 1)), (82, (12, 2)), (15, (12, 3)), (146, (12, 4)), (115, (12, 5)), (18, (12, 6)), (171, (12, 7)), (164, (12, 8)), (22, (12, 9)), (26, (12, 10)), (29, (12, 11)), (32, (12, 12)), (118, (12, 13)), (152, (12, 14)), (35, (12, 15)), (38, (12, 16)), (41, (12, 17)), (44, (12, 18)), (47, (12, 19)), (50, (12, 20)), (242, (12, 21)), (53, (12, 22)), (57, (12, 23)), (60, (12, 24)), (63, (12, 25)), (67, (12, 26)), (70, (12, 27)), (73, (12, 28)), (76, (12, 29)), (251, (12, 30)), (270, (12, 31)), (273, (12, 32)), (279, (12, 33))]
  | _ => []
def x_kc (own : Nat) : List (Nat × Int32) := match own with
  | 0 => [(11, 32768), (19, 65536)]
  | 2 => [(15, 32768), (66, -1640531535)]
  | 4 => [(103, 32768), (223, 65535)]
  | 5 => [(31, 32768)]
  | 8 => [(13, -306674912), (20, 65521)]
  | 9 => [(80, 32768), (157, 262144), (175, 65535), (176, 65536)]
  | 12 => [(7, 32768), (14, 65536), (170, 65535)]
  | _ => []
def x_kl (own : Nat) : List (Nat × Int64) := match own with
  | 8 => [(21, 65536), (23, 4294967295)]
  | 9 => [(132, 65535)]
  | 12 => [(89, 65521), (91, 65536), (93, 4294967295), (95, 255), (97, 2), (99, 3988292384), (196, 256), (210, 65535)]
  | _ => []
def x_nc (own : Nat) : List (Nat × Nat) := match own with
  | 0 => [(9, 7), (23, 6), (30, 8), (37, 4), (46, 9), (57, 13), (63, 14), (70, 15)]
  | 3 => [(9, 11), (26, 10)]
  | 4 => [(9, 11), (23, 3), (55, 2), (64, 1)]
  | 9 => [(9, 5)]
  | 16 => [(8, 0), (13, 13), (19, 14), (28, 15), (52, 12)]
  | 17 => [(43, 14)]
  | _ => []
