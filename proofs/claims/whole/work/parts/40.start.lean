/-! ===== the start ===== -/
def qFL_0 : List Jvm.Cond := [(Jvm.Cond.count (1 : Nat)), (Jvm.Cond.isRef (Jvm.Term.arg (0 : Nat))), (Jvm.Cond.arrayOf (Jvm.Term.arg (0 : Nat)) Jvm.ClassFile.FieldType.int), (Jvm.Cond.le (Jvm.Term.length (Jvm.Term.arg (0 : Nat))) (Jvm.Term.int (3072 : Int32))), (Jvm.Cond.isRef (Jvm.Term.static "CellarPrompter$Reader" "FIRST_WORD" "[I")), (Jvm.Cond.arrayOf (Jvm.Term.static "CellarPrompter$Reader" "FIRST_WORD" "[I") Jvm.ClassFile.FieldType.int), (Jvm.Cond.eq (Jvm.Term.length (Jvm.Term.static "CellarPrompter$Reader" "FIRST_WORD" "[I")) (Jvm.Term.int (5 : Int32))), (Jvm.Cond.eq (Jvm.Term.elem (Jvm.Term.static "CellarPrompter$Reader" "FIRST_WORD" "[I") (Jvm.Term.int (0 : Int32))) (Jvm.Term.int (0 : Int32))), (Jvm.Cond.eq (Jvm.Term.elem (Jvm.Term.static "CellarPrompter$Reader" "FIRST_WORD" "[I") (Jvm.Term.int (1 : Int32))) (Jvm.Term.int (6 : Int32))), (Jvm.Cond.eq (Jvm.Term.elem (Jvm.Term.static "CellarPrompter$Reader" "FIRST_WORD" "[I") (Jvm.Term.int (2 : Int32))) (Jvm.Term.int (13 : Int32))), (Jvm.Cond.eq (Jvm.Term.elem (Jvm.Term.static "CellarPrompter$Reader" "FIRST_WORD" "[I") (Jvm.Term.int (3 : Int32))) (Jvm.Term.int (15 : Int32))), (Jvm.Cond.eq (Jvm.Term.elem (Jvm.Term.static "CellarPrompter$Reader" "FIRST_WORD" "[I") (Jvm.Term.int (4 : Int32))) (Jvm.Term.int (19 : Int32))), (Jvm.Cond.eq (Jvm.Term.static "java/lang/String" "COMPACT_STRINGS" "Z") (Jvm.Term.int (1 : Int32))), (Jvm.Cond.isRef (Jvm.Term.static "jdk/internal/util/Preconditions" "SIOOBE_FORMATTER" "Ljava/util/function/BiFunction;")), (Jvm.Cond.eq (Jvm.Term.static "java/lang/StringUTF16" "$assertionsDisabled" "Z") (Jvm.Term.int (1 : Int32))), (Jvm.Cond.eq (Jvm.Term.static "java/lang/StringUTF16" "HI_BYTE_SHIFT" "I") (Jvm.Term.int (0 : Int32))), (Jvm.Cond.eq (Jvm.Term.static "java/lang/StringUTF16" "LO_BYTE_SHIFT" "I") (Jvm.Term.int (8 : Int32))), (Jvm.Cond.isRef (Jvm.Term.static "CellarPrompter$Reader" "NUMBERS" "[I")), (Jvm.Cond.arrayOf (Jvm.Term.static "CellarPrompter$Reader" "NUMBERS" "[I") Jvm.ClassFile.FieldType.int), (Jvm.Cond.eq (Jvm.Term.length (Jvm.Term.static "CellarPrompter$Reader" "NUMBERS" "[I")) (Jvm.Term.int (19 : Int32))), (Jvm.Cond.eq (Jvm.Term.elem (Jvm.Term.static "CellarPrompter$Reader" "NUMBERS" "[I") (Jvm.Term.int (0 : Int32))) (Jvm.Term.int (4 : Int32))), (Jvm.Cond.eq (Jvm.Term.elem (Jvm.Term.static "CellarPrompter$Reader" "NUMBERS" "[I") (Jvm.Term.int (1 : Int32))) (Jvm.Term.int (2 : Int32))), (Jvm.Cond.eq (Jvm.Term.elem (Jvm.Term.static "CellarPrompter$Reader" "NUMBERS" "[I") (Jvm.Term.int (2 : Int32))) (Jvm.Term.int (2 : Int32))), (Jvm.Cond.eq (Jvm.Term.elem (Jvm.Term.static "CellarPrompter$Reader" "NUMBERS" "[I") (Jvm.Term.int (3 : Int32))) (Jvm.Term.int (1 : Int32))), (Jvm.Cond.eq (Jvm.Term.elem (Jvm.Term.static "CellarPrompter$Reader" "NUMBERS" "[I") (Jvm.Term.int (4 : Int32))) (Jvm.Term.int (1 : Int32))), (Jvm.Cond.eq (Jvm.Term.elem (Jvm.Term.static "CellarPrompter$Reader" "NUMBERS" "[I") (Jvm.Term.int (5 : Int32))) (Jvm.Term.int (1 : Int32))), (Jvm.Cond.eq (Jvm.Term.elem (Jvm.Term.static "CellarPrompter$Reader" "NUMBERS" "[I") (Jvm.Term.int (6 : Int32))) (Jvm.Term.int (1 : Int32))), (Jvm.Cond.eq (Jvm.Term.elem (Jvm.Term.static "CellarPrompter$Reader" "NUMBERS" "[I") (Jvm.Term.int (7 : Int32))) (Jvm.Term.int (1 : Int32))), (Jvm.Cond.eq (Jvm.Term.elem (Jvm.Term.static "CellarPrompter$Reader" "NUMBERS" "[I") (Jvm.Term.int (8 : Int32))) (Jvm.Term.int (1 : Int32))), (Jvm.Cond.eq (Jvm.Term.elem (Jvm.Term.static "CellarPrompter$Reader" "NUMBERS" "[I") (Jvm.Term.int (9 : Int32))) (Jvm.Term.int (0 : Int32))), (Jvm.Cond.eq (Jvm.Term.elem (Jvm.Term.static "CellarPrompter$Reader" "NUMBERS" "[I") (Jvm.Term.int (10 : Int32))) (Jvm.Term.int (0 : Int32))), (Jvm.Cond.eq (Jvm.Term.elem (Jvm.Term.static "CellarPrompter$Reader" "NUMBERS" "[I") (Jvm.Term.int (11 : Int32))) (Jvm.Term.int (0 : Int32))), (Jvm.Cond.eq (Jvm.Term.elem (Jvm.Term.static "CellarPrompter$Reader" "NUMBERS" "[I") (Jvm.Term.int (12 : Int32))) (Jvm.Term.int (0 : Int32))), (Jvm.Cond.eq (Jvm.Term.elem (Jvm.Term.static "CellarPrompter$Reader" "NUMBERS" "[I") (Jvm.Term.int (13 : Int32))) (Jvm.Term.int (1 : Int32))), (Jvm.Cond.eq (Jvm.Term.elem (Jvm.Term.static "CellarPrompter$Reader" "NUMBERS" "[I") (Jvm.Term.int (14 : Int32))) (Jvm.Term.int (0 : Int32))), (Jvm.Cond.eq (Jvm.Term.elem (Jvm.Term.static "CellarPrompter$Reader" "NUMBERS" "[I") (Jvm.Term.int (15 : Int32))) (Jvm.Term.int (1 : Int32))), (Jvm.Cond.eq (Jvm.Term.elem (Jvm.Term.static "CellarPrompter$Reader" "NUMBERS" "[I") (Jvm.Term.int (16 : Int32))) (Jvm.Term.int (2 : Int32))), (Jvm.Cond.eq (Jvm.Term.elem (Jvm.Term.static "CellarPrompter$Reader" "NUMBERS" "[I") (Jvm.Term.int (17 : Int32))) (Jvm.Term.int (2 : Int32))), (Jvm.Cond.eq (Jvm.Term.elem (Jvm.Term.static "CellarPrompter$Reader" "NUMBERS" "[I") (Jvm.Term.int (18 : Int32))) (Jvm.Term.int (2 : Int32))), (Jvm.Cond.isRef (Jvm.Term.static "CellarPrompter$Reader" "LEAST" "[I")), (Jvm.Cond.arrayOf (Jvm.Term.static "CellarPrompter$Reader" "LEAST" "[I") Jvm.ClassFile.FieldType.int), (Jvm.Cond.eq (Jvm.Term.length (Jvm.Term.static "CellarPrompter$Reader" "LEAST" "[I")) (Jvm.Term.int (76 : Int32))), (Jvm.Cond.eq (Jvm.Term.elem (Jvm.Term.static "CellarPrompter$Reader" "LEAST" "[I") (Jvm.Term.int (0 : Int32))) (Jvm.Term.int (0 : Int32))), (Jvm.Cond.eq (Jvm.Term.elem (Jvm.Term.static "CellarPrompter$Reader" "LEAST" "[I") (Jvm.Term.int (1 : Int32))) (Jvm.Term.int (0 : Int32))), (Jvm.Cond.eq (Jvm.Term.elem (Jvm.Term.static "CellarPrompter$Reader" "LEAST" "[I") (Jvm.Term.int (2 : Int32))) (Jvm.Term.int (0 : Int32))), (Jvm.Cond.eq (Jvm.Term.elem (Jvm.Term.static "CellarPrompter$Reader" "LEAST" "[I") (Jvm.Term.int (3 : Int32))) (Jvm.Term.int (0 : Int32))), (Jvm.Cond.eq (Jvm.Term.elem (Jvm.Term.static "CellarPrompter$Reader" "LEAST" "[I") (Jvm.Term.int (4 : Int32))) (Jvm.Term.int (0 : Int32))), (Jvm.Cond.eq (Jvm.Term.elem (Jvm.Term.static "CellarPrompter$Reader" "LEAST" "[I") (Jvm.Term.int (5 : Int32))) (Jvm.Term.int (0 : Int32))), (Jvm.Cond.eq (Jvm.Term.elem (Jvm.Term.static "CellarPrompter$Reader" "LEAST" "[I") (Jvm.Term.int (6 : Int32))) (Jvm.Term.int (0 : Int32))), (Jvm.Cond.eq (Jvm.Term.elem (Jvm.Term.static "CellarPrompter$Reader" "LEAST" "[I") (Jvm.Term.int (7 : Int32))) (Jvm.Term.int (0 : Int32))), (Jvm.Cond.eq (Jvm.Term.elem (Jvm.Term.static "CellarPrompter$Reader" "LEAST" "[I") (Jvm.Term.int (8 : Int32))) (Jvm.Term.int (0 : Int32))), (Jvm.Cond.eq (Jvm.Term.elem (Jvm.Term.static "CellarPrompter$Reader" "LEAST" "[I") (Jvm.Term.int (9 : Int32))) (Jvm.Term.int (0 : Int32))), (Jvm.Cond.eq (Jvm.Term.elem (Jvm.Term.static "CellarPrompter$Reader" "LEAST" "[I") (Jvm.Term.int (10 : Int32))) (Jvm.Term.int (0 : Int32))), (Jvm.Cond.eq (Jvm.Term.elem (Jvm.Term.static "CellarPrompter$Reader" "LEAST" "[I") (Jvm.Term.int (11 : Int32))) (Jvm.Term.int (0 : Int32))), (Jvm.Cond.eq (Jvm.Term.elem (Jvm.Term.static "CellarPrompter$Reader" "LEAST" "[I") (Jvm.Term.int (12 : Int32))) (Jvm.Term.int (0 : Int32))), (Jvm.Cond.eq (Jvm.Term.elem (Jvm.Term.static "CellarPrompter$Reader" "LEAST" "[I") (Jvm.Term.int (13 : Int32))) (Jvm.Term.int (0 : Int32))), (Jvm.Cond.eq (Jvm.Term.elem (Jvm.Term.static "CellarPrompter$Reader" "LEAST" "[I") (Jvm.Term.int (14 : Int32))) (Jvm.Term.int (0 : Int32))), (Jvm.Cond.eq (Jvm.Term.elem (Jvm.Term.static "CellarPrompter$Reader" "LEAST" "[I") (Jvm.Term.int (15 : Int32))) (Jvm.Term.int (0 : Int32))), (Jvm.Cond.eq (Jvm.Term.elem (Jvm.Term.static "CellarPrompter$Reader" "LEAST" "[I") (Jvm.Term.int (16 : Int32))) (Jvm.Term.int (0 : Int32))), (Jvm.Cond.eq (Jvm.Term.elem (Jvm.Term.static "CellarPrompter$Reader" "LEAST" "[I") (Jvm.Term.int (17 : Int32))) (Jvm.Term.int (0 : Int32)))]
def qFL_1 : List Jvm.Cond := [(Jvm.Cond.eq (Jvm.Term.elem (Jvm.Term.static "CellarPrompter$Reader" "LEAST" "[I") (Jvm.Term.int (18 : Int32))) (Jvm.Term.int (0 : Int32))), (Jvm.Cond.eq (Jvm.Term.elem (Jvm.Term.static "CellarPrompter$Reader" "LEAST" "[I") (Jvm.Term.int (19 : Int32))) (Jvm.Term.int (0 : Int32))), (Jvm.Cond.eq (Jvm.Term.elem (Jvm.Term.static "CellarPrompter$Reader" "LEAST" "[I") (Jvm.Term.int (20 : Int32))) (Jvm.Term.int (1 : Int32))), (Jvm.Cond.eq (Jvm.Term.elem (Jvm.Term.static "CellarPrompter$Reader" "LEAST" "[I") (Jvm.Term.int (21 : Int32))) (Jvm.Term.int (0 : Int32))), (Jvm.Cond.eq (Jvm.Term.elem (Jvm.Term.static "CellarPrompter$Reader" "LEAST" "[I") (Jvm.Term.int (22 : Int32))) (Jvm.Term.int (0 : Int32))), (Jvm.Cond.eq (Jvm.Term.elem (Jvm.Term.static "CellarPrompter$Reader" "LEAST" "[I") (Jvm.Term.int (23 : Int32))) (Jvm.Term.int (0 : Int32))), (Jvm.Cond.eq (Jvm.Term.elem (Jvm.Term.static "CellarPrompter$Reader" "LEAST" "[I") (Jvm.Term.int (24 : Int32))) (Jvm.Term.int (0 : Int32))), (Jvm.Cond.eq (Jvm.Term.elem (Jvm.Term.static "CellarPrompter$Reader" "LEAST" "[I") (Jvm.Term.int (25 : Int32))) (Jvm.Term.int (0 : Int32))), (Jvm.Cond.eq (Jvm.Term.elem (Jvm.Term.static "CellarPrompter$Reader" "LEAST" "[I") (Jvm.Term.int (26 : Int32))) (Jvm.Term.int (0 : Int32))), (Jvm.Cond.eq (Jvm.Term.elem (Jvm.Term.static "CellarPrompter$Reader" "LEAST" "[I") (Jvm.Term.int (27 : Int32))) (Jvm.Term.int (0 : Int32))), (Jvm.Cond.eq (Jvm.Term.elem (Jvm.Term.static "CellarPrompter$Reader" "LEAST" "[I") (Jvm.Term.int (28 : Int32))) (Jvm.Term.int (0 : Int32))), (Jvm.Cond.eq (Jvm.Term.elem (Jvm.Term.static "CellarPrompter$Reader" "LEAST" "[I") (Jvm.Term.int (29 : Int32))) (Jvm.Term.int (0 : Int32))), (Jvm.Cond.eq (Jvm.Term.elem (Jvm.Term.static "CellarPrompter$Reader" "LEAST" "[I") (Jvm.Term.int (30 : Int32))) (Jvm.Term.int (0 : Int32))), (Jvm.Cond.eq (Jvm.Term.elem (Jvm.Term.static "CellarPrompter$Reader" "LEAST" "[I") (Jvm.Term.int (31 : Int32))) (Jvm.Term.int (0 : Int32))), (Jvm.Cond.eq (Jvm.Term.elem (Jvm.Term.static "CellarPrompter$Reader" "LEAST" "[I") (Jvm.Term.int (32 : Int32))) (Jvm.Term.int (0 : Int32))), (Jvm.Cond.eq (Jvm.Term.elem (Jvm.Term.static "CellarPrompter$Reader" "LEAST" "[I") (Jvm.Term.int (33 : Int32))) (Jvm.Term.int (0 : Int32))), (Jvm.Cond.eq (Jvm.Term.elem (Jvm.Term.static "CellarPrompter$Reader" "LEAST" "[I") (Jvm.Term.int (34 : Int32))) (Jvm.Term.int (0 : Int32))), (Jvm.Cond.eq (Jvm.Term.elem (Jvm.Term.static "CellarPrompter$Reader" "LEAST" "[I") (Jvm.Term.int (35 : Int32))) (Jvm.Term.int (0 : Int32))), (Jvm.Cond.eq (Jvm.Term.elem (Jvm.Term.static "CellarPrompter$Reader" "LEAST" "[I") (Jvm.Term.int (36 : Int32))) (Jvm.Term.int (0 : Int32))), (Jvm.Cond.eq (Jvm.Term.elem (Jvm.Term.static "CellarPrompter$Reader" "LEAST" "[I") (Jvm.Term.int (37 : Int32))) (Jvm.Term.int (0 : Int32))), (Jvm.Cond.eq (Jvm.Term.elem (Jvm.Term.static "CellarPrompter$Reader" "LEAST" "[I") (Jvm.Term.int (38 : Int32))) (Jvm.Term.int (0 : Int32))), (Jvm.Cond.eq (Jvm.Term.elem (Jvm.Term.static "CellarPrompter$Reader" "LEAST" "[I") (Jvm.Term.int (39 : Int32))) (Jvm.Term.int (0 : Int32))), (Jvm.Cond.eq (Jvm.Term.elem (Jvm.Term.static "CellarPrompter$Reader" "LEAST" "[I") (Jvm.Term.int (40 : Int32))) (Jvm.Term.int (0 : Int32))), (Jvm.Cond.eq (Jvm.Term.elem (Jvm.Term.static "CellarPrompter$Reader" "LEAST" "[I") (Jvm.Term.int (41 : Int32))) (Jvm.Term.int (0 : Int32))), (Jvm.Cond.eq (Jvm.Term.elem (Jvm.Term.static "CellarPrompter$Reader" "LEAST" "[I") (Jvm.Term.int (42 : Int32))) (Jvm.Term.int (0 : Int32))), (Jvm.Cond.eq (Jvm.Term.elem (Jvm.Term.static "CellarPrompter$Reader" "LEAST" "[I") (Jvm.Term.int (43 : Int32))) (Jvm.Term.int (0 : Int32))), (Jvm.Cond.eq (Jvm.Term.elem (Jvm.Term.static "CellarPrompter$Reader" "LEAST" "[I") (Jvm.Term.int (44 : Int32))) (Jvm.Term.int (0 : Int32))), (Jvm.Cond.eq (Jvm.Term.elem (Jvm.Term.static "CellarPrompter$Reader" "LEAST" "[I") (Jvm.Term.int (45 : Int32))) (Jvm.Term.int (0 : Int32))), (Jvm.Cond.eq (Jvm.Term.elem (Jvm.Term.static "CellarPrompter$Reader" "LEAST" "[I") (Jvm.Term.int (46 : Int32))) (Jvm.Term.int (0 : Int32))), (Jvm.Cond.eq (Jvm.Term.elem (Jvm.Term.static "CellarPrompter$Reader" "LEAST" "[I") (Jvm.Term.int (47 : Int32))) (Jvm.Term.int (0 : Int32))), (Jvm.Cond.eq (Jvm.Term.elem (Jvm.Term.static "CellarPrompter$Reader" "LEAST" "[I") (Jvm.Term.int (48 : Int32))) (Jvm.Term.int (0 : Int32))), (Jvm.Cond.eq (Jvm.Term.elem (Jvm.Term.static "CellarPrompter$Reader" "LEAST" "[I") (Jvm.Term.int (49 : Int32))) (Jvm.Term.int (0 : Int32))), (Jvm.Cond.eq (Jvm.Term.elem (Jvm.Term.static "CellarPrompter$Reader" "LEAST" "[I") (Jvm.Term.int (50 : Int32))) (Jvm.Term.int (0 : Int32))), (Jvm.Cond.eq (Jvm.Term.elem (Jvm.Term.static "CellarPrompter$Reader" "LEAST" "[I") (Jvm.Term.int (51 : Int32))) (Jvm.Term.int (0 : Int32))), (Jvm.Cond.eq (Jvm.Term.elem (Jvm.Term.static "CellarPrompter$Reader" "LEAST" "[I") (Jvm.Term.int (52 : Int32))) (Jvm.Term.int (0 : Int32))), (Jvm.Cond.eq (Jvm.Term.elem (Jvm.Term.static "CellarPrompter$Reader" "LEAST" "[I") (Jvm.Term.int (53 : Int32))) (Jvm.Term.int (0 : Int32))), (Jvm.Cond.eq (Jvm.Term.elem (Jvm.Term.static "CellarPrompter$Reader" "LEAST" "[I") (Jvm.Term.int (54 : Int32))) (Jvm.Term.int (0 : Int32))), (Jvm.Cond.eq (Jvm.Term.elem (Jvm.Term.static "CellarPrompter$Reader" "LEAST" "[I") (Jvm.Term.int (55 : Int32))) (Jvm.Term.int (0 : Int32))), (Jvm.Cond.eq (Jvm.Term.elem (Jvm.Term.static "CellarPrompter$Reader" "LEAST" "[I") (Jvm.Term.int (56 : Int32))) (Jvm.Term.int (0 : Int32))), (Jvm.Cond.eq (Jvm.Term.elem (Jvm.Term.static "CellarPrompter$Reader" "LEAST" "[I") (Jvm.Term.int (57 : Int32))) (Jvm.Term.int (0 : Int32))), (Jvm.Cond.eq (Jvm.Term.elem (Jvm.Term.static "CellarPrompter$Reader" "LEAST" "[I") (Jvm.Term.int (58 : Int32))) (Jvm.Term.int (0 : Int32))), (Jvm.Cond.eq (Jvm.Term.elem (Jvm.Term.static "CellarPrompter$Reader" "LEAST" "[I") (Jvm.Term.int (59 : Int32))) (Jvm.Term.int (0 : Int32))), (Jvm.Cond.eq (Jvm.Term.elem (Jvm.Term.static "CellarPrompter$Reader" "LEAST" "[I") (Jvm.Term.int (60 : Int32))) (Jvm.Term.int (2 : Int32))), (Jvm.Cond.eq (Jvm.Term.elem (Jvm.Term.static "CellarPrompter$Reader" "LEAST" "[I") (Jvm.Term.int (61 : Int32))) (Jvm.Term.int (0 : Int32))), (Jvm.Cond.eq (Jvm.Term.elem (Jvm.Term.static "CellarPrompter$Reader" "LEAST" "[I") (Jvm.Term.int (62 : Int32))) (Jvm.Term.int (0 : Int32))), (Jvm.Cond.eq (Jvm.Term.elem (Jvm.Term.static "CellarPrompter$Reader" "LEAST" "[I") (Jvm.Term.int (63 : Int32))) (Jvm.Term.int (0 : Int32))), (Jvm.Cond.eq (Jvm.Term.elem (Jvm.Term.static "CellarPrompter$Reader" "LEAST" "[I") (Jvm.Term.int (64 : Int32))) (Jvm.Term.int (0 : Int32))), (Jvm.Cond.eq (Jvm.Term.elem (Jvm.Term.static "CellarPrompter$Reader" "LEAST" "[I") (Jvm.Term.int (65 : Int32))) (Jvm.Term.int (1 : Int32))), (Jvm.Cond.eq (Jvm.Term.elem (Jvm.Term.static "CellarPrompter$Reader" "LEAST" "[I") (Jvm.Term.int (66 : Int32))) (Jvm.Term.int (0 : Int32))), (Jvm.Cond.eq (Jvm.Term.elem (Jvm.Term.static "CellarPrompter$Reader" "LEAST" "[I") (Jvm.Term.int (67 : Int32))) (Jvm.Term.int (0 : Int32))), (Jvm.Cond.eq (Jvm.Term.elem (Jvm.Term.static "CellarPrompter$Reader" "LEAST" "[I") (Jvm.Term.int (68 : Int32))) (Jvm.Term.int (0 : Int32))), (Jvm.Cond.eq (Jvm.Term.elem (Jvm.Term.static "CellarPrompter$Reader" "LEAST" "[I") (Jvm.Term.int (69 : Int32))) (Jvm.Term.int (0 : Int32))), (Jvm.Cond.eq (Jvm.Term.elem (Jvm.Term.static "CellarPrompter$Reader" "LEAST" "[I") (Jvm.Term.int (70 : Int32))) (Jvm.Term.int (0 : Int32))), (Jvm.Cond.eq (Jvm.Term.elem (Jvm.Term.static "CellarPrompter$Reader" "LEAST" "[I") (Jvm.Term.int (71 : Int32))) (Jvm.Term.int (0 : Int32))), (Jvm.Cond.eq (Jvm.Term.elem (Jvm.Term.static "CellarPrompter$Reader" "LEAST" "[I") (Jvm.Term.int (72 : Int32))) (Jvm.Term.int (0 : Int32))), (Jvm.Cond.eq (Jvm.Term.elem (Jvm.Term.static "CellarPrompter$Reader" "LEAST" "[I") (Jvm.Term.int (73 : Int32))) (Jvm.Term.int (0 : Int32))), (Jvm.Cond.eq (Jvm.Term.elem (Jvm.Term.static "CellarPrompter$Reader" "LEAST" "[I") (Jvm.Term.int (74 : Int32))) (Jvm.Term.int (0 : Int32))), (Jvm.Cond.eq (Jvm.Term.elem (Jvm.Term.static "CellarPrompter$Reader" "LEAST" "[I") (Jvm.Term.int (75 : Int32))) (Jvm.Term.int (0 : Int32))), (Jvm.Cond.isRef (Jvm.Term.static "CellarPrompter$Reader" "GREATEST" "[I")), (Jvm.Cond.arrayOf (Jvm.Term.static "CellarPrompter$Reader" "GREATEST" "[I") Jvm.ClassFile.FieldType.int)]
def qFL_2 : List Jvm.Cond := [(Jvm.Cond.eq (Jvm.Term.length (Jvm.Term.static "CellarPrompter$Reader" "GREATEST" "[I")) (Jvm.Term.int (76 : Int32))), (Jvm.Cond.eq (Jvm.Term.elem (Jvm.Term.static "CellarPrompter$Reader" "GREATEST" "[I") (Jvm.Term.int (0 : Int32))) (Jvm.Term.int (19 : Int32))), (Jvm.Cond.eq (Jvm.Term.elem (Jvm.Term.static "CellarPrompter$Reader" "GREATEST" "[I") (Jvm.Term.int (1 : Int32))) (Jvm.Term.int (5 : Int32))), (Jvm.Cond.eq (Jvm.Term.elem (Jvm.Term.static "CellarPrompter$Reader" "GREATEST" "[I") (Jvm.Term.int (2 : Int32))) (Jvm.Term.int (9 : Int32))), (Jvm.Cond.eq (Jvm.Term.elem (Jvm.Term.static "CellarPrompter$Reader" "GREATEST" "[I") (Jvm.Term.int (3 : Int32))) (Jvm.Term.int (9 : Int32))), (Jvm.Cond.eq (Jvm.Term.elem (Jvm.Term.static "CellarPrompter$Reader" "GREATEST" "[I") (Jvm.Term.int (4 : Int32))) (Jvm.Term.int (5 : Int32))), (Jvm.Cond.eq (Jvm.Term.elem (Jvm.Term.static "CellarPrompter$Reader" "GREATEST" "[I") (Jvm.Term.int (5 : Int32))) (Jvm.Term.int (10 : Int32))), (Jvm.Cond.eq (Jvm.Term.elem (Jvm.Term.static "CellarPrompter$Reader" "GREATEST" "[I") (Jvm.Term.int (6 : Int32))) (Jvm.Term.int (0 : Int32))), (Jvm.Cond.eq (Jvm.Term.elem (Jvm.Term.static "CellarPrompter$Reader" "GREATEST" "[I") (Jvm.Term.int (7 : Int32))) (Jvm.Term.int (0 : Int32))), (Jvm.Cond.eq (Jvm.Term.elem (Jvm.Term.static "CellarPrompter$Reader" "GREATEST" "[I") (Jvm.Term.int (8 : Int32))) (Jvm.Term.int (19 : Int32))), (Jvm.Cond.eq (Jvm.Term.elem (Jvm.Term.static "CellarPrompter$Reader" "GREATEST" "[I") (Jvm.Term.int (9 : Int32))) (Jvm.Term.int (19 : Int32))), (Jvm.Cond.eq (Jvm.Term.elem (Jvm.Term.static "CellarPrompter$Reader" "GREATEST" "[I") (Jvm.Term.int (10 : Int32))) (Jvm.Term.int (0 : Int32))), (Jvm.Cond.eq (Jvm.Term.elem (Jvm.Term.static "CellarPrompter$Reader" "GREATEST" "[I") (Jvm.Term.int (11 : Int32))) (Jvm.Term.int (0 : Int32))), (Jvm.Cond.eq (Jvm.Term.elem (Jvm.Term.static "CellarPrompter$Reader" "GREATEST" "[I") (Jvm.Term.int (12 : Int32))) (Jvm.Term.int (5 : Int32))), (Jvm.Cond.eq (Jvm.Term.elem (Jvm.Term.static "CellarPrompter$Reader" "GREATEST" "[I") (Jvm.Term.int (13 : Int32))) (Jvm.Term.int (0 : Int32))), (Jvm.Cond.eq (Jvm.Term.elem (Jvm.Term.static "CellarPrompter$Reader" "GREATEST" "[I") (Jvm.Term.int (14 : Int32))) (Jvm.Term.int (0 : Int32))), (Jvm.Cond.eq (Jvm.Term.elem (Jvm.Term.static "CellarPrompter$Reader" "GREATEST" "[I") (Jvm.Term.int (15 : Int32))) (Jvm.Term.int (0 : Int32))), (Jvm.Cond.eq (Jvm.Term.elem (Jvm.Term.static "CellarPrompter$Reader" "GREATEST" "[I") (Jvm.Term.int (16 : Int32))) (Jvm.Term.int (9 : Int32))), (Jvm.Cond.eq (Jvm.Term.elem (Jvm.Term.static "CellarPrompter$Reader" "GREATEST" "[I") (Jvm.Term.int (17 : Int32))) (Jvm.Term.int (0 : Int32))), (Jvm.Cond.eq (Jvm.Term.elem (Jvm.Term.static "CellarPrompter$Reader" "GREATEST" "[I") (Jvm.Term.int (18 : Int32))) (Jvm.Term.int (0 : Int32))), (Jvm.Cond.eq (Jvm.Term.elem (Jvm.Term.static "CellarPrompter$Reader" "GREATEST" "[I") (Jvm.Term.int (19 : Int32))) (Jvm.Term.int (0 : Int32))), (Jvm.Cond.eq (Jvm.Term.elem (Jvm.Term.static "CellarPrompter$Reader" "GREATEST" "[I") (Jvm.Term.int (20 : Int32))) (Jvm.Term.int (9 : Int32))), (Jvm.Cond.eq (Jvm.Term.elem (Jvm.Term.static "CellarPrompter$Reader" "GREATEST" "[I") (Jvm.Term.int (21 : Int32))) (Jvm.Term.int (0 : Int32))), (Jvm.Cond.eq (Jvm.Term.elem (Jvm.Term.static "CellarPrompter$Reader" "GREATEST" "[I") (Jvm.Term.int (22 : Int32))) (Jvm.Term.int (0 : Int32))), (Jvm.Cond.eq (Jvm.Term.elem (Jvm.Term.static "CellarPrompter$Reader" "GREATEST" "[I") (Jvm.Term.int (23 : Int32))) (Jvm.Term.int (0 : Int32))), (Jvm.Cond.eq (Jvm.Term.elem (Jvm.Term.static "CellarPrompter$Reader" "GREATEST" "[I") (Jvm.Term.int (24 : Int32))) (Jvm.Term.int (19 : Int32))), (Jvm.Cond.eq (Jvm.Term.elem (Jvm.Term.static "CellarPrompter$Reader" "GREATEST" "[I") (Jvm.Term.int (25 : Int32))) (Jvm.Term.int (0 : Int32))), (Jvm.Cond.eq (Jvm.Term.elem (Jvm.Term.static "CellarPrompter$Reader" "GREATEST" "[I") (Jvm.Term.int (26 : Int32))) (Jvm.Term.int (0 : Int32))), (Jvm.Cond.eq (Jvm.Term.elem (Jvm.Term.static "CellarPrompter$Reader" "GREATEST" "[I") (Jvm.Term.int (27 : Int32))) (Jvm.Term.int (0 : Int32))), (Jvm.Cond.eq (Jvm.Term.elem (Jvm.Term.static "CellarPrompter$Reader" "GREATEST" "[I") (Jvm.Term.int (28 : Int32))) (Jvm.Term.int (5 : Int32))), (Jvm.Cond.eq (Jvm.Term.elem (Jvm.Term.static "CellarPrompter$Reader" "GREATEST" "[I") (Jvm.Term.int (29 : Int32))) (Jvm.Term.int (0 : Int32))), (Jvm.Cond.eq (Jvm.Term.elem (Jvm.Term.static "CellarPrompter$Reader" "GREATEST" "[I") (Jvm.Term.int (30 : Int32))) (Jvm.Term.int (0 : Int32))), (Jvm.Cond.eq (Jvm.Term.elem (Jvm.Term.static "CellarPrompter$Reader" "GREATEST" "[I") (Jvm.Term.int (31 : Int32))) (Jvm.Term.int (0 : Int32))), (Jvm.Cond.eq (Jvm.Term.elem (Jvm.Term.static "CellarPrompter$Reader" "GREATEST" "[I") (Jvm.Term.int (32 : Int32))) (Jvm.Term.int (5 : Int32))), (Jvm.Cond.eq (Jvm.Term.elem (Jvm.Term.static "CellarPrompter$Reader" "GREATEST" "[I") (Jvm.Term.int (33 : Int32))) (Jvm.Term.int (0 : Int32))), (Jvm.Cond.eq (Jvm.Term.elem (Jvm.Term.static "CellarPrompter$Reader" "GREATEST" "[I") (Jvm.Term.int (34 : Int32))) (Jvm.Term.int (0 : Int32))), (Jvm.Cond.eq (Jvm.Term.elem (Jvm.Term.static "CellarPrompter$Reader" "GREATEST" "[I") (Jvm.Term.int (35 : Int32))) (Jvm.Term.int (0 : Int32))), (Jvm.Cond.eq (Jvm.Term.elem (Jvm.Term.static "CellarPrompter$Reader" "GREATEST" "[I") (Jvm.Term.int (36 : Int32))) (Jvm.Term.int (0 : Int32))), (Jvm.Cond.eq (Jvm.Term.elem (Jvm.Term.static "CellarPrompter$Reader" "GREATEST" "[I") (Jvm.Term.int (37 : Int32))) (Jvm.Term.int (0 : Int32))), (Jvm.Cond.eq (Jvm.Term.elem (Jvm.Term.static "CellarPrompter$Reader" "GREATEST" "[I") (Jvm.Term.int (38 : Int32))) (Jvm.Term.int (0 : Int32))), (Jvm.Cond.eq (Jvm.Term.elem (Jvm.Term.static "CellarPrompter$Reader" "GREATEST" "[I") (Jvm.Term.int (39 : Int32))) (Jvm.Term.int (0 : Int32))), (Jvm.Cond.eq (Jvm.Term.elem (Jvm.Term.static "CellarPrompter$Reader" "GREATEST" "[I") (Jvm.Term.int (40 : Int32))) (Jvm.Term.int (0 : Int32))), (Jvm.Cond.eq (Jvm.Term.elem (Jvm.Term.static "CellarPrompter$Reader" "GREATEST" "[I") (Jvm.Term.int (41 : Int32))) (Jvm.Term.int (0 : Int32))), (Jvm.Cond.eq (Jvm.Term.elem (Jvm.Term.static "CellarPrompter$Reader" "GREATEST" "[I") (Jvm.Term.int (42 : Int32))) (Jvm.Term.int (0 : Int32))), (Jvm.Cond.eq (Jvm.Term.elem (Jvm.Term.static "CellarPrompter$Reader" "GREATEST" "[I") (Jvm.Term.int (43 : Int32))) (Jvm.Term.int (0 : Int32))), (Jvm.Cond.eq (Jvm.Term.elem (Jvm.Term.static "CellarPrompter$Reader" "GREATEST" "[I") (Jvm.Term.int (44 : Int32))) (Jvm.Term.int (0 : Int32))), (Jvm.Cond.eq (Jvm.Term.elem (Jvm.Term.static "CellarPrompter$Reader" "GREATEST" "[I") (Jvm.Term.int (45 : Int32))) (Jvm.Term.int (0 : Int32))), (Jvm.Cond.eq (Jvm.Term.elem (Jvm.Term.static "CellarPrompter$Reader" "GREATEST" "[I") (Jvm.Term.int (46 : Int32))) (Jvm.Term.int (0 : Int32))), (Jvm.Cond.eq (Jvm.Term.elem (Jvm.Term.static "CellarPrompter$Reader" "GREATEST" "[I") (Jvm.Term.int (47 : Int32))) (Jvm.Term.int (0 : Int32))), (Jvm.Cond.eq (Jvm.Term.elem (Jvm.Term.static "CellarPrompter$Reader" "GREATEST" "[I") (Jvm.Term.int (48 : Int32))) (Jvm.Term.int (0 : Int32))), (Jvm.Cond.eq (Jvm.Term.elem (Jvm.Term.static "CellarPrompter$Reader" "GREATEST" "[I") (Jvm.Term.int (49 : Int32))) (Jvm.Term.int (0 : Int32))), (Jvm.Cond.eq (Jvm.Term.elem (Jvm.Term.static "CellarPrompter$Reader" "GREATEST" "[I") (Jvm.Term.int (50 : Int32))) (Jvm.Term.int (0 : Int32))), (Jvm.Cond.eq (Jvm.Term.elem (Jvm.Term.static "CellarPrompter$Reader" "GREATEST" "[I") (Jvm.Term.int (51 : Int32))) (Jvm.Term.int (0 : Int32))), (Jvm.Cond.eq (Jvm.Term.elem (Jvm.Term.static "CellarPrompter$Reader" "GREATEST" "[I") (Jvm.Term.int (52 : Int32))) (Jvm.Term.int (5 : Int32))), (Jvm.Cond.eq (Jvm.Term.elem (Jvm.Term.static "CellarPrompter$Reader" "GREATEST" "[I") (Jvm.Term.int (53 : Int32))) (Jvm.Term.int (0 : Int32))), (Jvm.Cond.eq (Jvm.Term.elem (Jvm.Term.static "CellarPrompter$Reader" "GREATEST" "[I") (Jvm.Term.int (54 : Int32))) (Jvm.Term.int (0 : Int32))), (Jvm.Cond.eq (Jvm.Term.elem (Jvm.Term.static "CellarPrompter$Reader" "GREATEST" "[I") (Jvm.Term.int (55 : Int32))) (Jvm.Term.int (0 : Int32))), (Jvm.Cond.eq (Jvm.Term.elem (Jvm.Term.static "CellarPrompter$Reader" "GREATEST" "[I") (Jvm.Term.int (56 : Int32))) (Jvm.Term.int (0 : Int32))), (Jvm.Cond.eq (Jvm.Term.elem (Jvm.Term.static "CellarPrompter$Reader" "GREATEST" "[I") (Jvm.Term.int (57 : Int32))) (Jvm.Term.int (0 : Int32))), (Jvm.Cond.eq (Jvm.Term.elem (Jvm.Term.static "CellarPrompter$Reader" "GREATEST" "[I") (Jvm.Term.int (58 : Int32))) (Jvm.Term.int (0 : Int32)))]
def qFL_3 : List Jvm.Cond := [(Jvm.Cond.eq (Jvm.Term.elem (Jvm.Term.static "CellarPrompter$Reader" "GREATEST" "[I") (Jvm.Term.int (59 : Int32))) (Jvm.Term.int (0 : Int32))), (Jvm.Cond.eq (Jvm.Term.elem (Jvm.Term.static "CellarPrompter$Reader" "GREATEST" "[I") (Jvm.Term.int (60 : Int32))) (Jvm.Term.int (9 : Int32))), (Jvm.Cond.eq (Jvm.Term.elem (Jvm.Term.static "CellarPrompter$Reader" "GREATEST" "[I") (Jvm.Term.int (61 : Int32))) (Jvm.Term.int (0 : Int32))), (Jvm.Cond.eq (Jvm.Term.elem (Jvm.Term.static "CellarPrompter$Reader" "GREATEST" "[I") (Jvm.Term.int (62 : Int32))) (Jvm.Term.int (0 : Int32))), (Jvm.Cond.eq (Jvm.Term.elem (Jvm.Term.static "CellarPrompter$Reader" "GREATEST" "[I") (Jvm.Term.int (63 : Int32))) (Jvm.Term.int (0 : Int32))), (Jvm.Cond.eq (Jvm.Term.elem (Jvm.Term.static "CellarPrompter$Reader" "GREATEST" "[I") (Jvm.Term.int (64 : Int32))) (Jvm.Term.int (7 : Int32))), (Jvm.Cond.eq (Jvm.Term.elem (Jvm.Term.static "CellarPrompter$Reader" "GREATEST" "[I") (Jvm.Term.int (65 : Int32))) (Jvm.Term.int (9 : Int32))), (Jvm.Cond.eq (Jvm.Term.elem (Jvm.Term.static "CellarPrompter$Reader" "GREATEST" "[I") (Jvm.Term.int (66 : Int32))) (Jvm.Term.int (0 : Int32))), (Jvm.Cond.eq (Jvm.Term.elem (Jvm.Term.static "CellarPrompter$Reader" "GREATEST" "[I") (Jvm.Term.int (67 : Int32))) (Jvm.Term.int (0 : Int32))), (Jvm.Cond.eq (Jvm.Term.elem (Jvm.Term.static "CellarPrompter$Reader" "GREATEST" "[I") (Jvm.Term.int (68 : Int32))) (Jvm.Term.int (8 : Int32))), (Jvm.Cond.eq (Jvm.Term.elem (Jvm.Term.static "CellarPrompter$Reader" "GREATEST" "[I") (Jvm.Term.int (69 : Int32))) (Jvm.Term.int (1 : Int32))), (Jvm.Cond.eq (Jvm.Term.elem (Jvm.Term.static "CellarPrompter$Reader" "GREATEST" "[I") (Jvm.Term.int (70 : Int32))) (Jvm.Term.int (0 : Int32))), (Jvm.Cond.eq (Jvm.Term.elem (Jvm.Term.static "CellarPrompter$Reader" "GREATEST" "[I") (Jvm.Term.int (71 : Int32))) (Jvm.Term.int (0 : Int32))), (Jvm.Cond.eq (Jvm.Term.elem (Jvm.Term.static "CellarPrompter$Reader" "GREATEST" "[I") (Jvm.Term.int (72 : Int32))) (Jvm.Term.int (8 : Int32))), (Jvm.Cond.eq (Jvm.Term.elem (Jvm.Term.static "CellarPrompter$Reader" "GREATEST" "[I") (Jvm.Term.int (73 : Int32))) (Jvm.Term.int (9 : Int32))), (Jvm.Cond.eq (Jvm.Term.elem (Jvm.Term.static "CellarPrompter$Reader" "GREATEST" "[I") (Jvm.Term.int (74 : Int32))) (Jvm.Term.int (0 : Int32))), (Jvm.Cond.eq (Jvm.Term.elem (Jvm.Term.static "CellarPrompter$Reader" "GREATEST" "[I") (Jvm.Term.int (75 : Int32))) (Jvm.Term.int (0 : Int32))), (Jvm.Cond.not (Jvm.Cond.castable "CellarPrompter" "CellarPrompter$Book")), (Jvm.Cond.not (Jvm.Cond.castable "CellarPrompter$Told" "CellarPrompter$Book")), (Jvm.Cond.not (Jvm.Cond.castable "CellarPrompter$Evening" "CellarPrompter$Book")), (Jvm.Cond.not (Jvm.Cond.castable "CellarPrompter$Log" "CellarPrompter$Book")), (Jvm.Cond.not (Jvm.Cond.castable "CellarPrompter$Town" "CellarPrompter$Book")), (Jvm.Cond.not (Jvm.Cond.castable "CellarPrompter$Reader" "CellarPrompter$Book")), (Jvm.Cond.not (Jvm.Cond.castable "CellarPrompter$Stage" "CellarPrompter$Book")), (Jvm.Cond.not (Jvm.Cond.castable "CellarPrompter$Paths" "CellarPrompter$Book")), (Jvm.Cond.not (Jvm.Cond.castable "CellarPrompter$Odds" "CellarPrompter$Book")), (Jvm.Cond.not (Jvm.Cond.castable "CellarPrompter$Merger" "CellarPrompter$Book")), (Jvm.Cond.not (Jvm.Cond.castable "CellarPrompter$Fitting" "CellarPrompter$Book")), (Jvm.Cond.not (Jvm.Cond.castable "CellarPrompterModel" "CellarPrompter$Book")), (Jvm.Cond.not (Jvm.Cond.castable "java/lang/String" "CellarPrompter$Book")), (Jvm.Cond.not (Jvm.Cond.castable "CellarPrompter" "CellarPrompter$Evening")), (Jvm.Cond.not (Jvm.Cond.castable "CellarPrompter$Told" "CellarPrompter$Evening")), (Jvm.Cond.not (Jvm.Cond.castable "CellarPrompter$Book" "CellarPrompter$Evening")), (Jvm.Cond.not (Jvm.Cond.castable "CellarPrompter$Log" "CellarPrompter$Evening")), (Jvm.Cond.not (Jvm.Cond.castable "CellarPrompter$Town" "CellarPrompter$Evening")), (Jvm.Cond.not (Jvm.Cond.castable "CellarPrompter$Reader" "CellarPrompter$Evening")), (Jvm.Cond.not (Jvm.Cond.castable "CellarPrompter$Stage" "CellarPrompter$Evening")), (Jvm.Cond.not (Jvm.Cond.castable "CellarPrompter$Paths" "CellarPrompter$Evening")), (Jvm.Cond.not (Jvm.Cond.castable "CellarPrompter$Odds" "CellarPrompter$Evening")), (Jvm.Cond.not (Jvm.Cond.castable "CellarPrompter$Merger" "CellarPrompter$Evening")), (Jvm.Cond.not (Jvm.Cond.castable "CellarPrompter$Fitting" "CellarPrompter$Evening")), (Jvm.Cond.not (Jvm.Cond.castable "CellarPrompterModel" "CellarPrompter$Evening")), (Jvm.Cond.not (Jvm.Cond.castable "java/lang/String" "CellarPrompter$Evening")), (Jvm.Cond.not (Jvm.Cond.castable "CellarPrompter" "CellarPrompter$Log")), (Jvm.Cond.not (Jvm.Cond.castable "CellarPrompter$Told" "CellarPrompter$Log")), (Jvm.Cond.not (Jvm.Cond.castable "CellarPrompter$Book" "CellarPrompter$Log")), (Jvm.Cond.not (Jvm.Cond.castable "CellarPrompter$Evening" "CellarPrompter$Log")), (Jvm.Cond.not (Jvm.Cond.castable "CellarPrompter$Town" "CellarPrompter$Log")), (Jvm.Cond.not (Jvm.Cond.castable "CellarPrompter$Reader" "CellarPrompter$Log")), (Jvm.Cond.not (Jvm.Cond.castable "CellarPrompter$Stage" "CellarPrompter$Log")), (Jvm.Cond.not (Jvm.Cond.castable "CellarPrompter$Paths" "CellarPrompter$Log")), (Jvm.Cond.not (Jvm.Cond.castable "CellarPrompter$Odds" "CellarPrompter$Log")), (Jvm.Cond.not (Jvm.Cond.castable "CellarPrompter$Merger" "CellarPrompter$Log")), (Jvm.Cond.not (Jvm.Cond.castable "CellarPrompter$Fitting" "CellarPrompter$Log")), (Jvm.Cond.not (Jvm.Cond.castable "CellarPrompterModel" "CellarPrompter$Log")), (Jvm.Cond.not (Jvm.Cond.castable "java/lang/String" "CellarPrompter$Log")), (Jvm.Cond.not (Jvm.Cond.castable "CellarPrompter" "CellarPrompter$Town")), (Jvm.Cond.not (Jvm.Cond.castable "CellarPrompter$Told" "CellarPrompter$Town")), (Jvm.Cond.not (Jvm.Cond.castable "CellarPrompter$Book" "CellarPrompter$Town")), (Jvm.Cond.not (Jvm.Cond.castable "CellarPrompter$Evening" "CellarPrompter$Town"))]
def qFL_4 : List Jvm.Cond := [(Jvm.Cond.not (Jvm.Cond.castable "CellarPrompter$Log" "CellarPrompter$Town")), (Jvm.Cond.not (Jvm.Cond.castable "CellarPrompter$Reader" "CellarPrompter$Town")), (Jvm.Cond.not (Jvm.Cond.castable "CellarPrompter$Stage" "CellarPrompter$Town")), (Jvm.Cond.not (Jvm.Cond.castable "CellarPrompter$Paths" "CellarPrompter$Town")), (Jvm.Cond.not (Jvm.Cond.castable "CellarPrompter$Odds" "CellarPrompter$Town")), (Jvm.Cond.not (Jvm.Cond.castable "CellarPrompter$Merger" "CellarPrompter$Town")), (Jvm.Cond.not (Jvm.Cond.castable "CellarPrompter$Fitting" "CellarPrompter$Town")), (Jvm.Cond.not (Jvm.Cond.castable "CellarPrompterModel" "CellarPrompter$Town")), (Jvm.Cond.not (Jvm.Cond.castable "java/lang/String" "CellarPrompter$Town")), (Jvm.Cond.not (Jvm.Cond.castable "CellarPrompter" "CellarPrompter$Told")), (Jvm.Cond.not (Jvm.Cond.castable "CellarPrompter$Book" "CellarPrompter$Told")), (Jvm.Cond.not (Jvm.Cond.castable "CellarPrompter$Evening" "CellarPrompter$Told")), (Jvm.Cond.not (Jvm.Cond.castable "CellarPrompter$Log" "CellarPrompter$Told")), (Jvm.Cond.not (Jvm.Cond.castable "CellarPrompter$Town" "CellarPrompter$Told")), (Jvm.Cond.not (Jvm.Cond.castable "CellarPrompter$Reader" "CellarPrompter$Told")), (Jvm.Cond.not (Jvm.Cond.castable "CellarPrompter$Stage" "CellarPrompter$Told")), (Jvm.Cond.not (Jvm.Cond.castable "CellarPrompter$Paths" "CellarPrompter$Told")), (Jvm.Cond.not (Jvm.Cond.castable "CellarPrompter$Odds" "CellarPrompter$Told")), (Jvm.Cond.not (Jvm.Cond.castable "CellarPrompter$Merger" "CellarPrompter$Told")), (Jvm.Cond.not (Jvm.Cond.castable "CellarPrompter$Fitting" "CellarPrompter$Told")), (Jvm.Cond.not (Jvm.Cond.castable "CellarPrompterModel" "CellarPrompter$Told")), (Jvm.Cond.not (Jvm.Cond.castable "java/lang/String" "CellarPrompter$Told")), (Jvm.Cond.exactly (Jvm.Term.string "CellarPrompter$Reader" (88 : Nat)) "java/lang/String"), (Jvm.Cond.eq (Jvm.Term.field (Jvm.Term.string "CellarPrompter$Reader" (88 : Nat)) "java/lang/String" "coder" "B") (Jvm.Term.int (0 : Int32))), (Jvm.Cond.arrayOf (Jvm.Term.field (Jvm.Term.string "CellarPrompter$Reader" (88 : Nat)) "java/lang/String" "value" "[B") Jvm.ClassFile.FieldType.byte), (Jvm.Cond.eq (Jvm.Term.length (Jvm.Term.field (Jvm.Term.string "CellarPrompter$Reader" (88 : Nat)) "java/lang/String" "value" "[B")) (Jvm.Term.int (4 : Int32))), (Jvm.Cond.eq (Jvm.Term.elem (Jvm.Term.field (Jvm.Term.string "CellarPrompter$Reader" (88 : Nat)) "java/lang/String" "value" "[B") (Jvm.Term.int (0 : Int32))) (Jvm.Term.int (108 : Int32))), (Jvm.Cond.eq (Jvm.Term.elem (Jvm.Term.field (Jvm.Term.string "CellarPrompter$Reader" (88 : Nat)) "java/lang/String" "value" "[B") (Jvm.Term.int (1 : Int32))) (Jvm.Term.int (105 : Int32))), (Jvm.Cond.eq (Jvm.Term.elem (Jvm.Term.field (Jvm.Term.string "CellarPrompter$Reader" (88 : Nat)) "java/lang/String" "value" "[B") (Jvm.Term.int (2 : Int32))) (Jvm.Term.int (110 : Int32))), (Jvm.Cond.eq (Jvm.Term.elem (Jvm.Term.field (Jvm.Term.string "CellarPrompter$Reader" (88 : Nat)) "java/lang/String" "value" "[B") (Jvm.Term.int (3 : Int32))) (Jvm.Term.int (101 : Int32))), (Jvm.Cond.exactly (Jvm.Term.string "CellarPrompter$Reader" (90 : Nat)) "java/lang/String"), (Jvm.Cond.eq (Jvm.Term.field (Jvm.Term.string "CellarPrompter$Reader" (90 : Nat)) "java/lang/String" "coder" "B") (Jvm.Term.int (0 : Int32))), (Jvm.Cond.arrayOf (Jvm.Term.field (Jvm.Term.string "CellarPrompter$Reader" (90 : Nat)) "java/lang/String" "value" "[B") Jvm.ClassFile.FieldType.byte), (Jvm.Cond.eq (Jvm.Term.length (Jvm.Term.field (Jvm.Term.string "CellarPrompter$Reader" (90 : Nat)) "java/lang/String" "value" "[B")) (Jvm.Term.int (3 : Int32))), (Jvm.Cond.eq (Jvm.Term.elem (Jvm.Term.field (Jvm.Term.string "CellarPrompter$Reader" (90 : Nat)) "java/lang/String" "value" "[B") (Jvm.Term.int (0 : Int32))) (Jvm.Term.int (100 : Int32))), (Jvm.Cond.eq (Jvm.Term.elem (Jvm.Term.field (Jvm.Term.string "CellarPrompter$Reader" (90 : Nat)) "java/lang/String" "value" "[B") (Jvm.Term.int (1 : Int32))) (Jvm.Term.int (114 : Int32))), (Jvm.Cond.eq (Jvm.Term.elem (Jvm.Term.field (Jvm.Term.string "CellarPrompter$Reader" (90 : Nat)) "java/lang/String" "value" "[B") (Jvm.Term.int (2 : Int32))) (Jvm.Term.int (121 : Int32))), (Jvm.Cond.not (Jvm.Cond.eq (Jvm.Term.string "CellarPrompter$Reader" (88 : Nat)) (Jvm.Term.string "CellarPrompter$Reader" (90 : Nat)))), (Jvm.Cond.exactly (Jvm.Term.string "CellarPrompter$Reader" (92 : Nat)) "java/lang/String"), (Jvm.Cond.eq (Jvm.Term.field (Jvm.Term.string "CellarPrompter$Reader" (92 : Nat)) "java/lang/String" "coder" "B") (Jvm.Term.int (0 : Int32))), (Jvm.Cond.arrayOf (Jvm.Term.field (Jvm.Term.string "CellarPrompter$Reader" (92 : Nat)) "java/lang/String" "value" "[B") Jvm.ClassFile.FieldType.byte), (Jvm.Cond.eq (Jvm.Term.length (Jvm.Term.field (Jvm.Term.string "CellarPrompter$Reader" (92 : Nat)) "java/lang/String" "value" "[B")) (Jvm.Term.int (4 : Int32))), (Jvm.Cond.eq (Jvm.Term.elem (Jvm.Term.field (Jvm.Term.string "CellarPrompter$Reader" (92 : Nat)) "java/lang/String" "value" "[B") (Jvm.Term.int (0 : Int32))) (Jvm.Term.int (98 : Int32))), (Jvm.Cond.eq (Jvm.Term.elem (Jvm.Term.field (Jvm.Term.string "CellarPrompter$Reader" (92 : Nat)) "java/lang/String" "value" "[B") (Jvm.Term.int (1 : Int32))) (Jvm.Term.int (97 : Int32))), (Jvm.Cond.eq (Jvm.Term.elem (Jvm.Term.field (Jvm.Term.string "CellarPrompter$Reader" (92 : Nat)) "java/lang/String" "value" "[B") (Jvm.Term.int (2 : Int32))) (Jvm.Term.int (99 : Int32))), (Jvm.Cond.eq (Jvm.Term.elem (Jvm.Term.field (Jvm.Term.string "CellarPrompter$Reader" (92 : Nat)) "java/lang/String" "value" "[B") (Jvm.Term.int (3 : Int32))) (Jvm.Term.int (107 : Int32))), (Jvm.Cond.not (Jvm.Cond.eq (Jvm.Term.string "CellarPrompter$Reader" (88 : Nat)) (Jvm.Term.string "CellarPrompter$Reader" (92 : Nat)))), (Jvm.Cond.not (Jvm.Cond.eq (Jvm.Term.string "CellarPrompter$Reader" (90 : Nat)) (Jvm.Term.string "CellarPrompter$Reader" (92 : Nat)))), (Jvm.Cond.exactly (Jvm.Term.string "CellarPrompter$Reader" (94 : Nat)) "java/lang/String"), (Jvm.Cond.eq (Jvm.Term.field (Jvm.Term.string "CellarPrompter$Reader" (94 : Nat)) "java/lang/String" "coder" "B") (Jvm.Term.int (0 : Int32))), (Jvm.Cond.arrayOf (Jvm.Term.field (Jvm.Term.string "CellarPrompter$Reader" (94 : Nat)) "java/lang/String" "value" "[B") Jvm.ClassFile.FieldType.byte), (Jvm.Cond.eq (Jvm.Term.length (Jvm.Term.field (Jvm.Term.string "CellarPrompter$Reader" (94 : Nat)) "java/lang/String" "value" "[B")) (Jvm.Term.int (5 : Int32))), (Jvm.Cond.eq (Jvm.Term.elem (Jvm.Term.field (Jvm.Term.string "CellarPrompter$Reader" (94 : Nat)) "java/lang/String" "value" "[B") (Jvm.Term.int (0 : Int32))) (Jvm.Term.int (99 : Int32))), (Jvm.Cond.eq (Jvm.Term.elem (Jvm.Term.field (Jvm.Term.string "CellarPrompter$Reader" (94 : Nat)) "java/lang/String" "value" "[B") (Jvm.Term.int (1 : Int32))) (Jvm.Term.int (104 : Int32))), (Jvm.Cond.eq (Jvm.Term.elem (Jvm.Term.field (Jvm.Term.string "CellarPrompter$Reader" (94 : Nat)) "java/lang/String" "value" "[B") (Jvm.Term.int (2 : Int32))) (Jvm.Term.int (105 : Int32))), (Jvm.Cond.eq (Jvm.Term.elem (Jvm.Term.field (Jvm.Term.string "CellarPrompter$Reader" (94 : Nat)) "java/lang/String" "value" "[B") (Jvm.Term.int (3 : Int32))) (Jvm.Term.int (108 : Int32))), (Jvm.Cond.eq (Jvm.Term.elem (Jvm.Term.field (Jvm.Term.string "CellarPrompter$Reader" (94 : Nat)) "java/lang/String" "value" "[B") (Jvm.Term.int (4 : Int32))) (Jvm.Term.int (100 : Int32))), (Jvm.Cond.not (Jvm.Cond.eq (Jvm.Term.string "CellarPrompter$Reader" (88 : Nat)) (Jvm.Term.string "CellarPrompter$Reader" (94 : Nat)))), (Jvm.Cond.not (Jvm.Cond.eq (Jvm.Term.string "CellarPrompter$Reader" (90 : Nat)) (Jvm.Term.string "CellarPrompter$Reader" (94 : Nat)))), (Jvm.Cond.not (Jvm.Cond.eq (Jvm.Term.string "CellarPrompter$Reader" (92 : Nat)) (Jvm.Term.string "CellarPrompter$Reader" (94 : Nat))))]
def qFL_5 : List Jvm.Cond := [(Jvm.Cond.exactly (Jvm.Term.string "CellarPrompter$Reader" (96 : Nat)) "java/lang/String"), (Jvm.Cond.eq (Jvm.Term.field (Jvm.Term.string "CellarPrompter$Reader" (96 : Nat)) "java/lang/String" "coder" "B") (Jvm.Term.int (0 : Int32))), (Jvm.Cond.arrayOf (Jvm.Term.field (Jvm.Term.string "CellarPrompter$Reader" (96 : Nat)) "java/lang/String" "value" "[B") Jvm.ClassFile.FieldType.byte), (Jvm.Cond.eq (Jvm.Term.length (Jvm.Term.field (Jvm.Term.string "CellarPrompter$Reader" (96 : Nat)) "java/lang/String" "value" "[B")) (Jvm.Term.int (4 : Int32))), (Jvm.Cond.eq (Jvm.Term.elem (Jvm.Term.field (Jvm.Term.string "CellarPrompter$Reader" (96 : Nat)) "java/lang/String" "value" "[B") (Jvm.Term.int (0 : Int32))) (Jvm.Term.int (102 : Int32))), (Jvm.Cond.eq (Jvm.Term.elem (Jvm.Term.field (Jvm.Term.string "CellarPrompter$Reader" (96 : Nat)) "java/lang/String" "value" "[B") (Jvm.Term.int (1 : Int32))) (Jvm.Term.int (114 : Int32))), (Jvm.Cond.eq (Jvm.Term.elem (Jvm.Term.field (Jvm.Term.string "CellarPrompter$Reader" (96 : Nat)) "java/lang/String" "value" "[B") (Jvm.Term.int (2 : Int32))) (Jvm.Term.int (101 : Int32))), (Jvm.Cond.eq (Jvm.Term.elem (Jvm.Term.field (Jvm.Term.string "CellarPrompter$Reader" (96 : Nat)) "java/lang/String" "value" "[B") (Jvm.Term.int (3 : Int32))) (Jvm.Term.int (101 : Int32))), (Jvm.Cond.not (Jvm.Cond.eq (Jvm.Term.string "CellarPrompter$Reader" (88 : Nat)) (Jvm.Term.string "CellarPrompter$Reader" (96 : Nat)))), (Jvm.Cond.not (Jvm.Cond.eq (Jvm.Term.string "CellarPrompter$Reader" (90 : Nat)) (Jvm.Term.string "CellarPrompter$Reader" (96 : Nat)))), (Jvm.Cond.not (Jvm.Cond.eq (Jvm.Term.string "CellarPrompter$Reader" (92 : Nat)) (Jvm.Term.string "CellarPrompter$Reader" (96 : Nat)))), (Jvm.Cond.not (Jvm.Cond.eq (Jvm.Term.string "CellarPrompter$Reader" (94 : Nat)) (Jvm.Term.string "CellarPrompter$Reader" (96 : Nat)))), (Jvm.Cond.exactly (Jvm.Term.string "CellarPrompter$Reader" (98 : Nat)) "java/lang/String"), (Jvm.Cond.eq (Jvm.Term.field (Jvm.Term.string "CellarPrompter$Reader" (98 : Nat)) "java/lang/String" "coder" "B") (Jvm.Term.int (0 : Int32))), (Jvm.Cond.arrayOf (Jvm.Term.field (Jvm.Term.string "CellarPrompter$Reader" (98 : Nat)) "java/lang/String" "value" "[B") Jvm.ClassFile.FieldType.byte), (Jvm.Cond.eq (Jvm.Term.length (Jvm.Term.field (Jvm.Term.string "CellarPrompter$Reader" (98 : Nat)) "java/lang/String" "value" "[B")) (Jvm.Term.int (3 : Int32))), (Jvm.Cond.eq (Jvm.Term.elem (Jvm.Term.field (Jvm.Term.string "CellarPrompter$Reader" (98 : Nat)) "java/lang/String" "value" "[B") (Jvm.Term.int (0 : Int32))) (Jvm.Term.int (99 : Int32))), (Jvm.Cond.eq (Jvm.Term.elem (Jvm.Term.field (Jvm.Term.string "CellarPrompter$Reader" (98 : Nat)) "java/lang/String" "value" "[B") (Jvm.Term.int (1 : Int32))) (Jvm.Term.int (117 : Int32))), (Jvm.Cond.eq (Jvm.Term.elem (Jvm.Term.field (Jvm.Term.string "CellarPrompter$Reader" (98 : Nat)) "java/lang/String" "value" "[B") (Jvm.Term.int (2 : Int32))) (Jvm.Term.int (116 : Int32))), (Jvm.Cond.not (Jvm.Cond.eq (Jvm.Term.string "CellarPrompter$Reader" (88 : Nat)) (Jvm.Term.string "CellarPrompter$Reader" (98 : Nat)))), (Jvm.Cond.not (Jvm.Cond.eq (Jvm.Term.string "CellarPrompter$Reader" (90 : Nat)) (Jvm.Term.string "CellarPrompter$Reader" (98 : Nat)))), (Jvm.Cond.not (Jvm.Cond.eq (Jvm.Term.string "CellarPrompter$Reader" (92 : Nat)) (Jvm.Term.string "CellarPrompter$Reader" (98 : Nat)))), (Jvm.Cond.not (Jvm.Cond.eq (Jvm.Term.string "CellarPrompter$Reader" (94 : Nat)) (Jvm.Term.string "CellarPrompter$Reader" (98 : Nat)))), (Jvm.Cond.not (Jvm.Cond.eq (Jvm.Term.string "CellarPrompter$Reader" (96 : Nat)) (Jvm.Term.string "CellarPrompter$Reader" (98 : Nat)))), (Jvm.Cond.exactly (Jvm.Term.string "CellarPrompter$Reader" (100 : Nat)) "java/lang/String"), (Jvm.Cond.eq (Jvm.Term.field (Jvm.Term.string "CellarPrompter$Reader" (100 : Nat)) "java/lang/String" "coder" "B") (Jvm.Term.int (0 : Int32))), (Jvm.Cond.arrayOf (Jvm.Term.field (Jvm.Term.string "CellarPrompter$Reader" (100 : Nat)) "java/lang/String" "value" "[B") Jvm.ClassFile.FieldType.byte), (Jvm.Cond.eq (Jvm.Term.length (Jvm.Term.field (Jvm.Term.string "CellarPrompter$Reader" (100 : Nat)) "java/lang/String" "value" "[B")) (Jvm.Term.int (3 : Int32))), (Jvm.Cond.eq (Jvm.Term.elem (Jvm.Term.field (Jvm.Term.string "CellarPrompter$Reader" (100 : Nat)) "java/lang/String" "value" "[B") (Jvm.Term.int (0 : Int32))) (Jvm.Term.int (115 : Int32))), (Jvm.Cond.eq (Jvm.Term.elem (Jvm.Term.field (Jvm.Term.string "CellarPrompter$Reader" (100 : Nat)) "java/lang/String" "value" "[B") (Jvm.Term.int (1 : Int32))) (Jvm.Term.int (97 : Int32))), (Jvm.Cond.eq (Jvm.Term.elem (Jvm.Term.field (Jvm.Term.string "CellarPrompter$Reader" (100 : Nat)) "java/lang/String" "value" "[B") (Jvm.Term.int (2 : Int32))) (Jvm.Term.int (121 : Int32))), (Jvm.Cond.not (Jvm.Cond.eq (Jvm.Term.string "CellarPrompter$Reader" (88 : Nat)) (Jvm.Term.string "CellarPrompter$Reader" (100 : Nat)))), (Jvm.Cond.not (Jvm.Cond.eq (Jvm.Term.string "CellarPrompter$Reader" (90 : Nat)) (Jvm.Term.string "CellarPrompter$Reader" (100 : Nat)))), (Jvm.Cond.not (Jvm.Cond.eq (Jvm.Term.string "CellarPrompter$Reader" (92 : Nat)) (Jvm.Term.string "CellarPrompter$Reader" (100 : Nat)))), (Jvm.Cond.not (Jvm.Cond.eq (Jvm.Term.string "CellarPrompter$Reader" (94 : Nat)) (Jvm.Term.string "CellarPrompter$Reader" (100 : Nat)))), (Jvm.Cond.not (Jvm.Cond.eq (Jvm.Term.string "CellarPrompter$Reader" (96 : Nat)) (Jvm.Term.string "CellarPrompter$Reader" (100 : Nat)))), (Jvm.Cond.not (Jvm.Cond.eq (Jvm.Term.string "CellarPrompter$Reader" (98 : Nat)) (Jvm.Term.string "CellarPrompter$Reader" (100 : Nat)))), (Jvm.Cond.exactly (Jvm.Term.string "CellarPrompter$Reader" (102 : Nat)) "java/lang/String"), (Jvm.Cond.eq (Jvm.Term.field (Jvm.Term.string "CellarPrompter$Reader" (102 : Nat)) "java/lang/String" "coder" "B") (Jvm.Term.int (0 : Int32))), (Jvm.Cond.arrayOf (Jvm.Term.field (Jvm.Term.string "CellarPrompter$Reader" (102 : Nat)) "java/lang/String" "value" "[B") Jvm.ClassFile.FieldType.byte), (Jvm.Cond.eq (Jvm.Term.length (Jvm.Term.field (Jvm.Term.string "CellarPrompter$Reader" (102 : Nat)) "java/lang/String" "value" "[B")) (Jvm.Term.int (3 : Int32))), (Jvm.Cond.eq (Jvm.Term.elem (Jvm.Term.field (Jvm.Term.string "CellarPrompter$Reader" (102 : Nat)) "java/lang/String" "value" "[B") (Jvm.Term.int (0 : Int32))) (Jvm.Term.int (111 : Int32))), (Jvm.Cond.eq (Jvm.Term.elem (Jvm.Term.field (Jvm.Term.string "CellarPrompter$Reader" (102 : Nat)) "java/lang/String" "value" "[B") (Jvm.Term.int (1 : Int32))) (Jvm.Term.int (117 : Int32))), (Jvm.Cond.eq (Jvm.Term.elem (Jvm.Term.field (Jvm.Term.string "CellarPrompter$Reader" (102 : Nat)) "java/lang/String" "value" "[B") (Jvm.Term.int (2 : Int32))) (Jvm.Term.int (116 : Int32))), (Jvm.Cond.not (Jvm.Cond.eq (Jvm.Term.string "CellarPrompter$Reader" (88 : Nat)) (Jvm.Term.string "CellarPrompter$Reader" (102 : Nat)))), (Jvm.Cond.not (Jvm.Cond.eq (Jvm.Term.string "CellarPrompter$Reader" (90 : Nat)) (Jvm.Term.string "CellarPrompter$Reader" (102 : Nat)))), (Jvm.Cond.not (Jvm.Cond.eq (Jvm.Term.string "CellarPrompter$Reader" (92 : Nat)) (Jvm.Term.string "CellarPrompter$Reader" (102 : Nat)))), (Jvm.Cond.not (Jvm.Cond.eq (Jvm.Term.string "CellarPrompter$Reader" (94 : Nat)) (Jvm.Term.string "CellarPrompter$Reader" (102 : Nat)))), (Jvm.Cond.not (Jvm.Cond.eq (Jvm.Term.string "CellarPrompter$Reader" (96 : Nat)) (Jvm.Term.string "CellarPrompter$Reader" (102 : Nat)))), (Jvm.Cond.not (Jvm.Cond.eq (Jvm.Term.string "CellarPrompter$Reader" (98 : Nat)) (Jvm.Term.string "CellarPrompter$Reader" (102 : Nat)))), (Jvm.Cond.not (Jvm.Cond.eq (Jvm.Term.string "CellarPrompter$Reader" (100 : Nat)) (Jvm.Term.string "CellarPrompter$Reader" (102 : Nat)))), (Jvm.Cond.exactly (Jvm.Term.string "CellarPrompter$Reader" (104 : Nat)) "java/lang/String"), (Jvm.Cond.eq (Jvm.Term.field (Jvm.Term.string "CellarPrompter$Reader" (104 : Nat)) "java/lang/String" "coder" "B") (Jvm.Term.int (0 : Int32))), (Jvm.Cond.arrayOf (Jvm.Term.field (Jvm.Term.string "CellarPrompter$Reader" (104 : Nat)) "java/lang/String" "value" "[B") Jvm.ClassFile.FieldType.byte), (Jvm.Cond.eq (Jvm.Term.length (Jvm.Term.field (Jvm.Term.string "CellarPrompter$Reader" (104 : Nat)) "java/lang/String" "value" "[B")) (Jvm.Term.int (2 : Int32))), (Jvm.Cond.eq (Jvm.Term.elem (Jvm.Term.field (Jvm.Term.string "CellarPrompter$Reader" (104 : Nat)) "java/lang/String" "value" "[B") (Jvm.Term.int (0 : Int32))) (Jvm.Term.int (105 : Int32))), (Jvm.Cond.eq (Jvm.Term.elem (Jvm.Term.field (Jvm.Term.string "CellarPrompter$Reader" (104 : Nat)) "java/lang/String" "value" "[B") (Jvm.Term.int (1 : Int32))) (Jvm.Term.int (110 : Int32))), (Jvm.Cond.not (Jvm.Cond.eq (Jvm.Term.string "CellarPrompter$Reader" (88 : Nat)) (Jvm.Term.string "CellarPrompter$Reader" (104 : Nat)))), (Jvm.Cond.not (Jvm.Cond.eq (Jvm.Term.string "CellarPrompter$Reader" (90 : Nat)) (Jvm.Term.string "CellarPrompter$Reader" (104 : Nat)))), (Jvm.Cond.not (Jvm.Cond.eq (Jvm.Term.string "CellarPrompter$Reader" (92 : Nat)) (Jvm.Term.string "CellarPrompter$Reader" (104 : Nat))))]
def qFL_6 : List Jvm.Cond := [(Jvm.Cond.not (Jvm.Cond.eq (Jvm.Term.string "CellarPrompter$Reader" (94 : Nat)) (Jvm.Term.string "CellarPrompter$Reader" (104 : Nat)))), (Jvm.Cond.not (Jvm.Cond.eq (Jvm.Term.string "CellarPrompter$Reader" (96 : Nat)) (Jvm.Term.string "CellarPrompter$Reader" (104 : Nat)))), (Jvm.Cond.not (Jvm.Cond.eq (Jvm.Term.string "CellarPrompter$Reader" (98 : Nat)) (Jvm.Term.string "CellarPrompter$Reader" (104 : Nat)))), (Jvm.Cond.not (Jvm.Cond.eq (Jvm.Term.string "CellarPrompter$Reader" (100 : Nat)) (Jvm.Term.string "CellarPrompter$Reader" (104 : Nat)))), (Jvm.Cond.not (Jvm.Cond.eq (Jvm.Term.string "CellarPrompter$Reader" (102 : Nat)) (Jvm.Term.string "CellarPrompter$Reader" (104 : Nat)))), (Jvm.Cond.exactly (Jvm.Term.string "CellarPrompter$Reader" (106 : Nat)) "java/lang/String"), (Jvm.Cond.eq (Jvm.Term.field (Jvm.Term.string "CellarPrompter$Reader" (106 : Nat)) "java/lang/String" "coder" "B") (Jvm.Term.int (0 : Int32))), (Jvm.Cond.arrayOf (Jvm.Term.field (Jvm.Term.string "CellarPrompter$Reader" (106 : Nat)) "java/lang/String" "value" "[B") Jvm.ClassFile.FieldType.byte), (Jvm.Cond.eq (Jvm.Term.length (Jvm.Term.field (Jvm.Term.string "CellarPrompter$Reader" (106 : Nat)) "java/lang/String" "value" "[B")) (Jvm.Term.int (6 : Int32))), (Jvm.Cond.eq (Jvm.Term.elem (Jvm.Term.field (Jvm.Term.string "CellarPrompter$Reader" (106 : Nat)) "java/lang/String" "value" "[B") (Jvm.Term.int (0 : Int32))) (Jvm.Term.int (112 : Int32))), (Jvm.Cond.eq (Jvm.Term.elem (Jvm.Term.field (Jvm.Term.string "CellarPrompter$Reader" (106 : Nat)) "java/lang/String" "value" "[B") (Jvm.Term.int (1 : Int32))) (Jvm.Term.int (114 : Int32))), (Jvm.Cond.eq (Jvm.Term.elem (Jvm.Term.field (Jvm.Term.string "CellarPrompter$Reader" (106 : Nat)) "java/lang/String" "value" "[B") (Jvm.Term.int (2 : Int32))) (Jvm.Term.int (111 : Int32))), (Jvm.Cond.eq (Jvm.Term.elem (Jvm.Term.field (Jvm.Term.string "CellarPrompter$Reader" (106 : Nat)) "java/lang/String" "value" "[B") (Jvm.Term.int (3 : Int32))) (Jvm.Term.int (109 : Int32))), (Jvm.Cond.eq (Jvm.Term.elem (Jvm.Term.field (Jvm.Term.string "CellarPrompter$Reader" (106 : Nat)) "java/lang/String" "value" "[B") (Jvm.Term.int (4 : Int32))) (Jvm.Term.int (112 : Int32))), (Jvm.Cond.eq (Jvm.Term.elem (Jvm.Term.field (Jvm.Term.string "CellarPrompter$Reader" (106 : Nat)) "java/lang/String" "value" "[B") (Jvm.Term.int (5 : Int32))) (Jvm.Term.int (116 : Int32))), (Jvm.Cond.not (Jvm.Cond.eq (Jvm.Term.string "CellarPrompter$Reader" (88 : Nat)) (Jvm.Term.string "CellarPrompter$Reader" (106 : Nat)))), (Jvm.Cond.not (Jvm.Cond.eq (Jvm.Term.string "CellarPrompter$Reader" (90 : Nat)) (Jvm.Term.string "CellarPrompter$Reader" (106 : Nat)))), (Jvm.Cond.not (Jvm.Cond.eq (Jvm.Term.string "CellarPrompter$Reader" (92 : Nat)) (Jvm.Term.string "CellarPrompter$Reader" (106 : Nat)))), (Jvm.Cond.not (Jvm.Cond.eq (Jvm.Term.string "CellarPrompter$Reader" (94 : Nat)) (Jvm.Term.string "CellarPrompter$Reader" (106 : Nat)))), (Jvm.Cond.not (Jvm.Cond.eq (Jvm.Term.string "CellarPrompter$Reader" (96 : Nat)) (Jvm.Term.string "CellarPrompter$Reader" (106 : Nat)))), (Jvm.Cond.not (Jvm.Cond.eq (Jvm.Term.string "CellarPrompter$Reader" (98 : Nat)) (Jvm.Term.string "CellarPrompter$Reader" (106 : Nat)))), (Jvm.Cond.not (Jvm.Cond.eq (Jvm.Term.string "CellarPrompter$Reader" (100 : Nat)) (Jvm.Term.string "CellarPrompter$Reader" (106 : Nat)))), (Jvm.Cond.not (Jvm.Cond.eq (Jvm.Term.string "CellarPrompter$Reader" (102 : Nat)) (Jvm.Term.string "CellarPrompter$Reader" (106 : Nat)))), (Jvm.Cond.not (Jvm.Cond.eq (Jvm.Term.string "CellarPrompter$Reader" (104 : Nat)) (Jvm.Term.string "CellarPrompter$Reader" (106 : Nat)))), (Jvm.Cond.exactly (Jvm.Term.string "CellarPrompter$Reader" (108 : Nat)) "java/lang/String"), (Jvm.Cond.eq (Jvm.Term.field (Jvm.Term.string "CellarPrompter$Reader" (108 : Nat)) "java/lang/String" "coder" "B") (Jvm.Term.int (0 : Int32))), (Jvm.Cond.arrayOf (Jvm.Term.field (Jvm.Term.string "CellarPrompter$Reader" (108 : Nat)) "java/lang/String" "value" "[B") Jvm.ClassFile.FieldType.byte), (Jvm.Cond.eq (Jvm.Term.length (Jvm.Term.field (Jvm.Term.string "CellarPrompter$Reader" (108 : Nat)) "java/lang/String" "value" "[B")) (Jvm.Term.int (4 : Int32))), (Jvm.Cond.eq (Jvm.Term.elem (Jvm.Term.field (Jvm.Term.string "CellarPrompter$Reader" (108 : Nat)) "java/lang/String" "value" "[B") (Jvm.Term.int (0 : Int32))) (Jvm.Term.int (119 : Int32))), (Jvm.Cond.eq (Jvm.Term.elem (Jvm.Term.field (Jvm.Term.string "CellarPrompter$Reader" (108 : Nat)) "java/lang/String" "value" "[B") (Jvm.Term.int (1 : Int32))) (Jvm.Term.int (97 : Int32))), (Jvm.Cond.eq (Jvm.Term.elem (Jvm.Term.field (Jvm.Term.string "CellarPrompter$Reader" (108 : Nat)) "java/lang/String" "value" "[B") (Jvm.Term.int (2 : Int32))) (Jvm.Term.int (105 : Int32))), (Jvm.Cond.eq (Jvm.Term.elem (Jvm.Term.field (Jvm.Term.string "CellarPrompter$Reader" (108 : Nat)) "java/lang/String" "value" "[B") (Jvm.Term.int (3 : Int32))) (Jvm.Term.int (116 : Int32))), (Jvm.Cond.not (Jvm.Cond.eq (Jvm.Term.string "CellarPrompter$Reader" (88 : Nat)) (Jvm.Term.string "CellarPrompter$Reader" (108 : Nat)))), (Jvm.Cond.not (Jvm.Cond.eq (Jvm.Term.string "CellarPrompter$Reader" (90 : Nat)) (Jvm.Term.string "CellarPrompter$Reader" (108 : Nat)))), (Jvm.Cond.not (Jvm.Cond.eq (Jvm.Term.string "CellarPrompter$Reader" (92 : Nat)) (Jvm.Term.string "CellarPrompter$Reader" (108 : Nat)))), (Jvm.Cond.not (Jvm.Cond.eq (Jvm.Term.string "CellarPrompter$Reader" (94 : Nat)) (Jvm.Term.string "CellarPrompter$Reader" (108 : Nat)))), (Jvm.Cond.not (Jvm.Cond.eq (Jvm.Term.string "CellarPrompter$Reader" (96 : Nat)) (Jvm.Term.string "CellarPrompter$Reader" (108 : Nat)))), (Jvm.Cond.not (Jvm.Cond.eq (Jvm.Term.string "CellarPrompter$Reader" (98 : Nat)) (Jvm.Term.string "CellarPrompter$Reader" (108 : Nat)))), (Jvm.Cond.not (Jvm.Cond.eq (Jvm.Term.string "CellarPrompter$Reader" (100 : Nat)) (Jvm.Term.string "CellarPrompter$Reader" (108 : Nat)))), (Jvm.Cond.not (Jvm.Cond.eq (Jvm.Term.string "CellarPrompter$Reader" (102 : Nat)) (Jvm.Term.string "CellarPrompter$Reader" (108 : Nat)))), (Jvm.Cond.not (Jvm.Cond.eq (Jvm.Term.string "CellarPrompter$Reader" (104 : Nat)) (Jvm.Term.string "CellarPrompter$Reader" (108 : Nat)))), (Jvm.Cond.not (Jvm.Cond.eq (Jvm.Term.string "CellarPrompter$Reader" (106 : Nat)) (Jvm.Term.string "CellarPrompter$Reader" (108 : Nat)))), (Jvm.Cond.exactly (Jvm.Term.string "CellarPrompter$Reader" (110 : Nat)) "java/lang/String"), (Jvm.Cond.eq (Jvm.Term.field (Jvm.Term.string "CellarPrompter$Reader" (110 : Nat)) "java/lang/String" "coder" "B") (Jvm.Term.int (0 : Int32))), (Jvm.Cond.arrayOf (Jvm.Term.field (Jvm.Term.string "CellarPrompter$Reader" (110 : Nat)) "java/lang/String" "value" "[B") Jvm.ClassFile.FieldType.byte), (Jvm.Cond.eq (Jvm.Term.length (Jvm.Term.field (Jvm.Term.string "CellarPrompter$Reader" (110 : Nat)) "java/lang/String" "value" "[B")) (Jvm.Term.int (2 : Int32))), (Jvm.Cond.eq (Jvm.Term.elem (Jvm.Term.field (Jvm.Term.string "CellarPrompter$Reader" (110 : Nat)) "java/lang/String" "value" "[B") (Jvm.Term.int (0 : Int32))) (Jvm.Term.int (103 : Int32))), (Jvm.Cond.eq (Jvm.Term.elem (Jvm.Term.field (Jvm.Term.string "CellarPrompter$Reader" (110 : Nat)) "java/lang/String" "value" "[B") (Jvm.Term.int (1 : Int32))) (Jvm.Term.int (111 : Int32))), (Jvm.Cond.not (Jvm.Cond.eq (Jvm.Term.string "CellarPrompter$Reader" (88 : Nat)) (Jvm.Term.string "CellarPrompter$Reader" (110 : Nat)))), (Jvm.Cond.not (Jvm.Cond.eq (Jvm.Term.string "CellarPrompter$Reader" (90 : Nat)) (Jvm.Term.string "CellarPrompter$Reader" (110 : Nat)))), (Jvm.Cond.not (Jvm.Cond.eq (Jvm.Term.string "CellarPrompter$Reader" (92 : Nat)) (Jvm.Term.string "CellarPrompter$Reader" (110 : Nat)))), (Jvm.Cond.not (Jvm.Cond.eq (Jvm.Term.string "CellarPrompter$Reader" (94 : Nat)) (Jvm.Term.string "CellarPrompter$Reader" (110 : Nat)))), (Jvm.Cond.not (Jvm.Cond.eq (Jvm.Term.string "CellarPrompter$Reader" (96 : Nat)) (Jvm.Term.string "CellarPrompter$Reader" (110 : Nat)))), (Jvm.Cond.not (Jvm.Cond.eq (Jvm.Term.string "CellarPrompter$Reader" (98 : Nat)) (Jvm.Term.string "CellarPrompter$Reader" (110 : Nat)))), (Jvm.Cond.not (Jvm.Cond.eq (Jvm.Term.string "CellarPrompter$Reader" (100 : Nat)) (Jvm.Term.string "CellarPrompter$Reader" (110 : Nat)))), (Jvm.Cond.not (Jvm.Cond.eq (Jvm.Term.string "CellarPrompter$Reader" (102 : Nat)) (Jvm.Term.string "CellarPrompter$Reader" (110 : Nat)))), (Jvm.Cond.not (Jvm.Cond.eq (Jvm.Term.string "CellarPrompter$Reader" (104 : Nat)) (Jvm.Term.string "CellarPrompter$Reader" (110 : Nat)))), (Jvm.Cond.not (Jvm.Cond.eq (Jvm.Term.string "CellarPrompter$Reader" (106 : Nat)) (Jvm.Term.string "CellarPrompter$Reader" (110 : Nat)))), (Jvm.Cond.not (Jvm.Cond.eq (Jvm.Term.string "CellarPrompter$Reader" (108 : Nat)) (Jvm.Term.string "CellarPrompter$Reader" (110 : Nat)))), (Jvm.Cond.exactly (Jvm.Term.string "CellarPrompter$Reader" (112 : Nat)) "java/lang/String")]
def qFL_7 : List Jvm.Cond := [(Jvm.Cond.eq (Jvm.Term.field (Jvm.Term.string "CellarPrompter$Reader" (112 : Nat)) "java/lang/String" "coder" "B") (Jvm.Term.int (0 : Int32))), (Jvm.Cond.arrayOf (Jvm.Term.field (Jvm.Term.string "CellarPrompter$Reader" (112 : Nat)) "java/lang/String" "value" "[B") Jvm.ClassFile.FieldType.byte), (Jvm.Cond.eq (Jvm.Term.length (Jvm.Term.field (Jvm.Term.string "CellarPrompter$Reader" (112 : Nat)) "java/lang/String" "value" "[B")) (Jvm.Term.int (5 : Int32))), (Jvm.Cond.eq (Jvm.Term.elem (Jvm.Term.field (Jvm.Term.string "CellarPrompter$Reader" (112 : Nat)) "java/lang/String" "value" "[B") (Jvm.Term.int (0 : Int32))) (Jvm.Term.int (104 : Int32))), (Jvm.Cond.eq (Jvm.Term.elem (Jvm.Term.field (Jvm.Term.string "CellarPrompter$Reader" (112 : Nat)) "java/lang/String" "value" "[B") (Jvm.Term.int (1 : Int32))) (Jvm.Term.int (101 : Int32))), (Jvm.Cond.eq (Jvm.Term.elem (Jvm.Term.field (Jvm.Term.string "CellarPrompter$Reader" (112 : Nat)) "java/lang/String" "value" "[B") (Jvm.Term.int (2 : Int32))) (Jvm.Term.int (97 : Int32))), (Jvm.Cond.eq (Jvm.Term.elem (Jvm.Term.field (Jvm.Term.string "CellarPrompter$Reader" (112 : Nat)) "java/lang/String" "value" "[B") (Jvm.Term.int (3 : Int32))) (Jvm.Term.int (114 : Int32))), (Jvm.Cond.eq (Jvm.Term.elem (Jvm.Term.field (Jvm.Term.string "CellarPrompter$Reader" (112 : Nat)) "java/lang/String" "value" "[B") (Jvm.Term.int (4 : Int32))) (Jvm.Term.int (100 : Int32))), (Jvm.Cond.not (Jvm.Cond.eq (Jvm.Term.string "CellarPrompter$Reader" (88 : Nat)) (Jvm.Term.string "CellarPrompter$Reader" (112 : Nat)))), (Jvm.Cond.not (Jvm.Cond.eq (Jvm.Term.string "CellarPrompter$Reader" (90 : Nat)) (Jvm.Term.string "CellarPrompter$Reader" (112 : Nat)))), (Jvm.Cond.not (Jvm.Cond.eq (Jvm.Term.string "CellarPrompter$Reader" (92 : Nat)) (Jvm.Term.string "CellarPrompter$Reader" (112 : Nat)))), (Jvm.Cond.not (Jvm.Cond.eq (Jvm.Term.string "CellarPrompter$Reader" (94 : Nat)) (Jvm.Term.string "CellarPrompter$Reader" (112 : Nat)))), (Jvm.Cond.not (Jvm.Cond.eq (Jvm.Term.string "CellarPrompter$Reader" (96 : Nat)) (Jvm.Term.string "CellarPrompter$Reader" (112 : Nat)))), (Jvm.Cond.not (Jvm.Cond.eq (Jvm.Term.string "CellarPrompter$Reader" (98 : Nat)) (Jvm.Term.string "CellarPrompter$Reader" (112 : Nat)))), (Jvm.Cond.not (Jvm.Cond.eq (Jvm.Term.string "CellarPrompter$Reader" (100 : Nat)) (Jvm.Term.string "CellarPrompter$Reader" (112 : Nat)))), (Jvm.Cond.not (Jvm.Cond.eq (Jvm.Term.string "CellarPrompter$Reader" (102 : Nat)) (Jvm.Term.string "CellarPrompter$Reader" (112 : Nat)))), (Jvm.Cond.not (Jvm.Cond.eq (Jvm.Term.string "CellarPrompter$Reader" (104 : Nat)) (Jvm.Term.string "CellarPrompter$Reader" (112 : Nat)))), (Jvm.Cond.not (Jvm.Cond.eq (Jvm.Term.string "CellarPrompter$Reader" (106 : Nat)) (Jvm.Term.string "CellarPrompter$Reader" (112 : Nat)))), (Jvm.Cond.not (Jvm.Cond.eq (Jvm.Term.string "CellarPrompter$Reader" (108 : Nat)) (Jvm.Term.string "CellarPrompter$Reader" (112 : Nat)))), (Jvm.Cond.not (Jvm.Cond.eq (Jvm.Term.string "CellarPrompter$Reader" (110 : Nat)) (Jvm.Term.string "CellarPrompter$Reader" (112 : Nat)))), (Jvm.Cond.exactly (Jvm.Term.string "CellarPrompter$Reader" (114 : Nat)) "java/lang/String"), (Jvm.Cond.eq (Jvm.Term.field (Jvm.Term.string "CellarPrompter$Reader" (114 : Nat)) "java/lang/String" "coder" "B") (Jvm.Term.int (0 : Int32))), (Jvm.Cond.arrayOf (Jvm.Term.field (Jvm.Term.string "CellarPrompter$Reader" (114 : Nat)) "java/lang/String" "value" "[B") Jvm.ClassFile.FieldType.byte), (Jvm.Cond.eq (Jvm.Term.length (Jvm.Term.field (Jvm.Term.string "CellarPrompter$Reader" (114 : Nat)) "java/lang/String" "value" "[B")) (Jvm.Term.int (3 : Int32))), (Jvm.Cond.eq (Jvm.Term.elem (Jvm.Term.field (Jvm.Term.string "CellarPrompter$Reader" (114 : Nat)) "java/lang/String" "value" "[B") (Jvm.Term.int (0 : Int32))) (Jvm.Term.int (103 : Int32))), (Jvm.Cond.eq (Jvm.Term.elem (Jvm.Term.field (Jvm.Term.string "CellarPrompter$Reader" (114 : Nat)) "java/lang/String" "value" "[B") (Jvm.Term.int (1 : Int32))) (Jvm.Term.int (97 : Int32))), (Jvm.Cond.eq (Jvm.Term.elem (Jvm.Term.field (Jvm.Term.string "CellarPrompter$Reader" (114 : Nat)) "java/lang/String" "value" "[B") (Jvm.Term.int (2 : Int32))) (Jvm.Term.int (112 : Int32))), (Jvm.Cond.not (Jvm.Cond.eq (Jvm.Term.string "CellarPrompter$Reader" (88 : Nat)) (Jvm.Term.string "CellarPrompter$Reader" (114 : Nat)))), (Jvm.Cond.not (Jvm.Cond.eq (Jvm.Term.string "CellarPrompter$Reader" (90 : Nat)) (Jvm.Term.string "CellarPrompter$Reader" (114 : Nat)))), (Jvm.Cond.not (Jvm.Cond.eq (Jvm.Term.string "CellarPrompter$Reader" (92 : Nat)) (Jvm.Term.string "CellarPrompter$Reader" (114 : Nat)))), (Jvm.Cond.not (Jvm.Cond.eq (Jvm.Term.string "CellarPrompter$Reader" (94 : Nat)) (Jvm.Term.string "CellarPrompter$Reader" (114 : Nat)))), (Jvm.Cond.not (Jvm.Cond.eq (Jvm.Term.string "CellarPrompter$Reader" (96 : Nat)) (Jvm.Term.string "CellarPrompter$Reader" (114 : Nat)))), (Jvm.Cond.not (Jvm.Cond.eq (Jvm.Term.string "CellarPrompter$Reader" (98 : Nat)) (Jvm.Term.string "CellarPrompter$Reader" (114 : Nat)))), (Jvm.Cond.not (Jvm.Cond.eq (Jvm.Term.string "CellarPrompter$Reader" (100 : Nat)) (Jvm.Term.string "CellarPrompter$Reader" (114 : Nat)))), (Jvm.Cond.not (Jvm.Cond.eq (Jvm.Term.string "CellarPrompter$Reader" (102 : Nat)) (Jvm.Term.string "CellarPrompter$Reader" (114 : Nat)))), (Jvm.Cond.not (Jvm.Cond.eq (Jvm.Term.string "CellarPrompter$Reader" (104 : Nat)) (Jvm.Term.string "CellarPrompter$Reader" (114 : Nat)))), (Jvm.Cond.not (Jvm.Cond.eq (Jvm.Term.string "CellarPrompter$Reader" (106 : Nat)) (Jvm.Term.string "CellarPrompter$Reader" (114 : Nat)))), (Jvm.Cond.not (Jvm.Cond.eq (Jvm.Term.string "CellarPrompter$Reader" (108 : Nat)) (Jvm.Term.string "CellarPrompter$Reader" (114 : Nat)))), (Jvm.Cond.not (Jvm.Cond.eq (Jvm.Term.string "CellarPrompter$Reader" (110 : Nat)) (Jvm.Term.string "CellarPrompter$Reader" (114 : Nat)))), (Jvm.Cond.not (Jvm.Cond.eq (Jvm.Term.string "CellarPrompter$Reader" (112 : Nat)) (Jvm.Term.string "CellarPrompter$Reader" (114 : Nat)))), (Jvm.Cond.exactly (Jvm.Term.string "CellarPrompter$Reader" (116 : Nat)) "java/lang/String"), (Jvm.Cond.eq (Jvm.Term.field (Jvm.Term.string "CellarPrompter$Reader" (116 : Nat)) "java/lang/String" "coder" "B") (Jvm.Term.int (0 : Int32))), (Jvm.Cond.arrayOf (Jvm.Term.field (Jvm.Term.string "CellarPrompter$Reader" (116 : Nat)) "java/lang/String" "value" "[B") Jvm.ClassFile.FieldType.byte), (Jvm.Cond.eq (Jvm.Term.length (Jvm.Term.field (Jvm.Term.string "CellarPrompter$Reader" (116 : Nat)) "java/lang/String" "value" "[B")) (Jvm.Term.int (6 : Int32))), (Jvm.Cond.eq (Jvm.Term.elem (Jvm.Term.field (Jvm.Term.string "CellarPrompter$Reader" (116 : Nat)) "java/lang/String" "value" "[B") (Jvm.Term.int (0 : Int32))) (Jvm.Term.int (104 : Int32))), (Jvm.Cond.eq (Jvm.Term.elem (Jvm.Term.field (Jvm.Term.string "CellarPrompter$Reader" (116 : Nat)) "java/lang/String" "value" "[B") (Jvm.Term.int (1 : Int32))) (Jvm.Term.int (111 : Int32))), (Jvm.Cond.eq (Jvm.Term.elem (Jvm.Term.field (Jvm.Term.string "CellarPrompter$Reader" (116 : Nat)) "java/lang/String" "value" "[B") (Jvm.Term.int (2 : Int32))) (Jvm.Term.int (117 : Int32))), (Jvm.Cond.eq (Jvm.Term.elem (Jvm.Term.field (Jvm.Term.string "CellarPrompter$Reader" (116 : Nat)) "java/lang/String" "value" "[B") (Jvm.Term.int (3 : Int32))) (Jvm.Term.int (115 : Int32))), (Jvm.Cond.eq (Jvm.Term.elem (Jvm.Term.field (Jvm.Term.string "CellarPrompter$Reader" (116 : Nat)) "java/lang/String" "value" "[B") (Jvm.Term.int (4 : Int32))) (Jvm.Term.int (101 : Int32))), (Jvm.Cond.eq (Jvm.Term.elem (Jvm.Term.field (Jvm.Term.string "CellarPrompter$Reader" (116 : Nat)) "java/lang/String" "value" "[B") (Jvm.Term.int (5 : Int32))) (Jvm.Term.int (115 : Int32))), (Jvm.Cond.not (Jvm.Cond.eq (Jvm.Term.string "CellarPrompter$Reader" (88 : Nat)) (Jvm.Term.string "CellarPrompter$Reader" (116 : Nat)))), (Jvm.Cond.not (Jvm.Cond.eq (Jvm.Term.string "CellarPrompter$Reader" (90 : Nat)) (Jvm.Term.string "CellarPrompter$Reader" (116 : Nat)))), (Jvm.Cond.not (Jvm.Cond.eq (Jvm.Term.string "CellarPrompter$Reader" (92 : Nat)) (Jvm.Term.string "CellarPrompter$Reader" (116 : Nat)))), (Jvm.Cond.not (Jvm.Cond.eq (Jvm.Term.string "CellarPrompter$Reader" (94 : Nat)) (Jvm.Term.string "CellarPrompter$Reader" (116 : Nat)))), (Jvm.Cond.not (Jvm.Cond.eq (Jvm.Term.string "CellarPrompter$Reader" (96 : Nat)) (Jvm.Term.string "CellarPrompter$Reader" (116 : Nat)))), (Jvm.Cond.not (Jvm.Cond.eq (Jvm.Term.string "CellarPrompter$Reader" (98 : Nat)) (Jvm.Term.string "CellarPrompter$Reader" (116 : Nat)))), (Jvm.Cond.not (Jvm.Cond.eq (Jvm.Term.string "CellarPrompter$Reader" (100 : Nat)) (Jvm.Term.string "CellarPrompter$Reader" (116 : Nat)))), (Jvm.Cond.not (Jvm.Cond.eq (Jvm.Term.string "CellarPrompter$Reader" (102 : Nat)) (Jvm.Term.string "CellarPrompter$Reader" (116 : Nat)))), (Jvm.Cond.not (Jvm.Cond.eq (Jvm.Term.string "CellarPrompter$Reader" (104 : Nat)) (Jvm.Term.string "CellarPrompter$Reader" (116 : Nat)))), (Jvm.Cond.not (Jvm.Cond.eq (Jvm.Term.string "CellarPrompter$Reader" (106 : Nat)) (Jvm.Term.string "CellarPrompter$Reader" (116 : Nat))))]
def qFL_8 : List Jvm.Cond := [(Jvm.Cond.not (Jvm.Cond.eq (Jvm.Term.string "CellarPrompter$Reader" (108 : Nat)) (Jvm.Term.string "CellarPrompter$Reader" (116 : Nat)))), (Jvm.Cond.not (Jvm.Cond.eq (Jvm.Term.string "CellarPrompter$Reader" (110 : Nat)) (Jvm.Term.string "CellarPrompter$Reader" (116 : Nat)))), (Jvm.Cond.not (Jvm.Cond.eq (Jvm.Term.string "CellarPrompter$Reader" (112 : Nat)) (Jvm.Term.string "CellarPrompter$Reader" (116 : Nat)))), (Jvm.Cond.not (Jvm.Cond.eq (Jvm.Term.string "CellarPrompter$Reader" (114 : Nat)) (Jvm.Term.string "CellarPrompter$Reader" (116 : Nat)))), (Jvm.Cond.exactly (Jvm.Term.string "CellarPrompter$Reader" (118 : Nat)) "java/lang/String"), (Jvm.Cond.eq (Jvm.Term.field (Jvm.Term.string "CellarPrompter$Reader" (118 : Nat)) "java/lang/String" "coder" "B") (Jvm.Term.int (0 : Int32))), (Jvm.Cond.arrayOf (Jvm.Term.field (Jvm.Term.string "CellarPrompter$Reader" (118 : Nat)) "java/lang/String" "value" "[B") Jvm.ClassFile.FieldType.byte), (Jvm.Cond.eq (Jvm.Term.length (Jvm.Term.field (Jvm.Term.string "CellarPrompter$Reader" (118 : Nat)) "java/lang/String" "value" "[B")) (Jvm.Term.int (4 : Int32))), (Jvm.Cond.eq (Jvm.Term.elem (Jvm.Term.field (Jvm.Term.string "CellarPrompter$Reader" (118 : Nat)) "java/lang/String" "value" "[B") (Jvm.Term.int (0 : Int32))) (Jvm.Term.int (119 : Int32))), (Jvm.Cond.eq (Jvm.Term.elem (Jvm.Term.field (Jvm.Term.string "CellarPrompter$Reader" (118 : Nat)) "java/lang/String" "value" "[B") (Jvm.Term.int (1 : Int32))) (Jvm.Term.int (97 : Int32))), (Jvm.Cond.eq (Jvm.Term.elem (Jvm.Term.field (Jvm.Term.string "CellarPrompter$Reader" (118 : Nat)) "java/lang/String" "value" "[B") (Jvm.Term.int (2 : Int32))) (Jvm.Term.int (108 : Int32))), (Jvm.Cond.eq (Jvm.Term.elem (Jvm.Term.field (Jvm.Term.string "CellarPrompter$Reader" (118 : Nat)) "java/lang/String" "value" "[B") (Jvm.Term.int (3 : Int32))) (Jvm.Term.int (108 : Int32))), (Jvm.Cond.not (Jvm.Cond.eq (Jvm.Term.string "CellarPrompter$Reader" (88 : Nat)) (Jvm.Term.string "CellarPrompter$Reader" (118 : Nat)))), (Jvm.Cond.not (Jvm.Cond.eq (Jvm.Term.string "CellarPrompter$Reader" (90 : Nat)) (Jvm.Term.string "CellarPrompter$Reader" (118 : Nat)))), (Jvm.Cond.not (Jvm.Cond.eq (Jvm.Term.string "CellarPrompter$Reader" (92 : Nat)) (Jvm.Term.string "CellarPrompter$Reader" (118 : Nat)))), (Jvm.Cond.not (Jvm.Cond.eq (Jvm.Term.string "CellarPrompter$Reader" (94 : Nat)) (Jvm.Term.string "CellarPrompter$Reader" (118 : Nat)))), (Jvm.Cond.not (Jvm.Cond.eq (Jvm.Term.string "CellarPrompter$Reader" (96 : Nat)) (Jvm.Term.string "CellarPrompter$Reader" (118 : Nat)))), (Jvm.Cond.not (Jvm.Cond.eq (Jvm.Term.string "CellarPrompter$Reader" (98 : Nat)) (Jvm.Term.string "CellarPrompter$Reader" (118 : Nat)))), (Jvm.Cond.not (Jvm.Cond.eq (Jvm.Term.string "CellarPrompter$Reader" (100 : Nat)) (Jvm.Term.string "CellarPrompter$Reader" (118 : Nat)))), (Jvm.Cond.not (Jvm.Cond.eq (Jvm.Term.string "CellarPrompter$Reader" (102 : Nat)) (Jvm.Term.string "CellarPrompter$Reader" (118 : Nat)))), (Jvm.Cond.not (Jvm.Cond.eq (Jvm.Term.string "CellarPrompter$Reader" (104 : Nat)) (Jvm.Term.string "CellarPrompter$Reader" (118 : Nat)))), (Jvm.Cond.not (Jvm.Cond.eq (Jvm.Term.string "CellarPrompter$Reader" (106 : Nat)) (Jvm.Term.string "CellarPrompter$Reader" (118 : Nat)))), (Jvm.Cond.not (Jvm.Cond.eq (Jvm.Term.string "CellarPrompter$Reader" (108 : Nat)) (Jvm.Term.string "CellarPrompter$Reader" (118 : Nat)))), (Jvm.Cond.not (Jvm.Cond.eq (Jvm.Term.string "CellarPrompter$Reader" (110 : Nat)) (Jvm.Term.string "CellarPrompter$Reader" (118 : Nat)))), (Jvm.Cond.not (Jvm.Cond.eq (Jvm.Term.string "CellarPrompter$Reader" (112 : Nat)) (Jvm.Term.string "CellarPrompter$Reader" (118 : Nat)))), (Jvm.Cond.not (Jvm.Cond.eq (Jvm.Term.string "CellarPrompter$Reader" (114 : Nat)) (Jvm.Term.string "CellarPrompter$Reader" (118 : Nat)))), (Jvm.Cond.not (Jvm.Cond.eq (Jvm.Term.string "CellarPrompter$Reader" (116 : Nat)) (Jvm.Term.string "CellarPrompter$Reader" (118 : Nat)))), (Jvm.Cond.exactly (Jvm.Term.string "CellarPrompter$Reader" (120 : Nat)) "java/lang/String"), (Jvm.Cond.eq (Jvm.Term.field (Jvm.Term.string "CellarPrompter$Reader" (120 : Nat)) "java/lang/String" "coder" "B") (Jvm.Term.int (0 : Int32))), (Jvm.Cond.arrayOf (Jvm.Term.field (Jvm.Term.string "CellarPrompter$Reader" (120 : Nat)) "java/lang/String" "value" "[B") Jvm.ClassFile.FieldType.byte), (Jvm.Cond.eq (Jvm.Term.length (Jvm.Term.field (Jvm.Term.string "CellarPrompter$Reader" (120 : Nat)) "java/lang/String" "value" "[B")) (Jvm.Term.int (4 : Int32))), (Jvm.Cond.eq (Jvm.Term.elem (Jvm.Term.field (Jvm.Term.string "CellarPrompter$Reader" (120 : Nat)) "java/lang/String" "value" "[B") (Jvm.Term.int (0 : Int32))) (Jvm.Term.int (98 : Int32))), (Jvm.Cond.eq (Jvm.Term.elem (Jvm.Term.field (Jvm.Term.string "CellarPrompter$Reader" (120 : Nat)) "java/lang/String" "value" "[B") (Jvm.Term.int (1 : Int32))) (Jvm.Term.int (111 : Int32))), (Jvm.Cond.eq (Jvm.Term.elem (Jvm.Term.field (Jvm.Term.string "CellarPrompter$Reader" (120 : Nat)) "java/lang/String" "value" "[B") (Jvm.Term.int (2 : Int32))) (Jvm.Term.int (111 : Int32))), (Jvm.Cond.eq (Jvm.Term.elem (Jvm.Term.field (Jvm.Term.string "CellarPrompter$Reader" (120 : Nat)) "java/lang/String" "value" "[B") (Jvm.Term.int (3 : Int32))) (Jvm.Term.int (107 : Int32))), (Jvm.Cond.not (Jvm.Cond.eq (Jvm.Term.string "CellarPrompter$Reader" (88 : Nat)) (Jvm.Term.string "CellarPrompter$Reader" (120 : Nat)))), (Jvm.Cond.not (Jvm.Cond.eq (Jvm.Term.string "CellarPrompter$Reader" (90 : Nat)) (Jvm.Term.string "CellarPrompter$Reader" (120 : Nat)))), (Jvm.Cond.not (Jvm.Cond.eq (Jvm.Term.string "CellarPrompter$Reader" (92 : Nat)) (Jvm.Term.string "CellarPrompter$Reader" (120 : Nat)))), (Jvm.Cond.not (Jvm.Cond.eq (Jvm.Term.string "CellarPrompter$Reader" (94 : Nat)) (Jvm.Term.string "CellarPrompter$Reader" (120 : Nat)))), (Jvm.Cond.not (Jvm.Cond.eq (Jvm.Term.string "CellarPrompter$Reader" (96 : Nat)) (Jvm.Term.string "CellarPrompter$Reader" (120 : Nat)))), (Jvm.Cond.not (Jvm.Cond.eq (Jvm.Term.string "CellarPrompter$Reader" (98 : Nat)) (Jvm.Term.string "CellarPrompter$Reader" (120 : Nat)))), (Jvm.Cond.not (Jvm.Cond.eq (Jvm.Term.string "CellarPrompter$Reader" (100 : Nat)) (Jvm.Term.string "CellarPrompter$Reader" (120 : Nat)))), (Jvm.Cond.not (Jvm.Cond.eq (Jvm.Term.string "CellarPrompter$Reader" (102 : Nat)) (Jvm.Term.string "CellarPrompter$Reader" (120 : Nat)))), (Jvm.Cond.not (Jvm.Cond.eq (Jvm.Term.string "CellarPrompter$Reader" (104 : Nat)) (Jvm.Term.string "CellarPrompter$Reader" (120 : Nat)))), (Jvm.Cond.not (Jvm.Cond.eq (Jvm.Term.string "CellarPrompter$Reader" (106 : Nat)) (Jvm.Term.string "CellarPrompter$Reader" (120 : Nat)))), (Jvm.Cond.not (Jvm.Cond.eq (Jvm.Term.string "CellarPrompter$Reader" (108 : Nat)) (Jvm.Term.string "CellarPrompter$Reader" (120 : Nat)))), (Jvm.Cond.not (Jvm.Cond.eq (Jvm.Term.string "CellarPrompter$Reader" (110 : Nat)) (Jvm.Term.string "CellarPrompter$Reader" (120 : Nat)))), (Jvm.Cond.not (Jvm.Cond.eq (Jvm.Term.string "CellarPrompter$Reader" (112 : Nat)) (Jvm.Term.string "CellarPrompter$Reader" (120 : Nat)))), (Jvm.Cond.not (Jvm.Cond.eq (Jvm.Term.string "CellarPrompter$Reader" (114 : Nat)) (Jvm.Term.string "CellarPrompter$Reader" (120 : Nat)))), (Jvm.Cond.not (Jvm.Cond.eq (Jvm.Term.string "CellarPrompter$Reader" (116 : Nat)) (Jvm.Term.string "CellarPrompter$Reader" (120 : Nat)))), (Jvm.Cond.not (Jvm.Cond.eq (Jvm.Term.string "CellarPrompter$Reader" (118 : Nat)) (Jvm.Term.string "CellarPrompter$Reader" (120 : Nat)))), (Jvm.Cond.exactly (Jvm.Term.string "CellarPrompter$Reader" (122 : Nat)) "java/lang/String"), (Jvm.Cond.eq (Jvm.Term.field (Jvm.Term.string "CellarPrompter$Reader" (122 : Nat)) "java/lang/String" "coder" "B") (Jvm.Term.int (0 : Int32))), (Jvm.Cond.arrayOf (Jvm.Term.field (Jvm.Term.string "CellarPrompter$Reader" (122 : Nat)) "java/lang/String" "value" "[B") Jvm.ClassFile.FieldType.byte), (Jvm.Cond.eq (Jvm.Term.length (Jvm.Term.field (Jvm.Term.string "CellarPrompter$Reader" (122 : Nat)) "java/lang/String" "value" "[B")) (Jvm.Term.int (4 : Int32))), (Jvm.Cond.eq (Jvm.Term.elem (Jvm.Term.field (Jvm.Term.string "CellarPrompter$Reader" (122 : Nat)) "java/lang/String" "value" "[B") (Jvm.Term.int (0 : Int32))) (Jvm.Term.int (108 : Int32))), (Jvm.Cond.eq (Jvm.Term.elem (Jvm.Term.field (Jvm.Term.string "CellarPrompter$Reader" (122 : Nat)) "java/lang/String" "value" "[B") (Jvm.Term.int (1 : Int32))) (Jvm.Term.int (111 : Int32))), (Jvm.Cond.eq (Jvm.Term.elem (Jvm.Term.field (Jvm.Term.string "CellarPrompter$Reader" (122 : Nat)) "java/lang/String" "value" "[B") (Jvm.Term.int (2 : Int32))) (Jvm.Term.int (117 : Int32))), (Jvm.Cond.eq (Jvm.Term.elem (Jvm.Term.field (Jvm.Term.string "CellarPrompter$Reader" (122 : Nat)) "java/lang/String" "value" "[B") (Jvm.Term.int (3 : Int32))) (Jvm.Term.int (100 : Int32))), (Jvm.Cond.not (Jvm.Cond.eq (Jvm.Term.string "CellarPrompter$Reader" (88 : Nat)) (Jvm.Term.string "CellarPrompter$Reader" (122 : Nat))))]
def qFL_9 : List Jvm.Cond := [(Jvm.Cond.not (Jvm.Cond.eq (Jvm.Term.string "CellarPrompter$Reader" (90 : Nat)) (Jvm.Term.string "CellarPrompter$Reader" (122 : Nat)))), (Jvm.Cond.not (Jvm.Cond.eq (Jvm.Term.string "CellarPrompter$Reader" (92 : Nat)) (Jvm.Term.string "CellarPrompter$Reader" (122 : Nat)))), (Jvm.Cond.not (Jvm.Cond.eq (Jvm.Term.string "CellarPrompter$Reader" (94 : Nat)) (Jvm.Term.string "CellarPrompter$Reader" (122 : Nat)))), (Jvm.Cond.not (Jvm.Cond.eq (Jvm.Term.string "CellarPrompter$Reader" (96 : Nat)) (Jvm.Term.string "CellarPrompter$Reader" (122 : Nat)))), (Jvm.Cond.not (Jvm.Cond.eq (Jvm.Term.string "CellarPrompter$Reader" (98 : Nat)) (Jvm.Term.string "CellarPrompter$Reader" (122 : Nat)))), (Jvm.Cond.not (Jvm.Cond.eq (Jvm.Term.string "CellarPrompter$Reader" (100 : Nat)) (Jvm.Term.string "CellarPrompter$Reader" (122 : Nat)))), (Jvm.Cond.not (Jvm.Cond.eq (Jvm.Term.string "CellarPrompter$Reader" (102 : Nat)) (Jvm.Term.string "CellarPrompter$Reader" (122 : Nat)))), (Jvm.Cond.not (Jvm.Cond.eq (Jvm.Term.string "CellarPrompter$Reader" (104 : Nat)) (Jvm.Term.string "CellarPrompter$Reader" (122 : Nat)))), (Jvm.Cond.not (Jvm.Cond.eq (Jvm.Term.string "CellarPrompter$Reader" (106 : Nat)) (Jvm.Term.string "CellarPrompter$Reader" (122 : Nat)))), (Jvm.Cond.not (Jvm.Cond.eq (Jvm.Term.string "CellarPrompter$Reader" (108 : Nat)) (Jvm.Term.string "CellarPrompter$Reader" (122 : Nat)))), (Jvm.Cond.not (Jvm.Cond.eq (Jvm.Term.string "CellarPrompter$Reader" (110 : Nat)) (Jvm.Term.string "CellarPrompter$Reader" (122 : Nat)))), (Jvm.Cond.not (Jvm.Cond.eq (Jvm.Term.string "CellarPrompter$Reader" (112 : Nat)) (Jvm.Term.string "CellarPrompter$Reader" (122 : Nat)))), (Jvm.Cond.not (Jvm.Cond.eq (Jvm.Term.string "CellarPrompter$Reader" (114 : Nat)) (Jvm.Term.string "CellarPrompter$Reader" (122 : Nat)))), (Jvm.Cond.not (Jvm.Cond.eq (Jvm.Term.string "CellarPrompter$Reader" (116 : Nat)) (Jvm.Term.string "CellarPrompter$Reader" (122 : Nat)))), (Jvm.Cond.not (Jvm.Cond.eq (Jvm.Term.string "CellarPrompter$Reader" (118 : Nat)) (Jvm.Term.string "CellarPrompter$Reader" (122 : Nat)))), (Jvm.Cond.not (Jvm.Cond.eq (Jvm.Term.string "CellarPrompter$Reader" (120 : Nat)) (Jvm.Term.string "CellarPrompter$Reader" (122 : Nat)))), (Jvm.Cond.not (Jvm.Cond.eq (Jvm.Term.arg (0 : Nat)) (Jvm.Term.static "CellarPrompter$Reader" "FIRST_WORD" "[I"))), (Jvm.Cond.not (Jvm.Cond.eq (Jvm.Term.arg (0 : Nat)) (Jvm.Term.static "CellarPrompter$Reader" "NUMBERS" "[I"))), (Jvm.Cond.not (Jvm.Cond.eq (Jvm.Term.arg (0 : Nat)) (Jvm.Term.static "CellarPrompter$Reader" "LEAST" "[I"))), (Jvm.Cond.not (Jvm.Cond.eq (Jvm.Term.arg (0 : Nat)) (Jvm.Term.static "CellarPrompter$Reader" "GREATEST" "[I")))]
def qFL : List Jvm.Cond := qFL_0 ++ (qFL_1 ++ (qFL_2 ++ (qFL_3 ++ (qFL_4 ++ (qFL_5 ++ (qFL_6 ++ (qFL_7 ++ (qFL_8 ++ (qFL_9)))))))))
set_option maxRecDepth 1000000 in
theorem qFL_eq : flatC (Jvm.Cond.and given_1 narrow_1) = qFL := by decide +kernel
theorem qf_0 {w : Cond} {A : Array Value} {s : State} (hs : ∀ c ∈ qFL, c.before A s = true) (i : Nat) (h : qFL_0[i]? = some w) : w.before A s = true := hs w (List.mem_append_left _ (List.mem_of_getElem? h))
theorem qf_1 {w : Cond} {A : Array Value} {s : State} (hs : ∀ c ∈ qFL, c.before A s = true) (i : Nat) (h : qFL_1[i]? = some w) : w.before A s = true := hs w (List.mem_append_right _ (List.mem_append_left _ (List.mem_of_getElem? h)))
theorem qf_2 {w : Cond} {A : Array Value} {s : State} (hs : ∀ c ∈ qFL, c.before A s = true) (i : Nat) (h : qFL_2[i]? = some w) : w.before A s = true := hs w (List.mem_append_right _ (List.mem_append_right _ (List.mem_append_left _ (List.mem_of_getElem? h))))
theorem qf_3 {w : Cond} {A : Array Value} {s : State} (hs : ∀ c ∈ qFL, c.before A s = true) (i : Nat) (h : qFL_3[i]? = some w) : w.before A s = true := hs w (List.mem_append_right _ (List.mem_append_right _ (List.mem_append_right _ (List.mem_append_left _ (List.mem_of_getElem? h)))))
theorem qf_4 {w : Cond} {A : Array Value} {s : State} (hs : ∀ c ∈ qFL, c.before A s = true) (i : Nat) (h : qFL_4[i]? = some w) : w.before A s = true := hs w (List.mem_append_right _ (List.mem_append_right _ (List.mem_append_right _ (List.mem_append_right _ (List.mem_append_left _ (List.mem_of_getElem? h))))))
theorem qf_5 {w : Cond} {A : Array Value} {s : State} (hs : ∀ c ∈ qFL, c.before A s = true) (i : Nat) (h : qFL_5[i]? = some w) : w.before A s = true := hs w (List.mem_append_right _ (List.mem_append_right _ (List.mem_append_right _ (List.mem_append_right _ (List.mem_append_right _ (List.mem_append_left _ (List.mem_of_getElem? h)))))))
theorem qf_6 {w : Cond} {A : Array Value} {s : State} (hs : ∀ c ∈ qFL, c.before A s = true) (i : Nat) (h : qFL_6[i]? = some w) : w.before A s = true := hs w (List.mem_append_right _ (List.mem_append_right _ (List.mem_append_right _ (List.mem_append_right _ (List.mem_append_right _ (List.mem_append_right _ (List.mem_append_left _ (List.mem_of_getElem? h))))))))
theorem qf_7 {w : Cond} {A : Array Value} {s : State} (hs : ∀ c ∈ qFL, c.before A s = true) (i : Nat) (h : qFL_7[i]? = some w) : w.before A s = true := hs w (List.mem_append_right _ (List.mem_append_right _ (List.mem_append_right _ (List.mem_append_right _ (List.mem_append_right _ (List.mem_append_right _ (List.mem_append_right _ (List.mem_append_left _ (List.mem_of_getElem? h)))))))))
theorem qf_8 {w : Cond} {A : Array Value} {s : State} (hs : ∀ c ∈ qFL, c.before A s = true) (i : Nat) (h : qFL_8[i]? = some w) : w.before A s = true := hs w (List.mem_append_right _ (List.mem_append_right _ (List.mem_append_right _ (List.mem_append_right _ (List.mem_append_right _ (List.mem_append_right _ (List.mem_append_right _ (List.mem_append_right _ (List.mem_append_left _ (List.mem_of_getElem? h))))))))))
theorem qf_9 {w : Cond} {A : Array Value} {s : State} (hs : ∀ c ∈ qFL, c.before A s = true) (i : Nat) (h : qFL_9[i]? = some w) : w.before A s = true := hs w (List.mem_append_right _ (List.mem_append_right _ (List.mem_append_right _ (List.mem_append_right _ (List.mem_append_right _ (List.mem_append_right _ (List.mem_append_right _ (List.mem_append_right _ (List.mem_append_right _ (List.mem_of_getElem? h))))))))))
def qBy : List (List Int32) := [[108, 105, 110, 101], [100, 114, 121], [98, 97, 99, 107], [99, 104, 105, 108, 100], [102, 114, 101, 101], [99, 117, 116], [115, 97, 121], [111, 117, 116], [105, 110], [112, 114, 111, 109, 112, 116], [119, 97, 105, 116], [103, 111], [104, 101, 97, 114, 100], [103, 97, 112], [104, 111, 117, 115, 101, 115], [119, 97, 108, 108], [98, 111, 111, 107], [108, 111, 117, 100]]
def qLe : List Nat := [4, 3, 4, 5, 4, 3, 3, 3, 2, 6, 4, 2, 5, 3, 6, 4, 4, 4]
/-- the heap at the law's entry: the script, and the class's texts -/
def st_h (b L : Nat) (xs : Nat → Int32) (z adV : Nat → Nat) : qH := fun q => if q = b then some (.inr (.inr (.inl (.int, L, xs)))) else match (List.range 18).find? (fun i => q == z (4 + i)) with
  | some i => some (.inr (.inr (.inr (adV i, (qBy.getD i []).length, fun j => (qBy.getD i []).getD j 0))))
  | none => none
/-- the pure statement that is left: the functions of class and reference agree on every script -/
def q_Pure : Prop := ∀ (b L nx : Nat) (xs : Nat → Int32) (z adV : Nat → Nat), L ≤ 3072 → b < nx → (∀ i, i < 18 → z (4 + i) < nx ∧ z (4 + i) ≠ b) → (∀ i j, i < 18 → j < 18 → z (4 + i) = z (4 + j) → i = j) → ∃ (h : qH) (n : Nat), F_L_law z (st_h b L xs z adV) nx b = some ((1 : Int32), h, n)
theorem q_inst : ∀ (ci : Nat) (q : vw_C), vwCl[ci]? = some q → Cond.instantiable q.1 q.2.2 ∈ qws := by
  intro ci q hq
  match ci, hq with
  | 0, hq => cases hq; exact qw_1 43 rfl rfl
  | 1, hq => cases hq; exact qw_1 104 rfl rfl
  | 2, hq => cases hq; exact qw_2 98 rfl rfl
  | 3, hq => cases hq; exact qw_1 122 rfl rfl
  | 4, hq => cases hq; exact qw_2 69 rfl rfl
  | 5, hq => cases hq; exact qw_2 48 rfl rfl
  | 6, hq => cases hq; exact qw_2 19 rfl rfl
  | 7, hq => cases hq; exact qw_1 192 rfl rfl
  | 8, hq => cases hq; exact qw_1 219 rfl rfl
  | 9, hq => cases hq; exact qw_1 30 rfl rfl
  | 10, hq => cases hq; exact qw_1 136 rfl rfl
  | 11, hq => cases hq; exact qw_1 22 rfl rfl
  | 12, hq => cases hq; exact qw_6 94 rfl rfl
  | n + 13, hq => simp [vwCl] at hq
theorem q_K {s : State} {A : Array Value} (hq : ∀ w ∈ qws, w.before A s = true) : ∃ D : va_G, va_K D vwCl [] s := by
  have h1 : ∀ k : Nat, ∃ p : ClassId × (Nat → Nat), ∀ q : vw_C, vwCl[k]? = some q → u_Kn s q.1 q.2.1 q.2.2 p.1 p.2 := by
    intro k
    cases hk : vwCl[k]? with
    | none => exact ⟨(0, fun _ => 0), fun q hq => by cases hq⟩
    | some q0 =>
      obtain ⟨cC, iS, hKn⟩ := u_known (ws := qws) (C := q0.1) (T := q0.2.1) (N := q0.2.2) (n := q0.2.2) hq (qcls k q0 hk) (hq _ (q_inst k q0 hk))
      exact ⟨(cC, iS), fun q hq => by cases hq; exact hKn⟩
  obtain ⟨g, hg⟩ := Classical.axiomOfChoice h1
  exact ⟨(fun k => (g k).1, fun k => (g k).2), fun c q hq => hg c q hq, fun k q h => by simp at h⟩
theorem q_S0 {s : State} {A : Array Value} (hs : ∀ c ∈ qFL, c.before A s = true) : ∃ t : Nat, (Jvm.Term.static "CellarPrompter$Reader" "FIRST_WORD" "[I").eval A s none [] s = some (.ref t) ∧ va_T .int t (qTab 0).length (fun j => .int ((qTab 0).getD j 0)) (qA s.heap.size) s s.heap := by
  refine va_Tof (N := 5) (Nat.le_of_ble_eq_true rfl) (qf_0 hs 5 rfl) (va_eqt (qf_0 hs 6 rfl)) (fun j hj => ?_) (fun a h q => Nat.not_le.mpr h q)
  · match j, hj with
    | 0, _ => exact va_eqt (qf_0 hs 7 rfl)
    | 1, _ => exact va_eqt (qf_0 hs 8 rfl)
    | 2, _ => exact va_eqt (qf_0 hs 9 rfl)
    | 3, _ => exact va_eqt (qf_0 hs 10 rfl)
    | 4, _ => exact va_eqt (qf_0 hs 11 rfl)
    | n + 5, h => exact absurd h (by omega)
theorem q_S1 {s : State} {A : Array Value} (hs : ∀ c ∈ qFL, c.before A s = true) : ∃ t : Nat, (Jvm.Term.static "CellarPrompter$Reader" "NUMBERS" "[I").eval A s none [] s = some (.ref t) ∧ va_T .int t (qTab 1).length (fun j => .int ((qTab 1).getD j 0)) (qA s.heap.size) s s.heap := by
  refine va_Tof (N := 19) (Nat.le_of_ble_eq_true rfl) (qf_0 hs 18 rfl) (va_eqt (qf_0 hs 19 rfl)) (fun j hj => ?_) (fun a h q => Nat.not_le.mpr h q)
  · match j, hj with
    | 0, _ => exact va_eqt (qf_0 hs 20 rfl)
    | 1, _ => exact va_eqt (qf_0 hs 21 rfl)
    | 2, _ => exact va_eqt (qf_0 hs 22 rfl)
    | 3, _ => exact va_eqt (qf_0 hs 23 rfl)
    | 4, _ => exact va_eqt (qf_0 hs 24 rfl)
    | 5, _ => exact va_eqt (qf_0 hs 25 rfl)
    | 6, _ => exact va_eqt (qf_0 hs 26 rfl)
    | 7, _ => exact va_eqt (qf_0 hs 27 rfl)
    | 8, _ => exact va_eqt (qf_0 hs 28 rfl)
    | 9, _ => exact va_eqt (qf_0 hs 29 rfl)
    | 10, _ => exact va_eqt (qf_0 hs 30 rfl)
    | 11, _ => exact va_eqt (qf_0 hs 31 rfl)
    | 12, _ => exact va_eqt (qf_0 hs 32 rfl)
    | 13, _ => exact va_eqt (qf_0 hs 33 rfl)
    | 14, _ => exact va_eqt (qf_0 hs 34 rfl)
    | 15, _ => exact va_eqt (qf_0 hs 35 rfl)
    | 16, _ => exact va_eqt (qf_0 hs 36 rfl)
    | 17, _ => exact va_eqt (qf_0 hs 37 rfl)
    | 18, _ => exact va_eqt (qf_0 hs 38 rfl)
    | n + 19, h => exact absurd h (by omega)
theorem q_S2 {s : State} {A : Array Value} (hs : ∀ c ∈ qFL, c.before A s = true) : ∃ t : Nat, (Jvm.Term.static "CellarPrompter$Reader" "LEAST" "[I").eval A s none [] s = some (.ref t) ∧ va_T .int t (qTab 2).length (fun j => .int ((qTab 2).getD j 0)) (qA s.heap.size) s s.heap := by
  refine va_Tof (N := 76) (Nat.le_of_ble_eq_true rfl) (qf_0 hs 40 rfl) (va_eqt (qf_0 hs 41 rfl)) (fun j hj => ?_) (fun a h q => Nat.not_le.mpr h q)
  · match j, hj with
    | 0, _ => exact va_eqt (qf_0 hs 42 rfl)
    | 1, _ => exact va_eqt (qf_0 hs 43 rfl)
    | 2, _ => exact va_eqt (qf_0 hs 44 rfl)
    | 3, _ => exact va_eqt (qf_0 hs 45 rfl)
    | 4, _ => exact va_eqt (qf_0 hs 46 rfl)
    | 5, _ => exact va_eqt (qf_0 hs 47 rfl)
    | 6, _ => exact va_eqt (qf_0 hs 48 rfl)
    | 7, _ => exact va_eqt (qf_0 hs 49 rfl)
    | 8, _ => exact va_eqt (qf_0 hs 50 rfl)
    | 9, _ => exact va_eqt (qf_0 hs 51 rfl)
    | 10, _ => exact va_eqt (qf_0 hs 52 rfl)
    | 11, _ => exact va_eqt (qf_0 hs 53 rfl)
    | 12, _ => exact va_eqt (qf_0 hs 54 rfl)
    | 13, _ => exact va_eqt (qf_0 hs 55 rfl)
    | 14, _ => exact va_eqt (qf_0 hs 56 rfl)
    | 15, _ => exact va_eqt (qf_0 hs 57 rfl)
    | 16, _ => exact va_eqt (qf_0 hs 58 rfl)
    | 17, _ => exact va_eqt (qf_0 hs 59 rfl)
    | 18, _ => exact va_eqt (qf_1 hs 0 rfl)
    | 19, _ => exact va_eqt (qf_1 hs 1 rfl)
    | 20, _ => exact va_eqt (qf_1 hs 2 rfl)
    | 21, _ => exact va_eqt (qf_1 hs 3 rfl)
    | 22, _ => exact va_eqt (qf_1 hs 4 rfl)
    | 23, _ => exact va_eqt (qf_1 hs 5 rfl)
    | 24, _ => exact va_eqt (qf_1 hs 6 rfl)
    | 25, _ => exact va_eqt (qf_1 hs 7 rfl)
    | 26, _ => exact va_eqt (qf_1 hs 8 rfl)
    | 27, _ => exact va_eqt (qf_1 hs 9 rfl)
    | 28, _ => exact va_eqt (qf_1 hs 10 rfl)
    | 29, _ => exact va_eqt (qf_1 hs 11 rfl)
    | 30, _ => exact va_eqt (qf_1 hs 12 rfl)
    | 31, _ => exact va_eqt (qf_1 hs 13 rfl)
    | 32, _ => exact va_eqt (qf_1 hs 14 rfl)
    | 33, _ => exact va_eqt (qf_1 hs 15 rfl)
    | 34, _ => exact va_eqt (qf_1 hs 16 rfl)
    | 35, _ => exact va_eqt (qf_1 hs 17 rfl)
    | 36, _ => exact va_eqt (qf_1 hs 18 rfl)
    | 37, _ => exact va_eqt (qf_1 hs 19 rfl)
    | 38, _ => exact va_eqt (qf_1 hs 20 rfl)
    | 39, _ => exact va_eqt (qf_1 hs 21 rfl)
    | 40, _ => exact va_eqt (qf_1 hs 22 rfl)
    | 41, _ => exact va_eqt (qf_1 hs 23 rfl)
    | 42, _ => exact va_eqt (qf_1 hs 24 rfl)
    | 43, _ => exact va_eqt (qf_1 hs 25 rfl)
    | 44, _ => exact va_eqt (qf_1 hs 26 rfl)
    | 45, _ => exact va_eqt (qf_1 hs 27 rfl)
    | 46, _ => exact va_eqt (qf_1 hs 28 rfl)
    | 47, _ => exact va_eqt (qf_1 hs 29 rfl)
    | 48, _ => exact va_eqt (qf_1 hs 30 rfl)
    | 49, _ => exact va_eqt (qf_1 hs 31 rfl)
    | 50, _ => exact va_eqt (qf_1 hs 32 rfl)
    | 51, _ => exact va_eqt (qf_1 hs 33 rfl)
    | 52, _ => exact va_eqt (qf_1 hs 34 rfl)
    | 53, _ => exact va_eqt (qf_1 hs 35 rfl)
    | 54, _ => exact va_eqt (qf_1 hs 36 rfl)
    | 55, _ => exact va_eqt (qf_1 hs 37 rfl)
    | 56, _ => exact va_eqt (qf_1 hs 38 rfl)
    | 57, _ => exact va_eqt (qf_1 hs 39 rfl)
    | 58, _ => exact va_eqt (qf_1 hs 40 rfl)
    | 59, _ => exact va_eqt (qf_1 hs 41 rfl)
    | 60, _ => exact va_eqt (qf_1 hs 42 rfl)
    | 61, _ => exact va_eqt (qf_1 hs 43 rfl)
    | 62, _ => exact va_eqt (qf_1 hs 44 rfl)
    | 63, _ => exact va_eqt (qf_1 hs 45 rfl)
    | 64, _ => exact va_eqt (qf_1 hs 46 rfl)
    | 65, _ => exact va_eqt (qf_1 hs 47 rfl)
    | 66, _ => exact va_eqt (qf_1 hs 48 rfl)
    | 67, _ => exact va_eqt (qf_1 hs 49 rfl)
    | 68, _ => exact va_eqt (qf_1 hs 50 rfl)
    | 69, _ => exact va_eqt (qf_1 hs 51 rfl)
    | 70, _ => exact va_eqt (qf_1 hs 52 rfl)
    | 71, _ => exact va_eqt (qf_1 hs 53 rfl)
    | 72, _ => exact va_eqt (qf_1 hs 54 rfl)
    | 73, _ => exact va_eqt (qf_1 hs 55 rfl)
    | 74, _ => exact va_eqt (qf_1 hs 56 rfl)
    | 75, _ => exact va_eqt (qf_1 hs 57 rfl)
    | n + 76, h => exact absurd h (by omega)
theorem q_S3 {s : State} {A : Array Value} (hs : ∀ c ∈ qFL, c.before A s = true) : ∃ t : Nat, (Jvm.Term.static "CellarPrompter$Reader" "GREATEST" "[I").eval A s none [] s = some (.ref t) ∧ va_T .int t (qTab 3).length (fun j => .int ((qTab 3).getD j 0)) (qA s.heap.size) s s.heap := by
  refine va_Tof (N := 76) (Nat.le_of_ble_eq_true rfl) (qf_1 hs 59 rfl) (va_eqt (qf_2 hs 0 rfl)) (fun j hj => ?_) (fun a h q => Nat.not_le.mpr h q)
  · match j, hj with
    | 0, _ => exact va_eqt (qf_2 hs 1 rfl)
    | 1, _ => exact va_eqt (qf_2 hs 2 rfl)
    | 2, _ => exact va_eqt (qf_2 hs 3 rfl)
    | 3, _ => exact va_eqt (qf_2 hs 4 rfl)
    | 4, _ => exact va_eqt (qf_2 hs 5 rfl)
    | 5, _ => exact va_eqt (qf_2 hs 6 rfl)
    | 6, _ => exact va_eqt (qf_2 hs 7 rfl)
    | 7, _ => exact va_eqt (qf_2 hs 8 rfl)
    | 8, _ => exact va_eqt (qf_2 hs 9 rfl)
    | 9, _ => exact va_eqt (qf_2 hs 10 rfl)
    | 10, _ => exact va_eqt (qf_2 hs 11 rfl)
    | 11, _ => exact va_eqt (qf_2 hs 12 rfl)
    | 12, _ => exact va_eqt (qf_2 hs 13 rfl)
    | 13, _ => exact va_eqt (qf_2 hs 14 rfl)
    | 14, _ => exact va_eqt (qf_2 hs 15 rfl)
    | 15, _ => exact va_eqt (qf_2 hs 16 rfl)
    | 16, _ => exact va_eqt (qf_2 hs 17 rfl)
    | 17, _ => exact va_eqt (qf_2 hs 18 rfl)
    | 18, _ => exact va_eqt (qf_2 hs 19 rfl)
    | 19, _ => exact va_eqt (qf_2 hs 20 rfl)
    | 20, _ => exact va_eqt (qf_2 hs 21 rfl)
    | 21, _ => exact va_eqt (qf_2 hs 22 rfl)
    | 22, _ => exact va_eqt (qf_2 hs 23 rfl)
    | 23, _ => exact va_eqt (qf_2 hs 24 rfl)
    | 24, _ => exact va_eqt (qf_2 hs 25 rfl)
    | 25, _ => exact va_eqt (qf_2 hs 26 rfl)
    | 26, _ => exact va_eqt (qf_2 hs 27 rfl)
    | 27, _ => exact va_eqt (qf_2 hs 28 rfl)
    | 28, _ => exact va_eqt (qf_2 hs 29 rfl)
    | 29, _ => exact va_eqt (qf_2 hs 30 rfl)
    | 30, _ => exact va_eqt (qf_2 hs 31 rfl)
    | 31, _ => exact va_eqt (qf_2 hs 32 rfl)
    | 32, _ => exact va_eqt (qf_2 hs 33 rfl)
    | 33, _ => exact va_eqt (qf_2 hs 34 rfl)
    | 34, _ => exact va_eqt (qf_2 hs 35 rfl)
    | 35, _ => exact va_eqt (qf_2 hs 36 rfl)
    | 36, _ => exact va_eqt (qf_2 hs 37 rfl)
    | 37, _ => exact va_eqt (qf_2 hs 38 rfl)
    | 38, _ => exact va_eqt (qf_2 hs 39 rfl)
    | 39, _ => exact va_eqt (qf_2 hs 40 rfl)
    | 40, _ => exact va_eqt (qf_2 hs 41 rfl)
    | 41, _ => exact va_eqt (qf_2 hs 42 rfl)
    | 42, _ => exact va_eqt (qf_2 hs 43 rfl)
    | 43, _ => exact va_eqt (qf_2 hs 44 rfl)
    | 44, _ => exact va_eqt (qf_2 hs 45 rfl)
    | 45, _ => exact va_eqt (qf_2 hs 46 rfl)
    | 46, _ => exact va_eqt (qf_2 hs 47 rfl)
    | 47, _ => exact va_eqt (qf_2 hs 48 rfl)
    | 48, _ => exact va_eqt (qf_2 hs 49 rfl)
    | 49, _ => exact va_eqt (qf_2 hs 50 rfl)
    | 50, _ => exact va_eqt (qf_2 hs 51 rfl)
    | 51, _ => exact va_eqt (qf_2 hs 52 rfl)
    | 52, _ => exact va_eqt (qf_2 hs 53 rfl)
    | 53, _ => exact va_eqt (qf_2 hs 54 rfl)
    | 54, _ => exact va_eqt (qf_2 hs 55 rfl)
    | 55, _ => exact va_eqt (qf_2 hs 56 rfl)
    | 56, _ => exact va_eqt (qf_2 hs 57 rfl)
    | 57, _ => exact va_eqt (qf_2 hs 58 rfl)
    | 58, _ => exact va_eqt (qf_2 hs 59 rfl)
    | 59, _ => exact va_eqt (qf_3 hs 0 rfl)
    | 60, _ => exact va_eqt (qf_3 hs 1 rfl)
    | 61, _ => exact va_eqt (qf_3 hs 2 rfl)
    | 62, _ => exact va_eqt (qf_3 hs 3 rfl)
    | 63, _ => exact va_eqt (qf_3 hs 4 rfl)
    | 64, _ => exact va_eqt (qf_3 hs 5 rfl)
    | 65, _ => exact va_eqt (qf_3 hs 6 rfl)
    | 66, _ => exact va_eqt (qf_3 hs 7 rfl)
    | 67, _ => exact va_eqt (qf_3 hs 8 rfl)
    | 68, _ => exact va_eqt (qf_3 hs 9 rfl)
    | 69, _ => exact va_eqt (qf_3 hs 10 rfl)
    | 70, _ => exact va_eqt (qf_3 hs 11 rfl)
    | 71, _ => exact va_eqt (qf_3 hs 12 rfl)
    | 72, _ => exact va_eqt (qf_3 hs 13 rfl)
    | 73, _ => exact va_eqt (qf_3 hs 14 rfl)
    | 74, _ => exact va_eqt (qf_3 hs 15 rfl)
    | 75, _ => exact va_eqt (qf_3 hs 16 rfl)
    | n + 76, h => exact absurd h (by omega)
theorem q_x1 {s : State} {A : Array Value} (hs : ∀ c ∈ qFL, c.before A s = true) : ∀ i : Nat, i < 18 → (Cond.exactly (Jvm.Term.string "CellarPrompter$Reader" (88 + 2 * i)) "java/lang/String").before A s = true := by
  intro i hi
  match i, hi with
  | 0, _ => exact (qf_4 hs 22 rfl)
  | 1, _ => exact (qf_4 hs 30 rfl)
  | 2, _ => exact (qf_4 hs 38 rfl)
  | 3, _ => exact (qf_4 hs 48 rfl)
  | 4, _ => exact (qf_5 hs 0 rfl)
  | 5, _ => exact (qf_5 hs 12 rfl)
  | 6, _ => exact (qf_5 hs 24 rfl)
  | 7, _ => exact (qf_5 hs 37 rfl)
  | 8, _ => exact (qf_5 hs 51 rfl)
  | 9, _ => exact (qf_6 hs 5 rfl)
  | 10, _ => exact (qf_6 hs 24 rfl)
  | 11, _ => exact (qf_6 hs 42 rfl)
  | 12, _ => exact (qf_6 hs 59 rfl)
  | 13, _ => exact (qf_7 hs 20 rfl)
  | 14, _ => exact (qf_7 hs 40 rfl)
  | 15, _ => exact (qf_8 hs 4 rfl)
  | 16, _ => exact (qf_8 hs 27 rfl)
  | 17, _ => exact (qf_8 hs 51 rfl)
  | n + 18, h => exact absurd h (by omega)
theorem q_x2 {s : State} {A : Array Value} (hs : ∀ c ∈ qFL, c.before A s = true) : ∀ i : Nat, i < 18 → (Cond.eq (.field (Jvm.Term.string "CellarPrompter$Reader" (88 + 2 * i)) "java/lang/String" "coder" "B") (.int 0)).before A s = true := by
  intro i hi
  match i, hi with
  | 0, _ => exact (qf_4 hs 23 rfl)
  | 1, _ => exact (qf_4 hs 31 rfl)
  | 2, _ => exact (qf_4 hs 39 rfl)
  | 3, _ => exact (qf_4 hs 49 rfl)
  | 4, _ => exact (qf_5 hs 1 rfl)
  | 5, _ => exact (qf_5 hs 13 rfl)
  | 6, _ => exact (qf_5 hs 25 rfl)
  | 7, _ => exact (qf_5 hs 38 rfl)
  | 8, _ => exact (qf_5 hs 52 rfl)
  | 9, _ => exact (qf_6 hs 6 rfl)
  | 10, _ => exact (qf_6 hs 25 rfl)
  | 11, _ => exact (qf_6 hs 43 rfl)
  | 12, _ => exact (qf_7 hs 0 rfl)
  | 13, _ => exact (qf_7 hs 21 rfl)
  | 14, _ => exact (qf_7 hs 41 rfl)
  | 15, _ => exact (qf_8 hs 5 rfl)
  | 16, _ => exact (qf_8 hs 28 rfl)
  | 17, _ => exact (qf_8 hs 52 rfl)
  | n + 18, h => exact absurd h (by omega)
theorem q_x3 {s : State} {A : Array Value} (hs : ∀ c ∈ qFL, c.before A s = true) : ∀ i : Nat, i < 18 → (Cond.arrayOf (.field (Jvm.Term.string "CellarPrompter$Reader" (88 + 2 * i)) "java/lang/String" "value" "[B") .byte).before A s = true := by
  intro i hi
  match i, hi with
  | 0, _ => exact (qf_4 hs 24 rfl)
  | 1, _ => exact (qf_4 hs 32 rfl)
  | 2, _ => exact (qf_4 hs 40 rfl)
  | 3, _ => exact (qf_4 hs 50 rfl)
  | 4, _ => exact (qf_5 hs 2 rfl)
  | 5, _ => exact (qf_5 hs 14 rfl)
  | 6, _ => exact (qf_5 hs 26 rfl)
  | 7, _ => exact (qf_5 hs 39 rfl)
  | 8, _ => exact (qf_5 hs 53 rfl)
  | 9, _ => exact (qf_6 hs 7 rfl)
  | 10, _ => exact (qf_6 hs 26 rfl)
  | 11, _ => exact (qf_6 hs 44 rfl)
  | 12, _ => exact (qf_7 hs 1 rfl)
  | 13, _ => exact (qf_7 hs 22 rfl)
  | 14, _ => exact (qf_7 hs 42 rfl)
  | 15, _ => exact (qf_8 hs 6 rfl)
  | 16, _ => exact (qf_8 hs 29 rfl)
  | 17, _ => exact (qf_8 hs 53 rfl)
  | n + 18, h => exact absurd h (by omega)
theorem q_x4 {s : State} {A : Array Value} (hs : ∀ c ∈ qFL, c.before A s = true) : ∀ i : Nat, i < 18 → (Cond.eq (.length (.field (Jvm.Term.string "CellarPrompter$Reader" (88 + 2 * i)) "java/lang/String" "value" "[B")) (.int (Int32.ofNat (qLe.getD i 0)))).before A s = true := by
  intro i hi
  match i, hi with
  | 0, _ => exact (qf_4 hs 25 rfl)
  | 1, _ => exact (qf_4 hs 33 rfl)
  | 2, _ => exact (qf_4 hs 41 rfl)
  | 3, _ => exact (qf_4 hs 51 rfl)
  | 4, _ => exact (qf_5 hs 3 rfl)
  | 5, _ => exact (qf_5 hs 15 rfl)
  | 6, _ => exact (qf_5 hs 27 rfl)
  | 7, _ => exact (qf_5 hs 40 rfl)
  | 8, _ => exact (qf_5 hs 54 rfl)
  | 9, _ => exact (qf_6 hs 8 rfl)
  | 10, _ => exact (qf_6 hs 27 rfl)
  | 11, _ => exact (qf_6 hs 45 rfl)
  | 12, _ => exact (qf_7 hs 2 rfl)
  | 13, _ => exact (qf_7 hs 23 rfl)
  | 14, _ => exact (qf_7 hs 43 rfl)
  | 15, _ => exact (qf_8 hs 7 rfl)
  | 16, _ => exact (qf_8 hs 30 rfl)
  | 17, _ => exact (qf_8 hs 54 rfl)
  | n + 18, h => exact absurd h (by omega)
theorem q_x5 {s : State} {A : Array Value} (hs : ∀ c ∈ qFL, c.before A s = true) : ∀ i : Nat, i < 18 → ∀ j : Nat, j < qLe.getD i 0 → (Cond.eq (.elem (.field (Jvm.Term.string "CellarPrompter$Reader" (88 + 2 * i)) "java/lang/String" "value" "[B") (.int (Int32.ofNat j))) (.int ((qBy.getD i []).getD j 0))).before A s = true := by
  intro i hi
  match i, hi with
  | 0, _ => intro j hj; match j, hj with
    | 0, _ => exact (qf_4 hs 26 rfl)
    | 1, _ => exact (qf_4 hs 27 rfl)
    | 2, _ => exact (qf_4 hs 28 rfl)
    | 3, _ => exact (qf_4 hs 29 rfl)
    | m + 4, h => exact absurd (show m + 4 < 4 from h) (by omega)
  | 1, _ => intro j hj; match j, hj with
    | 0, _ => exact (qf_4 hs 34 rfl)
    | 1, _ => exact (qf_4 hs 35 rfl)
    | 2, _ => exact (qf_4 hs 36 rfl)
    | m + 3, h => exact absurd (show m + 3 < 3 from h) (by omega)
  | 2, _ => intro j hj; match j, hj with
    | 0, _ => exact (qf_4 hs 42 rfl)
    | 1, _ => exact (qf_4 hs 43 rfl)
    | 2, _ => exact (qf_4 hs 44 rfl)
    | 3, _ => exact (qf_4 hs 45 rfl)
    | m + 4, h => exact absurd (show m + 4 < 4 from h) (by omega)
  | 3, _ => intro j hj; match j, hj with
    | 0, _ => exact (qf_4 hs 52 rfl)
    | 1, _ => exact (qf_4 hs 53 rfl)
    | 2, _ => exact (qf_4 hs 54 rfl)
    | 3, _ => exact (qf_4 hs 55 rfl)
    | 4, _ => exact (qf_4 hs 56 rfl)
    | m + 5, h => exact absurd (show m + 5 < 5 from h) (by omega)
  | 4, _ => intro j hj; match j, hj with
    | 0, _ => exact (qf_5 hs 4 rfl)
    | 1, _ => exact (qf_5 hs 5 rfl)
    | 2, _ => exact (qf_5 hs 6 rfl)
    | 3, _ => exact (qf_5 hs 7 rfl)
    | m + 4, h => exact absurd (show m + 4 < 4 from h) (by omega)
  | 5, _ => intro j hj; match j, hj with
    | 0, _ => exact (qf_5 hs 16 rfl)
    | 1, _ => exact (qf_5 hs 17 rfl)
    | 2, _ => exact (qf_5 hs 18 rfl)
    | m + 3, h => exact absurd (show m + 3 < 3 from h) (by omega)
  | 6, _ => intro j hj; match j, hj with
    | 0, _ => exact (qf_5 hs 28 rfl)
    | 1, _ => exact (qf_5 hs 29 rfl)
    | 2, _ => exact (qf_5 hs 30 rfl)
    | m + 3, h => exact absurd (show m + 3 < 3 from h) (by omega)
  | 7, _ => intro j hj; match j, hj with
    | 0, _ => exact (qf_5 hs 41 rfl)
    | 1, _ => exact (qf_5 hs 42 rfl)
    | 2, _ => exact (qf_5 hs 43 rfl)
    | m + 3, h => exact absurd (show m + 3 < 3 from h) (by omega)
  | 8, _ => intro j hj; match j, hj with
    | 0, _ => exact (qf_5 hs 55 rfl)
    | 1, _ => exact (qf_5 hs 56 rfl)
    | m + 2, h => exact absurd (show m + 2 < 2 from h) (by omega)
  | 9, _ => intro j hj; match j, hj with
    | 0, _ => exact (qf_6 hs 9 rfl)
    | 1, _ => exact (qf_6 hs 10 rfl)
    | 2, _ => exact (qf_6 hs 11 rfl)
    | 3, _ => exact (qf_6 hs 12 rfl)
    | 4, _ => exact (qf_6 hs 13 rfl)
    | 5, _ => exact (qf_6 hs 14 rfl)
    | m + 6, h => exact absurd (show m + 6 < 6 from h) (by omega)
  | 10, _ => intro j hj; match j, hj with
    | 0, _ => exact (qf_6 hs 28 rfl)
    | 1, _ => exact (qf_6 hs 29 rfl)
    | 2, _ => exact (qf_6 hs 30 rfl)
    | 3, _ => exact (qf_6 hs 31 rfl)
    | m + 4, h => exact absurd (show m + 4 < 4 from h) (by omega)
  | 11, _ => intro j hj; match j, hj with
    | 0, _ => exact (qf_6 hs 46 rfl)
    | 1, _ => exact (qf_6 hs 47 rfl)
    | m + 2, h => exact absurd (show m + 2 < 2 from h) (by omega)
  | 12, _ => intro j hj; match j, hj with
    | 0, _ => exact (qf_7 hs 3 rfl)
    | 1, _ => exact (qf_7 hs 4 rfl)
    | 2, _ => exact (qf_7 hs 5 rfl)
    | 3, _ => exact (qf_7 hs 6 rfl)
    | 4, _ => exact (qf_7 hs 7 rfl)
    | m + 5, h => exact absurd (show m + 5 < 5 from h) (by omega)
  | 13, _ => intro j hj; match j, hj with
    | 0, _ => exact (qf_7 hs 24 rfl)
    | 1, _ => exact (qf_7 hs 25 rfl)
    | 2, _ => exact (qf_7 hs 26 rfl)
    | m + 3, h => exact absurd (show m + 3 < 3 from h) (by omega)
  | 14, _ => intro j hj; match j, hj with
    | 0, _ => exact (qf_7 hs 44 rfl)
    | 1, _ => exact (qf_7 hs 45 rfl)
    | 2, _ => exact (qf_7 hs 46 rfl)
    | 3, _ => exact (qf_7 hs 47 rfl)
    | 4, _ => exact (qf_7 hs 48 rfl)
    | 5, _ => exact (qf_7 hs 49 rfl)
    | m + 6, h => exact absurd (show m + 6 < 6 from h) (by omega)
  | 15, _ => intro j hj; match j, hj with
    | 0, _ => exact (qf_8 hs 8 rfl)
    | 1, _ => exact (qf_8 hs 9 rfl)
    | 2, _ => exact (qf_8 hs 10 rfl)
    | 3, _ => exact (qf_8 hs 11 rfl)
    | m + 4, h => exact absurd (show m + 4 < 4 from h) (by omega)
  | 16, _ => intro j hj; match j, hj with
    | 0, _ => exact (qf_8 hs 31 rfl)
    | 1, _ => exact (qf_8 hs 32 rfl)
    | 2, _ => exact (qf_8 hs 33 rfl)
    | 3, _ => exact (qf_8 hs 34 rfl)
    | m + 4, h => exact absurd (show m + 4 < 4 from h) (by omega)
  | 17, _ => intro j hj; match j, hj with
    | 0, _ => exact (qf_8 hs 55 rfl)
    | 1, _ => exact (qf_8 hs 56 rfl)
    | 2, _ => exact (qf_8 hs 57 rfl)
    | 3, _ => exact (qf_8 hs 58 rfl)
    | m + 4, h => exact absurd (show m + 4 < 4 from h) (by omega)
  | n + 18, h => exact absurd h (by omega)
theorem q_x6 {s : State} {A : Array Value} (hs : ∀ c ∈ qFL, c.before A s = true) : ∀ i j : Nat, i < 18 → j < 18 → i < j → (Cond.not (Cond.eq (Jvm.Term.string "CellarPrompter$Reader" (88 + 2 * i)) (Jvm.Term.string "CellarPrompter$Reader" (88 + 2 * j)))).before A s = true := by
  intro i j hi hj hij
  match i, hi with
  | 0, _ => match j, hj with
    | 0, _ => exact absurd hij (by omega)
    | 1, _ => exact (qf_4 hs 37 rfl)
    | 2, _ => exact (qf_4 hs 46 rfl)
    | 3, _ => exact (qf_4 hs 57 rfl)
    | 4, _ => exact (qf_5 hs 8 rfl)
    | 5, _ => exact (qf_5 hs 19 rfl)
    | 6, _ => exact (qf_5 hs 31 rfl)
    | 7, _ => exact (qf_5 hs 44 rfl)
    | 8, _ => exact (qf_5 hs 57 rfl)
    | 9, _ => exact (qf_6 hs 15 rfl)
    | 10, _ => exact (qf_6 hs 32 rfl)
    | 11, _ => exact (qf_6 hs 48 rfl)
    | 12, _ => exact (qf_7 hs 8 rfl)
    | 13, _ => exact (qf_7 hs 27 rfl)
    | 14, _ => exact (qf_7 hs 50 rfl)
    | 15, _ => exact (qf_8 hs 12 rfl)
    | 16, _ => exact (qf_8 hs 35 rfl)
    | 17, _ => exact (qf_8 hs 59 rfl)
    | m + 18, h => exact absurd h (by omega)
  | 1, _ => match j, hj with
    | 0, _ => exact absurd hij (by omega)
    | 1, _ => exact absurd hij (by omega)
    | 2, _ => exact (qf_4 hs 47 rfl)
    | 3, _ => exact (qf_4 hs 58 rfl)
    | 4, _ => exact (qf_5 hs 9 rfl)
    | 5, _ => exact (qf_5 hs 20 rfl)
    | 6, _ => exact (qf_5 hs 32 rfl)
    | 7, _ => exact (qf_5 hs 45 rfl)
    | 8, _ => exact (qf_5 hs 58 rfl)
    | 9, _ => exact (qf_6 hs 16 rfl)
    | 10, _ => exact (qf_6 hs 33 rfl)
    | 11, _ => exact (qf_6 hs 49 rfl)
    | 12, _ => exact (qf_7 hs 9 rfl)
    | 13, _ => exact (qf_7 hs 28 rfl)
    | 14, _ => exact (qf_7 hs 51 rfl)
    | 15, _ => exact (qf_8 hs 13 rfl)
    | 16, _ => exact (qf_8 hs 36 rfl)
    | 17, _ => exact (qf_9 hs 0 rfl)
    | m + 18, h => exact absurd h (by omega)
  | 2, _ => match j, hj with
    | 0, _ => exact absurd hij (by omega)
    | 1, _ => exact absurd hij (by omega)
    | 2, _ => exact absurd hij (by omega)
    | 3, _ => exact (qf_4 hs 59 rfl)
    | 4, _ => exact (qf_5 hs 10 rfl)
    | 5, _ => exact (qf_5 hs 21 rfl)
    | 6, _ => exact (qf_5 hs 33 rfl)
    | 7, _ => exact (qf_5 hs 46 rfl)
    | 8, _ => exact (qf_5 hs 59 rfl)
    | 9, _ => exact (qf_6 hs 17 rfl)
    | 10, _ => exact (qf_6 hs 34 rfl)
    | 11, _ => exact (qf_6 hs 50 rfl)
    | 12, _ => exact (qf_7 hs 10 rfl)
    | 13, _ => exact (qf_7 hs 29 rfl)
    | 14, _ => exact (qf_7 hs 52 rfl)
    | 15, _ => exact (qf_8 hs 14 rfl)
    | 16, _ => exact (qf_8 hs 37 rfl)
    | 17, _ => exact (qf_9 hs 1 rfl)
    | m + 18, h => exact absurd h (by omega)
  | 3, _ => match j, hj with
    | 0, _ => exact absurd hij (by omega)
    | 1, _ => exact absurd hij (by omega)
    | 2, _ => exact absurd hij (by omega)
    | 3, _ => exact absurd hij (by omega)
    | 4, _ => exact (qf_5 hs 11 rfl)
    | 5, _ => exact (qf_5 hs 22 rfl)
    | 6, _ => exact (qf_5 hs 34 rfl)
    | 7, _ => exact (qf_5 hs 47 rfl)
    | 8, _ => exact (qf_6 hs 0 rfl)
    | 9, _ => exact (qf_6 hs 18 rfl)
    | 10, _ => exact (qf_6 hs 35 rfl)
    | 11, _ => exact (qf_6 hs 51 rfl)
    | 12, _ => exact (qf_7 hs 11 rfl)
    | 13, _ => exact (qf_7 hs 30 rfl)
    | 14, _ => exact (qf_7 hs 53 rfl)
    | 15, _ => exact (qf_8 hs 15 rfl)
    | 16, _ => exact (qf_8 hs 38 rfl)
    | 17, _ => exact (qf_9 hs 2 rfl)
    | m + 18, h => exact absurd h (by omega)
  | 4, _ => match j, hj with
    | 0, _ => exact absurd hij (by omega)
    | 1, _ => exact absurd hij (by omega)
    | 2, _ => exact absurd hij (by omega)
    | 3, _ => exact absurd hij (by omega)
    | 4, _ => exact absurd hij (by omega)
    | 5, _ => exact (qf_5 hs 23 rfl)
    | 6, _ => exact (qf_5 hs 35 rfl)
    | 7, _ => exact (qf_5 hs 48 rfl)
    | 8, _ => exact (qf_6 hs 1 rfl)
    | 9, _ => exact (qf_6 hs 19 rfl)
    | 10, _ => exact (qf_6 hs 36 rfl)
    | 11, _ => exact (qf_6 hs 52 rfl)
    | 12, _ => exact (qf_7 hs 12 rfl)
    | 13, _ => exact (qf_7 hs 31 rfl)
    | 14, _ => exact (qf_7 hs 54 rfl)
    | 15, _ => exact (qf_8 hs 16 rfl)
    | 16, _ => exact (qf_8 hs 39 rfl)
    | 17, _ => exact (qf_9 hs 3 rfl)
    | m + 18, h => exact absurd h (by omega)
  | 5, _ => match j, hj with
    | 0, _ => exact absurd hij (by omega)
    | 1, _ => exact absurd hij (by omega)
    | 2, _ => exact absurd hij (by omega)
    | 3, _ => exact absurd hij (by omega)
    | 4, _ => exact absurd hij (by omega)
    | 5, _ => exact absurd hij (by omega)
    | 6, _ => exact (qf_5 hs 36 rfl)
    | 7, _ => exact (qf_5 hs 49 rfl)
    | 8, _ => exact (qf_6 hs 2 rfl)
    | 9, _ => exact (qf_6 hs 20 rfl)
    | 10, _ => exact (qf_6 hs 37 rfl)
    | 11, _ => exact (qf_6 hs 53 rfl)
    | 12, _ => exact (qf_7 hs 13 rfl)
    | 13, _ => exact (qf_7 hs 32 rfl)
    | 14, _ => exact (qf_7 hs 55 rfl)
    | 15, _ => exact (qf_8 hs 17 rfl)
    | 16, _ => exact (qf_8 hs 40 rfl)
    | 17, _ => exact (qf_9 hs 4 rfl)
    | m + 18, h => exact absurd h (by omega)
  | 6, _ => match j, hj with
    | 0, _ => exact absurd hij (by omega)
    | 1, _ => exact absurd hij (by omega)
    | 2, _ => exact absurd hij (by omega)
    | 3, _ => exact absurd hij (by omega)
    | 4, _ => exact absurd hij (by omega)
    | 5, _ => exact absurd hij (by omega)
    | 6, _ => exact absurd hij (by omega)
    | 7, _ => exact (qf_5 hs 50 rfl)
    | 8, _ => exact (qf_6 hs 3 rfl)
    | 9, _ => exact (qf_6 hs 21 rfl)
    | 10, _ => exact (qf_6 hs 38 rfl)
    | 11, _ => exact (qf_6 hs 54 rfl)
    | 12, _ => exact (qf_7 hs 14 rfl)
    | 13, _ => exact (qf_7 hs 33 rfl)
    | 14, _ => exact (qf_7 hs 56 rfl)
    | 15, _ => exact (qf_8 hs 18 rfl)
    | 16, _ => exact (qf_8 hs 41 rfl)
    | 17, _ => exact (qf_9 hs 5 rfl)
    | m + 18, h => exact absurd h (by omega)
  | 7, _ => match j, hj with
    | 0, _ => exact absurd hij (by omega)
    | 1, _ => exact absurd hij (by omega)
    | 2, _ => exact absurd hij (by omega)
    | 3, _ => exact absurd hij (by omega)
    | 4, _ => exact absurd hij (by omega)
    | 5, _ => exact absurd hij (by omega)
    | 6, _ => exact absurd hij (by omega)
    | 7, _ => exact absurd hij (by omega)
    | 8, _ => exact (qf_6 hs 4 rfl)
    | 9, _ => exact (qf_6 hs 22 rfl)
    | 10, _ => exact (qf_6 hs 39 rfl)
    | 11, _ => exact (qf_6 hs 55 rfl)
    | 12, _ => exact (qf_7 hs 15 rfl)
    | 13, _ => exact (qf_7 hs 34 rfl)
    | 14, _ => exact (qf_7 hs 57 rfl)
    | 15, _ => exact (qf_8 hs 19 rfl)
    | 16, _ => exact (qf_8 hs 42 rfl)
    | 17, _ => exact (qf_9 hs 6 rfl)
    | m + 18, h => exact absurd h (by omega)
  | 8, _ => match j, hj with
    | 0, _ => exact absurd hij (by omega)
    | 1, _ => exact absurd hij (by omega)
    | 2, _ => exact absurd hij (by omega)
    | 3, _ => exact absurd hij (by omega)
    | 4, _ => exact absurd hij (by omega)
    | 5, _ => exact absurd hij (by omega)
    | 6, _ => exact absurd hij (by omega)
    | 7, _ => exact absurd hij (by omega)
    | 8, _ => exact absurd hij (by omega)
    | 9, _ => exact (qf_6 hs 23 rfl)
    | 10, _ => exact (qf_6 hs 40 rfl)
    | 11, _ => exact (qf_6 hs 56 rfl)
    | 12, _ => exact (qf_7 hs 16 rfl)
    | 13, _ => exact (qf_7 hs 35 rfl)
    | 14, _ => exact (qf_7 hs 58 rfl)
    | 15, _ => exact (qf_8 hs 20 rfl)
    | 16, _ => exact (qf_8 hs 43 rfl)
    | 17, _ => exact (qf_9 hs 7 rfl)
    | m + 18, h => exact absurd h (by omega)
  | 9, _ => match j, hj with
    | 0, _ => exact absurd hij (by omega)
    | 1, _ => exact absurd hij (by omega)
    | 2, _ => exact absurd hij (by omega)
    | 3, _ => exact absurd hij (by omega)
    | 4, _ => exact absurd hij (by omega)
    | 5, _ => exact absurd hij (by omega)
    | 6, _ => exact absurd hij (by omega)
    | 7, _ => exact absurd hij (by omega)
    | 8, _ => exact absurd hij (by omega)
    | 9, _ => exact absurd hij (by omega)
    | 10, _ => exact (qf_6 hs 41 rfl)
    | 11, _ => exact (qf_6 hs 57 rfl)
    | 12, _ => exact (qf_7 hs 17 rfl)
    | 13, _ => exact (qf_7 hs 36 rfl)
    | 14, _ => exact (qf_7 hs 59 rfl)
    | 15, _ => exact (qf_8 hs 21 rfl)
    | 16, _ => exact (qf_8 hs 44 rfl)
    | 17, _ => exact (qf_9 hs 8 rfl)
    | m + 18, h => exact absurd h (by omega)
  | 10, _ => match j, hj with
    | 0, _ => exact absurd hij (by omega)
    | 1, _ => exact absurd hij (by omega)
    | 2, _ => exact absurd hij (by omega)
    | 3, _ => exact absurd hij (by omega)
    | 4, _ => exact absurd hij (by omega)
    | 5, _ => exact absurd hij (by omega)
    | 6, _ => exact absurd hij (by omega)
    | 7, _ => exact absurd hij (by omega)
    | 8, _ => exact absurd hij (by omega)
    | 9, _ => exact absurd hij (by omega)
    | 10, _ => exact absurd hij (by omega)
    | 11, _ => exact (qf_6 hs 58 rfl)
    | 12, _ => exact (qf_7 hs 18 rfl)
    | 13, _ => exact (qf_7 hs 37 rfl)
    | 14, _ => exact (qf_8 hs 0 rfl)
    | 15, _ => exact (qf_8 hs 22 rfl)
    | 16, _ => exact (qf_8 hs 45 rfl)
    | 17, _ => exact (qf_9 hs 9 rfl)
    | m + 18, h => exact absurd h (by omega)
  | 11, _ => match j, hj with
    | 0, _ => exact absurd hij (by omega)
    | 1, _ => exact absurd hij (by omega)
    | 2, _ => exact absurd hij (by omega)
    | 3, _ => exact absurd hij (by omega)
    | 4, _ => exact absurd hij (by omega)
    | 5, _ => exact absurd hij (by omega)
    | 6, _ => exact absurd hij (by omega)
    | 7, _ => exact absurd hij (by omega)
    | 8, _ => exact absurd hij (by omega)
    | 9, _ => exact absurd hij (by omega)
    | 10, _ => exact absurd hij (by omega)
    | 11, _ => exact absurd hij (by omega)
    | 12, _ => exact (qf_7 hs 19 rfl)
    | 13, _ => exact (qf_7 hs 38 rfl)
    | 14, _ => exact (qf_8 hs 1 rfl)
    | 15, _ => exact (qf_8 hs 23 rfl)
    | 16, _ => exact (qf_8 hs 46 rfl)
    | 17, _ => exact (qf_9 hs 10 rfl)
    | m + 18, h => exact absurd h (by omega)
  | 12, _ => match j, hj with
    | 0, _ => exact absurd hij (by omega)
    | 1, _ => exact absurd hij (by omega)
    | 2, _ => exact absurd hij (by omega)
    | 3, _ => exact absurd hij (by omega)
    | 4, _ => exact absurd hij (by omega)
    | 5, _ => exact absurd hij (by omega)
    | 6, _ => exact absurd hij (by omega)
    | 7, _ => exact absurd hij (by omega)
    | 8, _ => exact absurd hij (by omega)
    | 9, _ => exact absurd hij (by omega)
    | 10, _ => exact absurd hij (by omega)
    | 11, _ => exact absurd hij (by omega)
    | 12, _ => exact absurd hij (by omega)
    | 13, _ => exact (qf_7 hs 39 rfl)
    | 14, _ => exact (qf_8 hs 2 rfl)
    | 15, _ => exact (qf_8 hs 24 rfl)
    | 16, _ => exact (qf_8 hs 47 rfl)
    | 17, _ => exact (qf_9 hs 11 rfl)
    | m + 18, h => exact absurd h (by omega)
  | 13, _ => match j, hj with
    | 0, _ => exact absurd hij (by omega)
    | 1, _ => exact absurd hij (by omega)
    | 2, _ => exact absurd hij (by omega)
    | 3, _ => exact absurd hij (by omega)
    | 4, _ => exact absurd hij (by omega)
    | 5, _ => exact absurd hij (by omega)
    | 6, _ => exact absurd hij (by omega)
    | 7, _ => exact absurd hij (by omega)
    | 8, _ => exact absurd hij (by omega)
    | 9, _ => exact absurd hij (by omega)
    | 10, _ => exact absurd hij (by omega)
    | 11, _ => exact absurd hij (by omega)
    | 12, _ => exact absurd hij (by omega)
    | 13, _ => exact absurd hij (by omega)
    | 14, _ => exact (qf_8 hs 3 rfl)
    | 15, _ => exact (qf_8 hs 25 rfl)
    | 16, _ => exact (qf_8 hs 48 rfl)
    | 17, _ => exact (qf_9 hs 12 rfl)
    | m + 18, h => exact absurd h (by omega)
  | 14, _ => match j, hj with
    | 0, _ => exact absurd hij (by omega)
    | 1, _ => exact absurd hij (by omega)
    | 2, _ => exact absurd hij (by omega)
    | 3, _ => exact absurd hij (by omega)
    | 4, _ => exact absurd hij (by omega)
    | 5, _ => exact absurd hij (by omega)
    | 6, _ => exact absurd hij (by omega)
    | 7, _ => exact absurd hij (by omega)
    | 8, _ => exact absurd hij (by omega)
    | 9, _ => exact absurd hij (by omega)
    | 10, _ => exact absurd hij (by omega)
    | 11, _ => exact absurd hij (by omega)
    | 12, _ => exact absurd hij (by omega)
    | 13, _ => exact absurd hij (by omega)
    | 14, _ => exact absurd hij (by omega)
    | 15, _ => exact (qf_8 hs 26 rfl)
    | 16, _ => exact (qf_8 hs 49 rfl)
    | 17, _ => exact (qf_9 hs 13 rfl)
    | m + 18, h => exact absurd h (by omega)
  | 15, _ => match j, hj with
    | 0, _ => exact absurd hij (by omega)
    | 1, _ => exact absurd hij (by omega)
    | 2, _ => exact absurd hij (by omega)
    | 3, _ => exact absurd hij (by omega)
    | 4, _ => exact absurd hij (by omega)
    | 5, _ => exact absurd hij (by omega)
    | 6, _ => exact absurd hij (by omega)
    | 7, _ => exact absurd hij (by omega)
    | 8, _ => exact absurd hij (by omega)
    | 9, _ => exact absurd hij (by omega)
    | 10, _ => exact absurd hij (by omega)
    | 11, _ => exact absurd hij (by omega)
    | 12, _ => exact absurd hij (by omega)
    | 13, _ => exact absurd hij (by omega)
    | 14, _ => exact absurd hij (by omega)
    | 15, _ => exact absurd hij (by omega)
    | 16, _ => exact (qf_8 hs 50 rfl)
    | 17, _ => exact (qf_9 hs 14 rfl)
    | m + 18, h => exact absurd h (by omega)
  | 16, _ => match j, hj with
    | 0, _ => exact absurd hij (by omega)
    | 1, _ => exact absurd hij (by omega)
    | 2, _ => exact absurd hij (by omega)
    | 3, _ => exact absurd hij (by omega)
    | 4, _ => exact absurd hij (by omega)
    | 5, _ => exact absurd hij (by omega)
    | 6, _ => exact absurd hij (by omega)
    | 7, _ => exact absurd hij (by omega)
    | 8, _ => exact absurd hij (by omega)
    | 9, _ => exact absurd hij (by omega)
    | 10, _ => exact absurd hij (by omega)
    | 11, _ => exact absurd hij (by omega)
    | 12, _ => exact absurd hij (by omega)
    | 13, _ => exact absurd hij (by omega)
    | 14, _ => exact absurd hij (by omega)
    | 15, _ => exact absurd hij (by omega)
    | 16, _ => exact absurd hij (by omega)
    | 17, _ => exact (qf_9 hs 15 rfl)
    | m + 18, h => exact absurd h (by omega)
  | 17, _ => match j, hj with
    | 0, _ => exact absurd hij (by omega)
    | 1, _ => exact absurd hij (by omega)
    | 2, _ => exact absurd hij (by omega)
    | 3, _ => exact absurd hij (by omega)
    | 4, _ => exact absurd hij (by omega)
    | 5, _ => exact absurd hij (by omega)
    | 6, _ => exact absurd hij (by omega)
    | 7, _ => exact absurd hij (by omega)
    | 8, _ => exact absurd hij (by omega)
    | 9, _ => exact absurd hij (by omega)
    | 10, _ => exact absurd hij (by omega)
    | 11, _ => exact absurd hij (by omega)
    | 12, _ => exact absurd hij (by omega)
    | 13, _ => exact absurd hij (by omega)
    | 14, _ => exact absurd hij (by omega)
    | 15, _ => exact absurd hij (by omega)
    | 16, _ => exact absurd hij (by omega)
    | 17, _ => exact absurd hij (by omega)
    | m + 18, h => exact absurd h (by omega)
  | n + 18, h => exact absurd h (by omega)
theorem q_R {s : State} {A : Array Value} (hts : ∀ w ∈ lw_tbl, w.before A s = true) {adK : Nat → Nat} (hk : ∀ i, i < 18 → (Jvm.Term.string "CellarPrompter$Reader" (88 + 2 * i)).eval A s none [] s = some (.ref (adK i))) : ∀ (i : Nat) (tx : String), qTx[i]? = some tx → vk_R RX7 (88 + 2 * i) tx (adK i) s := by
  intro i tx htx
  match i, htx with
  | 0, htx => cases htx; exact vk_R.of (hts _ (List.mem_append_right _ (List.mem_append_right _ (List.mem_append_left _ (List.mem_of_getElem? (i := 191) rfl))))) (hk 0 (by omega))
  | 1, htx => cases htx; exact vk_R.of (hts _ (List.mem_append_right _ (List.mem_append_right _ (List.mem_append_left _ (List.mem_of_getElem? (i := 192) rfl))))) (hk 1 (by omega))
  | 2, htx => cases htx; exact vk_R.of (hts _ (List.mem_append_right _ (List.mem_append_right _ (List.mem_append_left _ (List.mem_of_getElem? (i := 193) rfl))))) (hk 2 (by omega))
  | 3, htx => cases htx; exact vk_R.of (hts _ (List.mem_append_right _ (List.mem_append_right _ (List.mem_append_left _ (List.mem_of_getElem? (i := 194) rfl))))) (hk 3 (by omega))
  | 4, htx => cases htx; exact vk_R.of (hts _ (List.mem_append_right _ (List.mem_append_right _ (List.mem_append_left _ (List.mem_of_getElem? (i := 195) rfl))))) (hk 4 (by omega))
  | 5, htx => cases htx; exact vk_R.of (hts _ (List.mem_append_right _ (List.mem_append_right _ (List.mem_append_left _ (List.mem_of_getElem? (i := 196) rfl))))) (hk 5 (by omega))
  | 6, htx => cases htx; exact vk_R.of (hts _ (List.mem_append_right _ (List.mem_append_right _ (List.mem_append_left _ (List.mem_of_getElem? (i := 197) rfl))))) (hk 6 (by omega))
  | 7, htx => cases htx; exact vk_R.of (hts _ (List.mem_append_right _ (List.mem_append_right _ (List.mem_append_left _ (List.mem_of_getElem? (i := 198) rfl))))) (hk 7 (by omega))
  | 8, htx => cases htx; exact vk_R.of (hts _ (List.mem_append_right _ (List.mem_append_right _ (List.mem_append_left _ (List.mem_of_getElem? (i := 199) rfl))))) (hk 8 (by omega))
  | 9, htx => cases htx; exact vk_R.of (hts _ (List.mem_append_right _ (List.mem_append_right _ (List.mem_append_left _ (List.mem_of_getElem? (i := 200) rfl))))) (hk 9 (by omega))
  | 10, htx => cases htx; exact vk_R.of (hts _ (List.mem_append_right _ (List.mem_append_right _ (List.mem_append_left _ (List.mem_of_getElem? (i := 201) rfl))))) (hk 10 (by omega))
  | 11, htx => cases htx; exact vk_R.of (hts _ (List.mem_append_right _ (List.mem_append_right _ (List.mem_append_left _ (List.mem_of_getElem? (i := 202) rfl))))) (hk 11 (by omega))
  | 12, htx => cases htx; exact vk_R.of (hts _ (List.mem_append_right _ (List.mem_append_right _ (List.mem_append_left _ (List.mem_of_getElem? (i := 203) rfl))))) (hk 12 (by omega))
  | 13, htx => cases htx; exact vk_R.of (hts _ (List.mem_append_right _ (List.mem_append_right _ (List.mem_append_left _ (List.mem_of_getElem? (i := 204) rfl))))) (hk 13 (by omega))
  | 14, htx => cases htx; exact vk_R.of (hts _ (List.mem_append_right _ (List.mem_append_right _ (List.mem_append_left _ (List.mem_of_getElem? (i := 205) rfl))))) (hk 14 (by omega))
  | 15, htx => cases htx; exact vk_R.of (hts _ (List.mem_append_right _ (List.mem_append_right _ (List.mem_append_left _ (List.mem_of_getElem? (i := 206) rfl))))) (hk 15 (by omega))
  | 16, htx => cases htx; exact vk_R.of (hts _ (List.mem_append_right _ (List.mem_append_right _ (List.mem_append_left _ (List.mem_of_getElem? (i := 207) rfl))))) (hk 16 (by omega))
  | 17, htx => cases htx; exact vk_R.of (hts _ (List.mem_append_right _ (List.mem_append_right _ (List.mem_append_left _ (List.mem_of_getElem? (i := 208) rfl))))) (hk 17 (by omega))
  | n + 18, htx => simp [qTx] at htx
theorem q_Ne {s : State} {A : Array Value} (hts : ∀ w ∈ lw_tbl, w.before A s = true) : ∀ q ∈ qNest, va_Nw (.methodLinkNest q.1 q.2.1 q.2.2 "CellarPrompter") s := by
  intro q hq
  simp only [qNest, List.mem_cons, List.not_mem_nil, or_false] at hq
  rcases hq with rfl | rfl | rfl | rfl | rfl | rfl | rfl | rfl | rfl | rfl | rfl | rfl
  · exact va_Nw.of rfl (hts _ (List.mem_append_right _ (List.mem_append_left _ (List.mem_of_getElem? (i := 44) rfl))))
  · exact va_Nw.of rfl (hts _ (List.mem_append_right _ (List.mem_append_left _ (List.mem_of_getElem? (i := 105) rfl))))
  · exact va_Nw.of rfl (hts _ (List.mem_append_right _ (List.mem_append_left _ (List.mem_of_getElem? (i := 123) rfl))))
  · exact va_Nw.of rfl (hts _ (List.mem_append_right _ (List.mem_append_left _ (List.mem_of_getElem? (i := 137) rfl))))
  · exact va_Nw.of rfl (hts _ (List.mem_append_right _ (List.mem_append_left _ (List.mem_of_getElem? (i := 193) rfl))))
  · exact va_Nw.of rfl (hts _ (List.mem_append_right _ (List.mem_append_left _ (List.mem_of_getElem? (i := 220) rfl))))
  · exact va_Nw.of rfl (hts _ (List.mem_append_right _ (List.mem_append_right _ (List.mem_append_left _ (List.mem_of_getElem? (i := 20) rfl)))))
  · exact va_Nw.of rfl (hts _ (List.mem_append_right _ (List.mem_append_right _ (List.mem_append_left _ (List.mem_of_getElem? (i := 49) rfl)))))
  · exact va_Nw.of rfl (hts _ (List.mem_append_right _ (List.mem_append_right _ (List.mem_append_left _ (List.mem_of_getElem? (i := 70) rfl)))))
  · exact va_Nw.of rfl (hts _ (List.mem_append_right _ (List.mem_append_right _ (List.mem_append_left _ (List.mem_of_getElem? (i := 99) rfl)))))
  · exact va_Nw.of rfl (hts _ (List.mem_append_right _ (List.mem_append_right _ (List.mem_append_right _ (List.mem_append_left _ (List.mem_of_getElem? (i := 116) rfl))))))
  · exact va_Nw.of rfl (hts _ (List.mem_append_right _ (List.mem_append_right _ (List.mem_append_right _ (List.mem_append_right _ (List.mem_append_left _ (List.mem_of_getElem? (i := 55) rfl)))))))
theorem q_Ar {s : State} {A : Array Value} (hts : ∀ w ∈ lw_tbl, w.before A s = true) : ∀ C ∈ qArr, va_AO C s := by
  intro C hC
  simp only [qArr, List.mem_cons, List.not_mem_nil, or_false] at hC
  rcases hC with rfl | rfl | rfl | rfl | rfl
  · exact va_AO.of (hts _ (List.mem_append_right _ (List.mem_append_left _ (List.mem_of_getElem? (i := 36) rfl))))
  · exact va_AO.of (hts _ (List.mem_append_right _ (List.mem_append_left _ (List.mem_of_getElem? (i := 38) rfl))))
  · exact va_AO.of (hts _ (List.mem_append_right _ (List.mem_append_left _ (List.mem_of_getElem? (i := 40) rfl))))
  · exact va_AO.of (hts _ (List.mem_append_right _ (List.mem_append_left _ (List.mem_of_getElem? (i := 190) rfl))))
  · exact va_AO.of (hts _ (List.mem_append_right _ (List.mem_append_left _ (List.mem_of_getElem? (i := 42) rfl))))
/-- all that stays, at the law's entry -/
theorem q_start {s : State} {A : Array Value} {b L : Nat} {xs : Nat → Int32} (hts : ∀ w ∈ lw_tbl, w.before A s = true) (hgv : (Jvm.Cond.and given_1 narrow_1).before A s = true) (hX : va_X b L xs s s.heap) (hbl : b < s.heap.size) (hL : L ≤ 3072) : ∃ (D : va_G) (z adV : Nat → Nat), va_K D vwCl [] s ∧ qG s.heap.size z s s.heap ∧ qR s.heap.size D s s.heap (st_h b L xs z adV) s.heap.size ∧ (∀ i, i < 18 → z (4 + i) < s.heap.size ∧ z (4 + i) ≠ b) ∧ ∀ i j, i < 18 → j < 18 → z (4 + i) = z (4 + j) → i = j := by
  have hs : ∀ c ∈ qFL, c.before A s = true := fun c hc => flat_of_before _ hgv c (by rw [qFL_eq]; exact hc)
  have hA : ∀ a : Nat, a < s.heap.size → ¬ qA s.heap.size a := fun a h q => Nat.not_le.mpr h q
  have hq : ∀ w ∈ qws, w.before A s = true := fun w hw => hts w (List.mem_filter.mp hw).1
  obtain ⟨D, hK⟩ := q_K hq
  obtain ⟨t0, e0, T0⟩ := q_S0 hs
  obtain ⟨t1, e1, T1⟩ := q_S1 hs
  obtain ⟨t2, e2, T2⟩ := q_S2 hs
  obtain ⟨t3, e3, T3⟩ := q_S3 hs
  obtain ⟨adK, adV, hStr, hk⟩ := vk_Sof (N := 18) (tm := (fun i => Jvm.Term.string "CellarPrompter$Reader" (88 + 2 * i))) (len := qLe) (byt := qBy) (A := qA s.heap.size) (by decide +kernel) (q_x1 hs) (q_x2 hs) (q_x3 hs) (q_x4 hs) (q_x5 hs) (fun i j hi hj hne => by
    rcases Nat.lt_or_ge i j with h | h
    · exact Or.inl (q_x6 hs i j hi hj h)
    · exact Or.inr (q_x6 hs j i hj hi (by omega))) hA
  obtain ⟨scr, hc1, hc2, hc3, hc4, hc5⟩ := hX
  have hne : ∀ i, i < 18 → adK i ≠ b := by
    intro i hi hab
    obtain ⟨-, -, ⟨cf, kc, fi, f, cell, g1, g2, g3, g4, g5, -⟩, -⟩ := hStr.1 i hi
    rw [hab, hc1] at g3
    cases g3
    have hlt : f.slot < L := by rw [← hc4]; exact (Array.getElem?_eq_some_iff.mp g5).1
    have := hc5 _ hlt
    rw [g5] at this
    cases this
  have hlen : ∀ i, i < 18 → (qBy.getD i []).length = qLe.getD i 0 := by decide +kernel
  refine ⟨D, fun i => if i < 4 then (if i = 0 then t0 else if i = 1 then t1 else if i = 2 then t2 else t3) else adK (i - 4), adV, hK, ?_, ?_, ?_, ?_⟩
  · refine ⟨fun i q hi => ?_, va_Zof (hts _ (List.mem_append_right _ (List.mem_append_right _ (List.mem_append_left _ (List.mem_of_getElem? (i := 221) rfl))))) (hts _ (List.mem_append_right _ (List.mem_append_left _ (List.mem_of_getElem? (i := 14) rfl)))) (va_eqi (qf_0 hs 12 rfl)) hA, va_Zqof (hts _ (List.mem_append_right _ (List.mem_append_right _ (List.mem_append_left _ (List.mem_of_getElem? (i := 237) rfl))))) (hts _ (List.mem_append_right _ (List.mem_append_left _ (List.mem_of_getElem? (i := 16) rfl)))) (qf_0 hs 13 rfl) hA, ?_, q_Ne hts, q_Ar hts⟩
    · match i, hi with
      | 0, hi => cases hi; exact ⟨va_Zof (hts _ (List.mem_append_right _ (List.mem_append_right _ (List.mem_append_left _ (List.mem_of_getElem? (i := 187) rfl))))) (hts _ (List.mem_append_right _ (List.mem_append_left _ (List.mem_of_getElem? (i := 7) rfl)))) e0 hA, T0⟩
      | 1, hi => cases hi; exact ⟨va_Zof (hts _ (List.mem_append_right _ (List.mem_append_right _ (List.mem_append_right _ (List.mem_append_left _ (List.mem_of_getElem? (i := 44) rfl)))))) (hts _ (List.mem_append_right _ (List.mem_append_left _ (List.mem_of_getElem? (i := 7) rfl)))) e1 hA, T1⟩
      | 2, hi => cases hi; exact ⟨va_Zof (hts _ (List.mem_append_right _ (List.mem_append_right _ (List.mem_append_right _ (List.mem_append_left _ (List.mem_of_getElem? (i := 66) rfl)))))) (hts _ (List.mem_append_right _ (List.mem_append_left _ (List.mem_of_getElem? (i := 7) rfl)))) e2 hA, T2⟩
      | 3, hi => cases hi; exact ⟨va_Zof (hts _ (List.mem_append_right _ (List.mem_append_right _ (List.mem_append_right _ (List.mem_append_left _ (List.mem_of_getElem? (i := 68) rfl)))))) (hts _ (List.mem_append_right _ (List.mem_append_left _ (List.mem_of_getElem? (i := 7) rfl)))) e3 hA, T3⟩
      | n + 4, hi => simp [qSt] at hi
    · intro i tx htx
      have h4 : (if 4 + i < 4 then (if 4 + i = 0 then t0 else if 4 + i = 1 then t1 else if 4 + i = 2 then t2 else t3) else adK (4 + i - 4)) = adK i := by
        rw [if_neg (by omega), Nat.add_sub_cancel_left]
      rw [h4]
      exact q_R hts hk i tx htx
  · refine ⟨rfl, Nat.le_refl _, fun a c hc => ?_⟩
    unfold st_h at hc
    split at hc
    · next hab =>
      cases hc
      subst hab
      exact ⟨scr, hc1, hc2, hc3, by rw [hc4]; exact Nat.le_refl _, by rw [hc4]; rfl, hc5, hA _ hbl⟩
    · split at hc
      · next i hf =>
        cases hc
        have hi : i < 18 := List.mem_range.mp (List.mem_of_find?_eq_some hf)
        have he : a = adK i := by
          have h5 := List.find?_some hf
          have h6 : a = _ := eq_of_beq h5
          rw [h6, if_neg (by omega), Nat.add_sub_cancel_left]
        rw [he]
        obtain ⟨g1, g2, g3, g4⟩ := hStr.1 i hi
        refine ⟨g1, g2, g3, ?_⟩
        dsimp only
        rw [hlen i hi]
        exact g4
      · cases hc
  · intro i hi
    have h4 : (if 4 + i < 4 then (if 4 + i = 0 then t0 else if 4 + i = 1 then t1 else if 4 + i = 2 then t2 else t3) else adK (4 + i - 4)) = adK i := by
      rw [if_neg (by omega), Nat.add_sub_cancel_left]
    rw [h4]
    obtain ⟨⟨cell, g1, -⟩, -⟩ := hStr.1 i hi
    exact ⟨(Array.getElem?_eq_some_iff.mp g1).1, hne i hi⟩
  · intro i j hi hj hij
    rw [if_neg (by omega), if_neg (by omega), Nat.add_sub_cancel_left, Nat.add_sub_cancel_left] at hij
    exact hStr.2 i j hi hj hij
