/-! what the launch gives of the texts -/
abbrev FLn : List Cond := flatC (Jvm.Cond.and given_1 narrow_1)
theorem nw_9 : (Jvm.Cond.exactly (Jvm.Term.string "AppealsDown$Letters" (35 : Nat)) "java/lang/String") ∈ FLn := List.mem_of_getElem? (i := 9) rfl
theorem nw_10 : (Jvm.Cond.eq (Jvm.Term.field (Jvm.Term.string "AppealsDown$Letters" (35 : Nat)) "java/lang/String" "coder" "B") (Jvm.Term.int (0 : Int32))) ∈ FLn := List.mem_of_getElem? (i := 10) rfl
theorem nw_11 : (Jvm.Cond.arrayOf (Jvm.Term.field (Jvm.Term.string "AppealsDown$Letters" (35 : Nat)) "java/lang/String" "value" "[B") Jvm.ClassFile.FieldType.byte) ∈ FLn := List.mem_of_getElem? (i := 11) rfl
theorem nw_12 : (Jvm.Cond.eq (Jvm.Term.length (Jvm.Term.field (Jvm.Term.string "AppealsDown$Letters" (35 : Nat)) "java/lang/String" "value" "[B")) (Jvm.Term.int (0 : Int32))) ∈ FLn := List.mem_of_getElem? (i := 12) rfl
theorem nw_23 : (Jvm.Cond.not (Jvm.Cond.eq (Jvm.Term.string "AppealsDown$Letters" (35 : Nat)) (Jvm.Term.string "AppealsDown$Letters" (23 : Nat)))) ∈ FLn := List.mem_of_getElem? (i := 23) rfl
theorem nw_31 : (Jvm.Cond.not (Jvm.Cond.eq (Jvm.Term.string "AppealsDown$Letters" (35 : Nat)) (Jvm.Term.string "AppealsDown$Letters" (25 : Nat)))) ∈ FLn := List.mem_of_getElem? (i := 31) rfl
theorem nw_42 : (Jvm.Cond.not (Jvm.Cond.eq (Jvm.Term.string "AppealsDown$Letters" (35 : Nat)) (Jvm.Term.string "AppealsDown$Letters" (27 : Nat)))) ∈ FLn := List.mem_of_getElem? (i := 42) rfl
theorem nw_54 : (Jvm.Cond.not (Jvm.Cond.eq (Jvm.Term.string "AppealsDown$Letters" (35 : Nat)) (Jvm.Term.string "AppealsDown$Letters" (29 : Nat)))) ∈ FLn := List.mem_of_getElem? (i := 54) rfl
theorem nw_65 : (Jvm.Cond.not (Jvm.Cond.eq (Jvm.Term.string "AppealsDown$Letters" (35 : Nat)) (Jvm.Term.string "AppealsDown$Letters" (31 : Nat)))) ∈ FLn := List.mem_of_getElem? (i := 65) rfl
theorem nw_76 : (Jvm.Cond.not (Jvm.Cond.eq (Jvm.Term.string "AppealsDown$Letters" (35 : Nat)) (Jvm.Term.string "AppealsDown$Letters" (33 : Nat)))) ∈ FLn := List.mem_of_getElem? (i := 76) rfl
theorem nw_13 : (Jvm.Cond.exactly (Jvm.Term.string "AppealsDown$Letters" (23 : Nat)) "java/lang/String") ∈ FLn := List.mem_of_getElem? (i := 13) rfl
theorem nw_14 : (Jvm.Cond.eq (Jvm.Term.field (Jvm.Term.string "AppealsDown$Letters" (23 : Nat)) "java/lang/String" "coder" "B") (Jvm.Term.int (0 : Int32))) ∈ FLn := List.mem_of_getElem? (i := 14) rfl
theorem nw_15 : (Jvm.Cond.arrayOf (Jvm.Term.field (Jvm.Term.string "AppealsDown$Letters" (23 : Nat)) "java/lang/String" "value" "[B") Jvm.ClassFile.FieldType.byte) ∈ FLn := List.mem_of_getElem? (i := 15) rfl
theorem nw_16 : (Jvm.Cond.eq (Jvm.Term.length (Jvm.Term.field (Jvm.Term.string "AppealsDown$Letters" (23 : Nat)) "java/lang/String" "value" "[B")) (Jvm.Term.int (6 : Int32))) ∈ FLn := List.mem_of_getElem? (i := 16) rfl
theorem nw_17 : (Jvm.Cond.eq (Jvm.Term.elem (Jvm.Term.field (Jvm.Term.string "AppealsDown$Letters" (23 : Nat)) "java/lang/String" "value" "[B") (Jvm.Term.int (0 : Int32))) (Jvm.Term.int (99 : Int32))) ∈ FLn := List.mem_of_getElem? (i := 17) rfl
theorem nw_18 : (Jvm.Cond.eq (Jvm.Term.elem (Jvm.Term.field (Jvm.Term.string "AppealsDown$Letters" (23 : Nat)) "java/lang/String" "value" "[B") (Jvm.Term.int (1 : Int32))) (Jvm.Term.int (48 : Int32))) ∈ FLn := List.mem_of_getElem? (i := 18) rfl
theorem nw_19 : (Jvm.Cond.eq (Jvm.Term.elem (Jvm.Term.field (Jvm.Term.string "AppealsDown$Letters" (23 : Nat)) "java/lang/String" "value" "[B") (Jvm.Term.int (2 : Int32))) (Jvm.Term.int (48 : Int32))) ∈ FLn := List.mem_of_getElem? (i := 19) rfl
theorem nw_20 : (Jvm.Cond.eq (Jvm.Term.elem (Jvm.Term.field (Jvm.Term.string "AppealsDown$Letters" (23 : Nat)) "java/lang/String" "value" "[B") (Jvm.Term.int (3 : Int32))) (Jvm.Term.int (48 : Int32))) ∈ FLn := List.mem_of_getElem? (i := 20) rfl
theorem nw_21 : (Jvm.Cond.eq (Jvm.Term.elem (Jvm.Term.field (Jvm.Term.string "AppealsDown$Letters" (23 : Nat)) "java/lang/String" "value" "[B") (Jvm.Term.int (4 : Int32))) (Jvm.Term.int (48 : Int32))) ∈ FLn := List.mem_of_getElem? (i := 21) rfl
theorem nw_22 : (Jvm.Cond.eq (Jvm.Term.elem (Jvm.Term.field (Jvm.Term.string "AppealsDown$Letters" (23 : Nat)) "java/lang/String" "value" "[B") (Jvm.Term.int (5 : Int32))) (Jvm.Term.int (59 : Int32))) ∈ FLn := List.mem_of_getElem? (i := 22) rfl
theorem nw_32 : (Jvm.Cond.not (Jvm.Cond.eq (Jvm.Term.string "AppealsDown$Letters" (23 : Nat)) (Jvm.Term.string "AppealsDown$Letters" (25 : Nat)))) ∈ FLn := List.mem_of_getElem? (i := 32) rfl
theorem nw_43 : (Jvm.Cond.not (Jvm.Cond.eq (Jvm.Term.string "AppealsDown$Letters" (23 : Nat)) (Jvm.Term.string "AppealsDown$Letters" (27 : Nat)))) ∈ FLn := List.mem_of_getElem? (i := 43) rfl
theorem nw_55 : (Jvm.Cond.not (Jvm.Cond.eq (Jvm.Term.string "AppealsDown$Letters" (23 : Nat)) (Jvm.Term.string "AppealsDown$Letters" (29 : Nat)))) ∈ FLn := List.mem_of_getElem? (i := 55) rfl
theorem nw_66 : (Jvm.Cond.not (Jvm.Cond.eq (Jvm.Term.string "AppealsDown$Letters" (23 : Nat)) (Jvm.Term.string "AppealsDown$Letters" (31 : Nat)))) ∈ FLn := List.mem_of_getElem? (i := 66) rfl
theorem nw_77 : (Jvm.Cond.not (Jvm.Cond.eq (Jvm.Term.string "AppealsDown$Letters" (23 : Nat)) (Jvm.Term.string "AppealsDown$Letters" (33 : Nat)))) ∈ FLn := List.mem_of_getElem? (i := 77) rfl
theorem nw_24 : (Jvm.Cond.exactly (Jvm.Term.string "AppealsDown$Letters" (25 : Nat)) "java/lang/String") ∈ FLn := List.mem_of_getElem? (i := 24) rfl
theorem nw_25 : (Jvm.Cond.eq (Jvm.Term.field (Jvm.Term.string "AppealsDown$Letters" (25 : Nat)) "java/lang/String" "coder" "B") (Jvm.Term.int (0 : Int32))) ∈ FLn := List.mem_of_getElem? (i := 25) rfl
theorem nw_26 : (Jvm.Cond.arrayOf (Jvm.Term.field (Jvm.Term.string "AppealsDown$Letters" (25 : Nat)) "java/lang/String" "value" "[B") Jvm.ClassFile.FieldType.byte) ∈ FLn := List.mem_of_getElem? (i := 26) rfl
theorem nw_27 : (Jvm.Cond.eq (Jvm.Term.length (Jvm.Term.field (Jvm.Term.string "AppealsDown$Letters" (25 : Nat)) "java/lang/String" "value" "[B")) (Jvm.Term.int (3 : Int32))) ∈ FLn := List.mem_of_getElem? (i := 27) rfl
theorem nw_28 : (Jvm.Cond.eq (Jvm.Term.elem (Jvm.Term.field (Jvm.Term.string "AppealsDown$Letters" (25 : Nat)) "java/lang/String" "value" "[B") (Jvm.Term.int (0 : Int32))) (Jvm.Term.int (110 : Int32))) ∈ FLn := List.mem_of_getElem? (i := 28) rfl
theorem nw_29 : (Jvm.Cond.eq (Jvm.Term.elem (Jvm.Term.field (Jvm.Term.string "AppealsDown$Letters" (25 : Nat)) "java/lang/String" "value" "[B") (Jvm.Term.int (1 : Int32))) (Jvm.Term.int (48 : Int32))) ∈ FLn := List.mem_of_getElem? (i := 29) rfl
theorem nw_30 : (Jvm.Cond.eq (Jvm.Term.elem (Jvm.Term.field (Jvm.Term.string "AppealsDown$Letters" (25 : Nat)) "java/lang/String" "value" "[B") (Jvm.Term.int (2 : Int32))) (Jvm.Term.int (59 : Int32))) ∈ FLn := List.mem_of_getElem? (i := 30) rfl
theorem nw_44 : (Jvm.Cond.not (Jvm.Cond.eq (Jvm.Term.string "AppealsDown$Letters" (25 : Nat)) (Jvm.Term.string "AppealsDown$Letters" (27 : Nat)))) ∈ FLn := List.mem_of_getElem? (i := 44) rfl
theorem nw_56 : (Jvm.Cond.not (Jvm.Cond.eq (Jvm.Term.string "AppealsDown$Letters" (25 : Nat)) (Jvm.Term.string "AppealsDown$Letters" (29 : Nat)))) ∈ FLn := List.mem_of_getElem? (i := 56) rfl
theorem nw_67 : (Jvm.Cond.not (Jvm.Cond.eq (Jvm.Term.string "AppealsDown$Letters" (25 : Nat)) (Jvm.Term.string "AppealsDown$Letters" (31 : Nat)))) ∈ FLn := List.mem_of_getElem? (i := 67) rfl
theorem nw_78 : (Jvm.Cond.not (Jvm.Cond.eq (Jvm.Term.string "AppealsDown$Letters" (25 : Nat)) (Jvm.Term.string "AppealsDown$Letters" (33 : Nat)))) ∈ FLn := List.mem_of_getElem? (i := 78) rfl
theorem nw_33 : (Jvm.Cond.exactly (Jvm.Term.string "AppealsDown$Letters" (27 : Nat)) "java/lang/String") ∈ FLn := List.mem_of_getElem? (i := 33) rfl
theorem nw_34 : (Jvm.Cond.eq (Jvm.Term.field (Jvm.Term.string "AppealsDown$Letters" (27 : Nat)) "java/lang/String" "coder" "B") (Jvm.Term.int (0 : Int32))) ∈ FLn := List.mem_of_getElem? (i := 34) rfl
theorem nw_35 : (Jvm.Cond.arrayOf (Jvm.Term.field (Jvm.Term.string "AppealsDown$Letters" (27 : Nat)) "java/lang/String" "value" "[B") Jvm.ClassFile.FieldType.byte) ∈ FLn := List.mem_of_getElem? (i := 35) rfl
theorem nw_36 : (Jvm.Cond.eq (Jvm.Term.length (Jvm.Term.field (Jvm.Term.string "AppealsDown$Letters" (27 : Nat)) "java/lang/String" "value" "[B")) (Jvm.Term.int (5 : Int32))) ∈ FLn := List.mem_of_getElem? (i := 36) rfl
theorem nw_37 : (Jvm.Cond.eq (Jvm.Term.elem (Jvm.Term.field (Jvm.Term.string "AppealsDown$Letters" (27 : Nat)) "java/lang/String" "value" "[B") (Jvm.Term.int (0 : Int32))) (Jvm.Term.int (112 : Int32))) ∈ FLn := List.mem_of_getElem? (i := 37) rfl
theorem nw_38 : (Jvm.Cond.eq (Jvm.Term.elem (Jvm.Term.field (Jvm.Term.string "AppealsDown$Letters" (27 : Nat)) "java/lang/String" "value" "[B") (Jvm.Term.int (1 : Int32))) (Jvm.Term.int (48 : Int32))) ∈ FLn := List.mem_of_getElem? (i := 38) rfl
theorem nw_39 : (Jvm.Cond.eq (Jvm.Term.elem (Jvm.Term.field (Jvm.Term.string "AppealsDown$Letters" (27 : Nat)) "java/lang/String" "value" "[B") (Jvm.Term.int (2 : Int32))) (Jvm.Term.int (43 : Int32))) ∈ FLn := List.mem_of_getElem? (i := 39) rfl
theorem nw_40 : (Jvm.Cond.eq (Jvm.Term.elem (Jvm.Term.field (Jvm.Term.string "AppealsDown$Letters" (27 : Nat)) "java/lang/String" "value" "[B") (Jvm.Term.int (3 : Int32))) (Jvm.Term.int (48 : Int32))) ∈ FLn := List.mem_of_getElem? (i := 40) rfl
theorem nw_41 : (Jvm.Cond.eq (Jvm.Term.elem (Jvm.Term.field (Jvm.Term.string "AppealsDown$Letters" (27 : Nat)) "java/lang/String" "value" "[B") (Jvm.Term.int (4 : Int32))) (Jvm.Term.int (59 : Int32))) ∈ FLn := List.mem_of_getElem? (i := 41) rfl
theorem nw_57 : (Jvm.Cond.not (Jvm.Cond.eq (Jvm.Term.string "AppealsDown$Letters" (27 : Nat)) (Jvm.Term.string "AppealsDown$Letters" (29 : Nat)))) ∈ FLn := List.mem_of_getElem? (i := 57) rfl
theorem nw_68 : (Jvm.Cond.not (Jvm.Cond.eq (Jvm.Term.string "AppealsDown$Letters" (27 : Nat)) (Jvm.Term.string "AppealsDown$Letters" (31 : Nat)))) ∈ FLn := List.mem_of_getElem? (i := 68) rfl
theorem nw_79 : (Jvm.Cond.not (Jvm.Cond.eq (Jvm.Term.string "AppealsDown$Letters" (27 : Nat)) (Jvm.Term.string "AppealsDown$Letters" (33 : Nat)))) ∈ FLn := List.mem_of_getElem? (i := 79) rfl
theorem nw_45 : (Jvm.Cond.exactly (Jvm.Term.string "AppealsDown$Letters" (29 : Nat)) "java/lang/String") ∈ FLn := List.mem_of_getElem? (i := 45) rfl
theorem nw_46 : (Jvm.Cond.eq (Jvm.Term.field (Jvm.Term.string "AppealsDown$Letters" (29 : Nat)) "java/lang/String" "coder" "B") (Jvm.Term.int (0 : Int32))) ∈ FLn := List.mem_of_getElem? (i := 46) rfl
theorem nw_47 : (Jvm.Cond.arrayOf (Jvm.Term.field (Jvm.Term.string "AppealsDown$Letters" (29 : Nat)) "java/lang/String" "value" "[B") Jvm.ClassFile.FieldType.byte) ∈ FLn := List.mem_of_getElem? (i := 47) rfl
theorem nw_48 : (Jvm.Cond.eq (Jvm.Term.length (Jvm.Term.field (Jvm.Term.string "AppealsDown$Letters" (29 : Nat)) "java/lang/String" "value" "[B")) (Jvm.Term.int (5 : Int32))) ∈ FLn := List.mem_of_getElem? (i := 48) rfl
theorem nw_49 : (Jvm.Cond.eq (Jvm.Term.elem (Jvm.Term.field (Jvm.Term.string "AppealsDown$Letters" (29 : Nat)) "java/lang/String" "value" "[B") (Jvm.Term.int (0 : Int32))) (Jvm.Term.int (115 : Int32))) ∈ FLn := List.mem_of_getElem? (i := 49) rfl
theorem nw_50 : (Jvm.Cond.eq (Jvm.Term.elem (Jvm.Term.field (Jvm.Term.string "AppealsDown$Letters" (29 : Nat)) "java/lang/String" "value" "[B") (Jvm.Term.int (1 : Int32))) (Jvm.Term.int (48 : Int32))) ∈ FLn := List.mem_of_getElem? (i := 50) rfl
theorem nw_51 : (Jvm.Cond.eq (Jvm.Term.elem (Jvm.Term.field (Jvm.Term.string "AppealsDown$Letters" (29 : Nat)) "java/lang/String" "value" "[B") (Jvm.Term.int (2 : Int32))) (Jvm.Term.int (48 : Int32))) ∈ FLn := List.mem_of_getElem? (i := 51) rfl
theorem nw_52 : (Jvm.Cond.eq (Jvm.Term.elem (Jvm.Term.field (Jvm.Term.string "AppealsDown$Letters" (29 : Nat)) "java/lang/String" "value" "[B") (Jvm.Term.int (3 : Int32))) (Jvm.Term.int (48 : Int32))) ∈ FLn := List.mem_of_getElem? (i := 52) rfl
theorem nw_53 : (Jvm.Cond.eq (Jvm.Term.elem (Jvm.Term.field (Jvm.Term.string "AppealsDown$Letters" (29 : Nat)) "java/lang/String" "value" "[B") (Jvm.Term.int (4 : Int32))) (Jvm.Term.int (59 : Int32))) ∈ FLn := List.mem_of_getElem? (i := 53) rfl
theorem nw_69 : (Jvm.Cond.not (Jvm.Cond.eq (Jvm.Term.string "AppealsDown$Letters" (29 : Nat)) (Jvm.Term.string "AppealsDown$Letters" (31 : Nat)))) ∈ FLn := List.mem_of_getElem? (i := 69) rfl
theorem nw_80 : (Jvm.Cond.not (Jvm.Cond.eq (Jvm.Term.string "AppealsDown$Letters" (29 : Nat)) (Jvm.Term.string "AppealsDown$Letters" (33 : Nat)))) ∈ FLn := List.mem_of_getElem? (i := 80) rfl
theorem nw_58 : (Jvm.Cond.exactly (Jvm.Term.string "AppealsDown$Letters" (31 : Nat)) "java/lang/String") ∈ FLn := List.mem_of_getElem? (i := 58) rfl
theorem nw_59 : (Jvm.Cond.eq (Jvm.Term.field (Jvm.Term.string "AppealsDown$Letters" (31 : Nat)) "java/lang/String" "coder" "B") (Jvm.Term.int (0 : Int32))) ∈ FLn := List.mem_of_getElem? (i := 59) rfl
theorem nw_60 : (Jvm.Cond.arrayOf (Jvm.Term.field (Jvm.Term.string "AppealsDown$Letters" (31 : Nat)) "java/lang/String" "value" "[B") Jvm.ClassFile.FieldType.byte) ∈ FLn := List.mem_of_getElem? (i := 60) rfl
theorem nw_61 : (Jvm.Cond.eq (Jvm.Term.length (Jvm.Term.field (Jvm.Term.string "AppealsDown$Letters" (31 : Nat)) "java/lang/String" "value" "[B")) (Jvm.Term.int (3 : Int32))) ∈ FLn := List.mem_of_getElem? (i := 61) rfl
theorem nw_62 : (Jvm.Cond.eq (Jvm.Term.elem (Jvm.Term.field (Jvm.Term.string "AppealsDown$Letters" (31 : Nat)) "java/lang/String" "value" "[B") (Jvm.Term.int (0 : Int32))) (Jvm.Term.int (108 : Int32))) ∈ FLn := List.mem_of_getElem? (i := 62) rfl
theorem nw_63 : (Jvm.Cond.eq (Jvm.Term.elem (Jvm.Term.field (Jvm.Term.string "AppealsDown$Letters" (31 : Nat)) "java/lang/String" "value" "[B") (Jvm.Term.int (1 : Int32))) (Jvm.Term.int (48 : Int32))) ∈ FLn := List.mem_of_getElem? (i := 63) rfl
theorem nw_64 : (Jvm.Cond.eq (Jvm.Term.elem (Jvm.Term.field (Jvm.Term.string "AppealsDown$Letters" (31 : Nat)) "java/lang/String" "value" "[B") (Jvm.Term.int (2 : Int32))) (Jvm.Term.int (59 : Int32))) ∈ FLn := List.mem_of_getElem? (i := 64) rfl
theorem nw_81 : (Jvm.Cond.not (Jvm.Cond.eq (Jvm.Term.string "AppealsDown$Letters" (31 : Nat)) (Jvm.Term.string "AppealsDown$Letters" (33 : Nat)))) ∈ FLn := List.mem_of_getElem? (i := 81) rfl
theorem nw_70 : (Jvm.Cond.exactly (Jvm.Term.string "AppealsDown$Letters" (33 : Nat)) "java/lang/String") ∈ FLn := List.mem_of_getElem? (i := 70) rfl
theorem nw_71 : (Jvm.Cond.eq (Jvm.Term.field (Jvm.Term.string "AppealsDown$Letters" (33 : Nat)) "java/lang/String" "coder" "B") (Jvm.Term.int (0 : Int32))) ∈ FLn := List.mem_of_getElem? (i := 71) rfl
theorem nw_72 : (Jvm.Cond.arrayOf (Jvm.Term.field (Jvm.Term.string "AppealsDown$Letters" (33 : Nat)) "java/lang/String" "value" "[B") Jvm.ClassFile.FieldType.byte) ∈ FLn := List.mem_of_getElem? (i := 72) rfl
theorem nw_73 : (Jvm.Cond.eq (Jvm.Term.length (Jvm.Term.field (Jvm.Term.string "AppealsDown$Letters" (33 : Nat)) "java/lang/String" "value" "[B")) (Jvm.Term.int (2 : Int32))) ∈ FLn := List.mem_of_getElem? (i := 73) rfl
theorem nw_74 : (Jvm.Cond.eq (Jvm.Term.elem (Jvm.Term.field (Jvm.Term.string "AppealsDown$Letters" (33 : Nat)) "java/lang/String" "value" "[B") (Jvm.Term.int (0 : Int32))) (Jvm.Term.int (117 : Int32))) ∈ FLn := List.mem_of_getElem? (i := 74) rfl
theorem nw_75 : (Jvm.Cond.eq (Jvm.Term.elem (Jvm.Term.field (Jvm.Term.string "AppealsDown$Letters" (33 : Nat)) "java/lang/String" "value" "[B") (Jvm.Term.int (1 : Int32))) (Jvm.Term.int (59 : Int32))) ∈ FLn := List.mem_of_getElem? (i := 75) rfl
theorem nw_4 : (Jvm.Cond.eq (Jvm.Term.static "java/lang/String" "COMPACT_STRINGS" "Z") (Jvm.Term.int (1 : Int32))) ∈ FLn := List.mem_of_getElem? (i := 4) rfl
theorem nw_5 : (Jvm.Cond.isRef (Jvm.Term.static "jdk/internal/util/Preconditions" "SIOOBE_FORMATTER" "Ljava/util/function/BiFunction;")) ∈ FLn := List.mem_of_getElem? (i := 5) rfl
abbrev tmS (i : Nat) : Term := .string "AppealsDown$Letters" (STx i).1
theorem tx_ex : ∀ i : Nat, i < 7 → (Cond.exactly (tmS i) "java/lang/String") ∈ FLn := by
  intro i hi
  rcases (show i = 0 ∨ i = 1 ∨ i = 2 ∨ i = 3 ∨ i = 4 ∨ i = 5 ∨ i = 6 by omega) with rfl | rfl | rfl | rfl | rfl | rfl | rfl
  · exact nw_9
  · exact nw_13
  · exact nw_24
  · exact nw_33
  · exact nw_45
  · exact nw_58
  · exact nw_70
theorem tx_co : ∀ i : Nat, i < 7 → (Cond.eq (.field (tmS i) "java/lang/String" "coder" "B") (.int 0)) ∈ FLn := by
  intro i hi
  rcases (show i = 0 ∨ i = 1 ∨ i = 2 ∨ i = 3 ∨ i = 4 ∨ i = 5 ∨ i = 6 by omega) with rfl | rfl | rfl | rfl | rfl | rfl | rfl
  · exact nw_10
  · exact nw_14
  · exact nw_25
  · exact nw_34
  · exact nw_46
  · exact nw_59
  · exact nw_71
theorem tx_ar : ∀ i : Nat, i < 7 → (Cond.arrayOf (.field (tmS i) "java/lang/String" "value" "[B") .byte) ∈ FLn := by
  intro i hi
  rcases (show i = 0 ∨ i = 1 ∨ i = 2 ∨ i = 3 ∨ i = 4 ∨ i = 5 ∨ i = 6 by omega) with rfl | rfl | rfl | rfl | rfl | rfl | rfl
  · exact nw_11
  · exact nw_15
  · exact nw_26
  · exact nw_35
  · exact nw_47
  · exact nw_60
  · exact nw_72
theorem tx_le : ∀ i : Nat, i < 7 → (Cond.eq (.length (.field (tmS i) "java/lang/String" "value" "[B")) (.int (Int32.ofNat (lenS.getD i 0)))) ∈ FLn := by
  intro i hi
  rcases (show i = 0 ∨ i = 1 ∨ i = 2 ∨ i = 3 ∨ i = 4 ∨ i = 5 ∨ i = 6 by omega) with rfl | rfl | rfl | rfl | rfl | rfl | rfl
  · exact nw_12
  · exact nw_16
  · exact nw_27
  · exact nw_36
  · exact nw_48
  · exact nw_61
  · exact nw_73
theorem tx_el : ∀ i : Nat, i < 7 → ∀ j : Nat, j < lenS.getD i 0 → (Cond.eq (.elem (.field (tmS i) "java/lang/String" "value" "[B") (.int (Int32.ofNat j))) (.int ((bytS.getD i []).getD j 0))) ∈ FLn := by
  intro i hi
  rcases (show i = 0 ∨ i = 1 ∨ i = 2 ∨ i = 3 ∨ i = 4 ∨ i = 5 ∨ i = 6 by omega) with rfl | rfl | rfl | rfl | rfl | rfl | rfl
  · intro j hj
    have hj : j < 0 := hj
    exact absurd hj (Nat.not_lt_zero j)
  · intro j hj
    have hj : j < 6 := hj
    rcases (show j = 0 ∨ j = 1 ∨ j = 2 ∨ j = 3 ∨ j = 4 ∨ j = 5 by omega) with rfl | rfl | rfl | rfl | rfl | rfl
    · rw [show (bytS.getD 1 []).getD 0 0 = (99 : Int32) by decide +kernel]; exact nw_17
    · rw [show (bytS.getD 1 []).getD 1 0 = (48 : Int32) by decide +kernel]; exact nw_18
    · rw [show (bytS.getD 1 []).getD 2 0 = (48 : Int32) by decide +kernel]; exact nw_19
    · rw [show (bytS.getD 1 []).getD 3 0 = (48 : Int32) by decide +kernel]; exact nw_20
    · rw [show (bytS.getD 1 []).getD 4 0 = (48 : Int32) by decide +kernel]; exact nw_21
    · rw [show (bytS.getD 1 []).getD 5 0 = (59 : Int32) by decide +kernel]; exact nw_22
  · intro j hj
    have hj : j < 3 := hj
    rcases (show j = 0 ∨ j = 1 ∨ j = 2 by omega) with rfl | rfl | rfl
    · rw [show (bytS.getD 2 []).getD 0 0 = (110 : Int32) by decide +kernel]; exact nw_28
    · rw [show (bytS.getD 2 []).getD 1 0 = (48 : Int32) by decide +kernel]; exact nw_29
    · rw [show (bytS.getD 2 []).getD 2 0 = (59 : Int32) by decide +kernel]; exact nw_30
  · intro j hj
    have hj : j < 5 := hj
    rcases (show j = 0 ∨ j = 1 ∨ j = 2 ∨ j = 3 ∨ j = 4 by omega) with rfl | rfl | rfl | rfl | rfl
    · rw [show (bytS.getD 3 []).getD 0 0 = (112 : Int32) by decide +kernel]; exact nw_37
    · rw [show (bytS.getD 3 []).getD 1 0 = (48 : Int32) by decide +kernel]; exact nw_38
    · rw [show (bytS.getD 3 []).getD 2 0 = (43 : Int32) by decide +kernel]; exact nw_39
    · rw [show (bytS.getD 3 []).getD 3 0 = (48 : Int32) by decide +kernel]; exact nw_40
    · rw [show (bytS.getD 3 []).getD 4 0 = (59 : Int32) by decide +kernel]; exact nw_41
  · intro j hj
    have hj : j < 5 := hj
    rcases (show j = 0 ∨ j = 1 ∨ j = 2 ∨ j = 3 ∨ j = 4 by omega) with rfl | rfl | rfl | rfl | rfl
    · rw [show (bytS.getD 4 []).getD 0 0 = (115 : Int32) by decide +kernel]; exact nw_49
    · rw [show (bytS.getD 4 []).getD 1 0 = (48 : Int32) by decide +kernel]; exact nw_50
    · rw [show (bytS.getD 4 []).getD 2 0 = (48 : Int32) by decide +kernel]; exact nw_51
    · rw [show (bytS.getD 4 []).getD 3 0 = (48 : Int32) by decide +kernel]; exact nw_52
    · rw [show (bytS.getD 4 []).getD 4 0 = (59 : Int32) by decide +kernel]; exact nw_53
  · intro j hj
    have hj : j < 3 := hj
    rcases (show j = 0 ∨ j = 1 ∨ j = 2 by omega) with rfl | rfl | rfl
    · rw [show (bytS.getD 5 []).getD 0 0 = (108 : Int32) by decide +kernel]; exact nw_62
    · rw [show (bytS.getD 5 []).getD 1 0 = (48 : Int32) by decide +kernel]; exact nw_63
    · rw [show (bytS.getD 5 []).getD 2 0 = (59 : Int32) by decide +kernel]; exact nw_64
  · intro j hj
    have hj : j < 2 := hj
    rcases (show j = 0 ∨ j = 1 by omega) with rfl | rfl
    · rw [show (bytS.getD 6 []).getD 0 0 = (117 : Int32) by decide +kernel]; exact nw_74
    · rw [show (bytS.getD 6 []).getD 1 0 = (59 : Int32) by decide +kernel]; exact nw_75
theorem tx_ne : ∀ i j : Nat, i < 7 → j < 7 → i ≠ j → (Cond.not (Cond.eq (tmS i) (tmS j))) ∈ FLn ∨ (Cond.not (Cond.eq (tmS j) (tmS i))) ∈ FLn := by
  intro i j hi hj h
  rcases (show i = 0 ∨ i = 1 ∨ i = 2 ∨ i = 3 ∨ i = 4 ∨ i = 5 ∨ i = 6 by omega) with rfl | rfl | rfl | rfl | rfl | rfl | rfl
  · rcases (show j = 0 ∨ j = 1 ∨ j = 2 ∨ j = 3 ∨ j = 4 ∨ j = 5 ∨ j = 6 by omega) with rfl | rfl | rfl | rfl | rfl | rfl | rfl
    · exact absurd rfl h
    · exact Or.inl nw_23
    · exact Or.inl nw_31
    · exact Or.inl nw_42
    · exact Or.inl nw_54
    · exact Or.inl nw_65
    · exact Or.inl nw_76
  · rcases (show j = 0 ∨ j = 1 ∨ j = 2 ∨ j = 3 ∨ j = 4 ∨ j = 5 ∨ j = 6 by omega) with rfl | rfl | rfl | rfl | rfl | rfl | rfl
    · exact Or.inr nw_23
    · exact absurd rfl h
    · exact Or.inl nw_32
    · exact Or.inl nw_43
    · exact Or.inl nw_55
    · exact Or.inl nw_66
    · exact Or.inl nw_77
  · rcases (show j = 0 ∨ j = 1 ∨ j = 2 ∨ j = 3 ∨ j = 4 ∨ j = 5 ∨ j = 6 by omega) with rfl | rfl | rfl | rfl | rfl | rfl | rfl
    · exact Or.inr nw_31
    · exact Or.inr nw_32
    · exact absurd rfl h
    · exact Or.inl nw_44
    · exact Or.inl nw_56
    · exact Or.inl nw_67
    · exact Or.inl nw_78
  · rcases (show j = 0 ∨ j = 1 ∨ j = 2 ∨ j = 3 ∨ j = 4 ∨ j = 5 ∨ j = 6 by omega) with rfl | rfl | rfl | rfl | rfl | rfl | rfl
    · exact Or.inr nw_42
    · exact Or.inr nw_43
    · exact Or.inr nw_44
    · exact absurd rfl h
    · exact Or.inl nw_57
    · exact Or.inl nw_68
    · exact Or.inl nw_79
  · rcases (show j = 0 ∨ j = 1 ∨ j = 2 ∨ j = 3 ∨ j = 4 ∨ j = 5 ∨ j = 6 by omega) with rfl | rfl | rfl | rfl | rfl | rfl | rfl
    · exact Or.inr nw_54
    · exact Or.inr nw_55
    · exact Or.inr nw_56
    · exact Or.inr nw_57
    · exact absurd rfl h
    · exact Or.inl nw_69
    · exact Or.inl nw_80
  · rcases (show j = 0 ∨ j = 1 ∨ j = 2 ∨ j = 3 ∨ j = 4 ∨ j = 5 ∨ j = 6 by omega) with rfl | rfl | rfl | rfl | rfl | rfl | rfl
    · exact Or.inr nw_65
    · exact Or.inr nw_66
    · exact Or.inr nw_67
    · exact Or.inr nw_68
    · exact Or.inr nw_69
    · exact absurd rfl h
    · exact Or.inl nw_81
  · rcases (show j = 0 ∨ j = 1 ∨ j = 2 ∨ j = 3 ∨ j = 4 ∨ j = 5 ∨ j = 6 by omega) with rfl | rfl | rfl | rfl | rfl | rfl | rfl
    · exact Or.inr nw_76
    · exact Or.inr nw_77
    · exact Or.inr nw_78
    · exact Or.inr nw_79
    · exact Or.inr nw_80
    · exact Or.inr nw_81
    · exact absurd rfl h
theorem tx_rf : ∀ i : Nat, i < 7 → (Cond.stringRef "AppealsDown$Letters" (STx i).1 (STx i).2) ∈ lw_tbl := by
  intro i hi
  rcases (show i = 0 ∨ i = 1 ∨ i = 2 ∨ i = 3 ∨ i = 4 ∨ i = 5 ∨ i = 6 by omega) with rfl | rfl | rfl | rfl | rfl | rfl | rfl
  · exact (tk_2 (i := 24) rfl)
  · exact (tk_2 (i := 38) rfl)
  · exact (tk_2 (i := 39) rfl)
  · exact (tk_2 (i := 40) rfl)
  · exact (tk_2 (i := 41) rfl)
  · exact (tk_2 (i := 42) rfl)
  · exact (tk_2 (i := 43) rfl)
def bbF (b : Nat) (adK adV : Nat → Nat) (t : Nat) (k : Nat) : Nat := if k < 3 then b else if k < 10 then adK (k - 3) else if k < 18 then adV (k - 10) else t
theorem bb_K {b t : Nat} {adK adV : Nat → Nat} {i : Nat} (h : i < 7) : bbF b adK adV t (3 + i) = adK i := by
  unfold bbF
  rw [if_neg (by omega), if_pos (by omega), Nat.add_sub_cancel_left]
theorem bb_V {b t : Nat} {adK adV : Nat → Nat} {i : Nat} (h : i < 7) : bbF b adK adV t (10 + i) = adV i := by
  unfold bbF
  rw [if_neg (by omega), if_neg (by omega), if_pos (by omega), Nat.add_sub_cancel_left]
theorem str_of {s : State} {a0 : Array Value} {A : Nat → Prop} {b : Nat} (hts : ∀ w ∈ lw_tbl, w.before a0 s = true) (hgv : (Jvm.Cond.and given_1 narrow_1).before a0 s = true) (hA : ∀ a : Nat, a < s.heap.size → ¬ A a) : ∃ bb : Nat → Nat, bb 1 = b ∧ STRf bb A s s.heap := by
  have hf := flat_of_before _ hgv
  obtain ⟨adK, adV, hS, hev⟩ := vk_Sof (args := a0) (s := s) (N := 7) (tm := tmS) (len := lenS) (byt := bytS) (A := A) (by decide) (fun i hi => hf _ (tx_ex i hi)) (fun i hi => hf _ (tx_co i hi)) (fun i hi => hf _ (tx_ar i hi)) (fun i hi => hf _ (tx_le i hi)) (fun i hi j hj => hf _ (tx_el i hi j hj)) (fun i j hi hj h => (tx_ne i j hi hj h).elim (fun z => Or.inl (hf _ z)) (fun z => Or.inr (hf _ z))) hA
  have hZ : va_Z "java/lang/String" "COMPACT_STRINGS" "Z" (.int 1) A s s.heap := va_Zof (hts _ (tk_2 (i := 34) rfl)) (hts _ wm_118) (va_eqt (hf _ nw_4)) hA
  have hq : va_Zq "jdk/internal/util/Preconditions" "SIOOBE_FORMATTER" "Ljava/util/function/BiFunction;" A s s.heap := va_Zqof (hts _ (tk_2 (i := 63) rfl)) (hts _ wm_120) (hf _ nw_5) hA
  have main : ∀ t : Nat, va_Zf (bbF b adK adV t) A s s.heap → STRf (bbF b adK adV t) A s s.heap := fun t ht => by
    refine ⟨⟨fun i hi => ?_, fun i j hi hj e => ?_⟩, fun i hi => ?_, hZ, ht⟩
    · show va_O _ (bbF b adK adV t (3 + i)) A s s.heap ∧ va_OF _ _ _ _ (bbF b adK adV t (3 + i)) A s s.heap ∧ va_OF _ _ _ (.ref (bbF b adK adV t (10 + i))) (bbF b adK adV t (3 + i)) A s s.heap ∧ va_T _ (bbF b adK adV t (10 + i)) _ _ A s s.heap
      rw [bb_K hi, bb_V hi]
      exact hS.1 i hi
    · have e : bbF b adK adV t (3 + i) = bbF b adK adV t (3 + j) := e
      rw [bb_K hi, bb_K hj] at e
      exact hS.2 i j hi hj e
    · rw [bb_K hi]
      exact vk_R.of (hts _ (tx_rf i hi)) (hev i hi)
  rcases hq with h | ⟨t, h⟩
  · exact ⟨bbF b adK adV 0, rfl, main 0 (Or.inl h)⟩
  · exact ⟨bbF b adK adV t, rfl, main t (Or.inr h)⟩
