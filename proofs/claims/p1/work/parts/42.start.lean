set_option maxRecDepth 10000 in
theorem tn_128 : Cond.instantiable "PlainPage" 8 ∈ lw_g := q_g (q_t1 (List.mem_of_getElem? (i := 22) rfl)) rfl
set_option maxRecDepth 10000 in
theorem tn_129 : Cond.instantiable "PlainPageModel" 58 ∈ lw_g := q_g (q_t5 (List.mem_of_getElem? (i := 31) rfl)) rfl
abbrev gN : Jvm.Cond := Jvm.Cond.and given_1 narrow_1
set_option maxRecDepth 100000 in
theorem gm_4 : (Jvm.Cond.eq (Jvm.Term.static "java/lang/String" "COMPACT_STRINGS" "Z") (Jvm.Term.int (1 : Int32))) ∈ flatC gN := List.mem_of_getElem? (i := 4) rfl
set_option maxRecDepth 100000 in
theorem gm_9 : (Jvm.Cond.exactly (Jvm.Term.string "PlainPage$Typist" (48 : Nat)) "java/lang/String") ∈ flatC gN := List.mem_of_getElem? (i := 9) rfl
set_option maxRecDepth 100000 in
theorem gm_10 : (Jvm.Cond.eq (Jvm.Term.field (Jvm.Term.string "PlainPage$Typist" (48 : Nat)) "java/lang/String" "coder" "B") (Jvm.Term.int (0 : Int32))) ∈ flatC gN := List.mem_of_getElem? (i := 10) rfl
set_option maxRecDepth 100000 in
theorem gm_11 : (Jvm.Cond.arrayOf (Jvm.Term.field (Jvm.Term.string "PlainPage$Typist" (48 : Nat)) "java/lang/String" "value" "[B") Jvm.ClassFile.FieldType.byte) ∈ flatC gN := List.mem_of_getElem? (i := 11) rfl
set_option maxRecDepth 100000 in
theorem gm_12 : (Jvm.Cond.eq (Jvm.Term.length (Jvm.Term.field (Jvm.Term.string "PlainPage$Typist" (48 : Nat)) "java/lang/String" "value" "[B")) (Jvm.Term.int (3 : Int32))) ∈ flatC gN := List.mem_of_getElem? (i := 12) rfl
set_option maxRecDepth 100000 in
theorem gm_13 : (Jvm.Cond.eq (Jvm.Term.elem (Jvm.Term.field (Jvm.Term.string "PlainPage$Typist" (48 : Nat)) "java/lang/String" "value" "[B") (Jvm.Term.int (0 : Int32))) (Jvm.Term.int (108 : Int32))) ∈ flatC gN := List.mem_of_getElem? (i := 13) rfl
set_option maxRecDepth 100000 in
theorem gm_14 : (Jvm.Cond.eq (Jvm.Term.elem (Jvm.Term.field (Jvm.Term.string "PlainPage$Typist" (48 : Nat)) "java/lang/String" "value" "[B") (Jvm.Term.int (1 : Int32))) (Jvm.Term.int (103 : Int32))) ∈ flatC gN := List.mem_of_getElem? (i := 14) rfl
set_option maxRecDepth 100000 in
theorem gm_15 : (Jvm.Cond.eq (Jvm.Term.elem (Jvm.Term.field (Jvm.Term.string "PlainPage$Typist" (48 : Nat)) "java/lang/String" "value" "[B") (Jvm.Term.int (2 : Int32))) (Jvm.Term.int (97 : Int32))) ∈ flatC gN := List.mem_of_getElem? (i := 15) rfl
set_option maxRecDepth 100000 in
theorem gm_16 : (Jvm.Cond.exactly (Jvm.Term.string "PlainPage$Tree" (81 : Nat)) "java/lang/String") ∈ flatC gN := List.mem_of_getElem? (i := 16) rfl
set_option maxRecDepth 100000 in
theorem gm_17 : (Jvm.Cond.eq (Jvm.Term.field (Jvm.Term.string "PlainPage$Tree" (81 : Nat)) "java/lang/String" "coder" "B") (Jvm.Term.int (0 : Int32))) ∈ flatC gN := List.mem_of_getElem? (i := 17) rfl
set_option maxRecDepth 100000 in
theorem gm_18 : (Jvm.Cond.arrayOf (Jvm.Term.field (Jvm.Term.string "PlainPage$Tree" (81 : Nat)) "java/lang/String" "value" "[B") Jvm.ClassFile.FieldType.byte) ∈ flatC gN := List.mem_of_getElem? (i := 18) rfl
set_option maxRecDepth 100000 in
theorem gm_19 : (Jvm.Cond.eq (Jvm.Term.length (Jvm.Term.field (Jvm.Term.string "PlainPage$Tree" (81 : Nat)) "java/lang/String" "value" "[B")) (Jvm.Term.int (2 : Int32))) ∈ flatC gN := List.mem_of_getElem? (i := 19) rfl
set_option maxRecDepth 100000 in
theorem gm_20 : (Jvm.Cond.eq (Jvm.Term.elem (Jvm.Term.field (Jvm.Term.string "PlainPage$Tree" (81 : Nat)) "java/lang/String" "value" "[B") (Jvm.Term.int (0 : Int32))) (Jvm.Term.int (114 : Int32))) ∈ flatC gN := List.mem_of_getElem? (i := 20) rfl
set_option maxRecDepth 100000 in
theorem gm_21 : (Jvm.Cond.eq (Jvm.Term.elem (Jvm.Term.field (Jvm.Term.string "PlainPage$Tree" (81 : Nat)) "java/lang/String" "value" "[B") (Jvm.Term.int (1 : Int32))) (Jvm.Term.int (99 : Int32))) ∈ flatC gN := List.mem_of_getElem? (i := 21) rfl
set_option maxRecDepth 100000 in
theorem gm_22 : (Jvm.Cond.not (Jvm.Cond.eq (Jvm.Term.string "PlainPage$Typist" (48 : Nat)) (Jvm.Term.string "PlainPage$Tree" (81 : Nat)))) ∈ flatC gN := List.mem_of_getElem? (i := 22) rfl
set_option maxRecDepth 100000 in
theorem gm_23 : (Jvm.Cond.exactly (Jvm.Term.string "PlainPage$OpenStack" (32 : Nat)) "java/lang/String") ∈ flatC gN := List.mem_of_getElem? (i := 23) rfl
set_option maxRecDepth 100000 in
theorem gm_24 : (Jvm.Cond.eq (Jvm.Term.field (Jvm.Term.string "PlainPage$OpenStack" (32 : Nat)) "java/lang/String" "coder" "B") (Jvm.Term.int (0 : Int32))) ∈ flatC gN := List.mem_of_getElem? (i := 24) rfl
set_option maxRecDepth 100000 in
theorem gm_25 : (Jvm.Cond.arrayOf (Jvm.Term.field (Jvm.Term.string "PlainPage$OpenStack" (32 : Nat)) "java/lang/String" "value" "[B") Jvm.ClassFile.FieldType.byte) ∈ flatC gN := List.mem_of_getElem? (i := 25) rfl
set_option maxRecDepth 100000 in
theorem gm_26 : (Jvm.Cond.eq (Jvm.Term.length (Jvm.Term.field (Jvm.Term.string "PlainPage$OpenStack" (32 : Nat)) "java/lang/String" "value" "[B")) (Jvm.Term.int (1 : Int32))) ∈ flatC gN := List.mem_of_getElem? (i := 26) rfl
set_option maxRecDepth 100000 in
theorem gm_27 : (Jvm.Cond.eq (Jvm.Term.elem (Jvm.Term.field (Jvm.Term.string "PlainPage$OpenStack" (32 : Nat)) "java/lang/String" "value" "[B") (Jvm.Term.int (0 : Int32))) (Jvm.Term.int (116 : Int32))) ∈ flatC gN := List.mem_of_getElem? (i := 27) rfl
set_option maxRecDepth 100000 in
theorem gm_28 : (Jvm.Cond.not (Jvm.Cond.eq (Jvm.Term.string "PlainPage$Typist" (48 : Nat)) (Jvm.Term.string "PlainPage$OpenStack" (32 : Nat)))) ∈ flatC gN := List.mem_of_getElem? (i := 28) rfl
set_option maxRecDepth 100000 in
theorem gm_29 : (Jvm.Cond.not (Jvm.Cond.eq (Jvm.Term.string "PlainPage$Tree" (81 : Nat)) (Jvm.Term.string "PlainPage$OpenStack" (32 : Nat)))) ∈ flatC gN := List.mem_of_getElem? (i := 29) rfl
set_option maxRecDepth 100000 in
theorem gm_30 : (Jvm.Cond.exactly (Jvm.Term.string "PlainPage$Tree" (90 : Nat)) "java/lang/String") ∈ flatC gN := List.mem_of_getElem? (i := 30) rfl
set_option maxRecDepth 100000 in
theorem gm_31 : (Jvm.Cond.eq (Jvm.Term.field (Jvm.Term.string "PlainPage$Tree" (90 : Nat)) "java/lang/String" "coder" "B") (Jvm.Term.int (0 : Int32))) ∈ flatC gN := List.mem_of_getElem? (i := 31) rfl
set_option maxRecDepth 100000 in
theorem gm_32 : (Jvm.Cond.arrayOf (Jvm.Term.field (Jvm.Term.string "PlainPage$Tree" (90 : Nat)) "java/lang/String" "value" "[B") Jvm.ClassFile.FieldType.byte) ∈ flatC gN := List.mem_of_getElem? (i := 32) rfl
set_option maxRecDepth 100000 in
theorem gm_33 : (Jvm.Cond.eq (Jvm.Term.length (Jvm.Term.field (Jvm.Term.string "PlainPage$Tree" (90 : Nat)) "java/lang/String" "value" "[B")) (Jvm.Term.int (6 : Int32))) ∈ flatC gN := List.mem_of_getElem? (i := 33) rfl
set_option maxRecDepth 100000 in
theorem gm_34 : (Jvm.Cond.eq (Jvm.Term.elem (Jvm.Term.field (Jvm.Term.string "PlainPage$Tree" (90 : Nat)) "java/lang/String" "value" "[B") (Jvm.Term.int (0 : Int32))) (Jvm.Term.int (112 : Int32))) ∈ flatC gN := List.mem_of_getElem? (i := 34) rfl
set_option maxRecDepth 100000 in
theorem gm_35 : (Jvm.Cond.eq (Jvm.Term.elem (Jvm.Term.field (Jvm.Term.string "PlainPage$Tree" (90 : Nat)) "java/lang/String" "value" "[B") (Jvm.Term.int (1 : Int32))) (Jvm.Term.int (100 : Int32))) ∈ flatC gN := List.mem_of_getElem? (i := 35) rfl
set_option maxRecDepth 100000 in
theorem gm_36 : (Jvm.Cond.eq (Jvm.Term.elem (Jvm.Term.field (Jvm.Term.string "PlainPage$Tree" (90 : Nat)) "java/lang/String" "value" "[B") (Jvm.Term.int (2 : Int32))) (Jvm.Term.int (117 : Int32))) ∈ flatC gN := List.mem_of_getElem? (i := 36) rfl
set_option maxRecDepth 100000 in
theorem gm_37 : (Jvm.Cond.eq (Jvm.Term.elem (Jvm.Term.field (Jvm.Term.string "PlainPage$Tree" (90 : Nat)) "java/lang/String" "value" "[B") (Jvm.Term.int (3 : Int32))) (Jvm.Term.int (108 : Int32))) ∈ flatC gN := List.mem_of_getElem? (i := 37) rfl
set_option maxRecDepth 100000 in
theorem gm_38 : (Jvm.Cond.eq (Jvm.Term.elem (Jvm.Term.field (Jvm.Term.string "PlainPage$Tree" (90 : Nat)) "java/lang/String" "value" "[B") (Jvm.Term.int (4 : Int32))) (Jvm.Term.int (104 : Int32))) ∈ flatC gN := List.mem_of_getElem? (i := 38) rfl
set_option maxRecDepth 100000 in
theorem gm_39 : (Jvm.Cond.eq (Jvm.Term.elem (Jvm.Term.field (Jvm.Term.string "PlainPage$Tree" (90 : Nat)) "java/lang/String" "value" "[B") (Jvm.Term.int (5 : Int32))) (Jvm.Term.int (116 : Int32))) ∈ flatC gN := List.mem_of_getElem? (i := 39) rfl
set_option maxRecDepth 100000 in
theorem gm_40 : (Jvm.Cond.not (Jvm.Cond.eq (Jvm.Term.string "PlainPage$Typist" (48 : Nat)) (Jvm.Term.string "PlainPage$Tree" (90 : Nat)))) ∈ flatC gN := List.mem_of_getElem? (i := 40) rfl
set_option maxRecDepth 100000 in
theorem gm_41 : (Jvm.Cond.not (Jvm.Cond.eq (Jvm.Term.string "PlainPage$Tree" (81 : Nat)) (Jvm.Term.string "PlainPage$Tree" (90 : Nat)))) ∈ flatC gN := List.mem_of_getElem? (i := 41) rfl
set_option maxRecDepth 100000 in
theorem gm_42 : (Jvm.Cond.not (Jvm.Cond.eq (Jvm.Term.string "PlainPage$OpenStack" (32 : Nat)) (Jvm.Term.string "PlainPage$Tree" (90 : Nat)))) ∈ flatC gN := List.mem_of_getElem? (i := 42) rfl
set_option maxRecDepth 100000 in
theorem gm_43 : (Jvm.Cond.exactly (Jvm.Term.string "PlainPage$Tree" (92 : Nat)) "java/lang/String") ∈ flatC gN := List.mem_of_getElem? (i := 43) rfl
set_option maxRecDepth 100000 in
theorem gm_44 : (Jvm.Cond.eq (Jvm.Term.field (Jvm.Term.string "PlainPage$Tree" (92 : Nat)) "java/lang/String" "coder" "B") (Jvm.Term.int (0 : Int32))) ∈ flatC gN := List.mem_of_getElem? (i := 44) rfl
set_option maxRecDepth 100000 in
theorem gm_45 : (Jvm.Cond.arrayOf (Jvm.Term.field (Jvm.Term.string "PlainPage$Tree" (92 : Nat)) "java/lang/String" "value" "[B") Jvm.ClassFile.FieldType.byte) ∈ flatC gN := List.mem_of_getElem? (i := 45) rfl
set_option maxRecDepth 100000 in
theorem gm_46 : (Jvm.Cond.eq (Jvm.Term.length (Jvm.Term.field (Jvm.Term.string "PlainPage$Tree" (92 : Nat)) "java/lang/String" "value" "[B")) (Jvm.Term.int (1 : Int32))) ∈ flatC gN := List.mem_of_getElem? (i := 46) rfl
set_option maxRecDepth 100000 in
theorem gm_47 : (Jvm.Cond.eq (Jvm.Term.elem (Jvm.Term.field (Jvm.Term.string "PlainPage$Tree" (92 : Nat)) "java/lang/String" "value" "[B") (Jvm.Term.int (0 : Int32))) (Jvm.Term.int (99 : Int32))) ∈ flatC gN := List.mem_of_getElem? (i := 47) rfl
set_option maxRecDepth 100000 in
theorem gm_48 : (Jvm.Cond.not (Jvm.Cond.eq (Jvm.Term.string "PlainPage$Typist" (48 : Nat)) (Jvm.Term.string "PlainPage$Tree" (92 : Nat)))) ∈ flatC gN := List.mem_of_getElem? (i := 48) rfl
set_option maxRecDepth 100000 in
theorem gm_49 : (Jvm.Cond.not (Jvm.Cond.eq (Jvm.Term.string "PlainPage$Tree" (81 : Nat)) (Jvm.Term.string "PlainPage$Tree" (92 : Nat)))) ∈ flatC gN := List.mem_of_getElem? (i := 49) rfl
set_option maxRecDepth 100000 in
theorem gm_50 : (Jvm.Cond.not (Jvm.Cond.eq (Jvm.Term.string "PlainPage$OpenStack" (32 : Nat)) (Jvm.Term.string "PlainPage$Tree" (92 : Nat)))) ∈ flatC gN := List.mem_of_getElem? (i := 50) rfl
set_option maxRecDepth 100000 in
theorem gm_51 : (Jvm.Cond.not (Jvm.Cond.eq (Jvm.Term.string "PlainPage$Tree" (90 : Nat)) (Jvm.Term.string "PlainPage$Tree" (92 : Nat)))) ∈ flatC gN := List.mem_of_getElem? (i := 51) rfl
set_option maxRecDepth 100000 in
theorem gm_52 : (Jvm.Cond.exactly (Jvm.Term.string "PlainPage$Tree" (104 : Nat)) "java/lang/String") ∈ flatC gN := List.mem_of_getElem? (i := 52) rfl
set_option maxRecDepth 100000 in
theorem gm_53 : (Jvm.Cond.eq (Jvm.Term.field (Jvm.Term.string "PlainPage$Tree" (104 : Nat)) "java/lang/String" "coder" "B") (Jvm.Term.int (0 : Int32))) ∈ flatC gN := List.mem_of_getElem? (i := 53) rfl
set_option maxRecDepth 100000 in
theorem gm_54 : (Jvm.Cond.arrayOf (Jvm.Term.field (Jvm.Term.string "PlainPage$Tree" (104 : Nat)) "java/lang/String" "value" "[B") Jvm.ClassFile.FieldType.byte) ∈ flatC gN := List.mem_of_getElem? (i := 54) rfl
set_option maxRecDepth 100000 in
theorem gm_55 : (Jvm.Cond.eq (Jvm.Term.length (Jvm.Term.field (Jvm.Term.string "PlainPage$Tree" (104 : Nat)) "java/lang/String" "value" "[B")) (Jvm.Term.int (2 : Int32))) ∈ flatC gN := List.mem_of_getElem? (i := 55) rfl
set_option maxRecDepth 100000 in
theorem gm_56 : (Jvm.Cond.eq (Jvm.Term.elem (Jvm.Term.field (Jvm.Term.string "PlainPage$Tree" (104 : Nat)) "java/lang/String" "value" "[B") (Jvm.Term.int (0 : Int32))) (Jvm.Term.int (117 : Int32))) ∈ flatC gN := List.mem_of_getElem? (i := 56) rfl
set_option maxRecDepth 100000 in
theorem gm_57 : (Jvm.Cond.eq (Jvm.Term.elem (Jvm.Term.field (Jvm.Term.string "PlainPage$Tree" (104 : Nat)) "java/lang/String" "value" "[B") (Jvm.Term.int (1 : Int32))) (Jvm.Term.int (99 : Int32))) ∈ flatC gN := List.mem_of_getElem? (i := 57) rfl
set_option maxRecDepth 100000 in
theorem gm_58 : (Jvm.Cond.not (Jvm.Cond.eq (Jvm.Term.string "PlainPage$Typist" (48 : Nat)) (Jvm.Term.string "PlainPage$Tree" (104 : Nat)))) ∈ flatC gN := List.mem_of_getElem? (i := 58) rfl
set_option maxRecDepth 100000 in
theorem gm_59 : (Jvm.Cond.not (Jvm.Cond.eq (Jvm.Term.string "PlainPage$Tree" (81 : Nat)) (Jvm.Term.string "PlainPage$Tree" (104 : Nat)))) ∈ flatC gN := List.mem_of_getElem? (i := 59) rfl
set_option maxRecDepth 100000 in
theorem gm_60 : (Jvm.Cond.not (Jvm.Cond.eq (Jvm.Term.string "PlainPage$OpenStack" (32 : Nat)) (Jvm.Term.string "PlainPage$Tree" (104 : Nat)))) ∈ flatC gN := List.mem_of_getElem? (i := 60) rfl
set_option maxRecDepth 100000 in
theorem gm_61 : (Jvm.Cond.not (Jvm.Cond.eq (Jvm.Term.string "PlainPage$Tree" (90 : Nat)) (Jvm.Term.string "PlainPage$Tree" (104 : Nat)))) ∈ flatC gN := List.mem_of_getElem? (i := 61) rfl
set_option maxRecDepth 100000 in
theorem gm_62 : (Jvm.Cond.not (Jvm.Cond.eq (Jvm.Term.string "PlainPage$Tree" (92 : Nat)) (Jvm.Term.string "PlainPage$Tree" (104 : Nat)))) ∈ flatC gN := List.mem_of_getElem? (i := 62) rfl
set_option maxRecDepth 100000 in
theorem gm_63 : (Jvm.Cond.exactly (Jvm.Term.string "PlainPage$Tree" (110 : Nat)) "java/lang/String") ∈ flatC gN := List.mem_of_getElem? (i := 63) rfl
set_option maxRecDepth 100000 in
theorem gm_64 : (Jvm.Cond.eq (Jvm.Term.field (Jvm.Term.string "PlainPage$Tree" (110 : Nat)) "java/lang/String" "coder" "B") (Jvm.Term.int (0 : Int32))) ∈ flatC gN := List.mem_of_getElem? (i := 64) rfl
set_option maxRecDepth 100000 in
theorem gm_65 : (Jvm.Cond.arrayOf (Jvm.Term.field (Jvm.Term.string "PlainPage$Tree" (110 : Nat)) "java/lang/String" "value" "[B") Jvm.ClassFile.FieldType.byte) ∈ flatC gN := List.mem_of_getElem? (i := 65) rfl
set_option maxRecDepth 100000 in
theorem gm_66 : (Jvm.Cond.eq (Jvm.Term.length (Jvm.Term.field (Jvm.Term.string "PlainPage$Tree" (110 : Nat)) "java/lang/String" "value" "[B")) (Jvm.Term.int (2 : Int32))) ∈ flatC gN := List.mem_of_getElem? (i := 66) rfl
set_option maxRecDepth 100000 in
theorem gm_67 : (Jvm.Cond.eq (Jvm.Term.elem (Jvm.Term.field (Jvm.Term.string "PlainPage$Tree" (110 : Nat)) "java/lang/String" "value" "[B") (Jvm.Term.int (0 : Int32))) (Jvm.Term.int (104 : Int32))) ∈ flatC gN := List.mem_of_getElem? (i := 67) rfl
set_option maxRecDepth 100000 in
theorem gm_68 : (Jvm.Cond.eq (Jvm.Term.elem (Jvm.Term.field (Jvm.Term.string "PlainPage$Tree" (110 : Nat)) "java/lang/String" "value" "[B") (Jvm.Term.int (1 : Int32))) (Jvm.Term.int (107 : Int32))) ∈ flatC gN := List.mem_of_getElem? (i := 68) rfl
set_option maxRecDepth 100000 in
theorem gm_69 : (Jvm.Cond.not (Jvm.Cond.eq (Jvm.Term.string "PlainPage$Typist" (48 : Nat)) (Jvm.Term.string "PlainPage$Tree" (110 : Nat)))) ∈ flatC gN := List.mem_of_getElem? (i := 69) rfl
set_option maxRecDepth 100000 in
theorem gm_70 : (Jvm.Cond.not (Jvm.Cond.eq (Jvm.Term.string "PlainPage$Tree" (81 : Nat)) (Jvm.Term.string "PlainPage$Tree" (110 : Nat)))) ∈ flatC gN := List.mem_of_getElem? (i := 70) rfl
set_option maxRecDepth 100000 in
theorem gm_71 : (Jvm.Cond.not (Jvm.Cond.eq (Jvm.Term.string "PlainPage$OpenStack" (32 : Nat)) (Jvm.Term.string "PlainPage$Tree" (110 : Nat)))) ∈ flatC gN := List.mem_of_getElem? (i := 71) rfl
set_option maxRecDepth 100000 in
theorem gm_72 : (Jvm.Cond.not (Jvm.Cond.eq (Jvm.Term.string "PlainPage$Tree" (90 : Nat)) (Jvm.Term.string "PlainPage$Tree" (110 : Nat)))) ∈ flatC gN := List.mem_of_getElem? (i := 72) rfl
set_option maxRecDepth 100000 in
theorem gm_73 : (Jvm.Cond.not (Jvm.Cond.eq (Jvm.Term.string "PlainPage$Tree" (92 : Nat)) (Jvm.Term.string "PlainPage$Tree" (110 : Nat)))) ∈ flatC gN := List.mem_of_getElem? (i := 73) rfl
set_option maxRecDepth 100000 in
theorem gm_74 : (Jvm.Cond.not (Jvm.Cond.eq (Jvm.Term.string "PlainPage$Tree" (104 : Nat)) (Jvm.Term.string "PlainPage$Tree" (110 : Nat)))) ∈ flatC gN := List.mem_of_getElem? (i := 74) rfl
set_option maxRecDepth 100000 in
theorem gm_75 : (Jvm.Cond.exactly (Jvm.Term.string "PlainPage$Tree" (112 : Nat)) "java/lang/String") ∈ flatC gN := List.mem_of_getElem? (i := 75) rfl
set_option maxRecDepth 100000 in
theorem gm_76 : (Jvm.Cond.eq (Jvm.Term.field (Jvm.Term.string "PlainPage$Tree" (112 : Nat)) "java/lang/String" "coder" "B") (Jvm.Term.int (0 : Int32))) ∈ flatC gN := List.mem_of_getElem? (i := 76) rfl
set_option maxRecDepth 100000 in
theorem gm_77 : (Jvm.Cond.arrayOf (Jvm.Term.field (Jvm.Term.string "PlainPage$Tree" (112 : Nat)) "java/lang/String" "value" "[B") Jvm.ClassFile.FieldType.byte) ∈ flatC gN := List.mem_of_getElem? (i := 77) rfl
set_option maxRecDepth 100000 in
theorem gm_78 : (Jvm.Cond.eq (Jvm.Term.length (Jvm.Term.field (Jvm.Term.string "PlainPage$Tree" (112 : Nat)) "java/lang/String" "value" "[B")) (Jvm.Term.int (3 : Int32))) ∈ flatC gN := List.mem_of_getElem? (i := 78) rfl
set_option maxRecDepth 100000 in
theorem gm_79 : (Jvm.Cond.eq (Jvm.Term.elem (Jvm.Term.field (Jvm.Term.string "PlainPage$Tree" (112 : Nat)) "java/lang/String" "value" "[B") (Jvm.Term.int (0 : Int32))) (Jvm.Term.int (98 : Int32))) ∈ flatC gN := List.mem_of_getElem? (i := 79) rfl
set_option maxRecDepth 100000 in
theorem gm_80 : (Jvm.Cond.eq (Jvm.Term.elem (Jvm.Term.field (Jvm.Term.string "PlainPage$Tree" (112 : Nat)) "java/lang/String" "value" "[B") (Jvm.Term.int (1 : Int32))) (Jvm.Term.int (105 : Int32))) ∈ flatC gN := List.mem_of_getElem? (i := 80) rfl
set_option maxRecDepth 100000 in
theorem gm_81 : (Jvm.Cond.eq (Jvm.Term.elem (Jvm.Term.field (Jvm.Term.string "PlainPage$Tree" (112 : Nat)) "java/lang/String" "value" "[B") (Jvm.Term.int (2 : Int32))) (Jvm.Term.int (115 : Int32))) ∈ flatC gN := List.mem_of_getElem? (i := 81) rfl
set_option maxRecDepth 100000 in
theorem gm_82 : (Jvm.Cond.not (Jvm.Cond.eq (Jvm.Term.string "PlainPage$Typist" (48 : Nat)) (Jvm.Term.string "PlainPage$Tree" (112 : Nat)))) ∈ flatC gN := List.mem_of_getElem? (i := 82) rfl
set_option maxRecDepth 100000 in
theorem gm_83 : (Jvm.Cond.not (Jvm.Cond.eq (Jvm.Term.string "PlainPage$Tree" (81 : Nat)) (Jvm.Term.string "PlainPage$Tree" (112 : Nat)))) ∈ flatC gN := List.mem_of_getElem? (i := 83) rfl
set_option maxRecDepth 100000 in
theorem gm_84 : (Jvm.Cond.not (Jvm.Cond.eq (Jvm.Term.string "PlainPage$OpenStack" (32 : Nat)) (Jvm.Term.string "PlainPage$Tree" (112 : Nat)))) ∈ flatC gN := List.mem_of_getElem? (i := 84) rfl
set_option maxRecDepth 100000 in
theorem gm_85 : (Jvm.Cond.not (Jvm.Cond.eq (Jvm.Term.string "PlainPage$Tree" (90 : Nat)) (Jvm.Term.string "PlainPage$Tree" (112 : Nat)))) ∈ flatC gN := List.mem_of_getElem? (i := 85) rfl
set_option maxRecDepth 100000 in
theorem gm_86 : (Jvm.Cond.not (Jvm.Cond.eq (Jvm.Term.string "PlainPage$Tree" (92 : Nat)) (Jvm.Term.string "PlainPage$Tree" (112 : Nat)))) ∈ flatC gN := List.mem_of_getElem? (i := 86) rfl
set_option maxRecDepth 100000 in
theorem gm_87 : (Jvm.Cond.not (Jvm.Cond.eq (Jvm.Term.string "PlainPage$Tree" (104 : Nat)) (Jvm.Term.string "PlainPage$Tree" (112 : Nat)))) ∈ flatC gN := List.mem_of_getElem? (i := 87) rfl
set_option maxRecDepth 100000 in
theorem gm_88 : (Jvm.Cond.not (Jvm.Cond.eq (Jvm.Term.string "PlainPage$Tree" (110 : Nat)) (Jvm.Term.string "PlainPage$Tree" (112 : Nat)))) ∈ flatC gN := List.mem_of_getElem? (i := 88) rfl
set_option maxRecDepth 100000 in
theorem gm_96 : (Jvm.Cond.eq (Jvm.Term.string "PlainPage$OpenStack" (32 : Nat)) (Jvm.Term.string "PlainPage$Tree" (138 : Nat))) ∈ flatC gN := List.mem_of_getElem? (i := 96) rfl
set_option maxRecDepth 100000 in
theorem gm_102 : (Jvm.Cond.exactly (Jvm.Term.string "PlainPage$Tree" (147 : Nat)) "java/lang/String") ∈ flatC gN := List.mem_of_getElem? (i := 102) rfl
set_option maxRecDepth 100000 in
theorem gm_103 : (Jvm.Cond.eq (Jvm.Term.field (Jvm.Term.string "PlainPage$Tree" (147 : Nat)) "java/lang/String" "coder" "B") (Jvm.Term.int (0 : Int32))) ∈ flatC gN := List.mem_of_getElem? (i := 103) rfl
set_option maxRecDepth 100000 in
theorem gm_104 : (Jvm.Cond.arrayOf (Jvm.Term.field (Jvm.Term.string "PlainPage$Tree" (147 : Nat)) "java/lang/String" "value" "[B") Jvm.ClassFile.FieldType.byte) ∈ flatC gN := List.mem_of_getElem? (i := 104) rfl
set_option maxRecDepth 100000 in
theorem gm_105 : (Jvm.Cond.eq (Jvm.Term.length (Jvm.Term.field (Jvm.Term.string "PlainPage$Tree" (147 : Nat)) "java/lang/String" "value" "[B")) (Jvm.Term.int (8 : Int32))) ∈ flatC gN := List.mem_of_getElem? (i := 105) rfl
set_option maxRecDepth 100000 in
theorem gm_106 : (Jvm.Cond.eq (Jvm.Term.elem (Jvm.Term.field (Jvm.Term.string "PlainPage$Tree" (147 : Nat)) "java/lang/String" "value" "[B") (Jvm.Term.int (0 : Int32))) (Jvm.Term.int (112 : Int32))) ∈ flatC gN := List.mem_of_getElem? (i := 106) rfl
set_option maxRecDepth 100000 in
theorem gm_107 : (Jvm.Cond.eq (Jvm.Term.elem (Jvm.Term.field (Jvm.Term.string "PlainPage$Tree" (147 : Nat)) "java/lang/String" "value" "[B") (Jvm.Term.int (1 : Int32))) (Jvm.Term.int (100 : Int32))) ∈ flatC gN := List.mem_of_getElem? (i := 107) rfl
set_option maxRecDepth 100000 in
theorem gm_108 : (Jvm.Cond.eq (Jvm.Term.elem (Jvm.Term.field (Jvm.Term.string "PlainPage$Tree" (147 : Nat)) "java/lang/String" "value" "[B") (Jvm.Term.int (2 : Int32))) (Jvm.Term.int (117 : Int32))) ∈ flatC gN := List.mem_of_getElem? (i := 108) rfl
set_option maxRecDepth 100000 in
theorem gm_109 : (Jvm.Cond.eq (Jvm.Term.elem (Jvm.Term.field (Jvm.Term.string "PlainPage$Tree" (147 : Nat)) "java/lang/String" "value" "[B") (Jvm.Term.int (3 : Int32))) (Jvm.Term.int (108 : Int32))) ∈ flatC gN := List.mem_of_getElem? (i := 109) rfl
set_option maxRecDepth 100000 in
theorem gm_110 : (Jvm.Cond.eq (Jvm.Term.elem (Jvm.Term.field (Jvm.Term.string "PlainPage$Tree" (147 : Nat)) "java/lang/String" "value" "[B") (Jvm.Term.int (4 : Int32))) (Jvm.Term.int (104 : Int32))) ∈ flatC gN := List.mem_of_getElem? (i := 110) rfl
set_option maxRecDepth 100000 in
theorem gm_111 : (Jvm.Cond.eq (Jvm.Term.elem (Jvm.Term.field (Jvm.Term.string "PlainPage$Tree" (147 : Nat)) "java/lang/String" "value" "[B") (Jvm.Term.int (5 : Int32))) (Jvm.Term.int (116 : Int32))) ∈ flatC gN := List.mem_of_getElem? (i := 111) rfl
set_option maxRecDepth 100000 in
theorem gm_112 : (Jvm.Cond.eq (Jvm.Term.elem (Jvm.Term.field (Jvm.Term.string "PlainPage$Tree" (147 : Nat)) "java/lang/String" "value" "[B") (Jvm.Term.int (6 : Int32))) (Jvm.Term.int (114 : Int32))) ∈ flatC gN := List.mem_of_getElem? (i := 112) rfl
set_option maxRecDepth 100000 in
theorem gm_113 : (Jvm.Cond.eq (Jvm.Term.elem (Jvm.Term.field (Jvm.Term.string "PlainPage$Tree" (147 : Nat)) "java/lang/String" "value" "[B") (Jvm.Term.int (7 : Int32))) (Jvm.Term.int (99 : Int32))) ∈ flatC gN := List.mem_of_getElem? (i := 113) rfl
set_option maxRecDepth 100000 in
theorem gm_114 : (Jvm.Cond.not (Jvm.Cond.eq (Jvm.Term.string "PlainPage$Typist" (48 : Nat)) (Jvm.Term.string "PlainPage$Tree" (147 : Nat)))) ∈ flatC gN := List.mem_of_getElem? (i := 114) rfl
set_option maxRecDepth 100000 in
theorem gm_115 : (Jvm.Cond.not (Jvm.Cond.eq (Jvm.Term.string "PlainPage$Tree" (81 : Nat)) (Jvm.Term.string "PlainPage$Tree" (147 : Nat)))) ∈ flatC gN := List.mem_of_getElem? (i := 115) rfl
set_option maxRecDepth 100000 in
theorem gm_116 : (Jvm.Cond.not (Jvm.Cond.eq (Jvm.Term.string "PlainPage$OpenStack" (32 : Nat)) (Jvm.Term.string "PlainPage$Tree" (147 : Nat)))) ∈ flatC gN := List.mem_of_getElem? (i := 116) rfl
set_option maxRecDepth 100000 in
theorem gm_117 : (Jvm.Cond.not (Jvm.Cond.eq (Jvm.Term.string "PlainPage$Tree" (90 : Nat)) (Jvm.Term.string "PlainPage$Tree" (147 : Nat)))) ∈ flatC gN := List.mem_of_getElem? (i := 117) rfl
set_option maxRecDepth 100000 in
theorem gm_118 : (Jvm.Cond.not (Jvm.Cond.eq (Jvm.Term.string "PlainPage$Tree" (92 : Nat)) (Jvm.Term.string "PlainPage$Tree" (147 : Nat)))) ∈ flatC gN := List.mem_of_getElem? (i := 118) rfl
set_option maxRecDepth 100000 in
theorem gm_119 : (Jvm.Cond.not (Jvm.Cond.eq (Jvm.Term.string "PlainPage$Tree" (104 : Nat)) (Jvm.Term.string "PlainPage$Tree" (147 : Nat)))) ∈ flatC gN := List.mem_of_getElem? (i := 119) rfl
set_option maxRecDepth 100000 in
theorem gm_120 : (Jvm.Cond.not (Jvm.Cond.eq (Jvm.Term.string "PlainPage$Tree" (110 : Nat)) (Jvm.Term.string "PlainPage$Tree" (147 : Nat)))) ∈ flatC gN := List.mem_of_getElem? (i := 120) rfl
set_option maxRecDepth 100000 in
theorem gm_121 : (Jvm.Cond.not (Jvm.Cond.eq (Jvm.Term.string "PlainPage$Tree" (112 : Nat)) (Jvm.Term.string "PlainPage$Tree" (147 : Nat)))) ∈ flatC gN := List.mem_of_getElem? (i := 121) rfl
set_option maxRecDepth 100000 in
theorem gm_123 : (Jvm.Cond.exactly (Jvm.Term.string "PlainPage$Rule" (66 : Nat)) "java/lang/String") ∈ flatC gN := List.mem_of_getElem? (i := 123) rfl
set_option maxRecDepth 100000 in
theorem gm_124 : (Jvm.Cond.eq (Jvm.Term.field (Jvm.Term.string "PlainPage$Rule" (66 : Nat)) "java/lang/String" "coder" "B") (Jvm.Term.int (0 : Int32))) ∈ flatC gN := List.mem_of_getElem? (i := 124) rfl
set_option maxRecDepth 100000 in
theorem gm_125 : (Jvm.Cond.arrayOf (Jvm.Term.field (Jvm.Term.string "PlainPage$Rule" (66 : Nat)) "java/lang/String" "value" "[B") Jvm.ClassFile.FieldType.byte) ∈ flatC gN := List.mem_of_getElem? (i := 125) rfl
set_option maxRecDepth 100000 in
theorem gm_126 : (Jvm.Cond.eq (Jvm.Term.length (Jvm.Term.field (Jvm.Term.string "PlainPage$Rule" (66 : Nat)) "java/lang/String" "value" "[B")) (Jvm.Term.int (7 : Int32))) ∈ flatC gN := List.mem_of_getElem? (i := 126) rfl
set_option maxRecDepth 100000 in
theorem gm_127 : (Jvm.Cond.eq (Jvm.Term.elem (Jvm.Term.field (Jvm.Term.string "PlainPage$Rule" (66 : Nat)) "java/lang/String" "value" "[B") (Jvm.Term.int (0 : Int32))) (Jvm.Term.int (99 : Int32))) ∈ flatC gN := List.mem_of_getElem? (i := 127) rfl
set_option maxRecDepth 100000 in
theorem gm_128 : (Jvm.Cond.eq (Jvm.Term.elem (Jvm.Term.field (Jvm.Term.string "PlainPage$Rule" (66 : Nat)) "java/lang/String" "value" "[B") (Jvm.Term.int (1 : Int32))) (Jvm.Term.int (98 : Int32))) ∈ flatC gN := List.mem_of_getElem? (i := 128) rfl
set_option maxRecDepth 100000 in
theorem gm_129 : (Jvm.Cond.eq (Jvm.Term.elem (Jvm.Term.field (Jvm.Term.string "PlainPage$Rule" (66 : Nat)) "java/lang/String" "value" "[B") (Jvm.Term.int (2 : Int32))) (Jvm.Term.int (115 : Int32))) ∈ flatC gN := List.mem_of_getElem? (i := 129) rfl
set_option maxRecDepth 100000 in
theorem gm_130 : (Jvm.Cond.eq (Jvm.Term.elem (Jvm.Term.field (Jvm.Term.string "PlainPage$Rule" (66 : Nat)) "java/lang/String" "value" "[B") (Jvm.Term.int (3 : Int32))) (Jvm.Term.int (100 : Int32))) ∈ flatC gN := List.mem_of_getElem? (i := 130) rfl
set_option maxRecDepth 100000 in
theorem gm_131 : (Jvm.Cond.eq (Jvm.Term.elem (Jvm.Term.field (Jvm.Term.string "PlainPage$Rule" (66 : Nat)) "java/lang/String" "value" "[B") (Jvm.Term.int (4 : Int32))) (Jvm.Term.int (109 : Int32))) ∈ flatC gN := List.mem_of_getElem? (i := 131) rfl
set_option maxRecDepth 100000 in
theorem gm_132 : (Jvm.Cond.eq (Jvm.Term.elem (Jvm.Term.field (Jvm.Term.string "PlainPage$Rule" (66 : Nat)) "java/lang/String" "value" "[B") (Jvm.Term.int (5 : Int32))) (Jvm.Term.int (112 : Int32))) ∈ flatC gN := List.mem_of_getElem? (i := 132) rfl
set_option maxRecDepth 100000 in
theorem gm_133 : (Jvm.Cond.eq (Jvm.Term.elem (Jvm.Term.field (Jvm.Term.string "PlainPage$Rule" (66 : Nat)) "java/lang/String" "value" "[B") (Jvm.Term.int (6 : Int32))) (Jvm.Term.int (119 : Int32))) ∈ flatC gN := List.mem_of_getElem? (i := 133) rfl
set_option maxRecDepth 100000 in
theorem gm_134 : (Jvm.Cond.not (Jvm.Cond.eq (Jvm.Term.string "PlainPage$Typist" (48 : Nat)) (Jvm.Term.string "PlainPage$Rule" (66 : Nat)))) ∈ flatC gN := List.mem_of_getElem? (i := 134) rfl
set_option maxRecDepth 100000 in
theorem gm_135 : (Jvm.Cond.not (Jvm.Cond.eq (Jvm.Term.string "PlainPage$Tree" (81 : Nat)) (Jvm.Term.string "PlainPage$Rule" (66 : Nat)))) ∈ flatC gN := List.mem_of_getElem? (i := 135) rfl
set_option maxRecDepth 100000 in
theorem gm_136 : (Jvm.Cond.not (Jvm.Cond.eq (Jvm.Term.string "PlainPage$OpenStack" (32 : Nat)) (Jvm.Term.string "PlainPage$Rule" (66 : Nat)))) ∈ flatC gN := List.mem_of_getElem? (i := 136) rfl
set_option maxRecDepth 100000 in
theorem gm_137 : (Jvm.Cond.not (Jvm.Cond.eq (Jvm.Term.string "PlainPage$Tree" (90 : Nat)) (Jvm.Term.string "PlainPage$Rule" (66 : Nat)))) ∈ flatC gN := List.mem_of_getElem? (i := 137) rfl
set_option maxRecDepth 100000 in
theorem gm_138 : (Jvm.Cond.not (Jvm.Cond.eq (Jvm.Term.string "PlainPage$Tree" (92 : Nat)) (Jvm.Term.string "PlainPage$Rule" (66 : Nat)))) ∈ flatC gN := List.mem_of_getElem? (i := 138) rfl
set_option maxRecDepth 100000 in
theorem gm_139 : (Jvm.Cond.not (Jvm.Cond.eq (Jvm.Term.string "PlainPage$Tree" (104 : Nat)) (Jvm.Term.string "PlainPage$Rule" (66 : Nat)))) ∈ flatC gN := List.mem_of_getElem? (i := 139) rfl
set_option maxRecDepth 100000 in
theorem gm_140 : (Jvm.Cond.not (Jvm.Cond.eq (Jvm.Term.string "PlainPage$Tree" (110 : Nat)) (Jvm.Term.string "PlainPage$Rule" (66 : Nat)))) ∈ flatC gN := List.mem_of_getElem? (i := 140) rfl
set_option maxRecDepth 100000 in
theorem gm_141 : (Jvm.Cond.not (Jvm.Cond.eq (Jvm.Term.string "PlainPage$Tree" (112 : Nat)) (Jvm.Term.string "PlainPage$Rule" (66 : Nat)))) ∈ flatC gN := List.mem_of_getElem? (i := 141) rfl
set_option maxRecDepth 100000 in
theorem gm_143 : (Jvm.Cond.not (Jvm.Cond.eq (Jvm.Term.string "PlainPage$Tree" (147 : Nat)) (Jvm.Term.string "PlainPage$Rule" (66 : Nat)))) ∈ flatC gN := List.mem_of_getElem? (i := 143) rfl
set_option maxRecDepth 100000 in
theorem gm_144 : (Jvm.Cond.exactly (Jvm.Term.string "PlainPage$Rule" (81 : Nat)) "java/lang/String") ∈ flatC gN := List.mem_of_getElem? (i := 144) rfl
set_option maxRecDepth 100000 in
theorem gm_145 : (Jvm.Cond.eq (Jvm.Term.field (Jvm.Term.string "PlainPage$Rule" (81 : Nat)) "java/lang/String" "coder" "B") (Jvm.Term.int (0 : Int32))) ∈ flatC gN := List.mem_of_getElem? (i := 145) rfl
set_option maxRecDepth 100000 in
theorem gm_146 : (Jvm.Cond.arrayOf (Jvm.Term.field (Jvm.Term.string "PlainPage$Rule" (81 : Nat)) "java/lang/String" "value" "[B") Jvm.ClassFile.FieldType.byte) ∈ flatC gN := List.mem_of_getElem? (i := 146) rfl
set_option maxRecDepth 100000 in
theorem gm_147 : (Jvm.Cond.eq (Jvm.Term.length (Jvm.Term.field (Jvm.Term.string "PlainPage$Rule" (81 : Nat)) "java/lang/String" "value" "[B")) (Jvm.Term.int (3 : Int32))) ∈ flatC gN := List.mem_of_getElem? (i := 147) rfl
set_option maxRecDepth 100000 in
theorem gm_148 : (Jvm.Cond.eq (Jvm.Term.elem (Jvm.Term.field (Jvm.Term.string "PlainPage$Rule" (81 : Nat)) "java/lang/String" "value" "[B") (Jvm.Term.int (0 : Int32))) (Jvm.Term.int (98 : Int32))) ∈ flatC gN := List.mem_of_getElem? (i := 148) rfl
set_option maxRecDepth 100000 in
theorem gm_149 : (Jvm.Cond.eq (Jvm.Term.elem (Jvm.Term.field (Jvm.Term.string "PlainPage$Rule" (81 : Nat)) "java/lang/String" "value" "[B") (Jvm.Term.int (1 : Int32))) (Jvm.Term.int (105 : Int32))) ∈ flatC gN := List.mem_of_getElem? (i := 149) rfl
set_option maxRecDepth 100000 in
theorem gm_150 : (Jvm.Cond.eq (Jvm.Term.elem (Jvm.Term.field (Jvm.Term.string "PlainPage$Rule" (81 : Nat)) "java/lang/String" "value" "[B") (Jvm.Term.int (2 : Int32))) (Jvm.Term.int (110 : Int32))) ∈ flatC gN := List.mem_of_getElem? (i := 150) rfl
set_option maxRecDepth 100000 in
theorem gm_151 : (Jvm.Cond.not (Jvm.Cond.eq (Jvm.Term.string "PlainPage$Typist" (48 : Nat)) (Jvm.Term.string "PlainPage$Rule" (81 : Nat)))) ∈ flatC gN := List.mem_of_getElem? (i := 151) rfl
set_option maxRecDepth 100000 in
theorem gm_152 : (Jvm.Cond.not (Jvm.Cond.eq (Jvm.Term.string "PlainPage$Tree" (81 : Nat)) (Jvm.Term.string "PlainPage$Rule" (81 : Nat)))) ∈ flatC gN := List.mem_of_getElem? (i := 152) rfl
set_option maxRecDepth 100000 in
theorem gm_153 : (Jvm.Cond.not (Jvm.Cond.eq (Jvm.Term.string "PlainPage$OpenStack" (32 : Nat)) (Jvm.Term.string "PlainPage$Rule" (81 : Nat)))) ∈ flatC gN := List.mem_of_getElem? (i := 153) rfl
set_option maxRecDepth 100000 in
theorem gm_154 : (Jvm.Cond.not (Jvm.Cond.eq (Jvm.Term.string "PlainPage$Tree" (90 : Nat)) (Jvm.Term.string "PlainPage$Rule" (81 : Nat)))) ∈ flatC gN := List.mem_of_getElem? (i := 154) rfl
set_option maxRecDepth 100000 in
theorem gm_155 : (Jvm.Cond.not (Jvm.Cond.eq (Jvm.Term.string "PlainPage$Tree" (92 : Nat)) (Jvm.Term.string "PlainPage$Rule" (81 : Nat)))) ∈ flatC gN := List.mem_of_getElem? (i := 155) rfl
set_option maxRecDepth 100000 in
theorem gm_156 : (Jvm.Cond.not (Jvm.Cond.eq (Jvm.Term.string "PlainPage$Tree" (104 : Nat)) (Jvm.Term.string "PlainPage$Rule" (81 : Nat)))) ∈ flatC gN := List.mem_of_getElem? (i := 156) rfl
set_option maxRecDepth 100000 in
theorem gm_157 : (Jvm.Cond.not (Jvm.Cond.eq (Jvm.Term.string "PlainPage$Tree" (110 : Nat)) (Jvm.Term.string "PlainPage$Rule" (81 : Nat)))) ∈ flatC gN := List.mem_of_getElem? (i := 157) rfl
set_option maxRecDepth 100000 in
theorem gm_158 : (Jvm.Cond.not (Jvm.Cond.eq (Jvm.Term.string "PlainPage$Tree" (112 : Nat)) (Jvm.Term.string "PlainPage$Rule" (81 : Nat)))) ∈ flatC gN := List.mem_of_getElem? (i := 158) rfl
set_option maxRecDepth 100000 in
theorem gm_160 : (Jvm.Cond.not (Jvm.Cond.eq (Jvm.Term.string "PlainPage$Tree" (147 : Nat)) (Jvm.Term.string "PlainPage$Rule" (81 : Nat)))) ∈ flatC gN := List.mem_of_getElem? (i := 160) rfl
set_option maxRecDepth 100000 in
theorem gm_161 : (Jvm.Cond.not (Jvm.Cond.eq (Jvm.Term.string "PlainPage$Rule" (66 : Nat)) (Jvm.Term.string "PlainPage$Rule" (81 : Nat)))) ∈ flatC gN := List.mem_of_getElem? (i := 161) rfl
set_option maxRecDepth 100000 in
theorem gm_183 : (Jvm.Cond.eq (Jvm.Term.string "PlainPage$Rule" (66 : Nat)) (Jvm.Term.string "PlainPage" (110 : Nat))) ∈ flatC gN := List.mem_of_getElem? (i := 183) rfl
set_option maxRecDepth 100000 in
theorem gm_206 : (Jvm.Cond.eq (Jvm.Term.string "PlainPage$Tree" (147 : Nat)) (Jvm.Term.string "PlainPage$Sheet" (84 : Nat))) ∈ flatC gN := List.mem_of_getElem? (i := 206) rfl
set_option maxRecDepth 100000 in
theorem gm_210 : (Jvm.Cond.exactly (Jvm.Term.string "PlainPage$Sheet" (98 : Nat)) "java/lang/String") ∈ flatC gN := List.mem_of_getElem? (i := 210) rfl
set_option maxRecDepth 100000 in
theorem gm_211 : (Jvm.Cond.eq (Jvm.Term.field (Jvm.Term.string "PlainPage$Sheet" (98 : Nat)) "java/lang/String" "coder" "B") (Jvm.Term.int (0 : Int32))) ∈ flatC gN := List.mem_of_getElem? (i := 211) rfl
set_option maxRecDepth 100000 in
theorem gm_212 : (Jvm.Cond.arrayOf (Jvm.Term.field (Jvm.Term.string "PlainPage$Sheet" (98 : Nat)) "java/lang/String" "value" "[B") Jvm.ClassFile.FieldType.byte) ∈ flatC gN := List.mem_of_getElem? (i := 212) rfl
set_option maxRecDepth 100000 in
theorem gm_213 : (Jvm.Cond.eq (Jvm.Term.length (Jvm.Term.field (Jvm.Term.string "PlainPage$Sheet" (98 : Nat)) "java/lang/String" "value" "[B")) (Jvm.Term.int (3 : Int32))) ∈ flatC gN := List.mem_of_getElem? (i := 213) rfl
set_option maxRecDepth 100000 in
theorem gm_214 : (Jvm.Cond.eq (Jvm.Term.elem (Jvm.Term.field (Jvm.Term.string "PlainPage$Sheet" (98 : Nat)) "java/lang/String" "value" "[B") (Jvm.Term.int (0 : Int32))) (Jvm.Term.int (116 : Int32))) ∈ flatC gN := List.mem_of_getElem? (i := 214) rfl
set_option maxRecDepth 100000 in
theorem gm_215 : (Jvm.Cond.eq (Jvm.Term.elem (Jvm.Term.field (Jvm.Term.string "PlainPage$Sheet" (98 : Nat)) "java/lang/String" "value" "[B") (Jvm.Term.int (1 : Int32))) (Jvm.Term.int (114 : Int32))) ∈ flatC gN := List.mem_of_getElem? (i := 215) rfl
set_option maxRecDepth 100000 in
theorem gm_216 : (Jvm.Cond.eq (Jvm.Term.elem (Jvm.Term.field (Jvm.Term.string "PlainPage$Sheet" (98 : Nat)) "java/lang/String" "value" "[B") (Jvm.Term.int (2 : Int32))) (Jvm.Term.int (99 : Int32))) ∈ flatC gN := List.mem_of_getElem? (i := 216) rfl
set_option maxRecDepth 100000 in
theorem gm_217 : (Jvm.Cond.not (Jvm.Cond.eq (Jvm.Term.string "PlainPage$Typist" (48 : Nat)) (Jvm.Term.string "PlainPage$Sheet" (98 : Nat)))) ∈ flatC gN := List.mem_of_getElem? (i := 217) rfl
set_option maxRecDepth 100000 in
theorem gm_218 : (Jvm.Cond.not (Jvm.Cond.eq (Jvm.Term.string "PlainPage$Tree" (81 : Nat)) (Jvm.Term.string "PlainPage$Sheet" (98 : Nat)))) ∈ flatC gN := List.mem_of_getElem? (i := 218) rfl
set_option maxRecDepth 100000 in
theorem gm_219 : (Jvm.Cond.not (Jvm.Cond.eq (Jvm.Term.string "PlainPage$OpenStack" (32 : Nat)) (Jvm.Term.string "PlainPage$Sheet" (98 : Nat)))) ∈ flatC gN := List.mem_of_getElem? (i := 219) rfl
set_option maxRecDepth 100000 in
theorem gm_220 : (Jvm.Cond.not (Jvm.Cond.eq (Jvm.Term.string "PlainPage$Tree" (90 : Nat)) (Jvm.Term.string "PlainPage$Sheet" (98 : Nat)))) ∈ flatC gN := List.mem_of_getElem? (i := 220) rfl
set_option maxRecDepth 100000 in
theorem gm_221 : (Jvm.Cond.not (Jvm.Cond.eq (Jvm.Term.string "PlainPage$Tree" (92 : Nat)) (Jvm.Term.string "PlainPage$Sheet" (98 : Nat)))) ∈ flatC gN := List.mem_of_getElem? (i := 221) rfl
set_option maxRecDepth 100000 in
theorem gm_222 : (Jvm.Cond.not (Jvm.Cond.eq (Jvm.Term.string "PlainPage$Tree" (104 : Nat)) (Jvm.Term.string "PlainPage$Sheet" (98 : Nat)))) ∈ flatC gN := List.mem_of_getElem? (i := 222) rfl
set_option maxRecDepth 100000 in
theorem gm_223 : (Jvm.Cond.not (Jvm.Cond.eq (Jvm.Term.string "PlainPage$Tree" (110 : Nat)) (Jvm.Term.string "PlainPage$Sheet" (98 : Nat)))) ∈ flatC gN := List.mem_of_getElem? (i := 223) rfl
set_option maxRecDepth 100000 in
theorem gm_224 : (Jvm.Cond.not (Jvm.Cond.eq (Jvm.Term.string "PlainPage$Tree" (112 : Nat)) (Jvm.Term.string "PlainPage$Sheet" (98 : Nat)))) ∈ flatC gN := List.mem_of_getElem? (i := 224) rfl
set_option maxRecDepth 100000 in
theorem gm_226 : (Jvm.Cond.not (Jvm.Cond.eq (Jvm.Term.string "PlainPage$Tree" (147 : Nat)) (Jvm.Term.string "PlainPage$Sheet" (98 : Nat)))) ∈ flatC gN := List.mem_of_getElem? (i := 226) rfl
set_option maxRecDepth 100000 in
theorem gm_227 : (Jvm.Cond.not (Jvm.Cond.eq (Jvm.Term.string "PlainPage$Rule" (66 : Nat)) (Jvm.Term.string "PlainPage$Sheet" (98 : Nat)))) ∈ flatC gN := List.mem_of_getElem? (i := 227) rfl
set_option maxRecDepth 100000 in
theorem gm_228 : (Jvm.Cond.not (Jvm.Cond.eq (Jvm.Term.string "PlainPage$Rule" (81 : Nat)) (Jvm.Term.string "PlainPage$Sheet" (98 : Nat)))) ∈ flatC gN := List.mem_of_getElem? (i := 228) rfl
def tmS : Nat → Term := fun i => ([.string "PlainPage$Typist" 48, .string "PlainPage$Tree" 81, .string "PlainPage$OpenStack" 32, .string "PlainPage$Tree" 90, .string "PlainPage$Tree" 92, .string "PlainPage$Tree" 104, .string "PlainPage$Tree" 110, .string "PlainPage$Tree" 112, .string "PlainPage$Tree" 147, .string "PlainPage$Rule" 66, .string "PlainPage$Rule" 81, .string "PlainPage$Sheet" 98] : List Term).getD i .null
theorem st_ex {args : Array Value} {s : State} (hg : ∀ c ∈ flatC gN, c.before args s = true) : ∀ i : Nat, i < 12 → (Cond.exactly (tmS i) "java/lang/String").before args s = true := by
  intro i hi
  rcases (show i = 0 ∨ i = 1 ∨ i = 2 ∨ i = 3 ∨ i = 4 ∨ i = 5 ∨ i = 6 ∨ i = 7 ∨ i = 8 ∨ i = 9 ∨ i = 10 ∨ i = 11 by omega) with rfl | rfl | rfl | rfl | rfl | rfl | rfl | rfl | rfl | rfl | rfl | rfl
  · exact hg _ gm_9
  · exact hg _ gm_16
  · exact hg _ gm_23
  · exact hg _ gm_30
  · exact hg _ gm_43
  · exact hg _ gm_52
  · exact hg _ gm_63
  · exact hg _ gm_75
  · exact hg _ gm_102
  · exact hg _ gm_123
  · exact hg _ gm_144
  · exact hg _ gm_210
theorem st_co {args : Array Value} {s : State} (hg : ∀ c ∈ flatC gN, c.before args s = true) : ∀ i : Nat, i < 12 → (Cond.eq (.field (tmS i) "java/lang/String" "coder" "B") (.int 0)).before args s = true := by
  intro i hi
  rcases (show i = 0 ∨ i = 1 ∨ i = 2 ∨ i = 3 ∨ i = 4 ∨ i = 5 ∨ i = 6 ∨ i = 7 ∨ i = 8 ∨ i = 9 ∨ i = 10 ∨ i = 11 by omega) with rfl | rfl | rfl | rfl | rfl | rfl | rfl | rfl | rfl | rfl | rfl | rfl
  · exact hg _ gm_10
  · exact hg _ gm_17
  · exact hg _ gm_24
  · exact hg _ gm_31
  · exact hg _ gm_44
  · exact hg _ gm_53
  · exact hg _ gm_64
  · exact hg _ gm_76
  · exact hg _ gm_103
  · exact hg _ gm_124
  · exact hg _ gm_145
  · exact hg _ gm_211
theorem st_ar {args : Array Value} {s : State} (hg : ∀ c ∈ flatC gN, c.before args s = true) : ∀ i : Nat, i < 12 → (Cond.arrayOf (.field (tmS i) "java/lang/String" "value" "[B") .byte).before args s = true := by
  intro i hi
  rcases (show i = 0 ∨ i = 1 ∨ i = 2 ∨ i = 3 ∨ i = 4 ∨ i = 5 ∨ i = 6 ∨ i = 7 ∨ i = 8 ∨ i = 9 ∨ i = 10 ∨ i = 11 by omega) with rfl | rfl | rfl | rfl | rfl | rfl | rfl | rfl | rfl | rfl | rfl | rfl
  · exact hg _ gm_11
  · exact hg _ gm_18
  · exact hg _ gm_25
  · exact hg _ gm_32
  · exact hg _ gm_45
  · exact hg _ gm_54
  · exact hg _ gm_65
  · exact hg _ gm_77
  · exact hg _ gm_104
  · exact hg _ gm_125
  · exact hg _ gm_146
  · exact hg _ gm_212
theorem st_le {args : Array Value} {s : State} (hg : ∀ c ∈ flatC gN, c.before args s = true) : ∀ i : Nat, i < 12 → (Cond.eq (.length (.field (tmS i) "java/lang/String" "value" "[B")) (.int (Int32.ofNat (lenS.getD i 0)))).before args s = true := by
  intro i hi
  rcases (show i = 0 ∨ i = 1 ∨ i = 2 ∨ i = 3 ∨ i = 4 ∨ i = 5 ∨ i = 6 ∨ i = 7 ∨ i = 8 ∨ i = 9 ∨ i = 10 ∨ i = 11 by omega) with rfl | rfl | rfl | rfl | rfl | rfl | rfl | rfl | rfl | rfl | rfl | rfl
  · exact hg _ gm_12
  · exact hg _ gm_19
  · exact hg _ gm_26
  · exact hg _ gm_33
  · exact hg _ gm_46
  · exact hg _ gm_55
  · exact hg _ gm_66
  · exact hg _ gm_78
  · exact hg _ gm_105
  · exact hg _ gm_126
  · exact hg _ gm_147
  · exact hg _ gm_213
theorem st_el {args : Array Value} {s : State} (hg : ∀ c ∈ flatC gN, c.before args s = true) : ∀ i : Nat, i < 12 → ∀ j : Nat, j < lenS.getD i 0 → (Cond.eq (.elem (.field (tmS i) "java/lang/String" "value" "[B") (.int (Int32.ofNat j))) (.int ((bytS.getD i []).getD j 0))).before args s = true := by
  intro i hi j hj
  rcases (show i = 0 ∨ i = 1 ∨ i = 2 ∨ i = 3 ∨ i = 4 ∨ i = 5 ∨ i = 6 ∨ i = 7 ∨ i = 8 ∨ i = 9 ∨ i = 10 ∨ i = 11 by omega) with rfl | rfl | rfl | rfl | rfl | rfl | rfl | rfl | rfl | rfl | rfl | rfl
  · have hj : j < 3 := hj
    rcases (show j = 0 ∨ j = 1 ∨ j = 2 by omega) with rfl | rfl | rfl
    · exact hg _ gm_13
    · exact hg _ gm_14
    · exact hg _ gm_15
  · have hj : j < 2 := hj
    rcases (show j = 0 ∨ j = 1 by omega) with rfl | rfl
    · exact hg _ gm_20
    · exact hg _ gm_21
  · have hj : j < 1 := hj
    obtain rfl : j = 0 := by omega
    · exact hg _ gm_27
  · have hj : j < 6 := hj
    rcases (show j = 0 ∨ j = 1 ∨ j = 2 ∨ j = 3 ∨ j = 4 ∨ j = 5 by omega) with rfl | rfl | rfl | rfl | rfl | rfl
    · exact hg _ gm_34
    · exact hg _ gm_35
    · exact hg _ gm_36
    · exact hg _ gm_37
    · exact hg _ gm_38
    · exact hg _ gm_39
  · have hj : j < 1 := hj
    obtain rfl : j = 0 := by omega
    · exact hg _ gm_47
  · have hj : j < 2 := hj
    rcases (show j = 0 ∨ j = 1 by omega) with rfl | rfl
    · exact hg _ gm_56
    · exact hg _ gm_57
  · have hj : j < 2 := hj
    rcases (show j = 0 ∨ j = 1 by omega) with rfl | rfl
    · exact hg _ gm_67
    · exact hg _ gm_68
  · have hj : j < 3 := hj
    rcases (show j = 0 ∨ j = 1 ∨ j = 2 by omega) with rfl | rfl | rfl
    · exact hg _ gm_79
    · exact hg _ gm_80
    · exact hg _ gm_81
  · have hj : j < 8 := hj
    rcases (show j = 0 ∨ j = 1 ∨ j = 2 ∨ j = 3 ∨ j = 4 ∨ j = 5 ∨ j = 6 ∨ j = 7 by omega) with rfl | rfl | rfl | rfl | rfl | rfl | rfl | rfl
    · exact hg _ gm_106
    · exact hg _ gm_107
    · exact hg _ gm_108
    · exact hg _ gm_109
    · exact hg _ gm_110
    · exact hg _ gm_111
    · exact hg _ gm_112
    · exact hg _ gm_113
  · have hj : j < 7 := hj
    rcases (show j = 0 ∨ j = 1 ∨ j = 2 ∨ j = 3 ∨ j = 4 ∨ j = 5 ∨ j = 6 by omega) with rfl | rfl | rfl | rfl | rfl | rfl | rfl
    · exact hg _ gm_127
    · exact hg _ gm_128
    · exact hg _ gm_129
    · exact hg _ gm_130
    · exact hg _ gm_131
    · exact hg _ gm_132
    · exact hg _ gm_133
  · have hj : j < 3 := hj
    rcases (show j = 0 ∨ j = 1 ∨ j = 2 by omega) with rfl | rfl | rfl
    · exact hg _ gm_148
    · exact hg _ gm_149
    · exact hg _ gm_150
  · have hj : j < 3 := hj
    rcases (show j = 0 ∨ j = 1 ∨ j = 2 by omega) with rfl | rfl | rfl
    · exact hg _ gm_214
    · exact hg _ gm_215
    · exact hg _ gm_216
theorem st_ne {args : Array Value} {s : State} (hg : ∀ c ∈ flatC gN, c.before args s = true) : ∀ i j : Nat, i < 12 → j < 12 → i ≠ j → (Cond.not (Cond.eq (tmS i) (tmS j))).before args s = true ∨ (Cond.not (Cond.eq (tmS j) (tmS i))).before args s = true := by
  intro i j hi hj hij
  rcases (show i = 0 ∨ i = 1 ∨ i = 2 ∨ i = 3 ∨ i = 4 ∨ i = 5 ∨ i = 6 ∨ i = 7 ∨ i = 8 ∨ i = 9 ∨ i = 10 ∨ i = 11 by omega) with rfl | rfl | rfl | rfl | rfl | rfl | rfl | rfl | rfl | rfl | rfl | rfl
  · rcases (show j = 0 ∨ j = 1 ∨ j = 2 ∨ j = 3 ∨ j = 4 ∨ j = 5 ∨ j = 6 ∨ j = 7 ∨ j = 8 ∨ j = 9 ∨ j = 10 ∨ j = 11 by omega) with rfl | rfl | rfl | rfl | rfl | rfl | rfl | rfl | rfl | rfl | rfl | rfl
    · exact absurd rfl hij
    · exact Or.inl (hg _ gm_22)
    · exact Or.inl (hg _ gm_28)
    · exact Or.inl (hg _ gm_40)
    · exact Or.inl (hg _ gm_48)
    · exact Or.inl (hg _ gm_58)
    · exact Or.inl (hg _ gm_69)
    · exact Or.inl (hg _ gm_82)
    · exact Or.inl (hg _ gm_114)
    · exact Or.inl (hg _ gm_134)
    · exact Or.inl (hg _ gm_151)
    · exact Or.inl (hg _ gm_217)
  · rcases (show j = 0 ∨ j = 1 ∨ j = 2 ∨ j = 3 ∨ j = 4 ∨ j = 5 ∨ j = 6 ∨ j = 7 ∨ j = 8 ∨ j = 9 ∨ j = 10 ∨ j = 11 by omega) with rfl | rfl | rfl | rfl | rfl | rfl | rfl | rfl | rfl | rfl | rfl | rfl
    · exact Or.inr (hg _ gm_22)
    · exact absurd rfl hij
    · exact Or.inl (hg _ gm_29)
    · exact Or.inl (hg _ gm_41)
    · exact Or.inl (hg _ gm_49)
    · exact Or.inl (hg _ gm_59)
    · exact Or.inl (hg _ gm_70)
    · exact Or.inl (hg _ gm_83)
    · exact Or.inl (hg _ gm_115)
    · exact Or.inl (hg _ gm_135)
    · exact Or.inl (hg _ gm_152)
    · exact Or.inl (hg _ gm_218)
  · rcases (show j = 0 ∨ j = 1 ∨ j = 2 ∨ j = 3 ∨ j = 4 ∨ j = 5 ∨ j = 6 ∨ j = 7 ∨ j = 8 ∨ j = 9 ∨ j = 10 ∨ j = 11 by omega) with rfl | rfl | rfl | rfl | rfl | rfl | rfl | rfl | rfl | rfl | rfl | rfl
    · exact Or.inr (hg _ gm_28)
    · exact Or.inr (hg _ gm_29)
    · exact absurd rfl hij
    · exact Or.inl (hg _ gm_42)
    · exact Or.inl (hg _ gm_50)
    · exact Or.inl (hg _ gm_60)
    · exact Or.inl (hg _ gm_71)
    · exact Or.inl (hg _ gm_84)
    · exact Or.inl (hg _ gm_116)
    · exact Or.inl (hg _ gm_136)
    · exact Or.inl (hg _ gm_153)
    · exact Or.inl (hg _ gm_219)
  · rcases (show j = 0 ∨ j = 1 ∨ j = 2 ∨ j = 3 ∨ j = 4 ∨ j = 5 ∨ j = 6 ∨ j = 7 ∨ j = 8 ∨ j = 9 ∨ j = 10 ∨ j = 11 by omega) with rfl | rfl | rfl | rfl | rfl | rfl | rfl | rfl | rfl | rfl | rfl | rfl
    · exact Or.inr (hg _ gm_40)
    · exact Or.inr (hg _ gm_41)
    · exact Or.inr (hg _ gm_42)
    · exact absurd rfl hij
    · exact Or.inl (hg _ gm_51)
    · exact Or.inl (hg _ gm_61)
    · exact Or.inl (hg _ gm_72)
    · exact Or.inl (hg _ gm_85)
    · exact Or.inl (hg _ gm_117)
    · exact Or.inl (hg _ gm_137)
    · exact Or.inl (hg _ gm_154)
    · exact Or.inl (hg _ gm_220)
  · rcases (show j = 0 ∨ j = 1 ∨ j = 2 ∨ j = 3 ∨ j = 4 ∨ j = 5 ∨ j = 6 ∨ j = 7 ∨ j = 8 ∨ j = 9 ∨ j = 10 ∨ j = 11 by omega) with rfl | rfl | rfl | rfl | rfl | rfl | rfl | rfl | rfl | rfl | rfl | rfl
    · exact Or.inr (hg _ gm_48)
    · exact Or.inr (hg _ gm_49)
    · exact Or.inr (hg _ gm_50)
    · exact Or.inr (hg _ gm_51)
    · exact absurd rfl hij
    · exact Or.inl (hg _ gm_62)
    · exact Or.inl (hg _ gm_73)
    · exact Or.inl (hg _ gm_86)
    · exact Or.inl (hg _ gm_118)
    · exact Or.inl (hg _ gm_138)
    · exact Or.inl (hg _ gm_155)
    · exact Or.inl (hg _ gm_221)
  · rcases (show j = 0 ∨ j = 1 ∨ j = 2 ∨ j = 3 ∨ j = 4 ∨ j = 5 ∨ j = 6 ∨ j = 7 ∨ j = 8 ∨ j = 9 ∨ j = 10 ∨ j = 11 by omega) with rfl | rfl | rfl | rfl | rfl | rfl | rfl | rfl | rfl | rfl | rfl | rfl
    · exact Or.inr (hg _ gm_58)
    · exact Or.inr (hg _ gm_59)
    · exact Or.inr (hg _ gm_60)
    · exact Or.inr (hg _ gm_61)
    · exact Or.inr (hg _ gm_62)
    · exact absurd rfl hij
    · exact Or.inl (hg _ gm_74)
    · exact Or.inl (hg _ gm_87)
    · exact Or.inl (hg _ gm_119)
    · exact Or.inl (hg _ gm_139)
    · exact Or.inl (hg _ gm_156)
    · exact Or.inl (hg _ gm_222)
  · rcases (show j = 0 ∨ j = 1 ∨ j = 2 ∨ j = 3 ∨ j = 4 ∨ j = 5 ∨ j = 6 ∨ j = 7 ∨ j = 8 ∨ j = 9 ∨ j = 10 ∨ j = 11 by omega) with rfl | rfl | rfl | rfl | rfl | rfl | rfl | rfl | rfl | rfl | rfl | rfl
    · exact Or.inr (hg _ gm_69)
    · exact Or.inr (hg _ gm_70)
    · exact Or.inr (hg _ gm_71)
    · exact Or.inr (hg _ gm_72)
    · exact Or.inr (hg _ gm_73)
    · exact Or.inr (hg _ gm_74)
    · exact absurd rfl hij
    · exact Or.inl (hg _ gm_88)
    · exact Or.inl (hg _ gm_120)
    · exact Or.inl (hg _ gm_140)
    · exact Or.inl (hg _ gm_157)
    · exact Or.inl (hg _ gm_223)
  · rcases (show j = 0 ∨ j = 1 ∨ j = 2 ∨ j = 3 ∨ j = 4 ∨ j = 5 ∨ j = 6 ∨ j = 7 ∨ j = 8 ∨ j = 9 ∨ j = 10 ∨ j = 11 by omega) with rfl | rfl | rfl | rfl | rfl | rfl | rfl | rfl | rfl | rfl | rfl | rfl
    · exact Or.inr (hg _ gm_82)
    · exact Or.inr (hg _ gm_83)
    · exact Or.inr (hg _ gm_84)
    · exact Or.inr (hg _ gm_85)
    · exact Or.inr (hg _ gm_86)
    · exact Or.inr (hg _ gm_87)
    · exact Or.inr (hg _ gm_88)
    · exact absurd rfl hij
    · exact Or.inl (hg _ gm_121)
    · exact Or.inl (hg _ gm_141)
    · exact Or.inl (hg _ gm_158)
    · exact Or.inl (hg _ gm_224)
  · rcases (show j = 0 ∨ j = 1 ∨ j = 2 ∨ j = 3 ∨ j = 4 ∨ j = 5 ∨ j = 6 ∨ j = 7 ∨ j = 8 ∨ j = 9 ∨ j = 10 ∨ j = 11 by omega) with rfl | rfl | rfl | rfl | rfl | rfl | rfl | rfl | rfl | rfl | rfl | rfl
    · exact Or.inr (hg _ gm_114)
    · exact Or.inr (hg _ gm_115)
    · exact Or.inr (hg _ gm_116)
    · exact Or.inr (hg _ gm_117)
    · exact Or.inr (hg _ gm_118)
    · exact Or.inr (hg _ gm_119)
    · exact Or.inr (hg _ gm_120)
    · exact Or.inr (hg _ gm_121)
    · exact absurd rfl hij
    · exact Or.inl (hg _ gm_143)
    · exact Or.inl (hg _ gm_160)
    · exact Or.inl (hg _ gm_226)
  · rcases (show j = 0 ∨ j = 1 ∨ j = 2 ∨ j = 3 ∨ j = 4 ∨ j = 5 ∨ j = 6 ∨ j = 7 ∨ j = 8 ∨ j = 9 ∨ j = 10 ∨ j = 11 by omega) with rfl | rfl | rfl | rfl | rfl | rfl | rfl | rfl | rfl | rfl | rfl | rfl
    · exact Or.inr (hg _ gm_134)
    · exact Or.inr (hg _ gm_135)
    · exact Or.inr (hg _ gm_136)
    · exact Or.inr (hg _ gm_137)
    · exact Or.inr (hg _ gm_138)
    · exact Or.inr (hg _ gm_139)
    · exact Or.inr (hg _ gm_140)
    · exact Or.inr (hg _ gm_141)
    · exact Or.inr (hg _ gm_143)
    · exact absurd rfl hij
    · exact Or.inl (hg _ gm_161)
    · exact Or.inl (hg _ gm_227)
  · rcases (show j = 0 ∨ j = 1 ∨ j = 2 ∨ j = 3 ∨ j = 4 ∨ j = 5 ∨ j = 6 ∨ j = 7 ∨ j = 8 ∨ j = 9 ∨ j = 10 ∨ j = 11 by omega) with rfl | rfl | rfl | rfl | rfl | rfl | rfl | rfl | rfl | rfl | rfl | rfl
    · exact Or.inr (hg _ gm_151)
    · exact Or.inr (hg _ gm_152)
    · exact Or.inr (hg _ gm_153)
    · exact Or.inr (hg _ gm_154)
    · exact Or.inr (hg _ gm_155)
    · exact Or.inr (hg _ gm_156)
    · exact Or.inr (hg _ gm_157)
    · exact Or.inr (hg _ gm_158)
    · exact Or.inr (hg _ gm_160)
    · exact Or.inr (hg _ gm_161)
    · exact absurd rfl hij
    · exact Or.inl (hg _ gm_228)
  · rcases (show j = 0 ∨ j = 1 ∨ j = 2 ∨ j = 3 ∨ j = 4 ∨ j = 5 ∨ j = 6 ∨ j = 7 ∨ j = 8 ∨ j = 9 ∨ j = 10 ∨ j = 11 by omega) with rfl | rfl | rfl | rfl | rfl | rfl | rfl | rfl | rfl | rfl | rfl | rfl
    · exact Or.inr (hg _ gm_217)
    · exact Or.inr (hg _ gm_218)
    · exact Or.inr (hg _ gm_219)
    · exact Or.inr (hg _ gm_220)
    · exact Or.inr (hg _ gm_221)
    · exact Or.inr (hg _ gm_222)
    · exact Or.inr (hg _ gm_223)
    · exact Or.inr (hg _ gm_224)
    · exact Or.inr (hg _ gm_226)
    · exact Or.inr (hg _ gm_227)
    · exact Or.inr (hg _ gm_228)
    · exact absurd rfl hij
set_option maxRecDepth 10000 in
theorem sr_0 : Cond.stringRef "PlainPage$Typist" 48 "lga" ∈ lw_tbl := (q_t3 (List.mem_of_getElem? (i := 18) rfl))
set_option maxRecDepth 10000 in
theorem sr_1 : Cond.stringRef "PlainPage$Tree" 81 "rc" ∈ lw_tbl := (q_t3 (List.mem_of_getElem? (i := 193) rfl))
set_option maxRecDepth 10000 in
theorem sr_2 : Cond.stringRef "PlainPage$OpenStack" 32 "t" ∈ lw_tbl := (q_t3 (List.mem_of_getElem? (i := 203) rfl))
set_option maxRecDepth 10000 in
theorem sr_3 : Cond.stringRef "PlainPage$Tree" 90 "pdulht" ∈ lw_tbl := (q_t3 (List.mem_of_getElem? (i := 225) rfl))
set_option maxRecDepth 10000 in
theorem sr_4 : Cond.stringRef "PlainPage$Tree" 92 "c" ∈ lw_tbl := (q_t3 (List.mem_of_getElem? (i := 226) rfl))
set_option maxRecDepth 10000 in
theorem sr_5 : Cond.stringRef "PlainPage$Tree" 104 "uc" ∈ lw_tbl := (q_t3 (List.mem_of_getElem? (i := 232) rfl))
set_option maxRecDepth 10000 in
theorem sr_6 : Cond.stringRef "PlainPage$Tree" 110 "hk" ∈ lw_tbl := (q_t3 (List.mem_of_getElem? (i := 233) rfl))
set_option maxRecDepth 10000 in
theorem sr_7 : Cond.stringRef "PlainPage$Tree" 112 "bis" ∈ lw_tbl := (q_t3 (List.mem_of_getElem? (i := 234) rfl))
set_option maxRecDepth 10000 in
theorem sr_8 : Cond.stringRef "PlainPage$Tree" 138 "t" ∈ lw_tbl := (q_t4 (List.mem_of_getElem? (i := 11) rfl))
set_option maxRecDepth 10000 in
theorem sr_9 : Cond.stringRef "PlainPage$Tree" 147 "pdulhtrc" ∈ lw_tbl := (q_t4 (List.mem_of_getElem? (i := 20) rfl))
set_option maxRecDepth 10000 in
theorem sr_10 : Cond.stringRef "PlainPage$Rule" 66 "cbsdmpw" ∈ lw_tbl := (q_t4 (List.mem_of_getElem? (i := 82) rfl))
set_option maxRecDepth 10000 in
theorem sr_11 : Cond.stringRef "PlainPage$Rule" 81 "bin" ∈ lw_tbl := (q_t4 (List.mem_of_getElem? (i := 90) rfl))
set_option maxRecDepth 10000 in
theorem sr_12 : Cond.stringRef "PlainPage" 110 "cbsdmpw" ∈ lw_tbl := (q_t4 (List.mem_of_getElem? (i := 140) rfl))
set_option maxRecDepth 10000 in
theorem sr_13 : Cond.stringRef "PlainPage$Sheet" 84 "pdulhtrc" ∈ lw_tbl := (q_t4 (List.mem_of_getElem? (i := 156) rfl))
set_option maxRecDepth 10000 in
theorem sr_14 : Cond.stringRef "PlainPage$Sheet" 98 "trc" ∈ lw_tbl := (q_t4 (List.mem_of_getElem? (i := 188) rfl))
set_option maxRecDepth 10000 in
theorem sn_0 : Cond.methodLinkNest "PlainPage$Tree" 28 y_OpenStack_init "PlainPage" ∈ lw_tbl := (q_t1 (List.mem_of_getElem? (i := 41) rfl))
set_option maxRecDepth 10000 in
theorem sn_1 : Cond.methodLinkNest "PlainPage$Tree" 33 y_Node_init "PlainPage" ∈ lw_tbl := (q_t1 (List.mem_of_getElem? (i := 57) rfl))
set_option maxRecDepth 10000 in
theorem sn_2 : Cond.methodLinkNest "PlainPage$Node" 11 y_FormattingList_init "PlainPage" ∈ lw_tbl := (q_t1 (List.mem_of_getElem? (i := 63) rfl))
set_option maxRecDepth 10000 in
theorem sn_3 : Cond.methodLinkNest "PlainPage$Node" 24 y_Box_init "PlainPage" ∈ lw_tbl := (q_t1 (List.mem_of_getElem? (i := 80) rfl))
set_option maxRecDepth 10000 in
theorem sn_4 : Cond.methodLinkNest "PlainPage$Tree" 34 y_Letter_init "PlainPage" ∈ lw_tbl := (q_t1 (List.mem_of_getElem? (i := 201) rfl))
set_option maxRecDepth 10000 in
theorem sn_5 : Cond.methodLinkNest "PlainPage" 18 y_Typist_init "PlainPage" ∈ lw_tbl := (q_t2 (List.mem_of_getElem? (i := 35) rfl))
set_option maxRecDepth 10000 in
theorem sn_6 : Cond.methodLinkNest "PlainPage$Sheet" 25 y_Rule_init "PlainPage" ∈ lw_tbl := (q_t2 (List.mem_of_getElem? (i := 61) rfl))
set_option maxRecDepth 10000 in
theorem sn_7 : Cond.methodLinkNest "PlainPage" 32 y_Layout_init "PlainPage" ∈ lw_tbl := (q_t2 (List.mem_of_getElem? (i := 120) rfl))
set_option maxRecDepth 10000 in
theorem sn_8 : Cond.methodLinkNest "PlainPage$Layout" 11 y_Run_init "PlainPage" ∈ lw_tbl := (q_t2 (List.mem_of_getElem? (i := 126) rfl))
set_option maxRecDepth 10000 in
theorem sn_9 : Cond.methodLinkNest "PlainPage$Typist" 50 y_Pg_isOneOf "PlainPage" ∈ lw_tbl := (q_t3 (List.mem_of_getElem? (i := 19) rfl))
set_option maxRecDepth 10000 in
theorem sn_10 : Cond.methodLinkNest "PlainPage$Typist" 56 y_Pg_isSmall "PlainPage" ∈ lw_tbl := (q_t3 (List.mem_of_getElem? (i := 108) rfl))
set_option maxRecDepth 10000 in
theorem sn_11 : Cond.methodLinkNest "PlainPage$Typist" 66 y_Pg_isCapital "PlainPage" ∈ lw_tbl := (q_t3 (List.mem_of_getElem? (i := 186) rfl))
set_option maxRecDepth 10000 in
theorem sn_12 : Cond.methodLinkNest "PlainPage$Tree" 83 y_Pg_isOneOf "PlainPage" ∈ lw_tbl := (q_t3 (List.mem_of_getElem? (i := 194) rfl))
set_option maxRecDepth 10000 in
theorem sn_13 : Cond.methodLinkNest "PlainPage$OpenStack" 28 y_Pg_isOneOf "PlainPage" ∈ lw_tbl := (q_t3 (List.mem_of_getElem? (i := 208) rfl))
set_option maxRecDepth 10000 in
theorem sn_14 : Cond.methodLinkNest "PlainPage$Rule" 49 y_Pg_isSmall "PlainPage" ∈ lw_tbl := (q_t4 (List.mem_of_getElem? (i := 65) rfl))
set_option maxRecDepth 10000 in
theorem sn_15 : Cond.methodLinkNest "PlainPage$Rule" 53 y_Pg_isCapital "PlainPage" ∈ lw_tbl := (q_t4 (List.mem_of_getElem? (i := 66) rfl))
set_option maxRecDepth 10000 in
theorem sn_16 : Cond.methodLinkNest "PlainPage$Rule" 78 y_Pg_isDigit "PlainPage" ∈ lw_tbl := (q_t4 (List.mem_of_getElem? (i := 87) rfl))
set_option maxRecDepth 10000 in
theorem sn_17 : Cond.methodLinkNest "PlainPage$Rule" 83 y_Pg_isOneOf "PlainPage" ∈ lw_tbl := (q_t4 (List.mem_of_getElem? (i := 91) rfl))
set_option maxRecDepth 10000 in
theorem sn_18 : Cond.methodLinkNest "PlainPage$Sheet" 86 y_Pg_isOneOf "PlainPage" ∈ lw_tbl := (q_t4 (List.mem_of_getElem? (i := 157) rfl))
set_option maxRecDepth 10000 in
theorem so_0 : Cond.arrayOver (.object "PlainPage$Node") ∈ lw_tbl := (q_t1 (List.mem_of_getElem? (i := 36) rfl))
set_option maxRecDepth 10000 in
theorem so_1 : Cond.arrayOver (.object "PlainPage$Letter") ∈ lw_tbl := (q_t1 (List.mem_of_getElem? (i := 38) rfl))
set_option maxRecDepth 10000 in
theorem so_2 : Cond.arrayOver (.object "PlainPage$Rule") ∈ lw_tbl := (q_t2 (List.mem_of_getElem? (i := 59) rfl))
set_option maxRecDepth 10000 in
theorem sl_0 : Cond.laysStatic "java/lang/String" "COMPACT_STRINGS" "Z" ∈ lw_tbl := (q_t3 (List.mem_of_getElem? (i := 35) rfl))
theorem va_eqR2 {args : Array Value} {s : State} {t u : Term} {a : Nat} (h : (Cond.eq t u).before args s = true) (ht : t.eval args s none [] s = some (.ref a)) : u.eval args s none [] s = some (.ref a) := by
  obtain ⟨w, h1, h2⟩ := Cond.eq_one (show (Cond.eq t u).holds args s none s [] = true from h)
  rw [ht] at h1
  cases h1
  exact h2
theorem st_all {args : Array Value} {s : State} (hg : ∀ c ∈ flatC gN, c.before args s = true) (hw : ∀ w ∈ lw_tbl, w.before args s = true) : ∃ adK adV : Nat → Nat, ∀ b, s.heap.size ≤ b → qX adK adV 367 b s := by
  obtain ⟨adK, adV, hZ, hEv⟩ := vk_Sof (A := (fun q : Nat => s.heap.size ≤ q)) (tm := tmS) (len := lenS) (byt := bytS) (N := 12) (fun i hi => by revert i hi; decide) (st_ex hg) (st_co hg) (st_ar hg) (st_le hg) (st_el hg) (st_ne hg) (fun a h9 => Nat.not_le.mpr h9)
  refine ⟨adK, adV, fun b hb => ⟨hZ.narrow fun q h => Nat.le_trans hb h.1, ?_, ?_, ?_⟩⟩
  · exact List.forall_mem_cons.mpr ⟨vk_R.of (hw _ sr_0) (hEv 0 (by decide)), List.forall_mem_cons.mpr ⟨vk_R.of (hw _ sr_1) (hEv 1 (by decide)), List.forall_mem_cons.mpr ⟨vk_R.of (hw _ sr_2) (hEv 2 (by decide)), List.forall_mem_cons.mpr ⟨vk_R.of (hw _ sr_3) (hEv 3 (by decide)), List.forall_mem_cons.mpr ⟨vk_R.of (hw _ sr_4) (hEv 4 (by decide)), List.forall_mem_cons.mpr ⟨vk_R.of (hw _ sr_5) (hEv 5 (by decide)), List.forall_mem_cons.mpr ⟨vk_R.of (hw _ sr_6) (hEv 6 (by decide)), List.forall_mem_cons.mpr ⟨vk_R.of (hw _ sr_7) (hEv 7 (by decide)), List.forall_mem_cons.mpr ⟨vk_R.of (hw _ sr_8) (va_eqR2 (hg _ gm_96) (hEv 2 (by decide))), List.forall_mem_cons.mpr ⟨vk_R.of (hw _ sr_9) (hEv 8 (by decide)), List.forall_mem_cons.mpr ⟨vk_R.of (hw _ sr_10) (hEv 9 (by decide)), List.forall_mem_cons.mpr ⟨vk_R.of (hw _ sr_11) (hEv 10 (by decide)), List.forall_mem_cons.mpr ⟨vk_R.of (hw _ sr_12) (va_eqR2 (hg _ gm_183) (hEv 9 (by decide))), List.forall_mem_cons.mpr ⟨vk_R.of (hw _ sr_13) (va_eqR2 (hg _ gm_206) (hEv 8 (by decide))), List.forall_mem_cons.mpr ⟨vk_R.of (hw _ sr_14) (hEv 11 (by decide)), fun _ h => absurd h List.not_mem_nil⟩⟩⟩⟩⟩⟩⟩⟩⟩⟩⟩⟩⟩⟩⟩
  · exact List.forall_mem_cons.mpr ⟨va_Nw.of rfl (hw _ sn_0), List.forall_mem_cons.mpr ⟨va_Nw.of rfl (hw _ sn_1), List.forall_mem_cons.mpr ⟨va_Nw.of rfl (hw _ sn_2), List.forall_mem_cons.mpr ⟨va_Nw.of rfl (hw _ sn_3), List.forall_mem_cons.mpr ⟨va_Nw.of rfl (hw _ sn_4), List.forall_mem_cons.mpr ⟨va_Nw.of rfl (hw _ sn_5), List.forall_mem_cons.mpr ⟨va_Nw.of rfl (hw _ sn_6), List.forall_mem_cons.mpr ⟨va_Nw.of rfl (hw _ sn_7), List.forall_mem_cons.mpr ⟨va_Nw.of rfl (hw _ sn_8), List.forall_mem_cons.mpr ⟨va_Nw.of rfl (hw _ sn_9), List.forall_mem_cons.mpr ⟨va_Nw.of rfl (hw _ sn_10), List.forall_mem_cons.mpr ⟨va_Nw.of rfl (hw _ sn_11), List.forall_mem_cons.mpr ⟨va_Nw.of rfl (hw _ sn_12), List.forall_mem_cons.mpr ⟨va_Nw.of rfl (hw _ sn_13), List.forall_mem_cons.mpr ⟨va_Nw.of rfl (hw _ sn_14), List.forall_mem_cons.mpr ⟨va_Nw.of rfl (hw _ sn_15), List.forall_mem_cons.mpr ⟨va_Nw.of rfl (hw _ sn_16), List.forall_mem_cons.mpr ⟨va_Nw.of rfl (hw _ sn_17), List.forall_mem_cons.mpr ⟨va_Nw.of rfl (hw _ sn_18), fun _ h => absurd h List.not_mem_nil⟩⟩⟩⟩⟩⟩⟩⟩⟩⟩⟩⟩⟩⟩⟩⟩⟩⟩⟩
  · exact (va_Zof (A := (fun q : Nat => s.heap.size ≤ q)) (hw _ sl_0) (hw _ (List.mem_filter.mp tw_738).1) (va_eqi (hg _ gm_4)) (fun a h9 => Nat.not_le.mpr h9)).narrow fun q h => Nat.le_trans hb h.1
theorem st_c {args : Array Value} {s : State} (hw : ∀ w ∈ lw_tbl, w.before args s = true) : qXc s := ⟨⟨va_AO.of (hw _ so_0), va_AO.of (hw _ so_1), va_AO.of (hw _ so_2)⟩, List.forall_mem_cons.mpr ⟨va_Nw.of rfl (hw _ sn_0), List.forall_mem_cons.mpr ⟨va_Nw.of rfl (hw _ sn_1), List.forall_mem_cons.mpr ⟨va_Nw.of rfl (hw _ sn_2), List.forall_mem_cons.mpr ⟨va_Nw.of rfl (hw _ sn_3), List.forall_mem_cons.mpr ⟨va_Nw.of rfl (hw _ sn_4), List.forall_mem_cons.mpr ⟨va_Nw.of rfl (hw _ sn_5), List.forall_mem_cons.mpr ⟨va_Nw.of rfl (hw _ sn_6), List.forall_mem_cons.mpr ⟨va_Nw.of rfl (hw _ sn_7), List.forall_mem_cons.mpr ⟨va_Nw.of rfl (hw _ sn_8), List.forall_mem_cons.mpr ⟨va_Nw.of rfl (hw _ sn_9), List.forall_mem_cons.mpr ⟨va_Nw.of rfl (hw _ sn_10), List.forall_mem_cons.mpr ⟨va_Nw.of rfl (hw _ sn_11), List.forall_mem_cons.mpr ⟨va_Nw.of rfl (hw _ sn_12), List.forall_mem_cons.mpr ⟨va_Nw.of rfl (hw _ sn_13), List.forall_mem_cons.mpr ⟨va_Nw.of rfl (hw _ sn_14), List.forall_mem_cons.mpr ⟨va_Nw.of rfl (hw _ sn_15), List.forall_mem_cons.mpr ⟨va_Nw.of rfl (hw _ sn_16), List.forall_mem_cons.mpr ⟨va_Nw.of rfl (hw _ sn_17), List.forall_mem_cons.mpr ⟨va_Nw.of rfl (hw _ sn_18), fun _ h => absurd h List.not_mem_nil⟩⟩⟩⟩⟩⟩⟩⟩⟩⟩⟩⟩⟩⟩⟩⟩⟩⟩⟩⟩
theorem st_K {args : Array Value} {s : State} (hts : ∀ w ∈ lw_g, w.before args s = true) (hw : ∀ w ∈ lw_tbl, w.before args s = true) : ∃ (D : va_G) (dA : Nat → ClassId), va_K D vwCl (tysX dA) s := by
  have hD : ∀ c : Nat, ∃ x : ClassId × (Nat → Nat), ∀ q : vw_C, vwCl[c]? = some q → u_Kn s q.1 q.2.1 q.2.2 x.1 x.2 := fun c => match c with
    | 0 => by
      obtain ⟨cC, iS, h⟩ := u_known hts hin_0 (hts _ tk_17)
      exact ⟨(cC, iS), fun q hq => by cases hq; exact h⟩
    | 1 => by
      obtain ⟨cC, iS, h⟩ := u_known hts hin_1 (hts _ tk_10)
      exact ⟨(cC, iS), fun q hq => by cases hq; exact h⟩
    | 2 => by
      obtain ⟨cC, iS, h⟩ := u_known hts hin_2 (hts _ tl_9)
      exact ⟨(cC, iS), fun q hq => by cases hq; exact h⟩
    | 3 => by
      obtain ⟨cC, iS, h⟩ := u_known hts hin_3 (hts _ tl_12)
      exact ⟨(cC, iS), fun q hq => by cases hq; exact h⟩
    | 4 => by
      obtain ⟨cC, iS, h⟩ := u_known hts hin_4 (hts _ tl_5)
      exact ⟨(cC, iS), fun q hq => by cases hq; exact h⟩
    | 5 => by
      obtain ⟨cC, iS, h⟩ := u_known hts hin_5 (hts _ tm_4)
      exact ⟨(cC, iS), fun q hq => by cases hq; exact h⟩
    | 6 => by
      obtain ⟨cC, iS, h⟩ := u_known hts hin_6 (hts _ tm_8)
      exact ⟨(cC, iS), fun q hq => by cases hq; exact h⟩
    | 7 => by
      obtain ⟨cC, iS, h⟩ := u_known hts hin_7 (hts _ tl_18)
      exact ⟨(cC, iS), fun q hq => by cases hq; exact h⟩
    | 8 => by
      obtain ⟨cC, iS, h⟩ := u_known hts hin_8 (hts _ tm_13)
      exact ⟨(cC, iS), fun q hq => by cases hq; exact h⟩
    | 9 => by
      obtain ⟨cC, iS, h⟩ := u_known hts hin_9 (hts _ tk_27)
      exact ⟨(cC, iS), fun q hq => by cases hq; exact h⟩
    | 10 => by
      obtain ⟨cC, iS, h⟩ := u_known hts hin_10 (hts _ tm_17)
      exact ⟨(cC, iS), fun q hq => by cases hq; exact h⟩
    | 11 => by
      obtain ⟨cC, iS, h⟩ := u_known hts hin_11 (hts _ tn_128)
      exact ⟨(cC, iS), fun q hq => by cases hq; exact h⟩
    | 12 => by
      obtain ⟨cC, iS, h⟩ := u_known hts hin_12 (hts _ tn_129)
      exact ⟨(cC, iS), fun q hq => by cases hq; exact h⟩
    | n + 13 => by
      obtain ⟨cC, iS, h⟩ := u_known hts hin_0 (hts _ tk_17)
      exact ⟨(cC, iS), fun q hq => by simp [vwCl] at hq⟩
  obtain ⟨Df, hDf⟩ := Classical.axiomOfChoice hD
  obtain ⟨c0, k0, m0, a1, a2, a3⟩ := Cond.arrayClass_spec (hts _ tk_12)
  obtain ⟨c1, k1, m1, b1, b2, b3⟩ := Cond.arrayClass_spec (hts _ tl_16)
  obtain ⟨c2, k2, m2, d1, d2, d3⟩ := Cond.arrayClass_spec (hts _ tk_31)
  obtain ⟨m3, c3, k3, e1, -, e2, e3, e4⟩ := Cond.arrayOver_spec (hw _ so_0)
  obtain ⟨m4, c4, k4, f1, -, f2, f3, f4⟩ := Cond.arrayOver_spec (hw _ so_1)
  obtain ⟨m5, c5, k5, g1, -, g2, g3, g4⟩ := Cond.arrayOver_spec (hw _ so_2)
  refine ⟨(fun c => (Df c).1, fun c => (Df c).2), fun k => [c0, c1, c2, c3, c4, c5].getD k c0, fun c q hq => hDf c q hq, fun k q hq => ?_⟩
  match k, hq with
  | 0, hq => cases hq; exact ⟨fun n z => ⟨fun k h => (by cases h), k0, a2, m0, a3⟩, a1⟩
  | 1, hq => cases hq; exact ⟨fun n z => ⟨fun k h => (by cases h), k1, b2, m1, b3⟩, b1⟩
  | 2, hq => cases hq; exact ⟨fun n z => ⟨fun k h => (by cases h), k2, d2, m2, d3⟩, d1⟩
  | 3, hq => cases hq; exact ⟨fun n z => ⟨fun k h => (by cases h), k3, e2, m3, e3⟩, k3, m3, e2, e3, e1, e4⟩
  | 4, hq => cases hq; exact ⟨fun n z => ⟨fun k h => (by cases h), k4, f2, m4, f3⟩, k4, m4, f2, f3, f1, f4⟩
  | 5, hq => cases hq; exact ⟨fun n z => ⟨fun k h => (by cases h), k5, g2, m5, g3⟩, k5, m5, g2, g3, g1, g4⟩
  | n + 6, hq => simp at hq

