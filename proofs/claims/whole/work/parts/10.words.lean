/-! words of the tables by their places: written by wip/whole/gen/mkwords.py -/
theorem zgs {c : Cond} (i : Nat) (h : (k2_sels lw_privs)[i]? = some c) (g : goodWord c = true) : c ∈ zG := List.mem_filter.mpr ⟨List.mem_append_left _ (List.mem_of_getElem? h), g⟩
theorem zgm1 {c : Cond} (i : Nat) (h : tables_1_1[i]? = some c) (g : goodWord c = true) : c ∈ zG := List.mem_filter.mpr ⟨List.mem_append_right _ (List.mem_append_left _ (List.mem_of_getElem? h)), g⟩
theorem znm1 {c : Cond} (i : Nat) (h : tables_1_1[i]? = some c) (g : zNest c = true) : c ∈ zN := List.mem_filter.mpr ⟨List.mem_append_right _ (List.mem_append_left _ (List.mem_of_getElem? h)), g⟩
theorem zgm2 {c : Cond} (i : Nat) (h : tables_1_2[i]? = some c) (g : goodWord c = true) : c ∈ zG := List.mem_filter.mpr ⟨List.mem_append_right _ (List.mem_append_right _ (List.mem_append_left _ (List.mem_of_getElem? h))), g⟩
theorem znm2 {c : Cond} (i : Nat) (h : tables_1_2[i]? = some c) (g : zNest c = true) : c ∈ zN := List.mem_filter.mpr ⟨List.mem_append_right _ (List.mem_append_right _ (List.mem_append_left _ (List.mem_of_getElem? h))), g⟩
theorem zgm3 {c : Cond} (i : Nat) (h : tables_1_3[i]? = some c) (g : goodWord c = true) : c ∈ zG := List.mem_filter.mpr ⟨List.mem_append_right _ (List.mem_append_right _ (List.mem_append_right _ (List.mem_append_left _ (List.mem_of_getElem? h)))), g⟩
theorem znm3 {c : Cond} (i : Nat) (h : tables_1_3[i]? = some c) (g : zNest c = true) : c ∈ zN := List.mem_filter.mpr ⟨List.mem_append_right _ (List.mem_append_right _ (List.mem_append_right _ (List.mem_append_left _ (List.mem_of_getElem? h)))), g⟩
theorem zgm4 {c : Cond} (i : Nat) (h : tables_1_4[i]? = some c) (g : goodWord c = true) : c ∈ zG := List.mem_filter.mpr ⟨List.mem_append_right _ (List.mem_append_right _ (List.mem_append_right _ (List.mem_append_right _ (List.mem_append_left _ (List.mem_of_getElem? h))))), g⟩
theorem znm4 {c : Cond} (i : Nat) (h : tables_1_4[i]? = some c) (g : zNest c = true) : c ∈ zN := List.mem_filter.mpr ⟨List.mem_append_right _ (List.mem_append_right _ (List.mem_append_right _ (List.mem_append_right _ (List.mem_append_left _ (List.mem_of_getElem? h))))), g⟩
theorem zgm5 {c : Cond} (i : Nat) (h : tables_1_5[i]? = some c) (g : goodWord c = true) : c ∈ zG := List.mem_filter.mpr ⟨List.mem_append_right _ (List.mem_append_right _ (List.mem_append_right _ (List.mem_append_right _ (List.mem_append_right _ (List.mem_append_left _ (List.mem_of_getElem? h)))))), g⟩
theorem znm5 {c : Cond} (i : Nat) (h : tables_1_5[i]? = some c) (g : zNest c = true) : c ∈ zN := List.mem_filter.mpr ⟨List.mem_append_right _ (List.mem_append_right _ (List.mem_append_right _ (List.mem_append_right _ (List.mem_append_right _ (List.mem_append_left _ (List.mem_of_getElem? h)))))), g⟩
theorem zgm6 {c : Cond} (i : Nat) (h : tables_1_6[i]? = some c) (g : goodWord c = true) : c ∈ zG := List.mem_filter.mpr ⟨List.mem_append_right _ (List.mem_append_right _ (List.mem_append_right _ (List.mem_append_right _ (List.mem_append_right _ (List.mem_append_right _ (List.mem_append_left _ (List.mem_of_getElem? h))))))), g⟩
theorem znm6 {c : Cond} (i : Nat) (h : tables_1_6[i]? = some c) (g : zNest c = true) : c ∈ zN := List.mem_filter.mpr ⟨List.mem_append_right _ (List.mem_append_right _ (List.mem_append_right _ (List.mem_append_right _ (List.mem_append_right _ (List.mem_append_right _ (List.mem_append_left _ (List.mem_of_getElem? h))))))), g⟩
theorem zgm7 {c : Cond} (i : Nat) (h : tables_1_7[i]? = some c) (g : goodWord c = true) : c ∈ zG := List.mem_filter.mpr ⟨List.mem_append_right _ (List.mem_append_right _ (List.mem_append_right _ (List.mem_append_right _ (List.mem_append_right _ (List.mem_append_right _ (List.mem_append_right _ (List.mem_append_left _ (List.mem_of_getElem? h)))))))), g⟩
theorem znm7 {c : Cond} (i : Nat) (h : tables_1_7[i]? = some c) (g : zNest c = true) : c ∈ zN := List.mem_filter.mpr ⟨List.mem_append_right _ (List.mem_append_right _ (List.mem_append_right _ (List.mem_append_right _ (List.mem_append_right _ (List.mem_append_right _ (List.mem_append_right _ (List.mem_append_left _ (List.mem_of_getElem? h)))))))), g⟩
theorem zgm8 {c : Cond} (i : Nat) (h : tables_1_8[i]? = some c) (g : goodWord c = true) : c ∈ zG := List.mem_filter.mpr ⟨List.mem_append_right _ (List.mem_append_right _ (List.mem_append_right _ (List.mem_append_right _ (List.mem_append_right _ (List.mem_append_right _ (List.mem_append_right _ (List.mem_append_right _ (List.mem_append_left _ (List.mem_of_getElem? h))))))))), g⟩
theorem znm8 {c : Cond} (i : Nat) (h : tables_1_8[i]? = some c) (g : zNest c = true) : c ∈ zN := List.mem_filter.mpr ⟨List.mem_append_right _ (List.mem_append_right _ (List.mem_append_right _ (List.mem_append_right _ (List.mem_append_right _ (List.mem_append_right _ (List.mem_append_right _ (List.mem_append_right _ (List.mem_append_left _ (List.mem_of_getElem? h))))))))), g⟩
theorem zgm9 {c : Cond} (i : Nat) (h : tables_1_9[i]? = some c) (g : goodWord c = true) : c ∈ zG := List.mem_filter.mpr ⟨List.mem_append_right _ (List.mem_append_right _ (List.mem_append_right _ (List.mem_append_right _ (List.mem_append_right _ (List.mem_append_right _ (List.mem_append_right _ (List.mem_append_right _ (List.mem_append_right _ (List.mem_of_getElem? h))))))))), g⟩
theorem znm9 {c : Cond} (i : Nat) (h : tables_1_9[i]? = some c) (g : zNest c = true) : c ∈ zN := List.mem_filter.mpr ⟨List.mem_append_right _ (List.mem_append_right _ (List.mem_append_right _ (List.mem_append_right _ (List.mem_append_right _ (List.mem_append_right _ (List.mem_append_right _ (List.mem_append_right _ (List.mem_append_right _ (List.mem_of_getElem? h))))))))), g⟩
theorem zg_0 : (Jvm.Cond.initialized "DayOpenersLaw") ∈ zG := zgm1 0 (rfl) rfl
theorem zg_1 : (Jvm.Cond.initialized "DayOpeners") ∈ zG := zgm1 1 (rfl) rfl
theorem zg_2 : (Jvm.Cond.initialized "DayOpeners$Row") ∈ zG := zgm1 2 (rfl) rfl
theorem zg_3 : (Jvm.Cond.initialized "java/lang/Math") ∈ zG := zgm1 3 (rfl) rfl
theorem zg_4 : (Jvm.Cond.initialized "DayOpeners$Parser") ∈ zG := zgm1 4 (rfl) rfl
theorem zg_5 : (Jvm.Cond.initialized "DayOpeners$Tokens") ∈ zG := zgm1 5 (rfl) rfl
theorem zg_6 : (Jvm.Cond.initialized "java/lang/String") ∈ zG := zgm1 6 (rfl) rfl
theorem zg_7 : (Jvm.Cond.initialized "java/lang/StringLatin1") ∈ zG := zgm1 7 (rfl) rfl
theorem zg_8 : (Jvm.Cond.initialized "jdk/internal/util/Preconditions") ∈ zG := zgm1 8 (rfl) rfl
theorem zg_9 : (Jvm.Cond.initialized "java/lang/StringUTF16") ∈ zG := zgm1 9 (rfl) rfl
theorem zg_10 : (Jvm.Cond.initialized "DayOpeners$Told") ∈ zG := zgm1 10 (rfl) rfl
theorem zg_11 : (Jvm.Cond.initialized "DayOpeners$Laws") ∈ zG := zgm1 11 (rfl) rfl
theorem zg_12 : (Jvm.Cond.initialized "DayOpeners$State") ∈ zG := zgm1 12 (rfl) rfl
theorem zg_13 : (Jvm.Cond.initialized "DayOpeners$Course") ∈ zG := zgm1 13 (rfl) rfl
theorem zg_14 : (Jvm.Cond.initialized "DayOpeners$Notes") ∈ zG := zgm1 14 (rfl) rfl
theorem zg_15 : (Jvm.Cond.initialized "DayOpeners$Steps") ∈ zG := zgm1 15 (rfl) rfl
theorem zg_16 : (Jvm.Cond.initialized "DayOpeners$Seats") ∈ zG := zgm1 16 (rfl) rfl
theorem zg_17 : (Jvm.Cond.initialized "DayOpeners$Plans") ∈ zG := zgm1 17 (rfl) rfl
theorem zg_18 : (Jvm.Cond.initialized "DayOpenersModel") ∈ zG := zgm1 18 (rfl) rfl
theorem zg_19 : (Jvm.Cond.initialized "java/lang/System") ∈ zG := zgm1 19 (rfl) rfl
theorem zg_20 : (Jvm.Cond.initialized "java/lang/Throwable") ∈ zG := zgm1 20 (rfl) rfl
theorem zg_21 : (Jvm.Cond.initialized "java/lang/Exception") ∈ zG := zgm1 21 (rfl) rfl
theorem zg_22 : (Jvm.Cond.initialized "java/lang/RuntimeException") ∈ zG := zgm1 22 (rfl) rfl
theorem zg_23 : (Jvm.Cond.initialized "java/lang/IndexOutOfBoundsException") ∈ zG := zgm1 23 (rfl) rfl
theorem zg_24 : (Jvm.Cond.initialized "java/util/NoSuchElementException") ∈ zG := zgm1 24 (rfl) rfl
theorem zg_25 : (Jvm.Cond.classLink "DayOpenersLaw" (8 : Nat) "DayOpeners") ∈ zG := zgm1 25 (rfl) rfl
theorem zg_26 : (Jvm.Cond.instantiable "DayOpeners" (14 : Nat)) ∈ zG := zgm1 26 (rfl) rfl
theorem zg_27 : (Jvm.Cond.methodLink "DayOpenersLaw" (17 : Nat) ({ cls := "DayOpeners", name := "<init>", desc := "()V" } : Jvm.MethodName)) ∈ zG := zgm1 27 (rfl) rfl
theorem zg_28 : (Jvm.Cond.instanceMethod ({ cls := "DayOpeners", name := "<init>", desc := "()V" } : Jvm.MethodName)) ∈ zG := zgm1 28 (rfl) rfl
theorem zg_29 : (Jvm.Cond.code ({ cls := "DayOpeners", name := "<init>", desc := "()V" } : Jvm.MethodName) prog_1_method_1_code (1 : Nat) (Option.none : Option Jvm.ClassFile.FieldType)) ∈ zG := zgm1 29 (rfl) rfl
theorem zg_30 : (Jvm.Cond.methodLink "DayOpeners" (1 : Nat) ({ cls := "java/lang/Object", name := "<init>", desc := "()V" } : Jvm.MethodName)) ∈ zG := zgm1 30 (rfl) rfl
theorem zg_31 : (Jvm.Cond.instanceMethod ({ cls := "java/lang/Object", name := "<init>", desc := "()V" } : Jvm.MethodName)) ∈ zG := zgm1 31 (rfl) rfl
theorem zg_32 : (Jvm.Cond.code ({ cls := "java/lang/Object", name := "<init>", desc := "()V" } : Jvm.MethodName) object_method_1_code (1 : Nat) (Option.none : Option Jvm.ClassFile.FieldType)) ∈ zG := zgm1 32 (rfl) rfl
theorem zg_33 : (Jvm.Cond.classLink "DayOpeners" (7 : Nat) "DayOpeners$Row") ∈ zG := zgm1 33 (rfl) rfl
theorem zg_34 : (Jvm.Cond.instantiable "DayOpeners$Row" (1 : Nat)) ∈ zG := zgm1 34 (rfl) rfl
theorem zg_35 : (Jvm.Cond.methodLink "DayOpeners" (11 : Nat) ({ cls := "DayOpeners$Row", name := "<init>", desc := "(I)V" } : Jvm.MethodName)) ∈ zG := zgm1 35 (rfl) rfl
theorem zg_36 : (Jvm.Cond.instanceMethod ({ cls := "DayOpeners$Row", name := "<init>", desc := "(I)V" } : Jvm.MethodName)) ∈ zG := zgm1 36 (rfl) rfl
theorem zg_37 : (Jvm.Cond.code ({ cls := "DayOpeners$Row", name := "<init>", desc := "(I)V" } : Jvm.MethodName) prog_7_method_1_code (2 : Nat) (Option.none : Option Jvm.ClassFile.FieldType)) ∈ zG := zgm1 37 (rfl) rfl
theorem zg_38 : (Jvm.Cond.methodLink "DayOpeners$Row" (1 : Nat) ({ cls := "java/lang/Object", name := "<init>", desc := "()V" } : Jvm.MethodName)) ∈ zG := zgm1 38 (rfl) rfl
theorem zg_39 : (Jvm.Cond.methodLink "DayOpeners$Row" (7 : Nat) ({ cls := "java/lang/Math", name := "max", desc := "(II)I" } : Jvm.MethodName)) ∈ zG := zgm1 39 (rfl) rfl
theorem zg_40 : (Jvm.Cond.static ({ cls := "java/lang/Math", name := "max", desc := "(II)I" } : Jvm.MethodName)) ∈ zG := zgm1 40 (rfl) rfl
theorem zg_41 : (Jvm.Cond.code ({ cls := "java/lang/Math", name := "max", desc := "(II)I" } : Jvm.MethodName) prog_20_method_65_code (2 : Nat) (Option.some Jvm.ClassFile.FieldType.int)) ∈ zG := zgm1 41 (rfl) rfl
theorem zg_42 : (Jvm.Cond.fieldLink "DayOpeners$Row" (13 : Nat) "DayOpeners$Row" "cells" "[I") ∈ zG := zgm1 42 (rfl) rfl
theorem zg_43 : (Jvm.Cond.laysFinal "DayOpeners$Row" "DayOpeners$Row" "cells" "[I") ∈ zG := zgm1 43 (rfl) rfl
theorem zg_46 : (Jvm.Cond.arrayClass Jvm.ClassFile.FieldType.int) ∈ zG := zgm1 46 (rfl) rfl
theorem zg_47 : (Jvm.Cond.classLink "DayOpeners" (18 : Nat) "DayOpeners$Parser") ∈ zG := zgm1 47 (rfl) rfl
theorem zg_48 : (Jvm.Cond.instantiable "DayOpeners$Parser" (10 : Nat)) ∈ zG := zgm1 48 (rfl) rfl
theorem zn_49 : (Jvm.Cond.methodLinkNest "DayOpeners" (20 : Nat) ({ cls := "DayOpeners$Parser", name := "<init>", desc := "()V" } : Jvm.MethodName) "DayOpeners") ∈ zN := znm1 49 (rfl) rfl
theorem zg_50 : (Jvm.Cond.instanceMethod ({ cls := "DayOpeners$Parser", name := "<init>", desc := "()V" } : Jvm.MethodName)) ∈ zG := zgm1 50 (rfl) rfl
theorem zg_51 : (Jvm.Cond.code ({ cls := "DayOpeners$Parser", name := "<init>", desc := "()V" } : Jvm.MethodName) prog_5_method_1_code (1 : Nat) (Option.none : Option Jvm.ClassFile.FieldType)) ∈ zG := zgm1 51 (rfl) rfl
theorem zg_52 : (Jvm.Cond.methodLink "DayOpeners$Parser" (3 : Nat) ({ cls := "java/lang/Object", name := "<init>", desc := "()V" } : Jvm.MethodName)) ∈ zG := zgm1 52 (rfl) rfl
theorem zg_53 : (Jvm.Cond.classLink "DayOpeners$Parser" (9 : Nat) "DayOpeners$Tokens") ∈ zG := zgm1 53 (rfl) rfl
theorem zg_54 : (Jvm.Cond.instantiable "DayOpeners$Tokens" (7 : Nat)) ∈ zG := zgm1 54 (rfl) rfl
theorem zg_55 : (Jvm.Cond.methodLink "DayOpeners$Parser" (11 : Nat) ({ cls := "DayOpeners$Tokens", name := "<init>", desc := "()V" } : Jvm.MethodName)) ∈ zG := zgm1 55 (rfl) rfl
theorem zg_56 : (Jvm.Cond.instanceMethod ({ cls := "DayOpeners$Tokens", name := "<init>", desc := "()V" } : Jvm.MethodName)) ∈ zG := zgm1 56 (rfl) rfl
theorem zg_57 : (Jvm.Cond.code ({ cls := "DayOpeners$Tokens", name := "<init>", desc := "()V" } : Jvm.MethodName) prog_11_method_1_code (6 : Nat) (Option.none : Option Jvm.ClassFile.FieldType)) ∈ zG := zgm1 57 (rfl) rfl
theorem zg_58 : (Jvm.Cond.methodLink "DayOpeners$Tokens" (3 : Nat) ({ cls := "java/lang/Object", name := "<init>", desc := "()V" } : Jvm.MethodName)) ∈ zG := zgm1 58 (rfl) rfl
theorem zg_59 : (Jvm.Cond.classLink "DayOpeners$Tokens" (9 : Nat) "DayOpeners$Row") ∈ zG := zgm1 59 (rfl) rfl
theorem zg_60 : (Jvm.Cond.methodLink "DayOpeners$Tokens" (11 : Nat) ({ cls := "DayOpeners$Row", name := "<init>", desc := "(I)V" } : Jvm.MethodName)) ∈ zG := zgm1 60 (rfl) rfl
theorem zg_62 : (Jvm.Cond.methodLink "DayOpeners$Tokens" (25 : Nat) ({ cls := "java/lang/String", name := "length", desc := "()I" } : Jvm.MethodName)) ∈ zG := zgm1 62 (rfl) rfl
theorem zg_63 : (Jvm.Cond.instanceMethod ({ cls := "java/lang/String", name := "length", desc := "()I" } : Jvm.MethodName)) ∈ zG := zgm1 63 (rfl) rfl
theorem zg_64 : (Jvm.Cond.selects "java/lang/String" ({ cls := "java/lang/String", name := "length", desc := "()I" } : Jvm.MethodName) ({ cls := "java/lang/String", name := "length", desc := "()I" } : Jvm.MethodName)) ∈ zG := zgm1 64 (rfl) rfl
theorem zg_65 : (Jvm.Cond.code ({ cls := "java/lang/String", name := "length", desc := "()I" } : Jvm.MethodName) prog_22_method_54_code (1 : Nat) (Option.some Jvm.ClassFile.FieldType.int)) ∈ zG := zgm1 65 (rfl) rfl
theorem zg_67 : (Jvm.Cond.instanceMethod ({ cls := "java/lang/String", name := "coder", desc := "()B" } : Jvm.MethodName)) ∈ zG := zgm1 67 (rfl) rfl
theorem zg_68 : (Jvm.Cond.selects "java/lang/String" ({ cls := "java/lang/String", name := "coder", desc := "()B" } : Jvm.MethodName) ({ cls := "java/lang/String", name := "coder", desc := "()B" } : Jvm.MethodName)) ∈ zG := zgm1 68 (rfl) rfl
theorem zg_69 : (Jvm.Cond.code ({ cls := "java/lang/String", name := "coder", desc := "()B" } : Jvm.MethodName) prog_22_method_152_code (1 : Nat) (Option.some Jvm.ClassFile.FieldType.byte)) ∈ zG := zgm1 69 (rfl) rfl
theorem zg_72 : (Jvm.Cond.methodLink "DayOpeners$Tokens" (31 : Nat) ({ cls := "java/lang/String", name := "charAt", desc := "(I)C" } : Jvm.MethodName)) ∈ zG := zgm1 72 (rfl) rfl
theorem zg_73 : (Jvm.Cond.instanceMethod ({ cls := "java/lang/String", name := "charAt", desc := "(I)C" } : Jvm.MethodName)) ∈ zG := zgm1 73 (rfl) rfl
theorem zg_74 : (Jvm.Cond.selects "java/lang/String" ({ cls := "java/lang/String", name := "charAt", desc := "(I)C" } : Jvm.MethodName) ({ cls := "java/lang/String", name := "charAt", desc := "(I)C" } : Jvm.MethodName)) ∈ zG := zgm1 74 (rfl) rfl
theorem zg_75 : (Jvm.Cond.code ({ cls := "java/lang/String", name := "charAt", desc := "(I)C" } : Jvm.MethodName) prog_22_method_56_code (2 : Nat) (Option.some Jvm.ClassFile.FieldType.char)) ∈ zG := zgm1 75 (rfl) rfl
theorem zg_77 : (Jvm.Cond.instanceMethod ({ cls := "java/lang/String", name := "isLatin1", desc := "()Z" } : Jvm.MethodName)) ∈ zG := zgm1 77 (rfl) rfl
theorem zg_78 : (Jvm.Cond.selects "java/lang/String" ({ cls := "java/lang/String", name := "isLatin1", desc := "()Z" } : Jvm.MethodName) ({ cls := "java/lang/String", name := "isLatin1", desc := "()Z" } : Jvm.MethodName)) ∈ zG := zgm1 78 (rfl) rfl
theorem zg_79 : (Jvm.Cond.code ({ cls := "java/lang/String", name := "isLatin1", desc := "()Z" } : Jvm.MethodName) prog_22_method_154_code (1 : Nat) (Option.some Jvm.ClassFile.FieldType.boolean)) ∈ zG := zgm1 79 (rfl) rfl
theorem zg_81 : (Jvm.Cond.static ({ cls := "java/lang/StringLatin1", name := "charAt", desc := "([BI)C" } : Jvm.MethodName)) ∈ zG := zgm1 81 (rfl) rfl
theorem zg_82 : (Jvm.Cond.code ({ cls := "java/lang/StringLatin1", name := "charAt", desc := "([BI)C" } : Jvm.MethodName) prog_23_method_2_code (2 : Nat) (Option.some Jvm.ClassFile.FieldType.char)) ∈ zG := zgm1 82 (rfl) rfl
theorem zg_84 : (Jvm.Cond.static ({ cls := "java/lang/String", name := "checkIndex", desc := "(II)V" } : Jvm.MethodName)) ∈ zG := zgm1 84 (rfl) rfl
theorem zg_85 : (Jvm.Cond.code ({ cls := "java/lang/String", name := "checkIndex", desc := "(II)V" } : Jvm.MethodName) prog_22_method_155_code (2 : Nat) (Option.none : Option Jvm.ClassFile.FieldType)) ∈ zG := zgm1 85 (rfl) rfl
theorem zg_89 : (Jvm.Cond.static ({ cls := "jdk/internal/util/Preconditions", name := "checkIndex", desc := "(IILjava/util/function/BiFunction;)I" } : Jvm.MethodName)) ∈ zG := zgm1 89 (rfl) rfl
theorem zg_90 : (Jvm.Cond.code ({ cls := "jdk/internal/util/Preconditions", name := "checkIndex", desc := "(IILjava/util/function/BiFunction;)I" } : Jvm.MethodName) prog_30_method_11_code (3 : Nat) (Option.some Jvm.ClassFile.FieldType.int)) ∈ zG := zgm1 90 (rfl) rfl
theorem zg_92 : (Jvm.Cond.static ({ cls := "java/lang/StringUTF16", name := "charAt", desc := "([BI)C" } : Jvm.MethodName)) ∈ zG := zgm1 92 (rfl) rfl
theorem zg_93 : (Jvm.Cond.code ({ cls := "java/lang/StringUTF16", name := "charAt", desc := "([BI)C" } : Jvm.MethodName) prog_24_method_83_code (2 : Nat) (Option.some Jvm.ClassFile.FieldType.char)) ∈ zG := zgm1 93 (rfl) rfl
theorem zg_95 : (Jvm.Cond.static ({ cls := "java/lang/StringUTF16", name := "checkIndex", desc := "(I[B)V" } : Jvm.MethodName)) ∈ zG := zgm1 95 (rfl) rfl
theorem zg_96 : (Jvm.Cond.code ({ cls := "java/lang/StringUTF16", name := "checkIndex", desc := "(I[B)V" } : Jvm.MethodName) prog_24_method_91_code (2 : Nat) (Option.none : Option Jvm.ClassFile.FieldType)) ∈ zG := zgm1 96 (rfl) rfl
theorem zg_98 : (Jvm.Cond.static ({ cls := "java/lang/StringUTF16", name := "length", desc := "([B)I" } : Jvm.MethodName)) ∈ zG := zgm1 98 (rfl) rfl
theorem zg_99 : (Jvm.Cond.code ({ cls := "java/lang/StringUTF16", name := "length", desc := "([B)I" } : Jvm.MethodName) prog_24_method_6_code (1 : Nat) (Option.some Jvm.ClassFile.FieldType.int)) ∈ zG := zgm1 99 (rfl) rfl
theorem zg_102 : (Jvm.Cond.static ({ cls := "java/lang/StringUTF16", name := "getChar", desc := "([BI)C" } : Jvm.MethodName)) ∈ zG := zgm1 102 (rfl) rfl
theorem zg_103 : (Jvm.Cond.code ({ cls := "java/lang/StringUTF16", name := "getChar", desc := "([BI)C" } : Jvm.MethodName) prog_24_method_5_code (2 : Nat) (Option.some Jvm.ClassFile.FieldType.char)) ∈ zG := zgm1 103 (rfl) rfl
theorem zg_110 : (Jvm.Cond.methodLink "DayOpeners$Tokens" (35 : Nat) ({ cls := "DayOpeners$Row", name := "set", desc := "(II)V" } : Jvm.MethodName)) ∈ zG := zgm1 110 (rfl) rfl
theorem zg_111 : (Jvm.Cond.instanceMethod ({ cls := "DayOpeners$Row", name := "set", desc := "(II)V" } : Jvm.MethodName)) ∈ zG := zgm1 111 (rfl) rfl
theorem zg_112 : (Jvm.Cond.selects "DayOpeners$Row" ({ cls := "DayOpeners$Row", name := "set", desc := "(II)V" } : Jvm.MethodName) ({ cls := "DayOpeners$Row", name := "set", desc := "(II)V" } : Jvm.MethodName)) ∈ zG := zgm1 112 (rfl) rfl
theorem zg_113 : (Jvm.Cond.code ({ cls := "DayOpeners$Row", name := "set", desc := "(II)V" } : Jvm.MethodName) prog_7_method_3_code (3 : Nat) (Option.none : Option Jvm.ClassFile.FieldType)) ∈ zG := zgm1 113 (rfl) rfl
theorem zg_114 : (Jvm.Cond.fieldLink "DayOpeners$Tokens" (14 : Nat) "DayOpeners$Tokens" "words" "LDayOpeners$Row;") ∈ zG := zgm1 114 (rfl) rfl
theorem zg_115 : (Jvm.Cond.fieldLink "DayOpeners$Tokens" (20 : Nat) "DayOpeners$Tokens" "bytes" "LDayOpeners$Row;") ∈ zG := zgm1 115 (rfl) rfl
theorem zg_116 : (Jvm.Cond.fieldLink "DayOpeners$Tokens" (39 : Nat) "DayOpeners$Tokens" "size" "I") ∈ zG := zgm1 116 (rfl) rfl
theorem zg_117 : (Jvm.Cond.fieldLink "DayOpeners$Tokens" (43 : Nat) "DayOpeners$Tokens" "at" "I") ∈ zG := zgm1 117 (rfl) rfl
theorem zn_118 : (Jvm.Cond.fieldLinkNest "DayOpeners$Parser" (65 : Nat) "DayOpeners$Tokens" "place" "I" "DayOpeners") ∈ zN := znm1 118 (rfl) rfl
theorem zg_119 : (Jvm.Cond.fieldLink "DayOpeners$Tokens" (57 : Nat) "DayOpeners$Tokens" "place" "I") ∈ zG := zgm1 119 (rfl) rfl
theorem zn_120 : (Jvm.Cond.fieldLinkNest "DayOpeners$Parser" (55 : Nat) "DayOpeners$Tokens" "kind" "I" "DayOpeners") ∈ zN := znm1 120 (rfl) rfl
theorem zg_121 : (Jvm.Cond.fieldLink "DayOpeners$Tokens" (60 : Nat) "DayOpeners$Tokens" "kind" "I") ∈ zG := zgm1 121 (rfl) rfl
theorem zn_122 : (Jvm.Cond.fieldLinkNest "DayOpeners$Parser" (73 : Nat) "DayOpeners$Tokens" "value" "I" "DayOpeners") ∈ zN := znm1 122 (rfl) rfl
theorem zg_123 : (Jvm.Cond.fieldLink "DayOpeners$Tokens" (78 : Nat) "DayOpeners$Tokens" "value" "I") ∈ zG := zgm1 123 (rfl) rfl
theorem zg_124 : (Jvm.Cond.laysFinal "DayOpeners$Tokens" "DayOpeners$Tokens" "words" "LDayOpeners$Row;") ∈ zG := zgm1 124 (rfl) rfl
theorem zg_126 : (Jvm.Cond.lays "DayOpeners$Tokens" "DayOpeners$Tokens" "bytes" "LDayOpeners$Row;") ∈ zG := zgm1 126 (rfl) rfl
theorem zg_128 : (Jvm.Cond.lays "DayOpeners$Tokens" "DayOpeners$Tokens" "size" "I") ∈ zG := zgm1 128 (rfl) rfl
theorem zg_130 : (Jvm.Cond.lays "DayOpeners$Tokens" "DayOpeners$Tokens" "at" "I") ∈ zG := zgm1 130 (rfl) rfl
theorem zg_132 : (Jvm.Cond.lays "DayOpeners$Tokens" "DayOpeners$Tokens" "place" "I") ∈ zG := zgm1 132 (rfl) rfl
theorem zg_134 : (Jvm.Cond.lays "DayOpeners$Tokens" "DayOpeners$Tokens" "kind" "I") ∈ zG := zgm1 134 (rfl) rfl
theorem zg_136 : (Jvm.Cond.lays "DayOpeners$Tokens" "DayOpeners$Tokens" "value" "I") ∈ zG := zgm1 136 (rfl) rfl
theorem zg_139 : (Jvm.Cond.arrayClass Jvm.ClassFile.FieldType.byte) ∈ zG := zgm1 139 (rfl) rfl
theorem zg_140 : (Jvm.Cond.classLink "DayOpeners$Parser" (18 : Nat) "DayOpeners$Told") ∈ zG := zgm1 140 (rfl) rfl
theorem zg_141 : (Jvm.Cond.instantiable "DayOpeners$Told" (18 : Nat)) ∈ zG := zgm1 141 (rfl) rfl
theorem zn_142 : (Jvm.Cond.methodLinkNest "DayOpeners$Parser" (20 : Nat) ({ cls := "DayOpeners$Told", name := "<init>", desc := "()V" } : Jvm.MethodName) "DayOpeners") ∈ zN := znm1 142 (rfl) rfl
theorem zg_143 : (Jvm.Cond.instanceMethod ({ cls := "DayOpeners$Told", name := "<init>", desc := "()V" } : Jvm.MethodName)) ∈ zG := zgm1 143 (rfl) rfl
theorem zg_144 : (Jvm.Cond.code ({ cls := "DayOpeners$Told", name := "<init>", desc := "()V" } : Jvm.MethodName) prog_12_method_1_code (1 : Nat) (Option.none : Option Jvm.ClassFile.FieldType)) ∈ zG := zgm1 144 (rfl) rfl
theorem zg_145 : (Jvm.Cond.methodLink "DayOpeners$Told" (3 : Nat) ({ cls := "java/lang/Object", name := "<init>", desc := "()V" } : Jvm.MethodName)) ∈ zG := zgm1 145 (rfl) rfl
theorem zg_146 : (Jvm.Cond.classLink "DayOpeners$Told" (9 : Nat) "DayOpeners$Row") ∈ zG := zgm1 146 (rfl) rfl
theorem zg_147 : (Jvm.Cond.methodLink "DayOpeners$Told" (11 : Nat) ({ cls := "DayOpeners$Row", name := "<init>", desc := "(I)V" } : Jvm.MethodName)) ∈ zG := zgm1 147 (rfl) rfl
theorem zg_148 : (Jvm.Cond.classLink "DayOpeners$Told" (47 : Nat) "DayOpeners$Laws") ∈ zG := zgm1 148 (rfl) rfl
theorem zg_149 : (Jvm.Cond.instantiable "DayOpeners$Laws" (7 : Nat)) ∈ zG := zgm1 149 (rfl) rfl
theorem zn_150 : (Jvm.Cond.methodLinkNest "DayOpeners$Told" (49 : Nat) ({ cls := "DayOpeners$Laws", name := "<init>", desc := "()V" } : Jvm.MethodName) "DayOpeners") ∈ zN := znm1 150 (rfl) rfl
theorem zg_151 : (Jvm.Cond.instanceMethod ({ cls := "DayOpeners$Laws", name := "<init>", desc := "()V" } : Jvm.MethodName)) ∈ zG := zgm1 151 (rfl) rfl
theorem zg_152 : (Jvm.Cond.code ({ cls := "DayOpeners$Laws", name := "<init>", desc := "()V" } : Jvm.MethodName) prog_3_method_1_code (1 : Nat) (Option.none : Option Jvm.ClassFile.FieldType)) ∈ zG := zgm1 152 (rfl) rfl
theorem zg_153 : (Jvm.Cond.methodLink "DayOpeners$Laws" (3 : Nat) ({ cls := "java/lang/Object", name := "<init>", desc := "()V" } : Jvm.MethodName)) ∈ zG := zgm1 153 (rfl) rfl
theorem zg_154 : (Jvm.Cond.classLink "DayOpeners$Laws" (9 : Nat) "DayOpeners$Row") ∈ zG := zgm1 154 (rfl) rfl
theorem zg_155 : (Jvm.Cond.methodLink "DayOpeners$Laws" (11 : Nat) ({ cls := "DayOpeners$Row", name := "<init>", desc := "(I)V" } : Jvm.MethodName)) ∈ zG := zgm1 155 (rfl) rfl
theorem zg_156 : (Jvm.Cond.fieldLink "DayOpeners$Laws" (14 : Nat) "DayOpeners$Laws" "kinds" "LDayOpeners$Row;") ∈ zG := zgm1 156 (rfl) rfl
theorem zg_157 : (Jvm.Cond.fieldLink "DayOpeners$Laws" (20 : Nat) "DayOpeners$Laws" "values" "LDayOpeners$Row;") ∈ zG := zgm1 157 (rfl) rfl
theorem zg_158 : (Jvm.Cond.fieldLink "DayOpeners$Laws" (23 : Nat) "DayOpeners$Laws" "begins" "LDayOpeners$Row;") ∈ zG := zgm1 158 (rfl) rfl
theorem zg_159 : (Jvm.Cond.fieldLink "DayOpeners$Laws" (26 : Nat) "DayOpeners$Laws" "ends" "LDayOpeners$Row;") ∈ zG := zgm1 159 (rfl) rfl
theorem zg_160 : (Jvm.Cond.fieldLink "DayOpeners$Laws" (29 : Nat) "DayOpeners$Laws" "names" "[J") ∈ zG := zgm1 160 (rfl) rfl
theorem zg_161 : (Jvm.Cond.fieldLink "DayOpeners$Laws" (33 : Nat) "DayOpeners$Laws" "stack" "[J") ∈ zG := zgm1 161 (rfl) rfl
theorem zg_162 : (Jvm.Cond.fieldLink "DayOpeners$Laws" (36 : Nat) "DayOpeners$Laws" "knots" "I") ∈ zG := zgm1 162 (rfl) rfl
theorem zn_163 : (Jvm.Cond.fieldLinkNest "DayOpeners" (358 : Nat) "DayOpeners$Laws" "knots" "I" "DayOpeners") ∈ zN := znm1 163 (rfl) rfl
theorem zg_164 : (Jvm.Cond.laysFinal "DayOpeners$Laws" "DayOpeners$Laws" "kinds" "LDayOpeners$Row;") ∈ zG := zgm1 164 (rfl) rfl
theorem zg_166 : (Jvm.Cond.laysFinal "DayOpeners$Laws" "DayOpeners$Laws" "values" "LDayOpeners$Row;") ∈ zG := zgm1 166 (rfl) rfl
theorem zg_168 : (Jvm.Cond.laysFinal "DayOpeners$Laws" "DayOpeners$Laws" "begins" "LDayOpeners$Row;") ∈ zG := zgm1 168 (rfl) rfl
theorem zg_170 : (Jvm.Cond.laysFinal "DayOpeners$Laws" "DayOpeners$Laws" "ends" "LDayOpeners$Row;") ∈ zG := zgm1 170 (rfl) rfl
theorem zg_172 : (Jvm.Cond.laysFinal "DayOpeners$Laws" "DayOpeners$Laws" "names" "[J") ∈ zG := zgm1 172 (rfl) rfl
theorem zg_174 : (Jvm.Cond.laysFinal "DayOpeners$Laws" "DayOpeners$Laws" "stack" "[J") ∈ zG := zgm1 174 (rfl) rfl
theorem zg_176 : (Jvm.Cond.lays "DayOpeners$Laws" "DayOpeners$Laws" "knots" "I") ∈ zG := zgm1 176 (rfl) rfl
theorem zg_179 : (Jvm.Cond.arrayClass Jvm.ClassFile.FieldType.long) ∈ zG := zgm1 179 (rfl) rfl
theorem zg_180 : (Jvm.Cond.fieldLink "DayOpeners$Told" (54 : Nat) "DayOpeners$Told" "lines" "I") ∈ zG := zgm1 180 (rfl) rfl
theorem zn_181 : (Jvm.Cond.fieldLinkNest "DayOpeners$Parser" (62 : Nat) "DayOpeners$Told" "lines" "I" "DayOpeners") ∈ zN := znm1 181 (rfl) rfl
theorem zn_182 : (Jvm.Cond.fieldLinkNest "DayOpeners" (110 : Nat) "DayOpeners$Told" "lines" "I" "DayOpeners") ∈ zN := znm1 182 (rfl) rfl
theorem zg_183 : (Jvm.Cond.fieldLink "DayOpeners$Told" (58 : Nat) "DayOpeners$Told" "trades" "I") ∈ zG := zgm1 183 (rfl) rfl
theorem zn_184 : (Jvm.Cond.fieldLinkNest "DayOpeners$Plans" (47 : Nat) "DayOpeners$Told" "trades" "I" "DayOpeners") ∈ zN := znm1 184 (rfl) rfl
theorem zn_185 : (Jvm.Cond.fieldLinkNest "DayOpeners$Seats" (71 : Nat) "DayOpeners$Told" "trades" "I" "DayOpeners") ∈ zN := znm1 185 (rfl) rfl
theorem zn_186 : (Jvm.Cond.fieldLinkNest "DayOpeners$Parser" (110 : Nat) "DayOpeners$Told" "trades" "I" "DayOpeners") ∈ zN := znm1 186 (rfl) rfl
theorem zn_187 : (Jvm.Cond.fieldLinkNest "DayOpeners" (251 : Nat) "DayOpeners$Told" "trades" "I" "DayOpeners") ∈ zN := znm1 187 (rfl) rfl
theorem zg_188 : (Jvm.Cond.fieldLink "DayOpeners$Told" (14 : Nat) "DayOpeners$Told" "tradeNames" "LDayOpeners$Row;") ∈ zG := zgm1 188 (rfl) rfl
theorem zn_189 : (Jvm.Cond.fieldLinkNest "DayOpeners$Parser" (115 : Nat) "DayOpeners$Told" "tradeNames" "LDayOpeners$Row;" "DayOpeners") ∈ zN := znm1 189 (rfl) rfl
theorem zg_190 : (Jvm.Cond.fieldLink "DayOpeners$Told" (20 : Nat) "DayOpeners$Told" "hours" "LDayOpeners$Row;") ∈ zG := zgm1 190 (rfl) rfl
theorem zn_191 : (Jvm.Cond.fieldLinkNest "DayOpeners$Course" (27 : Nat) "DayOpeners$Told" "hours" "LDayOpeners$Row;" "DayOpeners") ∈ zN := znm1 191 (rfl) rfl
theorem zn_192 : (Jvm.Cond.fieldLinkNest "DayOpeners" (133 : Nat) "DayOpeners$Told" "hours" "LDayOpeners$Row;" "DayOpeners") ∈ zN := znm1 192 (rfl) rfl
theorem zn_193 : (Jvm.Cond.fieldLinkNest "DayOpeners$Parser" (130 : Nat) "DayOpeners$Told" "hours" "LDayOpeners$Row;" "DayOpeners") ∈ zN := znm1 193 (rfl) rfl
theorem zg_194 : (Jvm.Cond.fieldLink "DayOpeners$Told" (23 : Nat) "DayOpeners$Told" "manners" "LDayOpeners$Row;") ∈ zG := zgm1 194 (rfl) rfl
theorem zn_195 : (Jvm.Cond.fieldLinkNest "DayOpeners$Seats" (26 : Nat) "DayOpeners$Told" "manners" "LDayOpeners$Row;" "DayOpeners") ∈ zN := znm1 195 (rfl) rfl
theorem zn_196 : (Jvm.Cond.fieldLinkNest "DayOpeners" (139 : Nat) "DayOpeners$Told" "manners" "LDayOpeners$Row;" "DayOpeners") ∈ zN := znm1 196 (rfl) rfl
theorem zn_197 : (Jvm.Cond.fieldLinkNest "DayOpeners$Course" (147 : Nat) "DayOpeners$Told" "manners" "LDayOpeners$Row;" "DayOpeners") ∈ zN := znm1 197 (rfl) rfl
theorem zn_198 : (Jvm.Cond.fieldLinkNest "DayOpeners$Parser" (133 : Nat) "DayOpeners$Told" "manners" "LDayOpeners$Row;" "DayOpeners") ∈ zN := znm1 198 (rfl) rfl
theorem zg_199 : (Jvm.Cond.fieldLink "DayOpeners$Told" (61 : Nat) "DayOpeners$Told" "turns" "I") ∈ zG := zgm1 199 (rfl) rfl
theorem zn_200 : (Jvm.Cond.fieldLinkNest "DayOpeners$State" (68 : Nat) "DayOpeners$Told" "turns" "I" "DayOpeners") ∈ zN := znm1 200 (rfl) rfl
theorem zn_201 : (Jvm.Cond.fieldLinkNest "DayOpeners$Parser" (136 : Nat) "DayOpeners$Told" "turns" "I" "DayOpeners") ∈ zN := znm1 201 (rfl) rfl
theorem zg_202 : (Jvm.Cond.fieldLink "DayOpeners$Told" (26 : Nat) "DayOpeners$Told" "list" "LDayOpeners$Row;") ∈ zG := zgm1 202 (rfl) rfl
theorem zn_203 : (Jvm.Cond.fieldLinkNest "DayOpeners$State" (74 : Nat) "DayOpeners$Told" "list" "LDayOpeners$Row;" "DayOpeners") ∈ zN := znm1 203 (rfl) rfl
theorem zn_204 : (Jvm.Cond.fieldLinkNest "DayOpeners$Parser" (141 : Nat) "DayOpeners$Told" "list" "LDayOpeners$Row;" "DayOpeners") ∈ zN := znm1 204 (rfl) rfl
theorem zg_205 : (Jvm.Cond.fieldLink "DayOpeners$Told" (64 : Nat) "DayOpeners$Told" "claims" "I") ∈ zG := zgm1 205 (rfl) rfl
theorem zn_206 : (Jvm.Cond.fieldLinkNest "DayOpeners$Parser" (144 : Nat) "DayOpeners$Told" "claims" "I" "DayOpeners") ∈ zN := znm1 206 (rfl) rfl
theorem zn_207 : (Jvm.Cond.fieldLinkNest "DayOpeners" (351 : Nat) "DayOpeners$Told" "claims" "I" "DayOpeners") ∈ zN := znm1 207 (rfl) rfl
theorem zg_208 : (Jvm.Cond.fieldLink "DayOpeners$Told" (29 : Nat) "DayOpeners$Told" "claimants" "LDayOpeners$Row;") ∈ zG := zgm1 208 (rfl) rfl
theorem zn_209 : (Jvm.Cond.fieldLinkNest "DayOpeners$Parser" (146 : Nat) "DayOpeners$Told" "claimants" "LDayOpeners$Row;" "DayOpeners") ∈ zN := znm1 209 (rfl) rfl
theorem zg_210 : (Jvm.Cond.fieldLink "DayOpeners$Told" (32 : Nat) "DayOpeners$Told" "dates" "LDayOpeners$Row;") ∈ zG := zgm1 210 (rfl) rfl
theorem zn_211 : (Jvm.Cond.fieldLinkNest "DayOpeners$Parser" (152 : Nat) "DayOpeners$Told" "dates" "LDayOpeners$Row;" "DayOpeners") ∈ zN := znm1 211 (rfl) rfl
theorem zg_212 : (Jvm.Cond.fieldLink "DayOpeners$Told" (67 : Nat) "DayOpeners$Told" "works" "I") ∈ zG := zgm1 212 (rfl) rfl
theorem zn_213 : (Jvm.Cond.fieldLinkNest "DayOpeners$State" (53 : Nat) "DayOpeners$Told" "works" "I" "DayOpeners") ∈ zN := znm1 213 (rfl) rfl
theorem zn_214 : (Jvm.Cond.fieldLinkNest "DayOpeners$Plans" (57 : Nat) "DayOpeners$Told" "works" "I" "DayOpeners") ∈ zN := znm1 214 (rfl) rfl
theorem zn_215 : (Jvm.Cond.fieldLinkNest "DayOpeners$Parser" (155 : Nat) "DayOpeners$Told" "works" "I" "DayOpeners") ∈ zN := znm1 215 (rfl) rfl
theorem zn_216 : (Jvm.Cond.fieldLinkNest "DayOpeners" (217 : Nat) "DayOpeners$Told" "works" "I" "DayOpeners") ∈ zN := znm1 216 (rfl) rfl
theorem zg_217 : (Jvm.Cond.fieldLink "DayOpeners$Told" (35 : Nat) "DayOpeners$Told" "workNames" "LDayOpeners$Row;") ∈ zG := zgm1 217 (rfl) rfl
theorem zn_218 : (Jvm.Cond.fieldLinkNest "DayOpeners$Parser" (157 : Nat) "DayOpeners$Told" "workNames" "LDayOpeners$Row;" "DayOpeners") ∈ zN := znm1 218 (rfl) rfl
theorem zg_219 : (Jvm.Cond.fieldLink "DayOpeners$Told" (38 : Nat) "DayOpeners$Told" "lows" "LDayOpeners$Row;") ∈ zG := zgm1 219 (rfl) rfl
theorem zn_220 : (Jvm.Cond.fieldLinkNest "DayOpeners$Plans" (60 : Nat) "DayOpeners$Told" "lows" "LDayOpeners$Row;" "DayOpeners") ∈ zN := znm1 220 (rfl) rfl
theorem zn_221 : (Jvm.Cond.fieldLinkNest "DayOpeners$State" (102 : Nat) "DayOpeners$Told" "lows" "LDayOpeners$Row;" "DayOpeners") ∈ zN := znm1 221 (rfl) rfl
theorem zn_222 : (Jvm.Cond.fieldLinkNest "DayOpeners" (163 : Nat) "DayOpeners$Told" "lows" "LDayOpeners$Row;" "DayOpeners") ∈ zN := znm1 222 (rfl) rfl
theorem zn_223 : (Jvm.Cond.fieldLinkNest "DayOpeners$Parser" (160 : Nat) "DayOpeners$Told" "lows" "LDayOpeners$Row;" "DayOpeners") ∈ zN := znm1 223 (rfl) rfl
theorem zg_224 : (Jvm.Cond.fieldLink "DayOpeners$Told" (41 : Nat) "DayOpeners$Told" "highs" "LDayOpeners$Row;") ∈ zG := zgm1 224 (rfl) rfl
theorem zn_225 : (Jvm.Cond.fieldLinkNest "DayOpeners$Plans" (67 : Nat) "DayOpeners$Told" "highs" "LDayOpeners$Row;" "DayOpeners") ∈ zN := znm1 225 (rfl) rfl
theorem zn_226 : (Jvm.Cond.fieldLinkNest "DayOpeners$State" (105 : Nat) "DayOpeners$Told" "highs" "LDayOpeners$Row;" "DayOpeners") ∈ zN := znm1 226 (rfl) rfl
theorem zn_227 : (Jvm.Cond.fieldLinkNest "DayOpeners" (166 : Nat) "DayOpeners$Told" "highs" "LDayOpeners$Row;" "DayOpeners") ∈ zN := znm1 227 (rfl) rfl
theorem zn_228 : (Jvm.Cond.fieldLinkNest "DayOpeners$Parser" (163 : Nat) "DayOpeners$Told" "highs" "LDayOpeners$Row;" "DayOpeners") ∈ zN := znm1 228 (rfl) rfl
theorem zg_229 : (Jvm.Cond.fieldLink "DayOpeners$Told" (44 : Nat) "DayOpeners$Told" "needs" "LDayOpeners$Row;") ∈ zG := zgm1 229 (rfl) rfl
theorem zn_230 : (Jvm.Cond.fieldLinkNest "DayOpeners$Plans" (85 : Nat) "DayOpeners$Told" "needs" "LDayOpeners$Row;" "DayOpeners") ∈ zN := znm1 230 (rfl) rfl
theorem zn_231 : (Jvm.Cond.fieldLinkNest "DayOpeners$State" (108 : Nat) "DayOpeners$Told" "needs" "LDayOpeners$Row;" "DayOpeners") ∈ zN := znm1 231 (rfl) rfl
theorem zn_232 : (Jvm.Cond.fieldLinkNest "DayOpeners" (169 : Nat) "DayOpeners$Told" "needs" "LDayOpeners$Row;" "DayOpeners") ∈ zN := znm1 232 (rfl) rfl
theorem zn_233 : (Jvm.Cond.fieldLinkNest "DayOpeners$Parser" (166 : Nat) "DayOpeners$Told" "needs" "LDayOpeners$Row;" "DayOpeners") ∈ zN := znm1 233 (rfl) rfl
theorem zg_234 : (Jvm.Cond.fieldLink "DayOpeners$Told" (70 : Nat) "DayOpeners$Told" "slip" "I") ∈ zG := zgm1 234 (rfl) rfl
theorem zn_235 : (Jvm.Cond.fieldLinkNest "DayOpeners$Course" (39 : Nat) "DayOpeners$Told" "slip" "I" "DayOpeners") ∈ zN := znm1 235 (rfl) rfl
theorem zn_236 : (Jvm.Cond.fieldLinkNest "DayOpeners$Parser" (169 : Nat) "DayOpeners$Told" "slip" "I" "DayOpeners") ∈ zN := znm1 236 (rfl) rfl
theorem zn_237 : (Jvm.Cond.fieldLinkNest "DayOpeners" (305 : Nat) "DayOpeners$Told" "slip" "I" "DayOpeners") ∈ zN := znm1 237 (rfl) rfl
theorem zn_238 : (Jvm.Cond.fieldLinkNest "DayOpeners$State" (42 : Nat) "DayOpeners$Told" "seed" "I" "DayOpeners") ∈ zN := znm1 238 (rfl) rfl
theorem zg_239 : (Jvm.Cond.fieldLink "DayOpeners$Told" (73 : Nat) "DayOpeners$Told" "seed" "I") ∈ zG := zgm1 239 (rfl) rfl
theorem zn_240 : (Jvm.Cond.fieldLinkNest "DayOpeners$Parser" (173 : Nat) "DayOpeners$Told" "seed" "I" "DayOpeners") ∈ zN := znm2 0 (rfl) rfl
theorem zg_241 : (Jvm.Cond.fieldLink "DayOpeners$Told" (50 : Nat) "DayOpeners$Told" "laws" "LDayOpeners$Laws;") ∈ zG := zgm2 1 (rfl) rfl
theorem zn_242 : (Jvm.Cond.fieldLinkNest "DayOpeners$Course" (133 : Nat) "DayOpeners$Told" "laws" "LDayOpeners$Laws;" "DayOpeners") ∈ zN := znm2 2 (rfl) rfl
theorem zn_243 : (Jvm.Cond.fieldLinkNest "DayOpeners$Parser" (176 : Nat) "DayOpeners$Told" "laws" "LDayOpeners$Laws;" "DayOpeners") ∈ zN := znm2 3 (rfl) rfl
theorem zn_244 : (Jvm.Cond.fieldLinkNest "DayOpeners" (354 : Nat) "DayOpeners$Told" "laws" "LDayOpeners$Laws;" "DayOpeners") ∈ zN := znm2 4 (rfl) rfl
theorem zg_245 : (Jvm.Cond.lays "DayOpeners$Told" "DayOpeners$Told" "lines" "I") ∈ zG := zgm2 5 (rfl) rfl
theorem zg_247 : (Jvm.Cond.lays "DayOpeners$Told" "DayOpeners$Told" "trades" "I") ∈ zG := zgm2 7 (rfl) rfl
theorem zg_249 : (Jvm.Cond.laysFinal "DayOpeners$Told" "DayOpeners$Told" "tradeNames" "LDayOpeners$Row;") ∈ zG := zgm2 9 (rfl) rfl
theorem zg_251 : (Jvm.Cond.laysFinal "DayOpeners$Told" "DayOpeners$Told" "hours" "LDayOpeners$Row;") ∈ zG := zgm2 11 (rfl) rfl
theorem zg_253 : (Jvm.Cond.laysFinal "DayOpeners$Told" "DayOpeners$Told" "manners" "LDayOpeners$Row;") ∈ zG := zgm2 13 (rfl) rfl
theorem zg_255 : (Jvm.Cond.lays "DayOpeners$Told" "DayOpeners$Told" "turns" "I") ∈ zG := zgm2 15 (rfl) rfl
theorem zg_257 : (Jvm.Cond.laysFinal "DayOpeners$Told" "DayOpeners$Told" "list" "LDayOpeners$Row;") ∈ zG := zgm2 17 (rfl) rfl
theorem zg_259 : (Jvm.Cond.lays "DayOpeners$Told" "DayOpeners$Told" "claims" "I") ∈ zG := zgm2 19 (rfl) rfl
theorem zg_261 : (Jvm.Cond.laysFinal "DayOpeners$Told" "DayOpeners$Told" "claimants" "LDayOpeners$Row;") ∈ zG := zgm2 21 (rfl) rfl
theorem zg_263 : (Jvm.Cond.laysFinal "DayOpeners$Told" "DayOpeners$Told" "dates" "LDayOpeners$Row;") ∈ zG := zgm2 23 (rfl) rfl
theorem zg_265 : (Jvm.Cond.lays "DayOpeners$Told" "DayOpeners$Told" "works" "I") ∈ zG := zgm2 25 (rfl) rfl
theorem zg_267 : (Jvm.Cond.laysFinal "DayOpeners$Told" "DayOpeners$Told" "workNames" "LDayOpeners$Row;") ∈ zG := zgm2 27 (rfl) rfl
theorem zg_269 : (Jvm.Cond.laysFinal "DayOpeners$Told" "DayOpeners$Told" "lows" "LDayOpeners$Row;") ∈ zG := zgm2 29 (rfl) rfl
theorem zg_271 : (Jvm.Cond.laysFinal "DayOpeners$Told" "DayOpeners$Told" "highs" "LDayOpeners$Row;") ∈ zG := zgm2 31 (rfl) rfl
theorem zg_273 : (Jvm.Cond.laysFinal "DayOpeners$Told" "DayOpeners$Told" "needs" "LDayOpeners$Row;") ∈ zG := zgm2 33 (rfl) rfl
theorem zg_275 : (Jvm.Cond.lays "DayOpeners$Told" "DayOpeners$Told" "slip" "I") ∈ zG := zgm2 35 (rfl) rfl
theorem zg_277 : (Jvm.Cond.lays "DayOpeners$Told" "DayOpeners$Told" "seed" "I") ∈ zG := zgm2 37 (rfl) rfl
theorem zg_279 : (Jvm.Cond.laysFinal "DayOpeners$Told" "DayOpeners$Told" "laws" "LDayOpeners$Laws;") ∈ zG := zgm2 39 (rfl) rfl
theorem zg_282 : (Jvm.Cond.classLink "DayOpeners$Parser" (25 : Nat) "DayOpeners$Row") ∈ zG := zgm2 42 (rfl) rfl
theorem zg_283 : (Jvm.Cond.methodLink "DayOpeners$Parser" (27 : Nat) ({ cls := "DayOpeners$Row", name := "<init>", desc := "(I)V" } : Jvm.MethodName)) ∈ zG := zgm2 43 (rfl) rfl
theorem zg_284 : (Jvm.Cond.fieldLink "DayOpeners$Parser" (12 : Nat) "DayOpeners$Parser" "tokens" "LDayOpeners$Tokens;") ∈ zG := zgm2 44 (rfl) rfl
theorem zg_285 : (Jvm.Cond.fieldLink "DayOpeners$Parser" (21 : Nat) "DayOpeners$Parser" "told" "LDayOpeners$Told;") ∈ zG := zgm2 45 (rfl) rfl
theorem zg_286 : (Jvm.Cond.fieldLink "DayOpeners$Parser" (37 : Nat) "DayOpeners$Parser" "fault" "I") ∈ zG := zgm2 46 (rfl) rfl
theorem zn_287 : (Jvm.Cond.fieldLinkNest "DayOpeners" (113 : Nat) "DayOpeners$Parser" "fault" "I" "DayOpeners") ∈ zN := znm2 47 (rfl) rfl
theorem zg_288 : (Jvm.Cond.fieldLink "DayOpeners$Parser" (68 : Nat) "DayOpeners$Parser" "place" "I") ∈ zG := zgm2 48 (rfl) rfl
theorem zn_289 : (Jvm.Cond.fieldLinkNest "DayOpeners" (116 : Nat) "DayOpeners$Parser" "place" "I" "DayOpeners") ∈ zN := znm2 49 (rfl) rfl
theorem zg_290 : (Jvm.Cond.fieldLink "DayOpeners$Parser" (41 : Nat) "DayOpeners$Parser" "slipTold" "Z") ∈ zG := zgm2 50 (rfl) rfl
theorem zg_291 : (Jvm.Cond.fieldLink "DayOpeners$Parser" (45 : Nat) "DayOpeners$Parser" "seedTold" "Z") ∈ zG := zgm2 51 (rfl) rfl
theorem zg_292 : (Jvm.Cond.fieldLink "DayOpeners$Parser" (30 : Nat) "DayOpeners$Parser" "waiting" "LDayOpeners$Row;") ∈ zG := zgm2 52 (rfl) rfl
theorem zg_293 : (Jvm.Cond.fieldLink "DayOpeners$Parser" (186 : Nat) "DayOpeners$Parser" "waits" "I") ∈ zG := zgm2 53 (rfl) rfl
theorem zg_294 : (Jvm.Cond.fieldLink "DayOpeners$Parser" (189 : Nat) "DayOpeners$Parser" "open" "I") ∈ zG := zgm2 54 (rfl) rfl
theorem zg_295 : (Jvm.Cond.fieldLink "DayOpeners$Parser" (48 : Nat) "DayOpeners$Parser" "counted" "I") ∈ zG := zgm2 55 (rfl) rfl
theorem zg_296 : (Jvm.Cond.laysFinal "DayOpeners$Parser" "DayOpeners$Parser" "tokens" "LDayOpeners$Tokens;") ∈ zG := zgm2 56 (rfl) rfl
theorem zg_298 : (Jvm.Cond.lays "DayOpeners$Parser" "DayOpeners$Parser" "told" "LDayOpeners$Told;") ∈ zG := zgm2 58 (rfl) rfl
theorem zg_300 : (Jvm.Cond.lays "DayOpeners$Parser" "DayOpeners$Parser" "fault" "I") ∈ zG := zgm2 60 (rfl) rfl
theorem zg_302 : (Jvm.Cond.lays "DayOpeners$Parser" "DayOpeners$Parser" "place" "I") ∈ zG := zgm2 62 (rfl) rfl
theorem zg_304 : (Jvm.Cond.lays "DayOpeners$Parser" "DayOpeners$Parser" "slipTold" "Z") ∈ zG := zgm2 64 (rfl) rfl
theorem zg_306 : (Jvm.Cond.lays "DayOpeners$Parser" "DayOpeners$Parser" "seedTold" "Z") ∈ zG := zgm2 66 (rfl) rfl
theorem zg_308 : (Jvm.Cond.laysFinal "DayOpeners$Parser" "DayOpeners$Parser" "waiting" "LDayOpeners$Row;") ∈ zG := zgm2 68 (rfl) rfl
theorem zg_310 : (Jvm.Cond.lays "DayOpeners$Parser" "DayOpeners$Parser" "waits" "I") ∈ zG := zgm2 70 (rfl) rfl
theorem zg_312 : (Jvm.Cond.lays "DayOpeners$Parser" "DayOpeners$Parser" "open" "I") ∈ zG := zgm2 72 (rfl) rfl
theorem zg_314 : (Jvm.Cond.lays "DayOpeners$Parser" "DayOpeners$Parser" "counted" "I") ∈ zG := zgm2 74 (rfl) rfl
theorem zg_317 : (Jvm.Cond.classLink "DayOpeners" (25 : Nat) "DayOpeners$Told") ∈ zG := zgm2 77 (rfl) rfl
theorem zn_318 : (Jvm.Cond.methodLinkNest "DayOpeners" (27 : Nat) ({ cls := "DayOpeners$Told", name := "<init>", desc := "()V" } : Jvm.MethodName) "DayOpeners") ∈ zN := znm2 78 (rfl) rfl
theorem zg_319 : (Jvm.Cond.classLink "DayOpeners" (35 : Nat) "DayOpeners$State") ∈ zG := zgm2 79 (rfl) rfl
theorem zg_320 : (Jvm.Cond.instantiable "DayOpeners$State" (15 : Nat)) ∈ zG := zgm2 80 (rfl) rfl
theorem zn_321 : (Jvm.Cond.methodLinkNest "DayOpeners" (37 : Nat) ({ cls := "DayOpeners$State", name := "<init>", desc := "()V" } : Jvm.MethodName) "DayOpeners") ∈ zN := znm2 81 (rfl) rfl
theorem zg_322 : (Jvm.Cond.instanceMethod ({ cls := "DayOpeners$State", name := "<init>", desc := "()V" } : Jvm.MethodName)) ∈ zG := zgm2 82 (rfl) rfl
theorem zg_323 : (Jvm.Cond.code ({ cls := "DayOpeners$State", name := "<init>", desc := "()V" } : Jvm.MethodName) prog_9_method_1_code (1 : Nat) (Option.none : Option Jvm.ClassFile.FieldType)) ∈ zG := zgm2 83 (rfl) rfl
theorem zg_324 : (Jvm.Cond.methodLink "DayOpeners$State" (3 : Nat) ({ cls := "java/lang/Object", name := "<init>", desc := "()V" } : Jvm.MethodName)) ∈ zG := zgm2 84 (rfl) rfl
theorem zg_325 : (Jvm.Cond.classLink "DayOpeners$State" (18 : Nat) "DayOpeners$Row") ∈ zG := zgm2 85 (rfl) rfl
theorem zg_326 : (Jvm.Cond.methodLink "DayOpeners$State" (20 : Nat) ({ cls := "DayOpeners$Row", name := "<init>", desc := "(I)V" } : Jvm.MethodName)) ∈ zG := zgm2 86 (rfl) rfl
theorem zg_327 : (Jvm.Cond.fieldLink "DayOpeners$State" (36 : Nat) "DayOpeners$State" "day" "I") ∈ zG := zgm2 87 (rfl) rfl
theorem zn_328 : (Jvm.Cond.fieldLinkNest "DayOpeners$Course" (59 : Nat) "DayOpeners$State" "day" "I" "DayOpeners") ∈ zN := znm2 88 (rfl) rfl
theorem zn_329 : (Jvm.Cond.fieldLinkNest "DayOpeners" (198 : Nat) "DayOpeners$State" "day" "I" "DayOpeners") ∈ zN := znm2 89 (rfl) rfl
theorem zg_330 : (Jvm.Cond.fieldLink "DayOpeners$State" (39 : Nat) "DayOpeners$State" "next" "I") ∈ zG := zgm2 90 (rfl) rfl
theorem zn_331 : (Jvm.Cond.fieldLinkNest "DayOpeners$Course" (106 : Nat) "DayOpeners$State" "next" "I" "DayOpeners") ∈ zN := znm2 91 (rfl) rfl
theorem zn_332 : (Jvm.Cond.fieldLinkNest "DayOpeners" (363 : Nat) "DayOpeners$State" "next" "I" "DayOpeners") ∈ zN := znm2 92 (rfl) rfl
theorem zg_333 : (Jvm.Cond.fieldLink "DayOpeners$State" (47 : Nat) "DayOpeners$State" "number" "I") ∈ zG := zgm2 93 (rfl) rfl
theorem zn_334 : (Jvm.Cond.fieldLinkNest "DayOpeners" (341 : Nat) "DayOpeners$State" "number" "I" "DayOpeners") ∈ zN := znm2 94 (rfl) rfl
theorem zg_335 : (Jvm.Cond.fieldLink "DayOpeners$State" (9 : Nat) "DayOpeners$State" "appointed" "I") ∈ zG := zgm2 95 (rfl) rfl
theorem zn_336 : (Jvm.Cond.fieldLinkNest "DayOpeners$Steps" (37 : Nat) "DayOpeners$State" "appointed" "I" "DayOpeners") ∈ zN := znm2 96 (rfl) rfl
theorem zn_337 : (Jvm.Cond.fieldLinkNest "DayOpeners$Course" (54 : Nat) "DayOpeners$State" "appointed" "I" "DayOpeners") ∈ zN := znm2 97 (rfl) rfl
theorem zn_338 : (Jvm.Cond.fieldLinkNest "DayOpeners$Plans" (111 : Nat) "DayOpeners$State" "appointed" "I" "DayOpeners") ∈ zN := znm2 98 (rfl) rfl
theorem zn_339 : (Jvm.Cond.fieldLinkNest "DayOpeners" (192 : Nat) "DayOpeners$State" "appointed" "I" "DayOpeners") ∈ zN := znm2 99 (rfl) rfl
theorem zg_340 : (Jvm.Cond.fieldLink "DayOpeners$State" (50 : Nat) "DayOpeners$State" "last" "I") ∈ zG := zgm2 100 (rfl) rfl
theorem zn_341 : (Jvm.Cond.fieldLinkNest "DayOpeners$Course" (159 : Nat) "DayOpeners$State" "last" "I" "DayOpeners") ∈ zN := znm2 101 (rfl) rfl
theorem zn_342 : (Jvm.Cond.fieldLinkNest "DayOpeners" (235 : Nat) "DayOpeners$State" "last" "I" "DayOpeners") ∈ zN := znm2 102 (rfl) rfl
theorem zg_343 : (Jvm.Cond.fieldLink "DayOpeners$State" (56 : Nat) "DayOpeners$State" "left" "I") ∈ zG := zgm2 103 (rfl) rfl
theorem zn_344 : (Jvm.Cond.fieldLinkNest "DayOpeners$Plans" (105 : Nat) "DayOpeners$State" "left" "I" "DayOpeners") ∈ zN := znm2 104 (rfl) rfl
theorem zn_345 : (Jvm.Cond.fieldLinkNest "DayOpeners$Course" (156 : Nat) "DayOpeners$State" "left" "I" "DayOpeners") ∈ zN := znm2 105 (rfl) rfl
theorem zn_346 : (Jvm.Cond.fieldLinkNest "DayOpeners" (220 : Nat) "DayOpeners$State" "left" "I" "DayOpeners") ∈ zN := znm2 106 (rfl) rfl
theorem zg_347 : (Jvm.Cond.fieldLink "DayOpeners$State" (59 : Nat) "DayOpeners$State" "mistakes" "I") ∈ zG := zgm2 107 (rfl) rfl
theorem zn_348 : (Jvm.Cond.fieldLinkNest "DayOpeners$Course" (103 : Nat) "DayOpeners$State" "mistakes" "I" "DayOpeners") ∈ zN := znm2 108 (rfl) rfl
theorem zn_349 : (Jvm.Cond.fieldLinkNest "DayOpeners" (226 : Nat) "DayOpeners$State" "mistakes" "I" "DayOpeners") ∈ zN := znm2 109 (rfl) rfl
theorem zg_350 : (Jvm.Cond.fieldLink "DayOpeners$State" (62 : Nat) "DayOpeners$State" "dark" "I") ∈ zG := zgm2 110 (rfl) rfl
theorem zn_351 : (Jvm.Cond.fieldLinkNest "DayOpeners$Course" (76 : Nat) "DayOpeners$State" "dark" "I" "DayOpeners") ∈ zN := znm2 111 (rfl) rfl
theorem zn_352 : (Jvm.Cond.fieldLinkNest "DayOpeners" (223 : Nat) "DayOpeners$State" "dark" "I" "DayOpeners") ∈ zN := znm2 112 (rfl) rfl
theorem zg_353 : (Jvm.Cond.fieldLink "DayOpeners$State" (65 : Nat) "DayOpeners$State" "lengths" "I") ∈ zG := zgm2 113 (rfl) rfl
theorem zn_354 : (Jvm.Cond.fieldLinkNest "DayOpeners" (229 : Nat) "DayOpeners$State" "lengths" "I" "DayOpeners") ∈ zN := znm2 114 (rfl) rfl
theorem zg_355 : (Jvm.Cond.fieldLink "DayOpeners$State" (15 : Nat) "DayOpeners$State" "by" "I") ∈ zG := zgm2 115 (rfl) rfl
theorem zn_356 : (Jvm.Cond.fieldLinkNest "DayOpeners$Course" (73 : Nat) "DayOpeners$State" "by" "I" "DayOpeners") ∈ zN := znm2 116 (rfl) rfl
theorem zn_357 : (Jvm.Cond.fieldLinkNest "DayOpeners" (232 : Nat) "DayOpeners$State" "by" "I" "DayOpeners") ∈ zN := znm2 117 (rfl) rfl
theorem zg_358 : (Jvm.Cond.fieldLink "DayOpeners$State" (71 : Nat) "DayOpeners$State" "places" "I") ∈ zG := zgm2 118 (rfl) rfl
theorem zn_359 : (Jvm.Cond.fieldLinkNest "DayOpeners$Seats" (48 : Nat) "DayOpeners$State" "places" "I" "DayOpeners") ∈ zN := znm2 119 (rfl) rfl
theorem zn_360 : (Jvm.Cond.fieldLinkNest "DayOpeners$Course" (66 : Nat) "DayOpeners$State" "places" "I" "DayOpeners") ∈ zN := znm2 120 (rfl) rfl
theorem zn_361 : (Jvm.Cond.fieldLinkNest "DayOpeners" (282 : Nat) "DayOpeners$State" "places" "I" "DayOpeners") ∈ zN := znm2 121 (rfl) rfl
theorem zg_362 : (Jvm.Cond.fieldLink "DayOpeners$State" (23 : Nat) "DayOpeners$State" "list" "LDayOpeners$Row;") ∈ zG := zgm2 122 (rfl) rfl
theorem zn_363 : (Jvm.Cond.fieldLinkNest "DayOpeners$Seats" (31 : Nat) "DayOpeners$State" "list" "LDayOpeners$Row;" "DayOpeners") ∈ zN := znm2 123 (rfl) rfl
theorem zn_364 : (Jvm.Cond.fieldLinkNest "DayOpeners$Steps" (32 : Nat) "DayOpeners$State" "list" "LDayOpeners$Row;" "DayOpeners") ∈ zN := znm2 124 (rfl) rfl
theorem zn_365 : (Jvm.Cond.fieldLinkNest "DayOpeners$Course" (112 : Nat) "DayOpeners$State" "list" "LDayOpeners$Row;" "DayOpeners") ∈ zN := znm2 125 (rfl) rfl
theorem zn_366 : (Jvm.Cond.fieldLinkNest "DayOpeners" (157 : Nat) "DayOpeners$State" "list" "LDayOpeners$Row;" "DayOpeners") ∈ zN := znm2 126 (rfl) rfl
theorem zg_367 : (Jvm.Cond.fieldLink "DayOpeners$State" (27 : Nat) "DayOpeners$State" "known" "LDayOpeners$Row;") ∈ zG := zgm2 127 (rfl) rfl
theorem zn_368 : (Jvm.Cond.fieldLinkNest "DayOpeners" (142 : Nat) "DayOpeners$State" "known" "LDayOpeners$Row;" "DayOpeners") ∈ zN := znm2 128 (rfl) rfl
theorem zn_369 : (Jvm.Cond.fieldLinkNest "DayOpeners$Course" (150 : Nat) "DayOpeners$State" "known" "LDayOpeners$Row;" "DayOpeners") ∈ zN := znm2 129 (rfl) rfl
theorem zg_370 : (Jvm.Cond.fieldLink "DayOpeners$State" (30 : Nat) "DayOpeners$State" "opened" "LDayOpeners$Row;") ∈ zG := zgm2 130 (rfl) rfl
theorem zn_371 : (Jvm.Cond.fieldLinkNest "DayOpeners" (145 : Nat) "DayOpeners$State" "opened" "LDayOpeners$Row;" "DayOpeners") ∈ zN := znm2 131 (rfl) rfl
theorem zn_372 : (Jvm.Cond.fieldLinkNest "DayOpeners$Course" (153 : Nat) "DayOpeners$State" "opened" "LDayOpeners$Row;" "DayOpeners") ∈ zN := znm2 132 (rfl) rfl
theorem zg_373 : (Jvm.Cond.fieldLink "DayOpeners$State" (33 : Nat) "DayOpeners$State" "went" "LDayOpeners$Row;") ∈ zG := zgm2 133 (rfl) rfl
theorem zn_374 : (Jvm.Cond.fieldLinkNest "DayOpeners$Plans" (82 : Nat) "DayOpeners$State" "went" "LDayOpeners$Row;" "DayOpeners") ∈ zN := znm2 134 (rfl) rfl
theorem zn_375 : (Jvm.Cond.fieldLinkNest "DayOpeners" (172 : Nat) "DayOpeners$State" "went" "LDayOpeners$Row;" "DayOpeners") ∈ zN := znm2 135 (rfl) rfl
theorem zg_376 : (Jvm.Cond.lays "DayOpeners$State" "DayOpeners$State" "day" "I") ∈ zG := zgm2 136 (rfl) rfl
theorem zg_378 : (Jvm.Cond.lays "DayOpeners$State" "DayOpeners$State" "next" "I") ∈ zG := zgm2 138 (rfl) rfl
theorem zg_380 : (Jvm.Cond.lays "DayOpeners$State" "DayOpeners$State" "number" "I") ∈ zG := zgm2 140 (rfl) rfl
theorem zg_382 : (Jvm.Cond.lays "DayOpeners$State" "DayOpeners$State" "appointed" "I") ∈ zG := zgm2 142 (rfl) rfl
theorem zg_384 : (Jvm.Cond.lays "DayOpeners$State" "DayOpeners$State" "last" "I") ∈ zG := zgm2 144 (rfl) rfl
theorem zg_386 : (Jvm.Cond.lays "DayOpeners$State" "DayOpeners$State" "left" "I") ∈ zG := zgm2 146 (rfl) rfl
theorem zg_388 : (Jvm.Cond.lays "DayOpeners$State" "DayOpeners$State" "mistakes" "I") ∈ zG := zgm2 148 (rfl) rfl
theorem zg_390 : (Jvm.Cond.lays "DayOpeners$State" "DayOpeners$State" "dark" "I") ∈ zG := zgm2 150 (rfl) rfl
theorem zg_392 : (Jvm.Cond.lays "DayOpeners$State" "DayOpeners$State" "lengths" "I") ∈ zG := zgm2 152 (rfl) rfl
theorem zg_394 : (Jvm.Cond.lays "DayOpeners$State" "DayOpeners$State" "by" "I") ∈ zG := zgm2 154 (rfl) rfl
theorem zg_396 : (Jvm.Cond.lays "DayOpeners$State" "DayOpeners$State" "places" "I") ∈ zG := zgm2 156 (rfl) rfl
theorem zg_398 : (Jvm.Cond.laysFinal "DayOpeners$State" "DayOpeners$State" "list" "LDayOpeners$Row;") ∈ zG := zgm2 158 (rfl) rfl
theorem zg_400 : (Jvm.Cond.laysFinal "DayOpeners$State" "DayOpeners$State" "known" "LDayOpeners$Row;") ∈ zG := zgm2 160 (rfl) rfl
theorem zg_402 : (Jvm.Cond.laysFinal "DayOpeners$State" "DayOpeners$State" "opened" "LDayOpeners$Row;") ∈ zG := zgm2 162 (rfl) rfl
theorem zg_404 : (Jvm.Cond.laysFinal "DayOpeners$State" "DayOpeners$State" "went" "LDayOpeners$Row;") ∈ zG := zgm2 164 (rfl) rfl
theorem zg_407 : (Jvm.Cond.classLink "DayOpeners" (48 : Nat) "DayOpeners$Course") ∈ zG := zgm2 167 (rfl) rfl
theorem zg_408 : (Jvm.Cond.instantiable "DayOpeners$Course" (6 : Nat)) ∈ zG := zgm2 168 (rfl) rfl
theorem zn_409 : (Jvm.Cond.methodLinkNest "DayOpeners" (50 : Nat) ({ cls := "DayOpeners$Course", name := "<init>", desc := "()V" } : Jvm.MethodName) "DayOpeners") ∈ zN := znm2 169 (rfl) rfl
theorem zg_410 : (Jvm.Cond.instanceMethod ({ cls := "DayOpeners$Course", name := "<init>", desc := "()V" } : Jvm.MethodName)) ∈ zG := zgm2 170 (rfl) rfl
theorem zg_411 : (Jvm.Cond.code ({ cls := "DayOpeners$Course", name := "<init>", desc := "()V" } : Jvm.MethodName) prog_2_method_1_code (1 : Nat) (Option.none : Option Jvm.ClassFile.FieldType)) ∈ zG := zgm2 171 (rfl) rfl
theorem zg_412 : (Jvm.Cond.methodLink "DayOpeners$Course" (3 : Nat) ({ cls := "java/lang/Object", name := "<init>", desc := "()V" } : Jvm.MethodName)) ∈ zG := zgm2 172 (rfl) rfl
theorem zg_413 : (Jvm.Cond.classLink "DayOpeners$Course" (9 : Nat) "DayOpeners$Told") ∈ zG := zgm2 173 (rfl) rfl
theorem zn_414 : (Jvm.Cond.methodLinkNest "DayOpeners$Course" (11 : Nat) ({ cls := "DayOpeners$Told", name := "<init>", desc := "()V" } : Jvm.MethodName) "DayOpeners") ∈ zN := znm2 174 (rfl) rfl
theorem zg_415 : (Jvm.Cond.classLink "DayOpeners$Course" (18 : Nat) "DayOpeners$Row") ∈ zG := zgm2 175 (rfl) rfl
theorem zg_416 : (Jvm.Cond.methodLink "DayOpeners$Course" (20 : Nat) ({ cls := "DayOpeners$Row", name := "<init>", desc := "(I)V" } : Jvm.MethodName)) ∈ zG := zgm2 176 (rfl) rfl
theorem zg_417 : (Jvm.Cond.fieldLink "DayOpeners$Course" (12 : Nat) "DayOpeners$Course" "told" "LDayOpeners$Told;") ∈ zG := zgm2 177 (rfl) rfl
theorem zg_418 : (Jvm.Cond.fieldLink "DayOpeners$Course" (23 : Nat) "DayOpeners$Course" "hours" "LDayOpeners$Row;") ∈ zG := zgm2 178 (rfl) rfl
theorem zn_419 : (Jvm.Cond.fieldLinkNest "DayOpeners" (336 : Nat) "DayOpeners$Course" "hours" "LDayOpeners$Row;" "DayOpeners") ∈ zN := znm2 179 (rfl) rfl
theorem zg_420 : (Jvm.Cond.fieldLink "DayOpeners$Course" (32 : Nat) "DayOpeners$Course" "drawing" "Z") ∈ zG := zgm2 180 (rfl) rfl
theorem zn_421 : (Jvm.Cond.fieldLinkNest "DayOpeners" (201 : Nat) "DayOpeners$Course" "drawing" "Z" "DayOpeners") ∈ zN := znm2 181 (rfl) rfl
theorem zg_422 : (Jvm.Cond.fieldLink "DayOpeners$Course" (36 : Nat) "DayOpeners$Course" "claimsHold" "Z") ∈ zG := zgm2 182 (rfl) rfl
theorem zg_423 : (Jvm.Cond.fieldLink "DayOpeners$Course" (43 : Nat) "DayOpeners$Course" "slip" "I") ∈ zG := zgm2 183 (rfl) rfl
theorem zg_424 : (Jvm.Cond.fieldLink "DayOpeners$Course" (44 : Nat) "DayOpeners$Course" "unwilling" "I") ∈ zG := zgm2 184 (rfl) rfl
theorem zg_425 : (Jvm.Cond.lays "DayOpeners$Course" "DayOpeners$Course" "told" "LDayOpeners$Told;") ∈ zG := zgm2 185 (rfl) rfl
theorem zg_427 : (Jvm.Cond.laysFinal "DayOpeners$Course" "DayOpeners$Course" "hours" "LDayOpeners$Row;") ∈ zG := zgm2 187 (rfl) rfl
theorem zg_429 : (Jvm.Cond.lays "DayOpeners$Course" "DayOpeners$Course" "drawing" "Z") ∈ zG := zgm2 189 (rfl) rfl
theorem zg_431 : (Jvm.Cond.lays "DayOpeners$Course" "DayOpeners$Course" "claimsHold" "Z") ∈ zG := zgm2 191 (rfl) rfl
theorem zg_433 : (Jvm.Cond.lays "DayOpeners$Course" "DayOpeners$Course" "slip" "I") ∈ zG := zgm2 193 (rfl) rfl
theorem zg_435 : (Jvm.Cond.lays "DayOpeners$Course" "DayOpeners$Course" "unwilling" "I") ∈ zG := zgm2 195 (rfl) rfl
theorem zg_438 : (Jvm.Cond.classLink "DayOpeners" (55 : Nat) "DayOpeners$Notes") ∈ zG := zgm2 198 (rfl) rfl
theorem zg_439 : (Jvm.Cond.instantiable "DayOpeners$Notes" (10 : Nat)) ∈ zG := zgm2 199 (rfl) rfl
theorem zn_440 : (Jvm.Cond.methodLinkNest "DayOpeners" (57 : Nat) ({ cls := "DayOpeners$Notes", name := "<init>", desc := "()V" } : Jvm.MethodName) "DayOpeners") ∈ zN := znm2 200 (rfl) rfl
theorem zg_441 : (Jvm.Cond.instanceMethod ({ cls := "DayOpeners$Notes", name := "<init>", desc := "()V" } : Jvm.MethodName)) ∈ zG := zgm2 201 (rfl) rfl
theorem zg_442 : (Jvm.Cond.code ({ cls := "DayOpeners$Notes", name := "<init>", desc := "()V" } : Jvm.MethodName) prog_4_method_1_code (1 : Nat) (Option.none : Option Jvm.ClassFile.FieldType)) ∈ zG := zgm2 202 (rfl) rfl
theorem zg_443 : (Jvm.Cond.methodLink "DayOpeners$Notes" (3 : Nat) ({ cls := "java/lang/Object", name := "<init>", desc := "()V" } : Jvm.MethodName)) ∈ zG := zgm2 203 (rfl) rfl
theorem zg_444 : (Jvm.Cond.classLink "DayOpeners$Notes" (9 : Nat) "DayOpeners$Row") ∈ zG := zgm2 204 (rfl) rfl
theorem zg_445 : (Jvm.Cond.methodLink "DayOpeners$Notes" (11 : Nat) ({ cls := "DayOpeners$Row", name := "<init>", desc := "(I)V" } : Jvm.MethodName)) ∈ zG := zgm2 205 (rfl) rfl
theorem zg_446 : (Jvm.Cond.fieldLink "DayOpeners$Notes" (14 : Nat) "DayOpeners$Notes" "kinds" "LDayOpeners$Row;") ∈ zG := zgm2 206 (rfl) rfl
theorem zg_447 : (Jvm.Cond.fieldLink "DayOpeners$Notes" (20 : Nat) "DayOpeners$Notes" "abouts" "LDayOpeners$Row;") ∈ zG := zgm2 207 (rfl) rfl
theorem zg_448 : (Jvm.Cond.fieldLink "DayOpeners$Notes" (23 : Nat) "DayOpeners$Notes" "lengths" "LDayOpeners$Row;") ∈ zG := zgm2 208 (rfl) rfl
theorem zg_449 : (Jvm.Cond.fieldLink "DayOpeners$Notes" (26 : Nat) "DayOpeners$Notes" "struck" "LDayOpeners$Row;") ∈ zG := zgm2 209 (rfl) rfl
theorem zg_450 : (Jvm.Cond.fieldLink "DayOpeners$Notes" (29 : Nat) "DayOpeners$Notes" "lasts" "LDayOpeners$Row;") ∈ zG := zgm2 210 (rfl) rfl
theorem zg_451 : (Jvm.Cond.fieldLink "DayOpeners$Notes" (32 : Nat) "DayOpeners$Notes" "answers" "LDayOpeners$Row;") ∈ zG := zgm2 211 (rfl) rfl
theorem zg_452 : (Jvm.Cond.fieldLink "DayOpeners$Notes" (39 : Nat) "DayOpeners$Notes" "size" "I") ∈ zG := zgm2 212 (rfl) rfl
theorem zn_453 : (Jvm.Cond.fieldLinkNest "DayOpeners" (310 : Nat) "DayOpeners$Notes" "size" "I" "DayOpeners") ∈ zN := znm2 213 (rfl) rfl
theorem zg_454 : (Jvm.Cond.fieldLink "DayOpeners$Notes" (35 : Nat) "DayOpeners$Notes" "by" "I") ∈ zG := zgm2 214 (rfl) rfl
theorem zn_455 : (Jvm.Cond.fieldLinkNest "DayOpeners" (313 : Nat) "DayOpeners$Notes" "by" "I" "DayOpeners") ∈ zN := znm2 215 (rfl) rfl
theorem zg_456 : (Jvm.Cond.fieldLink "DayOpeners$Notes" (75 : Nat) "DayOpeners$Notes" "askedBehind" "I") ∈ zG := zgm2 216 (rfl) rfl
theorem zn_457 : (Jvm.Cond.fieldLinkNest "DayOpeners" (324 : Nat) "DayOpeners$Notes" "askedBehind" "I" "DayOpeners") ∈ zN := znm2 217 (rfl) rfl
theorem zg_458 : (Jvm.Cond.fieldLink "DayOpeners$Notes" (81 : Nat) "DayOpeners$Notes" "leftAtWorst" "I") ∈ zG := zgm2 218 (rfl) rfl
theorem zn_459 : (Jvm.Cond.fieldLinkNest "DayOpeners" (327 : Nat) "DayOpeners$Notes" "leftAtWorst" "I" "DayOpeners") ∈ zN := znm2 219 (rfl) rfl
theorem zg_460 : (Jvm.Cond.laysFinal "DayOpeners$Notes" "DayOpeners$Notes" "kinds" "LDayOpeners$Row;") ∈ zG := zgm2 220 (rfl) rfl
theorem zg_462 : (Jvm.Cond.laysFinal "DayOpeners$Notes" "DayOpeners$Notes" "abouts" "LDayOpeners$Row;") ∈ zG := zgm2 222 (rfl) rfl
theorem zg_464 : (Jvm.Cond.laysFinal "DayOpeners$Notes" "DayOpeners$Notes" "lengths" "LDayOpeners$Row;") ∈ zG := zgm2 224 (rfl) rfl
theorem zg_466 : (Jvm.Cond.laysFinal "DayOpeners$Notes" "DayOpeners$Notes" "struck" "LDayOpeners$Row;") ∈ zG := zgm2 226 (rfl) rfl
theorem zg_468 : (Jvm.Cond.laysFinal "DayOpeners$Notes" "DayOpeners$Notes" "lasts" "LDayOpeners$Row;") ∈ zG := zgm2 228 (rfl) rfl
theorem zg_470 : (Jvm.Cond.laysFinal "DayOpeners$Notes" "DayOpeners$Notes" "answers" "LDayOpeners$Row;") ∈ zG := zgm2 230 (rfl) rfl
theorem zg_472 : (Jvm.Cond.lays "DayOpeners$Notes" "DayOpeners$Notes" "size" "I") ∈ zG := zgm2 232 (rfl) rfl
theorem zg_474 : (Jvm.Cond.lays "DayOpeners$Notes" "DayOpeners$Notes" "by" "I") ∈ zG := zgm2 234 (rfl) rfl
theorem zg_476 : (Jvm.Cond.lays "DayOpeners$Notes" "DayOpeners$Notes" "askedBehind" "I") ∈ zG := zgm2 236 (rfl) rfl
theorem zg_478 : (Jvm.Cond.lays "DayOpeners$Notes" "DayOpeners$Notes" "leftAtWorst" "I") ∈ zG := zgm2 238 (rfl) rfl
theorem zg_481 : (Jvm.Cond.classLink "DayOpeners" (62 : Nat) "DayOpeners$Steps") ∈ zG := zgm3 1 (rfl) rfl
theorem zg_482 : (Jvm.Cond.instantiable "DayOpeners$Steps" (2 : Nat)) ∈ zG := zgm3 2 (rfl) rfl
theorem zn_483 : (Jvm.Cond.methodLinkNest "DayOpeners" (64 : Nat) ({ cls := "DayOpeners$Steps", name := "<init>", desc := "()V" } : Jvm.MethodName) "DayOpeners") ∈ zN := znm3 3 (rfl) rfl
theorem zg_484 : (Jvm.Cond.instanceMethod ({ cls := "DayOpeners$Steps", name := "<init>", desc := "()V" } : Jvm.MethodName)) ∈ zG := zgm3 4 (rfl) rfl
theorem zg_485 : (Jvm.Cond.code ({ cls := "DayOpeners$Steps", name := "<init>", desc := "()V" } : Jvm.MethodName) prog_10_method_1_code (1 : Nat) (Option.none : Option Jvm.ClassFile.FieldType)) ∈ zG := zgm3 5 (rfl) rfl
theorem zg_486 : (Jvm.Cond.methodLink "DayOpeners$Steps" (3 : Nat) ({ cls := "java/lang/Object", name := "<init>", desc := "()V" } : Jvm.MethodName)) ∈ zG := zgm3 6 (rfl) rfl
theorem zg_487 : (Jvm.Cond.classLink "DayOpeners$Steps" (9 : Nat) "DayOpeners$Row") ∈ zG := zgm3 7 (rfl) rfl
theorem zg_488 : (Jvm.Cond.methodLink "DayOpeners$Steps" (13 : Nat) ({ cls := "DayOpeners$Row", name := "<init>", desc := "(I)V" } : Jvm.MethodName)) ∈ zG := zgm3 8 (rfl) rfl
theorem zg_489 : (Jvm.Cond.fieldLink "DayOpeners$Steps" (16 : Nat) "DayOpeners$Steps" "saved" "LDayOpeners$Row;") ∈ zG := zgm3 9 (rfl) rfl
theorem zg_490 : (Jvm.Cond.fieldLink "DayOpeners$Steps" (20 : Nat) "DayOpeners$Steps" "size" "I") ∈ zG := zgm3 10 (rfl) rfl
theorem zn_491 : (Jvm.Cond.fieldLinkNest "DayOpeners" (372 : Nat) "DayOpeners$Steps" "size" "I" "DayOpeners") ∈ zN := znm3 11 (rfl) rfl
theorem zg_492 : (Jvm.Cond.laysFinal "DayOpeners$Steps" "DayOpeners$Steps" "saved" "LDayOpeners$Row;") ∈ zG := zgm3 12 (rfl) rfl
theorem zg_494 : (Jvm.Cond.lays "DayOpeners$Steps" "DayOpeners$Steps" "size" "I") ∈ zG := zgm3 14 (rfl) rfl
theorem zg_497 : (Jvm.Cond.classLink "DayOpeners" (69 : Nat) "DayOpeners$Seats") ∈ zG := zgm3 17 (rfl) rfl
theorem zg_498 : (Jvm.Cond.instantiable "DayOpeners$Seats" (3 : Nat)) ∈ zG := zgm3 18 (rfl) rfl
theorem zn_499 : (Jvm.Cond.methodLinkNest "DayOpeners" (71 : Nat) ({ cls := "DayOpeners$Seats", name := "<init>", desc := "()V" } : Jvm.MethodName) "DayOpeners") ∈ zN := znm3 19 (rfl) rfl
theorem zg_500 : (Jvm.Cond.instanceMethod ({ cls := "DayOpeners$Seats", name := "<init>", desc := "()V" } : Jvm.MethodName)) ∈ zG := zgm3 20 (rfl) rfl
theorem zg_501 : (Jvm.Cond.code ({ cls := "DayOpeners$Seats", name := "<init>", desc := "()V" } : Jvm.MethodName) prog_8_method_1_code (1 : Nat) (Option.none : Option Jvm.ClassFile.FieldType)) ∈ zG := zgm3 21 (rfl) rfl
theorem zg_502 : (Jvm.Cond.methodLink "DayOpeners$Seats" (3 : Nat) ({ cls := "java/lang/Object", name := "<init>", desc := "()V" } : Jvm.MethodName)) ∈ zG := zgm3 22 (rfl) rfl
theorem zg_503 : (Jvm.Cond.classLink "DayOpeners$Seats" (9 : Nat) "DayOpeners$Row") ∈ zG := zgm3 23 (rfl) rfl
theorem zg_504 : (Jvm.Cond.methodLink "DayOpeners$Seats" (11 : Nat) ({ cls := "DayOpeners$Row", name := "<init>", desc := "(I)V" } : Jvm.MethodName)) ∈ zG := zgm3 24 (rfl) rfl
theorem zg_505 : (Jvm.Cond.fieldLink "DayOpeners$Seats" (14 : Nat) "DayOpeners$Seats" "gets" "LDayOpeners$Row;") ∈ zG := zgm3 25 (rfl) rfl
theorem zn_506 : (Jvm.Cond.fieldLinkNest "DayOpeners" (272 : Nat) "DayOpeners$Seats" "gets" "LDayOpeners$Row;" "DayOpeners") ∈ zN := znm3 26 (rfl) rfl
theorem zg_507 : (Jvm.Cond.fieldLink "DayOpeners$Seats" (20 : Nat) "DayOpeners$Seats" "wants" "LDayOpeners$Row;") ∈ zG := zgm3 27 (rfl) rfl
theorem zg_508 : (Jvm.Cond.fieldLink "DayOpeners$Seats" (23 : Nat) "DayOpeners$Seats" "weights" "LDayOpeners$Row;") ∈ zG := zgm3 28 (rfl) rfl
theorem zg_509 : (Jvm.Cond.laysFinal "DayOpeners$Seats" "DayOpeners$Seats" "gets" "LDayOpeners$Row;") ∈ zG := zgm3 29 (rfl) rfl
theorem zg_511 : (Jvm.Cond.laysFinal "DayOpeners$Seats" "DayOpeners$Seats" "wants" "LDayOpeners$Row;") ∈ zG := zgm3 31 (rfl) rfl
theorem zg_513 : (Jvm.Cond.laysFinal "DayOpeners$Seats" "DayOpeners$Seats" "weights" "LDayOpeners$Row;") ∈ zG := zgm3 33 (rfl) rfl
theorem zg_516 : (Jvm.Cond.classLink "DayOpeners" (76 : Nat) "DayOpeners$Plans") ∈ zG := zgm3 36 (rfl) rfl
theorem zg_517 : (Jvm.Cond.instantiable "DayOpeners$Plans" (9 : Nat)) ∈ zG := zgm3 37 (rfl) rfl
theorem zg_518 : (Jvm.Cond.methodLink "DayOpeners" (78 : Nat) ({ cls := "DayOpeners$Plans", name := "<init>", desc := "()V" } : Jvm.MethodName)) ∈ zG := zgm3 38 (rfl) rfl
theorem zg_519 : (Jvm.Cond.instanceMethod ({ cls := "DayOpeners$Plans", name := "<init>", desc := "()V" } : Jvm.MethodName)) ∈ zG := zgm3 39 (rfl) rfl
theorem zg_520 : (Jvm.Cond.code ({ cls := "DayOpeners$Plans", name := "<init>", desc := "()V" } : Jvm.MethodName) prog_6_method_1_code (2 : Nat) (Option.none : Option Jvm.ClassFile.FieldType)) ∈ zG := zgm3 40 (rfl) rfl
theorem zg_521 : (Jvm.Cond.methodLink "DayOpeners$Plans" (3 : Nat) ({ cls := "java/lang/Object", name := "<init>", desc := "()V" } : Jvm.MethodName)) ∈ zG := zgm3 41 (rfl) rfl
theorem zg_522 : (Jvm.Cond.classLink "DayOpeners$Plans" (9 : Nat) "DayOpeners$Row") ∈ zG := zgm3 42 (rfl) rfl
theorem zg_523 : (Jvm.Cond.methodLink "DayOpeners$Plans" (11 : Nat) ({ cls := "DayOpeners$Row", name := "<init>", desc := "(I)V" } : Jvm.MethodName)) ∈ zG := zgm3 43 (rfl) rfl
theorem zg_524 : (Jvm.Cond.classLink "DayOpeners$Plans" (29 : Nat) "DayOpeners$State") ∈ zG := zgm3 44 (rfl) rfl
theorem zg_526 : (Jvm.Cond.classLink "DayOpeners$Plans" (35 : Nat) "DayOpeners$Told") ∈ zG := zgm3 46 (rfl) rfl
theorem zn_527 : (Jvm.Cond.methodLinkNest "DayOpeners$Plans" (37 : Nat) ({ cls := "DayOpeners$Told", name := "<init>", desc := "()V" } : Jvm.MethodName) "DayOpeners") ∈ zN := znm3 47 (rfl) rfl
theorem zn_528 : (Jvm.Cond.methodLinkNest "DayOpeners$Plans" (42 : Nat) ({ cls := "DayOpeners$State", name := "<init>", desc := "()V" } : Jvm.MethodName) "DayOpeners") ∈ zN := znm3 48 (rfl) rfl
theorem zg_529 : (Jvm.Cond.fieldLink "DayOpeners$Plans" (14 : Nat) "DayOpeners$Plans" "shares" "LDayOpeners$Row;") ∈ zG := zgm3 49 (rfl) rfl
theorem zn_530 : (Jvm.Cond.fieldLinkNest "DayOpeners" (248 : Nat) "DayOpeners$Plans" "shares" "LDayOpeners$Row;" "DayOpeners") ∈ zN := znm3 50 (rfl) rfl
theorem zg_531 : (Jvm.Cond.fieldLink "DayOpeners$Plans" (20 : Nat) "DayOpeners$Plans" "suits" "LDayOpeners$Row;") ∈ zG := zgm3 51 (rfl) rfl
theorem zg_532 : (Jvm.Cond.fieldLink "DayOpeners$Plans" (23 : Nat) "DayOpeners$Plans" "bestRow" "LDayOpeners$Row;") ∈ zG := zgm3 52 (rfl) rfl
theorem zn_533 : (Jvm.Cond.fieldLinkNest "DayOpeners" (265 : Nat) "DayOpeners$Plans" "bestRow" "LDayOpeners$Row;" "DayOpeners") ∈ zN := znm3 53 (rfl) rfl
theorem zg_534 : (Jvm.Cond.fieldLink "DayOpeners$Plans" (26 : Nat) "DayOpeners$Plans" "row" "LDayOpeners$Row;") ∈ zG := zgm3 54 (rfl) rfl
theorem zg_535 : (Jvm.Cond.fieldLink "DayOpeners$Plans" (31 : Nat) "DayOpeners$Plans" "states" "[LDayOpeners$State;") ∈ zG := zgm3 55 (rfl) rfl
theorem zg_536 : (Jvm.Cond.fieldLink "DayOpeners$Plans" (88 : Nat) "DayOpeners$Plans" "days" "I") ∈ zG := zgm3 56 (rfl) rfl
theorem zg_537 : (Jvm.Cond.fieldLink "DayOpeners$Plans" (91 : Nat) "DayOpeners$Plans" "most" "I") ∈ zG := zgm3 57 (rfl) rfl
theorem zn_538 : (Jvm.Cond.fieldLinkNest "DayOpeners" (262 : Nat) "DayOpeners$Plans" "most" "I" "DayOpeners") ∈ zN := znm3 58 (rfl) rfl
theorem zg_539 : (Jvm.Cond.fieldLink "DayOpeners$Plans" (38 : Nat) "DayOpeners$Plans" "told" "LDayOpeners$Told;") ∈ zG := zgm3 59 (rfl) rfl
theorem zg_540 : (Jvm.Cond.fieldLink "DayOpeners$Plans" (43 : Nat) "DayOpeners$Plans" "begun" "LDayOpeners$State;") ∈ zG := zgm3 60 (rfl) rfl
theorem zg_541 : (Jvm.Cond.laysFinal "DayOpeners$Plans" "DayOpeners$Plans" "shares" "LDayOpeners$Row;") ∈ zG := zgm3 61 (rfl) rfl
theorem zg_543 : (Jvm.Cond.laysFinal "DayOpeners$Plans" "DayOpeners$Plans" "suits" "LDayOpeners$Row;") ∈ zG := zgm3 63 (rfl) rfl
theorem zg_545 : (Jvm.Cond.laysFinal "DayOpeners$Plans" "DayOpeners$Plans" "bestRow" "LDayOpeners$Row;") ∈ zG := zgm3 65 (rfl) rfl
theorem zg_547 : (Jvm.Cond.laysFinal "DayOpeners$Plans" "DayOpeners$Plans" "row" "LDayOpeners$Row;") ∈ zG := zgm3 67 (rfl) rfl
theorem zg_549 : (Jvm.Cond.laysFinal "DayOpeners$Plans" "DayOpeners$Plans" "states" "[LDayOpeners$State;") ∈ zG := zgm3 69 (rfl) rfl
theorem zg_551 : (Jvm.Cond.lays "DayOpeners$Plans" "DayOpeners$Plans" "days" "I") ∈ zG := zgm3 71 (rfl) rfl
theorem zg_553 : (Jvm.Cond.lays "DayOpeners$Plans" "DayOpeners$Plans" "most" "I") ∈ zG := zgm3 73 (rfl) rfl
theorem zg_555 : (Jvm.Cond.lays "DayOpeners$Plans" "DayOpeners$Plans" "told" "LDayOpeners$Told;") ∈ zG := zgm3 75 (rfl) rfl
theorem zg_557 : (Jvm.Cond.lays "DayOpeners$Plans" "DayOpeners$Plans" "begun" "LDayOpeners$State;") ∈ zG := zgm3 77 (rfl) rfl
theorem zg_560 : (Jvm.Cond.fieldLink "DayOpeners" (14 : Nat) "DayOpeners" "tape" "LDayOpeners$Row;") ∈ zG := zgm3 80 (rfl) rfl
theorem zg_561 : (Jvm.Cond.fieldLink "DayOpeners" (83 : Nat) "DayOpeners" "taped" "I") ∈ zG := zgm3 81 (rfl) rfl
theorem zg_562 : (Jvm.Cond.fieldLink "DayOpeners" (21 : Nat) "DayOpeners" "parser" "LDayOpeners$Parser;") ∈ zG := zgm3 82 (rfl) rfl
theorem zg_563 : (Jvm.Cond.fieldLink "DayOpeners" (28 : Nat) "DayOpeners" "told" "LDayOpeners$Told;") ∈ zG := zgm3 83 (rfl) rfl
theorem zg_564 : (Jvm.Cond.fieldLink "DayOpeners" (32 : Nat) "DayOpeners" "spare" "LDayOpeners$Told;") ∈ zG := zgm3 84 (rfl) rfl
theorem zg_565 : (Jvm.Cond.fieldLink "DayOpeners" (38 : Nat) "DayOpeners" "now" "LDayOpeners$State;") ∈ zG := zgm3 85 (rfl) rfl
theorem zg_566 : (Jvm.Cond.fieldLink "DayOpeners" (42 : Nat) "DayOpeners" "trial" "LDayOpeners$State;") ∈ zG := zgm3 86 (rfl) rfl
theorem zg_567 : (Jvm.Cond.fieldLink "DayOpeners" (45 : Nat) "DayOpeners" "image" "LDayOpeners$State;") ∈ zG := zgm3 87 (rfl) rfl
theorem zg_568 : (Jvm.Cond.fieldLink "DayOpeners" (106 : Nat) "DayOpeners" "imaged" "Z") ∈ zG := zgm3 88 (rfl) rfl
theorem zg_569 : (Jvm.Cond.fieldLink "DayOpeners" (51 : Nat) "DayOpeners" "course" "LDayOpeners$Course;") ∈ zG := zgm3 89 (rfl) rfl
theorem zg_570 : (Jvm.Cond.fieldLink "DayOpeners" (58 : Nat) "DayOpeners" "notes" "LDayOpeners$Notes;") ∈ zG := zgm3 90 (rfl) rfl
theorem zg_571 : (Jvm.Cond.fieldLink "DayOpeners" (65 : Nat) "DayOpeners" "steps" "LDayOpeners$Steps;") ∈ zG := zgm3 91 (rfl) rfl
theorem zg_572 : (Jvm.Cond.fieldLink "DayOpeners" (72 : Nat) "DayOpeners" "seats" "LDayOpeners$Seats;") ∈ zG := zgm3 92 (rfl) rfl
theorem zg_573 : (Jvm.Cond.fieldLink "DayOpeners" (79 : Nat) "DayOpeners" "plans" "LDayOpeners$Plans;") ∈ zG := zgm3 93 (rfl) rfl
theorem zg_574 : (Jvm.Cond.laysFinal "DayOpeners" "DayOpeners" "tape" "LDayOpeners$Row;") ∈ zG := zgm3 94 (rfl) rfl
theorem zg_576 : (Jvm.Cond.lays "DayOpeners" "DayOpeners" "taped" "I") ∈ zG := zgm3 96 (rfl) rfl
theorem zg_578 : (Jvm.Cond.laysFinal "DayOpeners" "DayOpeners" "parser" "LDayOpeners$Parser;") ∈ zG := zgm3 98 (rfl) rfl
theorem zg_580 : (Jvm.Cond.lays "DayOpeners" "DayOpeners" "told" "LDayOpeners$Told;") ∈ zG := zgm3 100 (rfl) rfl
theorem zg_582 : (Jvm.Cond.lays "DayOpeners" "DayOpeners" "spare" "LDayOpeners$Told;") ∈ zG := zgm3 102 (rfl) rfl
theorem zg_584 : (Jvm.Cond.laysFinal "DayOpeners" "DayOpeners" "now" "LDayOpeners$State;") ∈ zG := zgm3 104 (rfl) rfl
theorem zg_586 : (Jvm.Cond.laysFinal "DayOpeners" "DayOpeners" "trial" "LDayOpeners$State;") ∈ zG := zgm3 106 (rfl) rfl
theorem zg_588 : (Jvm.Cond.laysFinal "DayOpeners" "DayOpeners" "image" "LDayOpeners$State;") ∈ zG := zgm3 108 (rfl) rfl
theorem zg_590 : (Jvm.Cond.lays "DayOpeners" "DayOpeners" "imaged" "Z") ∈ zG := zgm3 110 (rfl) rfl
theorem zg_592 : (Jvm.Cond.laysFinal "DayOpeners" "DayOpeners" "course" "LDayOpeners$Course;") ∈ zG := zgm3 112 (rfl) rfl
theorem zg_594 : (Jvm.Cond.laysFinal "DayOpeners" "DayOpeners" "notes" "LDayOpeners$Notes;") ∈ zG := zgm3 114 (rfl) rfl
theorem zg_596 : (Jvm.Cond.laysFinal "DayOpeners" "DayOpeners" "steps" "LDayOpeners$Steps;") ∈ zG := zgm3 116 (rfl) rfl
theorem zg_598 : (Jvm.Cond.laysFinal "DayOpeners" "DayOpeners" "seats" "LDayOpeners$Seats;") ∈ zG := zgm3 118 (rfl) rfl
theorem zg_600 : (Jvm.Cond.laysFinal "DayOpeners" "DayOpeners" "plans" "LDayOpeners$Plans;") ∈ zG := zgm3 120 (rfl) rfl
theorem zg_603 : (Jvm.Cond.methodLink "DayOpenersLaw" (21 : Nat) ({ cls := "DayOpeners", name := "feed", desc := "(IIIII)I" } : Jvm.MethodName)) ∈ zG := zgm3 123 (rfl) rfl
theorem zg_604 : (Jvm.Cond.instanceMethod ({ cls := "DayOpeners", name := "feed", desc := "(IIIII)I" } : Jvm.MethodName)) ∈ zG := zgm3 124 (rfl) rfl
theorem zg_605 : (Jvm.Cond.selects "DayOpeners" ({ cls := "DayOpeners", name := "feed", desc := "(IIIII)I" } : Jvm.MethodName) ({ cls := "DayOpeners", name := "feed", desc := "(IIIII)I" } : Jvm.MethodName)) ∈ zG := zgm3 125 (rfl) rfl
theorem zg_606 : (Jvm.Cond.code ({ cls := "DayOpeners", name := "feed", desc := "(IIIII)I" } : Jvm.MethodName) prog_1_method_2_code (6 : Nat) (Option.some Jvm.ClassFile.FieldType.int)) ∈ zG := zgm3 126 (rfl) rfl
theorem zg_607 : (Jvm.Cond.methodLink "DayOpeners" (87 : Nat) ({ cls := "DayOpeners", name := "tapeNumber", desc := "(I)V" } : Jvm.MethodName)) ∈ zG := zgm3 127 (rfl) rfl
theorem zg_609 : (Jvm.Cond.instanceMethod ({ cls := "DayOpeners", name := "tapeNumber", desc := "(I)V" } : Jvm.MethodName)) ∈ zG := zgm3 129 (rfl) rfl
theorem zg_610 : (Jvm.Cond.code ({ cls := "DayOpeners", name := "tapeNumber", desc := "(I)V" } : Jvm.MethodName) prog_1_method_3_code (3 : Nat) (Option.none : Option Jvm.ClassFile.FieldType)) ∈ zG := zgm3 130 (rfl) rfl
theorem zg_611 : (Jvm.Cond.methodLink "DayOpeners" (90 : Nat) ({ cls := "DayOpeners$Row", name := "set", desc := "(II)V" } : Jvm.MethodName)) ∈ zG := zgm3 131 (rfl) rfl
theorem zg_612 : (Jvm.Cond.methodLink "DayOpenersLaw" (26 : Nat) ({ cls := "DayOpeners", name := "text", desc := "(I)I" } : Jvm.MethodName)) ∈ zG := zgm3 132 (rfl) rfl
theorem zg_613 : (Jvm.Cond.instanceMethod ({ cls := "DayOpeners", name := "text", desc := "(I)I" } : Jvm.MethodName)) ∈ zG := zgm3 133 (rfl) rfl
theorem zg_614 : (Jvm.Cond.selects "DayOpeners" ({ cls := "DayOpeners", name := "text", desc := "(I)I" } : Jvm.MethodName) ({ cls := "DayOpeners", name := "text", desc := "(I)I" } : Jvm.MethodName)) ∈ zG := zgm3 134 (rfl) rfl
theorem zg_615 : (Jvm.Cond.code ({ cls := "DayOpeners", name := "text", desc := "(I)I" } : Jvm.MethodName) prog_1_method_4_code (3 : Nat) (Option.some Jvm.ClassFile.FieldType.int)) ∈ zG := zgm3 135 (rfl) rfl
theorem zg_616 : (Jvm.Cond.methodLink "DayOpeners" (94 : Nat) ({ cls := "DayOpeners$Parser", name := "reads", desc := "(LDayOpeners$Row;ILDayOpeners$Told;)Z" } : Jvm.MethodName)) ∈ zG := zgm3 136 (rfl) rfl
theorem zg_617 : (Jvm.Cond.instanceMethod ({ cls := "DayOpeners$Parser", name := "reads", desc := "(LDayOpeners$Row;ILDayOpeners$Told;)Z" } : Jvm.MethodName)) ∈ zG := zgm3 137 (rfl) rfl
theorem zg_618 : (Jvm.Cond.selects "DayOpeners$Parser" ({ cls := "DayOpeners$Parser", name := "reads", desc := "(LDayOpeners$Row;ILDayOpeners$Told;)Z" } : Jvm.MethodName) ({ cls := "DayOpeners$Parser", name := "reads", desc := "(LDayOpeners$Row;ILDayOpeners$Told;)Z" } : Jvm.MethodName)) ∈ zG := zgm3 138 (rfl) rfl
theorem zg_619 : (Jvm.Cond.code ({ cls := "DayOpeners$Parser", name := "reads", desc := "(LDayOpeners$Row;ILDayOpeners$Told;)Z" } : Jvm.MethodName) prog_5_method_2_code (5 : Nat) (Option.some Jvm.ClassFile.FieldType.boolean)) ∈ zG := zgm3 139 (rfl) rfl
theorem zg_620 : (Jvm.Cond.methodLink "DayOpeners$Parser" (34 : Nat) ({ cls := "DayOpeners$Told", name := "clear", desc := "()V" } : Jvm.MethodName)) ∈ zG := zgm3 140 (rfl) rfl
theorem zg_621 : (Jvm.Cond.instanceMethod ({ cls := "DayOpeners$Told", name := "clear", desc := "()V" } : Jvm.MethodName)) ∈ zG := zgm3 141 (rfl) rfl
theorem zg_622 : (Jvm.Cond.selects "DayOpeners$Told" ({ cls := "DayOpeners$Told", name := "clear", desc := "()V" } : Jvm.MethodName) ({ cls := "DayOpeners$Told", name := "clear", desc := "()V" } : Jvm.MethodName)) ∈ zG := zgm3 142 (rfl) rfl
theorem zg_623 : (Jvm.Cond.code ({ cls := "DayOpeners$Told", name := "clear", desc := "()V" } : Jvm.MethodName) prog_12_method_2_code (1 : Nat) (Option.none : Option Jvm.ClassFile.FieldType)) ∈ zG := zgm3 143 (rfl) rfl
theorem zg_624 : (Jvm.Cond.methodLink "DayOpeners$Told" (76 : Nat) ({ cls := "DayOpeners$Laws", name := "clear", desc := "()V" } : Jvm.MethodName)) ∈ zG := zgm3 144 (rfl) rfl
theorem zg_625 : (Jvm.Cond.instanceMethod ({ cls := "DayOpeners$Laws", name := "clear", desc := "()V" } : Jvm.MethodName)) ∈ zG := zgm3 145 (rfl) rfl
theorem zg_626 : (Jvm.Cond.selects "DayOpeners$Laws" ({ cls := "DayOpeners$Laws", name := "clear", desc := "()V" } : Jvm.MethodName) ({ cls := "DayOpeners$Laws", name := "clear", desc := "()V" } : Jvm.MethodName)) ∈ zG := zgm3 146 (rfl) rfl
theorem zg_627 : (Jvm.Cond.code ({ cls := "DayOpeners$Laws", name := "clear", desc := "()V" } : Jvm.MethodName) prog_3_method_2_code (1 : Nat) (Option.none : Option Jvm.ClassFile.FieldType)) ∈ zG := zgm3 147 (rfl) rfl
theorem zg_628 : (Jvm.Cond.methodLink "DayOpeners$Laws" (40 : Nat) ({ cls := "DayOpeners$Row", name := "fill", desc := "(I)V" } : Jvm.MethodName)) ∈ zG := zgm3 148 (rfl) rfl
theorem zg_629 : (Jvm.Cond.instanceMethod ({ cls := "DayOpeners$Row", name := "fill", desc := "(I)V" } : Jvm.MethodName)) ∈ zG := zgm3 149 (rfl) rfl
theorem zg_630 : (Jvm.Cond.selects "DayOpeners$Row" ({ cls := "DayOpeners$Row", name := "fill", desc := "(I)V" } : Jvm.MethodName) ({ cls := "DayOpeners$Row", name := "fill", desc := "(I)V" } : Jvm.MethodName)) ∈ zG := zgm3 150 (rfl) rfl
theorem zg_631 : (Jvm.Cond.code ({ cls := "DayOpeners$Row", name := "fill", desc := "(I)V" } : Jvm.MethodName) prog_7_method_4_code (3 : Nat) (Option.none : Option Jvm.ClassFile.FieldType)) ∈ zG := zgm3 151 (rfl) rfl
theorem zg_632 : (Jvm.Cond.methodLink "DayOpeners$Parser" (51 : Nat) ({ cls := "DayOpeners$Tokens", name := "begin", desc := "(LDayOpeners$Row;I)V" } : Jvm.MethodName)) ∈ zG := zgm3 152 (rfl) rfl
theorem zg_633 : (Jvm.Cond.instanceMethod ({ cls := "DayOpeners$Tokens", name := "begin", desc := "(LDayOpeners$Row;I)V" } : Jvm.MethodName)) ∈ zG := zgm3 153 (rfl) rfl
theorem zg_634 : (Jvm.Cond.selects "DayOpeners$Tokens" ({ cls := "DayOpeners$Tokens", name := "begin", desc := "(LDayOpeners$Row;I)V" } : Jvm.MethodName) ({ cls := "DayOpeners$Tokens", name := "begin", desc := "(LDayOpeners$Row;I)V" } : Jvm.MethodName)) ∈ zG := zgm3 154 (rfl) rfl
theorem zg_635 : (Jvm.Cond.code ({ cls := "DayOpeners$Tokens", name := "begin", desc := "(LDayOpeners$Row;I)V" } : Jvm.MethodName) prog_11_method_2_code (3 : Nat) (Option.none : Option Jvm.ClassFile.FieldType)) ∈ zG := zgm3 155 (rfl) rfl
theorem zg_636 : (Jvm.Cond.methodLink "DayOpeners$Tokens" (46 : Nat) ({ cls := "DayOpeners$Tokens", name := "next", desc := "()V" } : Jvm.MethodName)) ∈ zG := zgm3 156 (rfl) rfl
theorem zg_637 : (Jvm.Cond.instanceMethod ({ cls := "DayOpeners$Tokens", name := "next", desc := "()V" } : Jvm.MethodName)) ∈ zG := zgm3 157 (rfl) rfl
theorem zg_638 : (Jvm.Cond.selects "DayOpeners$Tokens" ({ cls := "DayOpeners$Tokens", name := "next", desc := "()V" } : Jvm.MethodName) ({ cls := "DayOpeners$Tokens", name := "next", desc := "()V" } : Jvm.MethodName)) ∈ zG := zgm3 158 (rfl) rfl
theorem zg_639 : (Jvm.Cond.code ({ cls := "DayOpeners$Tokens", name := "next", desc := "()V" } : Jvm.MethodName) prog_11_method_3_code (2 : Nat) (Option.none : Option Jvm.ClassFile.FieldType)) ∈ zG := zgm3 159 (rfl) rfl
theorem zg_640 : (Jvm.Cond.methodLink "DayOpeners$Tokens" (49 : Nat) ({ cls := "DayOpeners$Row", name := "get", desc := "(I)I" } : Jvm.MethodName)) ∈ zG := zgm3 160 (rfl) rfl
theorem zg_641 : (Jvm.Cond.instanceMethod ({ cls := "DayOpeners$Row", name := "get", desc := "(I)I" } : Jvm.MethodName)) ∈ zG := zgm3 161 (rfl) rfl
theorem zg_642 : (Jvm.Cond.selects "DayOpeners$Row" ({ cls := "DayOpeners$Row", name := "get", desc := "(I)I" } : Jvm.MethodName) ({ cls := "DayOpeners$Row", name := "get", desc := "(I)I" } : Jvm.MethodName)) ∈ zG := zgm3 162 (rfl) rfl
theorem zg_643 : (Jvm.Cond.code ({ cls := "DayOpeners$Row", name := "get", desc := "(I)I" } : Jvm.MethodName) prog_7_method_2_code (2 : Nat) (Option.some Jvm.ClassFile.FieldType.int)) ∈ zG := zgm3 163 (rfl) rfl
theorem zg_644 : (Jvm.Cond.methodLink "DayOpeners$Tokens" (53 : Nat) ({ cls := "DayOpeners$Tokens", name := "isBlank", desc := "(I)Z" } : Jvm.MethodName)) ∈ zG := zgm3 164 (rfl) rfl
theorem zg_645 : (Jvm.Cond.static ({ cls := "DayOpeners$Tokens", name := "isBlank", desc := "(I)Z" } : Jvm.MethodName)) ∈ zG := zgm3 165 (rfl) rfl
theorem zg_646 : (Jvm.Cond.code ({ cls := "DayOpeners$Tokens", name := "isBlank", desc := "(I)Z" } : Jvm.MethodName) prog_11_method_4_code (1 : Nat) (Option.some Jvm.ClassFile.FieldType.boolean)) ∈ zG := zgm3 166 (rfl) rfl
theorem zg_647 : (Jvm.Cond.methodLink "DayOpeners$Tokens" (63 : Nat) ({ cls := "DayOpeners$Tokens", name := "isLetter", desc := "(I)Z" } : Jvm.MethodName)) ∈ zG := zgm3 167 (rfl) rfl
theorem zg_648 : (Jvm.Cond.static ({ cls := "DayOpeners$Tokens", name := "isLetter", desc := "(I)Z" } : Jvm.MethodName)) ∈ zG := zgm3 168 (rfl) rfl
theorem zg_649 : (Jvm.Cond.code ({ cls := "DayOpeners$Tokens", name := "isLetter", desc := "(I)Z" } : Jvm.MethodName) prog_11_method_5_code (1 : Nat) (Option.some Jvm.ClassFile.FieldType.boolean)) ∈ zG := zgm3 169 (rfl) rfl
theorem zg_650 : (Jvm.Cond.methodLink "DayOpeners$Tokens" (66 : Nat) ({ cls := "DayOpeners$Tokens", name := "nextWord", desc := "()V" } : Jvm.MethodName)) ∈ zG := zgm3 170 (rfl) rfl
theorem zg_652 : (Jvm.Cond.instanceMethod ({ cls := "DayOpeners$Tokens", name := "nextWord", desc := "()V" } : Jvm.MethodName)) ∈ zG := zgm3 172 (rfl) rfl
theorem zg_653 : (Jvm.Cond.code ({ cls := "DayOpeners$Tokens", name := "nextWord", desc := "()V" } : Jvm.MethodName) prog_11_method_7_code (3 : Nat) (Option.none : Option Jvm.ClassFile.FieldType)) ∈ zG := zgm3 173 (rfl) rfl
theorem zg_654 : (Jvm.Cond.methodLink "DayOpeners$Tokens" (69 : Nat) ({ cls := "DayOpeners$Tokens", name := "isDigit", desc := "(I)Z" } : Jvm.MethodName)) ∈ zG := zgm3 174 (rfl) rfl
theorem zg_655 : (Jvm.Cond.static ({ cls := "DayOpeners$Tokens", name := "isDigit", desc := "(I)Z" } : Jvm.MethodName)) ∈ zG := zgm3 175 (rfl) rfl
theorem zg_656 : (Jvm.Cond.code ({ cls := "DayOpeners$Tokens", name := "isDigit", desc := "(I)Z" } : Jvm.MethodName) prog_11_method_6_code (1 : Nat) (Option.some Jvm.ClassFile.FieldType.boolean)) ∈ zG := zgm3 176 (rfl) rfl
theorem zg_657 : (Jvm.Cond.methodLink "DayOpeners$Tokens" (72 : Nat) ({ cls := "DayOpeners$Tokens", name := "nextNumber", desc := "()V" } : Jvm.MethodName)) ∈ zG := zgm3 177 (rfl) rfl
theorem zg_659 : (Jvm.Cond.instanceMethod ({ cls := "DayOpeners$Tokens", name := "nextNumber", desc := "()V" } : Jvm.MethodName)) ∈ zG := zgm3 179 (rfl) rfl
theorem zg_660 : (Jvm.Cond.code ({ cls := "DayOpeners$Tokens", name := "nextNumber", desc := "()V" } : Jvm.MethodName) prog_11_method_8_code (1 : Nat) (Option.none : Option Jvm.ClassFile.FieldType)) ∈ zG := zgm3 180 (rfl) rfl
theorem zg_661 : (Jvm.Cond.constant "DayOpeners$Tokens" (81 : Nat) (1000000 : Int32)) ∈ zG := zgm3 181 (rfl) rfl
theorem zg_662 : (Jvm.Cond.methodLink "DayOpeners$Tokens" (82 : Nat) ({ cls := "java/lang/Math", name := "min", desc := "(II)I" } : Jvm.MethodName)) ∈ zG := zgm3 182 (rfl) rfl
theorem zg_663 : (Jvm.Cond.static ({ cls := "java/lang/Math", name := "min", desc := "(II)I" } : Jvm.MethodName)) ∈ zG := zgm3 183 (rfl) rfl
theorem zg_664 : (Jvm.Cond.code ({ cls := "java/lang/Math", name := "min", desc := "(II)I" } : Jvm.MethodName) prog_20_method_69_code (2 : Nat) (Option.some Jvm.ClassFile.FieldType.int)) ∈ zG := zgm3 184 (rfl) rfl
theorem zg_665 : (Jvm.Cond.methodLink "DayOpeners$Tokens" (75 : Nat) ({ cls := "DayOpeners$Tokens", name := "nextSign", desc := "(I)V" } : Jvm.MethodName)) ∈ zG := zgm3 185 (rfl) rfl
theorem zg_667 : (Jvm.Cond.instanceMethod ({ cls := "DayOpeners$Tokens", name := "nextSign", desc := "(I)V" } : Jvm.MethodName)) ∈ zG := zgm3 187 (rfl) rfl
theorem zg_668 : (Jvm.Cond.code ({ cls := "DayOpeners$Tokens", name := "nextSign", desc := "(I)V" } : Jvm.MethodName) prog_11_method_9_code (3 : Nat) (Option.none : Option Jvm.ClassFile.FieldType)) ∈ zG := zgm3 188 (rfl) rfl
theorem zg_669 : (Jvm.Cond.methodLink "DayOpeners$Parser" (58 : Nat) ({ cls := "DayOpeners$Parser", name := "line", desc := "()Z" } : Jvm.MethodName)) ∈ zG := zgm3 189 (rfl) rfl
theorem zg_671 : (Jvm.Cond.instanceMethod ({ cls := "DayOpeners$Parser", name := "line", desc := "()Z" } : Jvm.MethodName)) ∈ zG := zgm3 191 (rfl) rfl
theorem zg_672 : (Jvm.Cond.code ({ cls := "DayOpeners$Parser", name := "line", desc := "()Z" } : Jvm.MethodName) prog_5_method_4_code (1 : Nat) (Option.some Jvm.ClassFile.FieldType.boolean)) ∈ zG := zgm3 192 (rfl) rfl
theorem zg_673 : (Jvm.Cond.methodLink "DayOpeners$Parser" (69 : Nat) ({ cls := "DayOpeners$Parser", name := "fails", desc := "(I)Z" } : Jvm.MethodName)) ∈ zG := zgm3 193 (rfl) rfl
theorem zg_675 : (Jvm.Cond.instanceMethod ({ cls := "DayOpeners$Parser", name := "fails", desc := "(I)Z" } : Jvm.MethodName)) ∈ zG := zgm3 195 (rfl) rfl
theorem zg_676 : (Jvm.Cond.code ({ cls := "DayOpeners$Parser", name := "fails", desc := "(I)Z" } : Jvm.MethodName) prog_5_method_3_code (2 : Nat) (Option.some Jvm.ClassFile.FieldType.boolean)) ∈ zG := zgm3 196 (rfl) rfl
theorem zg_677 : (Jvm.Cond.methodLink "DayOpeners$Parser" (76 : Nat) ({ cls := "DayOpeners$Parser", name := "trades", desc := "()Z" } : Jvm.MethodName)) ∈ zG := zgm3 197 (rfl) rfl
theorem zg_679 : (Jvm.Cond.instanceMethod ({ cls := "DayOpeners$Parser", name := "trades", desc := "()Z" } : Jvm.MethodName)) ∈ zG := zgm3 199 (rfl) rfl
theorem zg_680 : (Jvm.Cond.code ({ cls := "DayOpeners$Parser", name := "trades", desc := "()Z" } : Jvm.MethodName) prog_5_method_10_code (1 : Nat) (Option.some Jvm.ClassFile.FieldType.boolean)) ∈ zG := zgm3 200 (rfl) rfl
theorem zg_681 : (Jvm.Cond.methodLink "DayOpeners$Parser" (100 : Nat) ({ cls := "DayOpeners$Tokens", name := "next", desc := "()V" } : Jvm.MethodName)) ∈ zG := zgm3 201 (rfl) rfl
theorem zg_682 : (Jvm.Cond.methodLink "DayOpeners$Parser" (112 : Nat) ({ cls := "DayOpeners$Parser", name := "isNewName", desc := "(I)Z" } : Jvm.MethodName)) ∈ zG := zgm3 202 (rfl) rfl
theorem zg_684 : (Jvm.Cond.instanceMethod ({ cls := "DayOpeners$Parser", name := "isNewName", desc := "(I)Z" } : Jvm.MethodName)) ∈ zG := zgm3 204 (rfl) rfl
theorem zg_685 : (Jvm.Cond.code ({ cls := "DayOpeners$Parser", name := "isNewName", desc := "(I)Z" } : Jvm.MethodName) prog_5_method_6_code (4 : Nat) (Option.some Jvm.ClassFile.FieldType.boolean)) ∈ zG := zgm3 205 (rfl) rfl
theorem zg_686 : (Jvm.Cond.methodLink "DayOpeners$Parser" (103 : Nat) ({ cls := "DayOpeners$Told", name := "tradeNamed", desc := "(I)I" } : Jvm.MethodName)) ∈ zG := zgm3 206 (rfl) rfl
theorem zg_687 : (Jvm.Cond.instanceMethod ({ cls := "DayOpeners$Told", name := "tradeNamed", desc := "(I)I" } : Jvm.MethodName)) ∈ zG := zgm3 207 (rfl) rfl
theorem zg_688 : (Jvm.Cond.selects "DayOpeners$Told" ({ cls := "DayOpeners$Told", name := "tradeNamed", desc := "(I)I" } : Jvm.MethodName) ({ cls := "DayOpeners$Told", name := "tradeNamed", desc := "(I)I" } : Jvm.MethodName)) ∈ zG := zgm3 208 (rfl) rfl
theorem zg_689 : (Jvm.Cond.code ({ cls := "DayOpeners$Told", name := "tradeNamed", desc := "(I)I" } : Jvm.MethodName) prog_12_method_5_code (2 : Nat) (Option.some Jvm.ClassFile.FieldType.int)) ∈ zG := zgm3 209 (rfl) rfl
theorem zg_690 : (Jvm.Cond.methodLink "DayOpeners$Told" (79 : Nat) ({ cls := "DayOpeners$Told", name := "find", desc := "(LDayOpeners$Row;II)I" } : Jvm.MethodName)) ∈ zG := zgm3 210 (rfl) rfl
theorem zg_691 : (Jvm.Cond.static ({ cls := "DayOpeners$Told", name := "find", desc := "(LDayOpeners$Row;II)I" } : Jvm.MethodName)) ∈ zG := zgm3 211 (rfl) rfl
theorem zg_692 : (Jvm.Cond.code ({ cls := "DayOpeners$Told", name := "find", desc := "(LDayOpeners$Row;II)I" } : Jvm.MethodName) prog_12_method_8_code (4 : Nat) (Option.some Jvm.ClassFile.FieldType.int)) ∈ zG := zgm3 212 (rfl) rfl
theorem zg_693 : (Jvm.Cond.methodLink "DayOpeners$Told" (83 : Nat) ({ cls := "DayOpeners$Row", name := "get", desc := "(I)I" } : Jvm.MethodName)) ∈ zG := zgm3 213 (rfl) rfl
theorem zg_694 : (Jvm.Cond.methodLink "DayOpeners$Parser" (107 : Nat) ({ cls := "DayOpeners$Told", name := "workNamed", desc := "(I)I" } : Jvm.MethodName)) ∈ zG := zgm3 214 (rfl) rfl
theorem zg_695 : (Jvm.Cond.instanceMethod ({ cls := "DayOpeners$Told", name := "workNamed", desc := "(I)I" } : Jvm.MethodName)) ∈ zG := zgm3 215 (rfl) rfl
theorem zg_696 : (Jvm.Cond.selects "DayOpeners$Told" ({ cls := "DayOpeners$Told", name := "workNamed", desc := "(I)I" } : Jvm.MethodName) ({ cls := "DayOpeners$Told", name := "workNamed", desc := "(I)I" } : Jvm.MethodName)) ∈ zG := zgm3 216 (rfl) rfl
theorem zg_697 : (Jvm.Cond.code ({ cls := "DayOpeners$Told", name := "workNamed", desc := "(I)I" } : Jvm.MethodName) prog_12_method_6_code (2 : Nat) (Option.some Jvm.ClassFile.FieldType.int)) ∈ zG := zgm3 217 (rfl) rfl
theorem zg_698 : (Jvm.Cond.methodLink "DayOpeners$Parser" (118 : Nat) ({ cls := "DayOpeners$Parser", name := "taken", desc := "()I" } : Jvm.MethodName)) ∈ zG := zgm3 218 (rfl) rfl
theorem zg_700 : (Jvm.Cond.instanceMethod ({ cls := "DayOpeners$Parser", name := "taken", desc := "()I" } : Jvm.MethodName)) ∈ zG := zgm3 220 (rfl) rfl
theorem zg_701 : (Jvm.Cond.code ({ cls := "DayOpeners$Parser", name := "taken", desc := "()I" } : Jvm.MethodName) prog_5_method_9_code (2 : Nat) (Option.some Jvm.ClassFile.FieldType.int)) ∈ zG := zgm3 221 (rfl) rfl
theorem zg_702 : (Jvm.Cond.methodLink "DayOpeners$Parser" (122 : Nat) ({ cls := "DayOpeners$Row", name := "set", desc := "(II)V" } : Jvm.MethodName)) ∈ zG := zgm3 222 (rfl) rfl
theorem zg_703 : (Jvm.Cond.methodLink "DayOpeners$Parser" (126 : Nat) ({ cls := "DayOpeners$Parser", name := "isNumber", desc := "(II)Z" } : Jvm.MethodName)) ∈ zG := zgm3 223 (rfl) rfl
theorem zg_705 : (Jvm.Cond.instanceMethod ({ cls := "DayOpeners$Parser", name := "isNumber", desc := "(II)Z" } : Jvm.MethodName)) ∈ zG := zgm3 225 (rfl) rfl
theorem zg_706 : (Jvm.Cond.code ({ cls := "DayOpeners$Parser", name := "isNumber", desc := "(II)Z" } : Jvm.MethodName) prog_5_method_8_code (3 : Nat) (Option.some Jvm.ClassFile.FieldType.boolean)) ∈ zG := zgm3 226 (rfl) rfl
theorem zg_707 : (Jvm.Cond.methodLink "DayOpeners$Parser" (79 : Nat) ({ cls := "DayOpeners$Parser", name := "ends", desc := "()Z" } : Jvm.MethodName)) ∈ zG := zgm3 227 (rfl) rfl
theorem zg_709 : (Jvm.Cond.instanceMethod ({ cls := "DayOpeners$Parser", name := "ends", desc := "()Z" } : Jvm.MethodName)) ∈ zG := zgm3 229 (rfl) rfl
theorem zg_710 : (Jvm.Cond.code ({ cls := "DayOpeners$Parser", name := "ends", desc := "()Z" } : Jvm.MethodName) prog_5_method_5_code (1 : Nat) (Option.some Jvm.ClassFile.FieldType.boolean)) ∈ zG := zgm3 230 (rfl) rfl
theorem zg_711 : (Jvm.Cond.methodLink "DayOpeners$Parser" (82 : Nat) ({ cls := "DayOpeners$Parser", name := "turns", desc := "()Z" } : Jvm.MethodName)) ∈ zG := zgm3 231 (rfl) rfl
theorem zg_713 : (Jvm.Cond.instanceMethod ({ cls := "DayOpeners$Parser", name := "turns", desc := "()Z" } : Jvm.MethodName)) ∈ zG := zgm3 233 (rfl) rfl
theorem zg_714 : (Jvm.Cond.code ({ cls := "DayOpeners$Parser", name := "turns", desc := "()Z" } : Jvm.MethodName) prog_5_method_11_code (1 : Nat) (Option.some Jvm.ClassFile.FieldType.boolean)) ∈ zG := zgm3 234 (rfl) rfl
theorem zg_715 : (Jvm.Cond.methodLink "DayOpeners$Parser" (138 : Nat) ({ cls := "DayOpeners$Parser", name := "isTrade", desc := "()Z" } : Jvm.MethodName)) ∈ zG := zgm3 235 (rfl) rfl
theorem zg_717 : (Jvm.Cond.instanceMethod ({ cls := "DayOpeners$Parser", name := "isTrade", desc := "()Z" } : Jvm.MethodName)) ∈ zG := zgm3 237 (rfl) rfl
theorem zg_718 : (Jvm.Cond.code ({ cls := "DayOpeners$Parser", name := "isTrade", desc := "()Z" } : Jvm.MethodName) prog_5_method_7_code (1 : Nat) (Option.some Jvm.ClassFile.FieldType.boolean)) ∈ zG := zgm3 238 (rfl) rfl
theorem zg_719 : (Jvm.Cond.methodLink "DayOpeners$Parser" (85 : Nat) ({ cls := "DayOpeners$Parser", name := "claims", desc := "()Z" } : Jvm.MethodName)) ∈ zG := zgm3 239 (rfl) rfl
theorem zg_721 : (Jvm.Cond.instanceMethod ({ cls := "DayOpeners$Parser", name := "claims", desc := "()Z" } : Jvm.MethodName)) ∈ zG := zgm4 1 (rfl) rfl
theorem zg_722 : (Jvm.Cond.code ({ cls := "DayOpeners$Parser", name := "claims", desc := "()Z" } : Jvm.MethodName) prog_5_method_12_code (1 : Nat) (Option.some Jvm.ClassFile.FieldType.boolean)) ∈ zG := zgm4 2 (rfl) rfl
theorem zg_723 : (Jvm.Cond.methodLink "DayOpeners$Parser" (149 : Nat) ({ cls := "DayOpeners$Told", name := "claimant", desc := "(I)I" } : Jvm.MethodName)) ∈ zG := zgm4 3 (rfl) rfl
theorem zg_724 : (Jvm.Cond.instanceMethod ({ cls := "DayOpeners$Told", name := "claimant", desc := "(I)I" } : Jvm.MethodName)) ∈ zG := zgm4 4 (rfl) rfl
theorem zg_725 : (Jvm.Cond.selects "DayOpeners$Told" ({ cls := "DayOpeners$Told", name := "claimant", desc := "(I)I" } : Jvm.MethodName) ({ cls := "DayOpeners$Told", name := "claimant", desc := "(I)I" } : Jvm.MethodName)) ∈ zG := zgm4 5 (rfl) rfl
theorem zg_726 : (Jvm.Cond.code ({ cls := "DayOpeners$Told", name := "claimant", desc := "(I)I" } : Jvm.MethodName) prog_12_method_7_code (3 : Nat) (Option.some Jvm.ClassFile.FieldType.int)) ∈ zG := zgm4 6 (rfl) rfl
theorem zg_727 : (Jvm.Cond.methodLink "DayOpeners$Parser" (88 : Nat) ({ cls := "DayOpeners$Parser", name := "works", desc := "()Z" } : Jvm.MethodName)) ∈ zG := zgm4 7 (rfl) rfl
theorem zg_729 : (Jvm.Cond.instanceMethod ({ cls := "DayOpeners$Parser", name := "works", desc := "()Z" } : Jvm.MethodName)) ∈ zG := zgm4 9 (rfl) rfl
theorem zg_730 : (Jvm.Cond.code ({ cls := "DayOpeners$Parser", name := "works", desc := "()Z" } : Jvm.MethodName) prog_5_method_13_code (1 : Nat) (Option.some Jvm.ClassFile.FieldType.boolean)) ∈ zG := zgm4 10 (rfl) rfl
theorem zg_731 : (Jvm.Cond.methodLink "DayOpeners$Parser" (91 : Nat) ({ cls := "DayOpeners$Parser", name := "slips", desc := "()Z" } : Jvm.MethodName)) ∈ zG := zgm4 11 (rfl) rfl
theorem zg_733 : (Jvm.Cond.instanceMethod ({ cls := "DayOpeners$Parser", name := "slips", desc := "()Z" } : Jvm.MethodName)) ∈ zG := zgm4 13 (rfl) rfl
theorem zg_734 : (Jvm.Cond.code ({ cls := "DayOpeners$Parser", name := "slips", desc := "()Z" } : Jvm.MethodName) prog_5_method_14_code (1 : Nat) (Option.some Jvm.ClassFile.FieldType.boolean)) ∈ zG := zgm4 14 (rfl) rfl
theorem zg_735 : (Jvm.Cond.methodLink "DayOpeners$Parser" (94 : Nat) ({ cls := "DayOpeners$Parser", name := "seeds", desc := "()Z" } : Jvm.MethodName)) ∈ zG := zgm4 15 (rfl) rfl
theorem zg_737 : (Jvm.Cond.instanceMethod ({ cls := "DayOpeners$Parser", name := "seeds", desc := "()Z" } : Jvm.MethodName)) ∈ zG := zgm4 17 (rfl) rfl
theorem zg_738 : (Jvm.Cond.code ({ cls := "DayOpeners$Parser", name := "seeds", desc := "()Z" } : Jvm.MethodName) prog_5_method_15_code (1 : Nat) (Option.some Jvm.ClassFile.FieldType.boolean)) ∈ zG := zgm4 18 (rfl) rfl
theorem zg_739 : (Jvm.Cond.constant "DayOpeners$Parser" (172 : Nat) (99999 : Int32)) ∈ zG := zgm4 19 (rfl) rfl
theorem zg_740 : (Jvm.Cond.methodLink "DayOpeners$Parser" (97 : Nat) ({ cls := "DayOpeners$Parser", name := "laws", desc := "()Z" } : Jvm.MethodName)) ∈ zG := zgm4 20 (rfl) rfl
theorem zg_742 : (Jvm.Cond.instanceMethod ({ cls := "DayOpeners$Parser", name := "laws", desc := "()Z" } : Jvm.MethodName)) ∈ zG := zgm4 22 (rfl) rfl
theorem zg_743 : (Jvm.Cond.code ({ cls := "DayOpeners$Parser", name := "laws", desc := "()Z" } : Jvm.MethodName) prog_5_method_16_code (6 : Nat) (Option.some Jvm.ClassFile.FieldType.boolean)) ∈ zG := zgm4 23 (rfl) rfl
theorem zg_744 : (Jvm.Cond.methodLink "DayOpeners$Parser" (179 : Nat) ({ cls := "DayOpeners$Laws", name := "has", desc := "(I)Z" } : Jvm.MethodName)) ∈ zG := zgm4 24 (rfl) rfl
theorem zg_745 : (Jvm.Cond.instanceMethod ({ cls := "DayOpeners$Laws", name := "has", desc := "(I)Z" } : Jvm.MethodName)) ∈ zG := zgm4 25 (rfl) rfl
theorem zg_746 : (Jvm.Cond.selects "DayOpeners$Laws" ({ cls := "DayOpeners$Laws", name := "has", desc := "(I)Z" } : Jvm.MethodName) ({ cls := "DayOpeners$Laws", name := "has", desc := "(I)Z" } : Jvm.MethodName)) ∈ zG := zgm4 26 (rfl) rfl
theorem zg_747 : (Jvm.Cond.code ({ cls := "DayOpeners$Laws", name := "has", desc := "(I)Z" } : Jvm.MethodName) prog_3_method_6_code (2 : Nat) (Option.some Jvm.ClassFile.FieldType.boolean)) ∈ zG := zgm4 27 (rfl) rfl
theorem zg_748 : (Jvm.Cond.methodLink "DayOpeners$Laws" (47 : Nat) ({ cls := "DayOpeners$Row", name := "get", desc := "(I)I" } : Jvm.MethodName)) ∈ zG := zgm4 28 (rfl) rfl
theorem zg_749 : (Jvm.Cond.methodLink "DayOpeners$Parser" (184 : Nat) ({ cls := "DayOpeners$Laws", name := "begin", desc := "(I)V" } : Jvm.MethodName)) ∈ zG := zgm4 29 (rfl) rfl
theorem zg_750 : (Jvm.Cond.instanceMethod ({ cls := "DayOpeners$Laws", name := "begin", desc := "(I)V" } : Jvm.MethodName)) ∈ zG := zgm4 30 (rfl) rfl
theorem zg_751 : (Jvm.Cond.selects "DayOpeners$Laws" ({ cls := "DayOpeners$Laws", name := "begin", desc := "(I)V" } : Jvm.MethodName) ({ cls := "DayOpeners$Laws", name := "begin", desc := "(I)V" } : Jvm.MethodName)) ∈ zG := zgm4 31 (rfl) rfl
theorem zg_752 : (Jvm.Cond.code ({ cls := "DayOpeners$Laws", name := "begin", desc := "(I)V" } : Jvm.MethodName) prog_3_method_3_code (2 : Nat) (Option.none : Option Jvm.ClassFile.FieldType)) ∈ zG := zgm4 32 (rfl) rfl
theorem zg_753 : (Jvm.Cond.methodLink "DayOpeners$Laws" (43 : Nat) ({ cls := "DayOpeners$Row", name := "set", desc := "(II)V" } : Jvm.MethodName)) ∈ zG := zgm4 33 (rfl) rfl
theorem zg_754 : (Jvm.Cond.methodLink "DayOpeners$Parser" (192 : Nat) ({ cls := "DayOpeners$Parser", name := "beginsPart", desc := "()Z" } : Jvm.MethodName)) ∈ zG := zgm4 34 (rfl) rfl
theorem zg_756 : (Jvm.Cond.instanceMethod ({ cls := "DayOpeners$Parser", name := "beginsPart", desc := "()Z" } : Jvm.MethodName)) ∈ zG := zgm4 36 (rfl) rfl
theorem zg_757 : (Jvm.Cond.code ({ cls := "DayOpeners$Parser", name := "beginsPart", desc := "()Z" } : Jvm.MethodName) prog_5_method_17_code (3 : Nat) (Option.some Jvm.ClassFile.FieldType.boolean)) ∈ zG := zgm4 37 (rfl) rfl
theorem zg_758 : (Jvm.Cond.methodLink "DayOpeners$Parser" (204 : Nat) ({ cls := "DayOpeners$Parser", name := "counts", desc := "()Z" } : Jvm.MethodName)) ∈ zG := zgm4 38 (rfl) rfl
theorem zg_760 : (Jvm.Cond.instanceMethod ({ cls := "DayOpeners$Parser", name := "counts", desc := "()Z" } : Jvm.MethodName)) ∈ zG := zgm4 40 (rfl) rfl
theorem zg_761 : (Jvm.Cond.code ({ cls := "DayOpeners$Parser", name := "counts", desc := "()Z" } : Jvm.MethodName) prog_5_method_19_code (1 : Nat) (Option.some Jvm.ClassFile.FieldType.boolean)) ∈ zG := zgm4 41 (rfl) rfl
theorem zg_762 : (Jvm.Cond.methodLink "DayOpeners$Parser" (207 : Nat) ({ cls := "DayOpeners$Parser", name := "tells", desc := "(II)Z" } : Jvm.MethodName)) ∈ zG := zgm4 42 (rfl) rfl
theorem zg_764 : (Jvm.Cond.instanceMethod ({ cls := "DayOpeners$Parser", name := "tells", desc := "(II)Z" } : Jvm.MethodName)) ∈ zG := zgm4 44 (rfl) rfl
theorem zg_765 : (Jvm.Cond.code ({ cls := "DayOpeners$Parser", name := "tells", desc := "(II)Z" } : Jvm.MethodName) prog_5_method_20_code (3 : Nat) (Option.some Jvm.ClassFile.FieldType.boolean)) ∈ zG := zgm4 45 (rfl) rfl
theorem zg_766 : (Jvm.Cond.methodLink "DayOpeners$Parser" (219 : Nat) ({ cls := "DayOpeners$Laws", name := "add", desc := "(II)V" } : Jvm.MethodName)) ∈ zG := zgm4 46 (rfl) rfl
theorem zg_767 : (Jvm.Cond.instanceMethod ({ cls := "DayOpeners$Laws", name := "add", desc := "(II)V" } : Jvm.MethodName)) ∈ zG := zgm4 47 (rfl) rfl
theorem zg_768 : (Jvm.Cond.selects "DayOpeners$Laws" ({ cls := "DayOpeners$Laws", name := "add", desc := "(II)V" } : Jvm.MethodName) ({ cls := "DayOpeners$Laws", name := "add", desc := "(II)V" } : Jvm.MethodName)) ∈ zG := zgm4 48 (rfl) rfl
theorem zg_769 : (Jvm.Cond.code ({ cls := "DayOpeners$Laws", name := "add", desc := "(II)V" } : Jvm.MethodName) prog_3_method_4_code (3 : Nat) (Option.none : Option Jvm.ClassFile.FieldType)) ∈ zG := zgm4 49 (rfl) rfl
theorem zg_770 : (Jvm.Cond.methodLink "DayOpeners$Parser" (210 : Nat) ({ cls := "DayOpeners$Parser", name := "hold", desc := "(I)Z" } : Jvm.MethodName)) ∈ zG := zgm4 50 (rfl) rfl
theorem zg_772 : (Jvm.Cond.instanceMethod ({ cls := "DayOpeners$Parser", name := "hold", desc := "(I)Z" } : Jvm.MethodName)) ∈ zG := zgm4 52 (rfl) rfl
theorem zg_773 : (Jvm.Cond.code ({ cls := "DayOpeners$Parser", name := "hold", desc := "(I)Z" } : Jvm.MethodName) prog_5_method_21_code (2 : Nat) (Option.some Jvm.ClassFile.FieldType.boolean)) ∈ zG := zgm4 53 (rfl) rfl
theorem zg_774 : (Jvm.Cond.methodLink "DayOpeners$Parser" (213 : Nat) ({ cls := "DayOpeners$Parser", name := "topWaiting", desc := "()I" } : Jvm.MethodName)) ∈ zG := zgm4 54 (rfl) rfl
theorem zg_776 : (Jvm.Cond.instanceMethod ({ cls := "DayOpeners$Parser", name := "topWaiting", desc := "()I" } : Jvm.MethodName)) ∈ zG := zgm4 56 (rfl) rfl
theorem zg_777 : (Jvm.Cond.code ({ cls := "DayOpeners$Parser", name := "topWaiting", desc := "()I" } : Jvm.MethodName) prog_5_method_22_code (1 : Nat) (Option.some Jvm.ClassFile.FieldType.int)) ∈ zG := zgm4 57 (rfl) rfl
theorem zg_778 : (Jvm.Cond.methodLink "DayOpeners$Parser" (222 : Nat) ({ cls := "DayOpeners$Row", name := "get", desc := "(I)I" } : Jvm.MethodName)) ∈ zG := zgm4 58 (rfl) rfl
theorem zg_779 : (Jvm.Cond.methodLink "DayOpeners$Parser" (216 : Nat) ({ cls := "DayOpeners$Parser", name := "rank", desc := "(I)I" } : Jvm.MethodName)) ∈ zG := zgm4 59 (rfl) rfl
theorem zg_780 : (Jvm.Cond.static ({ cls := "DayOpeners$Parser", name := "rank", desc := "(I)I" } : Jvm.MethodName)) ∈ zG := zgm4 60 (rfl) rfl
theorem zg_781 : (Jvm.Cond.code ({ cls := "DayOpeners$Parser", name := "rank", desc := "(I)I" } : Jvm.MethodName) prog_5_method_24_code (1 : Nat) (Option.some Jvm.ClassFile.FieldType.int)) ∈ zG := zgm4 61 (rfl) rfl
theorem zg_782 : (Jvm.Cond.methodLink "DayOpeners$Parser" (195 : Nat) ({ cls := "DayOpeners$Parser", name := "endsPart", desc := "()Z" } : Jvm.MethodName)) ∈ zG := zgm4 62 (rfl) rfl
theorem zg_784 : (Jvm.Cond.instanceMethod ({ cls := "DayOpeners$Parser", name := "endsPart", desc := "()Z" } : Jvm.MethodName)) ∈ zG := zgm4 64 (rfl) rfl
theorem zg_785 : (Jvm.Cond.code ({ cls := "DayOpeners$Parser", name := "endsPart", desc := "()Z" } : Jvm.MethodName) prog_5_method_18_code (3 : Nat) (Option.some Jvm.ClassFile.FieldType.boolean)) ∈ zG := zgm4 65 (rfl) rfl
theorem zg_786 : (Jvm.Cond.methodLink "DayOpeners$Parser" (198 : Nat) ({ cls := "DayOpeners$Parser", name := "unwind", desc := "(I)V" } : Jvm.MethodName)) ∈ zG := zgm4 66 (rfl) rfl
theorem zg_788 : (Jvm.Cond.instanceMethod ({ cls := "DayOpeners$Parser", name := "unwind", desc := "(I)V" } : Jvm.MethodName)) ∈ zG := zgm4 68 (rfl) rfl
theorem zg_789 : (Jvm.Cond.code ({ cls := "DayOpeners$Parser", name := "unwind", desc := "(I)V" } : Jvm.MethodName) prog_5_method_23_code (3 : Nat) (Option.none : Option Jvm.ClassFile.FieldType)) ∈ zG := zgm4 69 (rfl) rfl
theorem zg_790 : (Jvm.Cond.methodLink "DayOpeners$Parser" (201 : Nat) ({ cls := "DayOpeners$Laws", name := "end", desc := "(I)V" } : Jvm.MethodName)) ∈ zG := zgm4 70 (rfl) rfl
theorem zg_791 : (Jvm.Cond.instanceMethod ({ cls := "DayOpeners$Laws", name := "end", desc := "(I)V" } : Jvm.MethodName)) ∈ zG := zgm4 71 (rfl) rfl
theorem zg_792 : (Jvm.Cond.selects "DayOpeners$Laws" ({ cls := "DayOpeners$Laws", name := "end", desc := "(I)V" } : Jvm.MethodName) ({ cls := "DayOpeners$Laws", name := "end", desc := "(I)V" } : Jvm.MethodName)) ∈ zG := zgm4 72 (rfl) rfl
theorem zg_793 : (Jvm.Cond.code ({ cls := "DayOpeners$Laws", name := "end", desc := "(I)V" } : Jvm.MethodName) prog_3_method_5_code (2 : Nat) (Option.none : Option Jvm.ClassFile.FieldType)) ∈ zG := zgm4 73 (rfl) rfl
theorem zg_794 : (Jvm.Cond.methodLink "DayOpeners" (98 : Nat) ({ cls := "DayOpeners$State", name := "starts", desc := "(LDayOpeners$Told;)V" } : Jvm.MethodName)) ∈ zG := zgm4 74 (rfl) rfl
theorem zg_795 : (Jvm.Cond.instanceMethod ({ cls := "DayOpeners$State", name := "starts", desc := "(LDayOpeners$Told;)V" } : Jvm.MethodName)) ∈ zG := zgm4 75 (rfl) rfl
theorem zg_796 : (Jvm.Cond.selects "DayOpeners$State" ({ cls := "DayOpeners$State", name := "starts", desc := "(LDayOpeners$Told;)V" } : Jvm.MethodName) ({ cls := "DayOpeners$State", name := "starts", desc := "(LDayOpeners$Told;)V" } : Jvm.MethodName)) ∈ zG := zgm4 76 (rfl) rfl
theorem zg_797 : (Jvm.Cond.code ({ cls := "DayOpeners$State", name := "starts", desc := "(LDayOpeners$Told;)V" } : Jvm.MethodName) prog_9_method_2_code (2 : Nat) (Option.none : Option Jvm.ClassFile.FieldType)) ∈ zG := zgm4 77 (rfl) rfl
theorem zg_798 : (Jvm.Cond.methodLink "DayOpeners$State" (75 : Nat) ({ cls := "DayOpeners$Row", name := "copy", desc := "(LDayOpeners$Row;)V" } : Jvm.MethodName)) ∈ zG := zgm4 78 (rfl) rfl
theorem zg_799 : (Jvm.Cond.instanceMethod ({ cls := "DayOpeners$Row", name := "copy", desc := "(LDayOpeners$Row;)V" } : Jvm.MethodName)) ∈ zG := zgm4 79 (rfl) rfl
theorem zg_800 : (Jvm.Cond.selects "DayOpeners$Row" ({ cls := "DayOpeners$Row", name := "copy", desc := "(LDayOpeners$Row;)V" } : Jvm.MethodName) ({ cls := "DayOpeners$Row", name := "copy", desc := "(LDayOpeners$Row;)V" } : Jvm.MethodName)) ∈ zG := zgm4 80 (rfl) rfl
theorem zg_801 : (Jvm.Cond.code ({ cls := "DayOpeners$Row", name := "copy", desc := "(LDayOpeners$Row;)V" } : Jvm.MethodName) prog_7_method_5_code (2 : Nat) (Option.none : Option Jvm.ClassFile.FieldType)) ∈ zG := zgm4 81 (rfl) rfl
theorem zg_802 : (Jvm.Cond.methodLink "DayOpeners$Row" (19 : Nat) ({ cls := "java/lang/Math", name := "min", desc := "(II)I" } : Jvm.MethodName)) ∈ zG := zgm4 82 (rfl) rfl
theorem zg_803 : (Jvm.Cond.methodLink "DayOpeners$Row" (22 : Nat) ({ cls := "java/lang/System", name := "arraycopy", desc := "(Ljava/lang/Object;ILjava/lang/Object;II)V" } : Jvm.MethodName)) ∈ zG := zgm4 83 (rfl) rfl
theorem zg_804 : (Jvm.Cond.static ({ cls := "java/lang/System", name := "arraycopy", desc := "(Ljava/lang/Object;ILjava/lang/Object;II)V" } : Jvm.MethodName)) ∈ zG := zgm4 84 (rfl) rfl
theorem zg_805 : (Jvm.Cond.native ({ cls := "java/lang/System", name := "arraycopy", desc := "(Ljava/lang/Object;ILjava/lang/Object;II)V" } : Jvm.MethodName)) ∈ zG := zgm4 85 (rfl) rfl
theorem zg_806 : (Jvm.Cond.methodLink "DayOpeners$State" (79 : Nat) ({ cls := "DayOpeners$Row", name := "fill", desc := "(I)V" } : Jvm.MethodName)) ∈ zG := zgm4 86 (rfl) rfl
theorem zg_807 : (Jvm.Cond.methodLink "DayOpeners" (102 : Nat) ({ cls := "DayOpeners$Notes", name := "clear", desc := "()V" } : Jvm.MethodName)) ∈ zG := zgm4 87 (rfl) rfl
theorem zg_808 : (Jvm.Cond.instanceMethod ({ cls := "DayOpeners$Notes", name := "clear", desc := "()V" } : Jvm.MethodName)) ∈ zG := zgm4 88 (rfl) rfl
theorem zg_809 : (Jvm.Cond.selects "DayOpeners$Notes" ({ cls := "DayOpeners$Notes", name := "clear", desc := "()V" } : Jvm.MethodName) ({ cls := "DayOpeners$Notes", name := "clear", desc := "()V" } : Jvm.MethodName)) ∈ zG := zgm4 89 (rfl) rfl
theorem zg_810 : (Jvm.Cond.code ({ cls := "DayOpeners$Notes", name := "clear", desc := "()V" } : Jvm.MethodName) prog_4_method_2_code (1 : Nat) (Option.none : Option Jvm.ClassFile.FieldType)) ∈ zG := zgm4 90 (rfl) rfl
theorem zg_811 : (Jvm.Cond.methodLink "DayOpeners" (105 : Nat) ({ cls := "DayOpeners$Steps", name := "clear", desc := "()V" } : Jvm.MethodName)) ∈ zG := zgm4 91 (rfl) rfl
theorem zg_812 : (Jvm.Cond.instanceMethod ({ cls := "DayOpeners$Steps", name := "clear", desc := "()V" } : Jvm.MethodName)) ∈ zG := zgm4 92 (rfl) rfl
theorem zg_813 : (Jvm.Cond.selects "DayOpeners$Steps" ({ cls := "DayOpeners$Steps", name := "clear", desc := "()V" } : Jvm.MethodName) ({ cls := "DayOpeners$Steps", name := "clear", desc := "()V" } : Jvm.MethodName)) ∈ zG := zgm4 93 (rfl) rfl
theorem zg_814 : (Jvm.Cond.code ({ cls := "DayOpeners$Steps", name := "clear", desc := "()V" } : Jvm.MethodName) prog_10_method_2_code (1 : Nat) (Option.none : Option Jvm.ClassFile.FieldType)) ∈ zG := zgm4 94 (rfl) rfl
theorem zg_815 : (Jvm.Cond.methodLink "DayOpenersLaw" (31 : Nat) ({ cls := "DayOpeners", name := "fault", desc := "(I)I" } : Jvm.MethodName)) ∈ zG := zgm4 95 (rfl) rfl
theorem zg_816 : (Jvm.Cond.instanceMethod ({ cls := "DayOpeners", name := "fault", desc := "(I)I" } : Jvm.MethodName)) ∈ zG := zgm4 96 (rfl) rfl
theorem zg_817 : (Jvm.Cond.selects "DayOpeners" ({ cls := "DayOpeners", name := "fault", desc := "(I)I" } : Jvm.MethodName) ({ cls := "DayOpeners", name := "fault", desc := "(I)I" } : Jvm.MethodName)) ∈ zG := zgm4 97 (rfl) rfl
theorem zg_818 : (Jvm.Cond.code ({ cls := "DayOpeners", name := "fault", desc := "(I)I" } : Jvm.MethodName) prog_1_method_5_code (2 : Nat) (Option.some Jvm.ClassFile.FieldType.int)) ∈ zG := zgm4 98 (rfl) rfl
theorem zg_819 : (Jvm.Cond.methodLink "DayOpenersLaw" (35 : Nat) ({ cls := "DayOpeners", name := "named", desc := "(II)I" } : Jvm.MethodName)) ∈ zG := zgm4 99 (rfl) rfl
theorem zg_820 : (Jvm.Cond.instanceMethod ({ cls := "DayOpeners", name := "named", desc := "(II)I" } : Jvm.MethodName)) ∈ zG := zgm4 100 (rfl) rfl
theorem zg_821 : (Jvm.Cond.selects "DayOpeners" ({ cls := "DayOpeners", name := "named", desc := "(II)I" } : Jvm.MethodName) ({ cls := "DayOpeners", name := "named", desc := "(II)I" } : Jvm.MethodName)) ∈ zG := zgm4 101 (rfl) rfl
theorem zg_822 : (Jvm.Cond.code ({ cls := "DayOpeners", name := "named", desc := "(II)I" } : Jvm.MethodName) prog_1_method_6_code (3 : Nat) (Option.some Jvm.ClassFile.FieldType.int)) ∈ zG := zgm4 102 (rfl) rfl
theorem zg_823 : (Jvm.Cond.methodLink "DayOpeners" (119 : Nat) ({ cls := "DayOpeners$Told", name := "tradeNamed", desc := "(I)I" } : Jvm.MethodName)) ∈ zG := zgm4 103 (rfl) rfl
theorem zg_824 : (Jvm.Cond.methodLink "DayOpeners" (123 : Nat) ({ cls := "DayOpeners$Told", name := "workNamed", desc := "(I)I" } : Jvm.MethodName)) ∈ zG := zgm4 104 (rfl) rfl
theorem zg_825 : (Jvm.Cond.methodLink "DayOpenersLaw" (49 : Nat) ({ cls := "DayOpeners", name := "place", desc := "(I)I" } : Jvm.MethodName)) ∈ zG := zgm4 105 (rfl) rfl
theorem zg_826 : (Jvm.Cond.instanceMethod ({ cls := "DayOpeners", name := "place", desc := "(I)I" } : Jvm.MethodName)) ∈ zG := zgm4 106 (rfl) rfl
theorem zg_827 : (Jvm.Cond.selects "DayOpeners" ({ cls := "DayOpeners", name := "place", desc := "(I)I" } : Jvm.MethodName) ({ cls := "DayOpeners", name := "place", desc := "(I)I" } : Jvm.MethodName)) ∈ zG := zgm4 107 (rfl) rfl
theorem zg_828 : (Jvm.Cond.code ({ cls := "DayOpeners", name := "place", desc := "(I)I" } : Jvm.MethodName) prog_1_method_8_code (2 : Nat) (Option.some Jvm.ClassFile.FieldType.int)) ∈ zG := zgm4 108 (rfl) rfl
theorem zg_829 : (Jvm.Cond.methodLink "DayOpeners" (154 : Nat) ({ cls := "DayOpeners$State", name := "hasPlace", desc := "(I)Z" } : Jvm.MethodName)) ∈ zG := zgm4 109 (rfl) rfl
theorem zg_830 : (Jvm.Cond.instanceMethod ({ cls := "DayOpeners$State", name := "hasPlace", desc := "(I)Z" } : Jvm.MethodName)) ∈ zG := zgm4 110 (rfl) rfl
theorem zg_831 : (Jvm.Cond.selects "DayOpeners$State" ({ cls := "DayOpeners$State", name := "hasPlace", desc := "(I)Z" } : Jvm.MethodName) ({ cls := "DayOpeners$State", name := "hasPlace", desc := "(I)Z" } : Jvm.MethodName)) ∈ zG := zgm4 111 (rfl) rfl
theorem zg_832 : (Jvm.Cond.code ({ cls := "DayOpeners$State", name := "hasPlace", desc := "(I)Z" } : Jvm.MethodName) prog_9_method_4_code (2 : Nat) (Option.some Jvm.ClassFile.FieldType.boolean)) ∈ zG := zgm4 112 (rfl) rfl
theorem zg_833 : (Jvm.Cond.methodLink "DayOpeners" (136 : Nat) ({ cls := "DayOpeners$Row", name := "get", desc := "(I)I" } : Jvm.MethodName)) ∈ zG := zgm4 113 (rfl) rfl
theorem zg_834 : (Jvm.Cond.methodLink "DayOpenersLaw" (53 : Nat) ({ cls := "DayOpeners", name := "work", desc := "(II)I" } : Jvm.MethodName)) ∈ zG := zgm4 114 (rfl) rfl
theorem zg_835 : (Jvm.Cond.instanceMethod ({ cls := "DayOpeners", name := "work", desc := "(II)I" } : Jvm.MethodName)) ∈ zG := zgm4 115 (rfl) rfl
theorem zg_836 : (Jvm.Cond.selects "DayOpeners" ({ cls := "DayOpeners", name := "work", desc := "(II)I" } : Jvm.MethodName) ({ cls := "DayOpeners", name := "work", desc := "(II)I" } : Jvm.MethodName)) ∈ zG := zgm4 116 (rfl) rfl
theorem zg_837 : (Jvm.Cond.code ({ cls := "DayOpeners", name := "work", desc := "(II)I" } : Jvm.MethodName) prog_1_method_9_code (3 : Nat) (Option.some Jvm.ClassFile.FieldType.int)) ∈ zG := zgm4 117 (rfl) rfl
theorem zg_838 : (Jvm.Cond.methodLink "DayOpeners" (160 : Nat) ({ cls := "DayOpeners$Told", name := "hasWork", desc := "(I)Z" } : Jvm.MethodName)) ∈ zG := zgm4 118 (rfl) rfl
theorem zg_839 : (Jvm.Cond.instanceMethod ({ cls := "DayOpeners$Told", name := "hasWork", desc := "(I)Z" } : Jvm.MethodName)) ∈ zG := zgm4 119 (rfl) rfl
theorem zg_840 : (Jvm.Cond.selects "DayOpeners$Told" ({ cls := "DayOpeners$Told", name := "hasWork", desc := "(I)Z" } : Jvm.MethodName) ({ cls := "DayOpeners$Told", name := "hasWork", desc := "(I)Z" } : Jvm.MethodName)) ∈ zG := zgm4 120 (rfl) rfl
theorem zg_841 : (Jvm.Cond.code ({ cls := "DayOpeners$Told", name := "hasWork", desc := "(I)Z" } : Jvm.MethodName) prog_12_method_4_code (2 : Nat) (Option.some Jvm.ClassFile.FieldType.boolean)) ∈ zG := zgm4 121 (rfl) rfl
theorem zg_842 : (Jvm.Cond.methodLink "DayOpenersLaw" (57 : Nat) ({ cls := "DayOpeners", name := "law", desc := "(II)J" } : Jvm.MethodName)) ∈ zG := zgm4 122 (rfl) rfl
theorem zg_843 : (Jvm.Cond.instanceMethod ({ cls := "DayOpeners", name := "law", desc := "(II)J" } : Jvm.MethodName)) ∈ zG := zgm4 123 (rfl) rfl
theorem zg_844 : (Jvm.Cond.selects "DayOpeners" ({ cls := "DayOpeners", name := "law", desc := "(II)J" } : Jvm.MethodName) ({ cls := "DayOpeners", name := "law", desc := "(II)J" } : Jvm.MethodName)) ∈ zG := zgm4 124 (rfl) rfl
theorem zg_845 : (Jvm.Cond.code ({ cls := "DayOpeners", name := "law", desc := "(II)J" } : Jvm.MethodName) prog_1_method_10_code (3 : Nat) (Option.some Jvm.ClassFile.FieldType.long)) ∈ zG := zgm4 125 (rfl) rfl
theorem zg_846 : (Jvm.Cond.methodLink "DayOpeners" (126 : Nat) ({ cls := "DayOpeners$Told", name := "hasTrade", desc := "(I)Z" } : Jvm.MethodName)) ∈ zG := zgm4 126 (rfl) rfl
theorem zg_847 : (Jvm.Cond.instanceMethod ({ cls := "DayOpeners$Told", name := "hasTrade", desc := "(I)Z" } : Jvm.MethodName)) ∈ zG := zgm4 127 (rfl) rfl
theorem zg_848 : (Jvm.Cond.selects "DayOpeners$Told" ({ cls := "DayOpeners$Told", name := "hasTrade", desc := "(I)Z" } : Jvm.MethodName) ({ cls := "DayOpeners$Told", name := "hasTrade", desc := "(I)Z" } : Jvm.MethodName)) ∈ zG := zgm4 128 (rfl) rfl
theorem zg_849 : (Jvm.Cond.code ({ cls := "DayOpeners$Told", name := "hasTrade", desc := "(I)Z" } : Jvm.MethodName) prog_12_method_3_code (2 : Nat) (Option.some Jvm.ClassFile.FieldType.boolean)) ∈ zG := zgm4 129 (rfl) rfl
theorem zg_850 : (Jvm.Cond.constantLong "DayOpeners" (175 : Nat) (-9223372036854775808 : Int64)) ∈ zG := zgm4 130 (rfl) rfl
theorem zg_851 : (Jvm.Cond.methodLink "DayOpeners" (177 : Nat) ({ cls := "DayOpeners$Course", name := "goesOf", desc := "(LDayOpeners$Told;)V" } : Jvm.MethodName)) ∈ zG := zgm4 131 (rfl) rfl
theorem zg_852 : (Jvm.Cond.instanceMethod ({ cls := "DayOpeners$Course", name := "goesOf", desc := "(LDayOpeners$Told;)V" } : Jvm.MethodName)) ∈ zG := zgm4 132 (rfl) rfl
theorem zg_853 : (Jvm.Cond.selects "DayOpeners$Course" ({ cls := "DayOpeners$Course", name := "goesOf", desc := "(LDayOpeners$Told;)V" } : Jvm.MethodName) ({ cls := "DayOpeners$Course", name := "goesOf", desc := "(LDayOpeners$Told;)V" } : Jvm.MethodName)) ∈ zG := zgm4 133 (rfl) rfl
theorem zg_854 : (Jvm.Cond.code ({ cls := "DayOpeners$Course", name := "goesOf", desc := "(LDayOpeners$Told;)V" } : Jvm.MethodName) prog_2_method_2_code (2 : Nat) (Option.none : Option Jvm.ClassFile.FieldType)) ∈ zG := zgm4 134 (rfl) rfl
theorem zg_855 : (Jvm.Cond.methodLink "DayOpeners$Course" (28 : Nat) ({ cls := "DayOpeners$Row", name := "copy", desc := "(LDayOpeners$Row;)V" } : Jvm.MethodName)) ∈ zG := zgm4 135 (rfl) rfl
theorem zg_856 : (Jvm.Cond.methodLink "DayOpeners" (180 : Nat) ({ cls := "DayOpeners$Course", name := "worth", desc := "(LDayOpeners$State;II)J" } : Jvm.MethodName)) ∈ zG := zgm4 136 (rfl) rfl
theorem zg_857 : (Jvm.Cond.instanceMethod ({ cls := "DayOpeners$Course", name := "worth", desc := "(LDayOpeners$State;II)J" } : Jvm.MethodName)) ∈ zG := zgm4 137 (rfl) rfl
theorem zg_858 : (Jvm.Cond.selects "DayOpeners$Course" ({ cls := "DayOpeners$Course", name := "worth", desc := "(LDayOpeners$State;II)J" } : Jvm.MethodName) ({ cls := "DayOpeners$Course", name := "worth", desc := "(LDayOpeners$State;II)J" } : Jvm.MethodName)) ∈ zG := zgm4 138 (rfl) rfl
theorem zg_859 : (Jvm.Cond.code ({ cls := "DayOpeners$Course", name := "worth", desc := "(LDayOpeners$State;II)J" } : Jvm.MethodName) prog_2_method_10_code (5 : Nat) (Option.some Jvm.ClassFile.FieldType.long)) ∈ zG := zgm4 139 (rfl) rfl
theorem zg_860 : (Jvm.Cond.methodLink "DayOpeners$Course" (137 : Nat) ({ cls := "DayOpeners$Laws", name := "has", desc := "(I)Z" } : Jvm.MethodName)) ∈ zG := zgm4 140 (rfl) rfl
theorem zg_861 : (Jvm.Cond.constantLong "DayOpeners$Course" (122 : Nat) (-9223372036854775808 : Int64)) ∈ zG := zgm4 141 (rfl) rfl
theorem zg_862 : (Jvm.Cond.methodLink "DayOpeners$Course" (115 : Nat) ({ cls := "DayOpeners$Row", name := "get", desc := "(I)I" } : Jvm.MethodName)) ∈ zG := zgm4 142 (rfl) rfl
theorem zg_863 : (Jvm.Cond.methodLink "DayOpeners$Course" (143 : Nat) ({ cls := "DayOpeners$Laws", name := "setName", desc := "(IJ)V" } : Jvm.MethodName)) ∈ zG := zgm4 143 (rfl) rfl
theorem zg_864 : (Jvm.Cond.instanceMethod ({ cls := "DayOpeners$Laws", name := "setName", desc := "(IJ)V" } : Jvm.MethodName)) ∈ zG := zgm4 144 (rfl) rfl
theorem zg_865 : (Jvm.Cond.selects "DayOpeners$Laws" ({ cls := "DayOpeners$Laws", name := "setName", desc := "(IJ)V" } : Jvm.MethodName) ({ cls := "DayOpeners$Laws", name := "setName", desc := "(IJ)V" } : Jvm.MethodName)) ∈ zG := zgm4 145 (rfl) rfl
theorem zg_866 : (Jvm.Cond.code ({ cls := "DayOpeners$Laws", name := "setName", desc := "(IJ)V" } : Jvm.MethodName) prog_3_method_7_code (4 : Nat) (Option.none : Option Jvm.ClassFile.FieldType)) ∈ zG := zgm4 146 (rfl) rfl
theorem zg_867 : (Jvm.Cond.methodLink "DayOpeners$Course" (162 : Nat) ({ cls := "DayOpeners$Laws", name := "worth", desc := "(I)J" } : Jvm.MethodName)) ∈ zG := zgm4 147 (rfl) rfl
theorem zg_868 : (Jvm.Cond.instanceMethod ({ cls := "DayOpeners$Laws", name := "worth", desc := "(I)J" } : Jvm.MethodName)) ∈ zG := zgm4 148 (rfl) rfl
theorem zg_869 : (Jvm.Cond.selects "DayOpeners$Laws" ({ cls := "DayOpeners$Laws", name := "worth", desc := "(I)J" } : Jvm.MethodName) ({ cls := "DayOpeners$Laws", name := "worth", desc := "(I)J" } : Jvm.MethodName)) ∈ zG := zgm4 149 (rfl) rfl
theorem zg_870 : (Jvm.Cond.code ({ cls := "DayOpeners$Laws", name := "worth", desc := "(I)J" } : Jvm.MethodName) prog_3_method_9_code (9 : Nat) (Option.some Jvm.ClassFile.FieldType.long)) ∈ zG := zgm4 150 (rfl) rfl
theorem zg_871 : (Jvm.Cond.constantLong "DayOpeners$Laws" (51 : Nat) (-9223372036854775808 : Int64)) ∈ zG := zgm4 151 (rfl) rfl
theorem zg_872 : (Jvm.Cond.methodLink "DayOpeners$Laws" (53 : Nat) ({ cls := "DayOpeners$Laws", name := "nameWorth", desc := "(I)J" } : Jvm.MethodName)) ∈ zG := zgm4 152 (rfl) rfl
theorem zg_874 : (Jvm.Cond.instanceMethod ({ cls := "DayOpeners$Laws", name := "nameWorth", desc := "(I)J" } : Jvm.MethodName)) ∈ zG := zgm4 154 (rfl) rfl
theorem zg_875 : (Jvm.Cond.code ({ cls := "DayOpeners$Laws", name := "nameWorth", desc := "(I)J" } : Jvm.MethodName) prog_3_method_8_code (2 : Nat) (Option.some Jvm.ClassFile.FieldType.long)) ∈ zG := zgm4 155 (rfl) rfl
theorem zg_876 : (Jvm.Cond.methodLink "DayOpeners$Laws" (57 : Nat) ({ cls := "DayOpeners$Laws", name := "joined", desc := "(IJJ)J" } : Jvm.MethodName)) ∈ zG := zgm4 156 (rfl) rfl
theorem zg_877 : (Jvm.Cond.static ({ cls := "DayOpeners$Laws", name := "joined", desc := "(IJJ)J" } : Jvm.MethodName)) ∈ zG := zgm4 157 (rfl) rfl
theorem zg_878 : (Jvm.Cond.code ({ cls := "DayOpeners$Laws", name := "joined", desc := "(IJJ)J" } : Jvm.MethodName) prog_3_method_10_code (6 : Nat) (Option.some Jvm.ClassFile.FieldType.long)) ∈ zG := zgm4 158 (rfl) rfl
theorem zg_879 : (Jvm.Cond.methodLink "DayOpeners$Laws" (65 : Nat) ({ cls := "java/lang/Math", name := "abs", desc := "(J)J" } : Jvm.MethodName)) ∈ zG := zgm4 159 (rfl) rfl
theorem zg_880 : (Jvm.Cond.static ({ cls := "java/lang/Math", name := "abs", desc := "(J)J" } : Jvm.MethodName)) ∈ zG := zgm4 160 (rfl) rfl
theorem zg_881 : (Jvm.Cond.code ({ cls := "java/lang/Math", name := "abs", desc := "(J)J" } : Jvm.MethodName) prog_20_method_61_code (2 : Nat) (Option.some Jvm.ClassFile.FieldType.long)) ∈ zG := zgm4 161 (rfl) rfl
theorem zg_882 : (Jvm.Cond.constantLong "DayOpeners$Laws" (61 : Nat) (1000000000000 : Int64)) ∈ zG := zgm4 162 (rfl) rfl
theorem zg_883 : (Jvm.Cond.constantLong "DayOpeners$Laws" (63 : Nat) (-1000000000000 : Int64)) ∈ zG := zgm4 163 (rfl) rfl
theorem zg_884 : (Jvm.Cond.methodLink "DayOpenersLaw" (62 : Nat) ({ cls := "DayOpeners", name := "length", desc := "(I)I" } : Jvm.MethodName)) ∈ zG := zgm4 164 (rfl) rfl
theorem zg_885 : (Jvm.Cond.instanceMethod ({ cls := "DayOpeners", name := "length", desc := "(I)I" } : Jvm.MethodName)) ∈ zG := zgm4 165 (rfl) rfl
theorem zg_886 : (Jvm.Cond.selects "DayOpeners" ({ cls := "DayOpeners", name := "length", desc := "(I)I" } : Jvm.MethodName) ({ cls := "DayOpeners", name := "length", desc := "(I)I" } : Jvm.MethodName)) ∈ zG := zgm4 166 (rfl) rfl
theorem zg_887 : (Jvm.Cond.code ({ cls := "DayOpeners", name := "length", desc := "(I)I" } : Jvm.MethodName) prog_1_method_11_code (2 : Nat) (Option.some Jvm.ClassFile.FieldType.int)) ∈ zG := zgm4 167 (rfl) rfl
theorem zg_888 : (Jvm.Cond.methodLink "DayOpeners" (184 : Nat) ({ cls := "DayOpeners$Course", name := "lengthBy", desc := "(LDayOpeners$State;I)I" } : Jvm.MethodName)) ∈ zG := zgm4 168 (rfl) rfl
theorem zg_889 : (Jvm.Cond.instanceMethod ({ cls := "DayOpeners$Course", name := "lengthBy", desc := "(LDayOpeners$State;I)I" } : Jvm.MethodName)) ∈ zG := zgm4 169 (rfl) rfl
theorem zg_890 : (Jvm.Cond.selects "DayOpeners$Course" ({ cls := "DayOpeners$Course", name := "lengthBy", desc := "(LDayOpeners$State;I)I" } : Jvm.MethodName) ({ cls := "DayOpeners$Course", name := "lengthBy", desc := "(LDayOpeners$State;I)I" } : Jvm.MethodName)) ∈ zG := zgm4 170 (rfl) rfl
theorem zg_891 : (Jvm.Cond.code ({ cls := "DayOpeners$Course", name := "lengthBy", desc := "(LDayOpeners$State;I)I" } : Jvm.MethodName) prog_2_method_8_code (3 : Nat) (Option.some Jvm.ClassFile.FieldType.int)) ∈ zG := zgm4 171 (rfl) rfl
theorem zg_892 : (Jvm.Cond.methodLink "DayOpeners$Course" (83 : Nat) ({ cls := "DayOpeners$Course", name := "worth", desc := "(LDayOpeners$State;II)J" } : Jvm.MethodName)) ∈ zG := zgm4 172 (rfl) rfl
theorem zg_893 : (Jvm.Cond.methodLink "DayOpeners$Course" (87 : Nat) ({ cls := "DayOpeners$Course", name := "bounded", desc := "(JIII)I" } : Jvm.MethodName)) ∈ zG := zgm4 173 (rfl) rfl
theorem zg_894 : (Jvm.Cond.static ({ cls := "DayOpeners$Course", name := "bounded", desc := "(JIII)I" } : Jvm.MethodName)) ∈ zG := zgm4 174 (rfl) rfl
theorem zg_895 : (Jvm.Cond.code ({ cls := "DayOpeners$Course", name := "bounded", desc := "(JIII)I" } : Jvm.MethodName) prog_2_method_9_code (5 : Nat) (Option.some Jvm.ClassFile.FieldType.int)) ∈ zG := zgm4 175 (rfl) rfl
theorem zg_896 : (Jvm.Cond.methodLink "DayOpeners$Course" (124 : Nat) ({ cls := "java/lang/Math", name := "min", desc := "(JJ)J" } : Jvm.MethodName)) ∈ zG := zgm4 176 (rfl) rfl
theorem zg_897 : (Jvm.Cond.static ({ cls := "java/lang/Math", name := "min", desc := "(JJ)J" } : Jvm.MethodName)) ∈ zG := zgm4 177 (rfl) rfl
theorem zg_898 : (Jvm.Cond.code ({ cls := "java/lang/Math", name := "min", desc := "(JJ)J" } : Jvm.MethodName) prog_20_method_70_code (4 : Nat) (Option.some Jvm.ClassFile.FieldType.long)) ∈ zG := zgm4 178 (rfl) rfl
theorem zg_899 : (Jvm.Cond.methodLink "DayOpeners$Course" (130 : Nat) ({ cls := "java/lang/Math", name := "max", desc := "(JJ)J" } : Jvm.MethodName)) ∈ zG := zgm4 179 (rfl) rfl
theorem zg_900 : (Jvm.Cond.static ({ cls := "java/lang/Math", name := "max", desc := "(JJ)J" } : Jvm.MethodName)) ∈ zG := zgm4 180 (rfl) rfl
theorem zg_901 : (Jvm.Cond.code ({ cls := "java/lang/Math", name := "max", desc := "(JJ)J" } : Jvm.MethodName) prog_20_method_66_code (4 : Nat) (Option.some Jvm.ClassFile.FieldType.long)) ∈ zG := zgm4 181 (rfl) rfl
theorem zg_902 : (Jvm.Cond.methodLink "DayOpenersLaw" (66 : Nat) ({ cls := "DayOpeners", name := "appoint", desc := "(I)Z" } : Jvm.MethodName)) ∈ zG := zgm4 182 (rfl) rfl
theorem zg_903 : (Jvm.Cond.instanceMethod ({ cls := "DayOpeners", name := "appoint", desc := "(I)Z" } : Jvm.MethodName)) ∈ zG := zgm4 183 (rfl) rfl
theorem zg_904 : (Jvm.Cond.selects "DayOpeners" ({ cls := "DayOpeners", name := "appoint", desc := "(I)Z" } : Jvm.MethodName) ({ cls := "DayOpeners", name := "appoint", desc := "(I)Z" } : Jvm.MethodName)) ∈ zG := zgm4 184 (rfl) rfl
theorem zg_905 : (Jvm.Cond.code ({ cls := "DayOpeners", name := "appoint", desc := "(I)Z" } : Jvm.MethodName) prog_1_method_12_code (2 : Nat) (Option.some Jvm.ClassFile.FieldType.boolean)) ∈ zG := zgm4 185 (rfl) rfl
theorem zg_906 : (Jvm.Cond.methodLink "DayOpeners" (188 : Nat) ({ cls := "DayOpeners$Steps", name := "add", desc := "(LDayOpeners$State;)V" } : Jvm.MethodName)) ∈ zG := zgm4 186 (rfl) rfl
theorem zg_907 : (Jvm.Cond.instanceMethod ({ cls := "DayOpeners$Steps", name := "add", desc := "(LDayOpeners$State;)V" } : Jvm.MethodName)) ∈ zG := zgm4 187 (rfl) rfl
theorem zg_908 : (Jvm.Cond.selects "DayOpeners$Steps" ({ cls := "DayOpeners$Steps", name := "add", desc := "(LDayOpeners$State;)V" } : Jvm.MethodName) ({ cls := "DayOpeners$Steps", name := "add", desc := "(LDayOpeners$State;)V" } : Jvm.MethodName)) ∈ zG := zgm4 188 (rfl) rfl
theorem zg_909 : (Jvm.Cond.code ({ cls := "DayOpeners$Steps", name := "add", desc := "(LDayOpeners$State;)V" } : Jvm.MethodName) prog_10_method_3_code (3 : Nat) (Option.none : Option Jvm.ClassFile.FieldType)) ∈ zG := zgm4 189 (rfl) rfl
theorem zg_910 : (Jvm.Cond.methodLink "DayOpeners$Steps" (24 : Nat) ({ cls := "DayOpeners$Row", name := "get", desc := "(I)I" } : Jvm.MethodName)) ∈ zG := zgm4 190 (rfl) rfl
theorem zg_911 : (Jvm.Cond.methodLink "DayOpeners$Steps" (28 : Nat) ({ cls := "DayOpeners$Row", name := "set", desc := "(II)V" } : Jvm.MethodName)) ∈ zG := zgm4 191 (rfl) rfl
theorem zg_912 : (Jvm.Cond.methodLink "DayOpenersLaw" (71 : Nat) ({ cls := "DayOpeners", name := "put", desc := "(II)I" } : Jvm.MethodName)) ∈ zG := zgm4 192 (rfl) rfl
theorem zg_913 : (Jvm.Cond.instanceMethod ({ cls := "DayOpeners", name := "put", desc := "(II)I" } : Jvm.MethodName)) ∈ zG := zgm4 193 (rfl) rfl
theorem zg_914 : (Jvm.Cond.selects "DayOpeners" ({ cls := "DayOpeners", name := "put", desc := "(II)I" } : Jvm.MethodName) ({ cls := "DayOpeners", name := "put", desc := "(II)I" } : Jvm.MethodName)) ∈ zG := zgm4 194 (rfl) rfl
theorem zg_915 : (Jvm.Cond.code ({ cls := "DayOpeners", name := "put", desc := "(II)I" } : Jvm.MethodName) prog_1_method_13_code (4 : Nat) (Option.some Jvm.ClassFile.FieldType.int)) ∈ zG := zgm4 195 (rfl) rfl
theorem zg_916 : (Jvm.Cond.methodLink "DayOpenersLaw" (75 : Nat) ({ cls := "DayOpeners", name := "swap", desc := "(II)Z" } : Jvm.MethodName)) ∈ zG := zgm4 196 (rfl) rfl
theorem zg_917 : (Jvm.Cond.instanceMethod ({ cls := "DayOpeners", name := "swap", desc := "(II)Z" } : Jvm.MethodName)) ∈ zG := zgm4 197 (rfl) rfl
theorem zg_918 : (Jvm.Cond.selects "DayOpeners" ({ cls := "DayOpeners", name := "swap", desc := "(II)Z" } : Jvm.MethodName) ({ cls := "DayOpeners", name := "swap", desc := "(II)Z" } : Jvm.MethodName)) ∈ zG := zgm4 198 (rfl) rfl
theorem zg_919 : (Jvm.Cond.code ({ cls := "DayOpeners", name := "swap", desc := "(II)Z" } : Jvm.MethodName) prog_1_method_14_code (5 : Nat) (Option.some Jvm.ClassFile.FieldType.boolean)) ∈ zG := zgm4 199 (rfl) rfl
theorem zg_920 : (Jvm.Cond.methodLink "DayOpenersLaw" (80 : Nat) ({ cls := "DayOpeners", name := "go", desc := "(I)I" } : Jvm.MethodName)) ∈ zG := zgm4 200 (rfl) rfl
theorem zg_921 : (Jvm.Cond.instanceMethod ({ cls := "DayOpeners", name := "go", desc := "(I)I" } : Jvm.MethodName)) ∈ zG := zgm4 201 (rfl) rfl
theorem zg_922 : (Jvm.Cond.selects "DayOpeners" ({ cls := "DayOpeners", name := "go", desc := "(I)I" } : Jvm.MethodName) ({ cls := "DayOpeners", name := "go", desc := "(I)I" } : Jvm.MethodName)) ∈ zG := zgm4 202 (rfl) rfl
theorem zg_923 : (Jvm.Cond.code ({ cls := "DayOpeners", name := "go", desc := "(I)I" } : Jvm.MethodName) prog_1_method_15_code (2 : Nat) (Option.some Jvm.ClassFile.FieldType.int)) ∈ zG := zgm4 203 (rfl) rfl
theorem zg_924 : (Jvm.Cond.methodLink "DayOpeners" (195 : Nat) ({ cls := "DayOpeners", name := "isDays", desc := "(I)Z" } : Jvm.MethodName)) ∈ zG := zgm4 204 (rfl) rfl
theorem zg_925 : (Jvm.Cond.static ({ cls := "DayOpeners", name := "isDays", desc := "(I)Z" } : Jvm.MethodName)) ∈ zG := zgm4 205 (rfl) rfl
theorem zg_926 : (Jvm.Cond.code ({ cls := "DayOpeners", name := "isDays", desc := "(I)Z" } : Jvm.MethodName) prog_1_method_16_code (1 : Nat) (Option.some Jvm.ClassFile.FieldType.boolean)) ∈ zG := zgm4 206 (rfl) rfl
theorem zg_927 : (Jvm.Cond.methodLink "DayOpeners" (204 : Nat) ({ cls := "DayOpeners$Course", name := "daysGo", desc := "(LDayOpeners$State;I)V" } : Jvm.MethodName)) ∈ zG := zgm4 207 (rfl) rfl
theorem zg_928 : (Jvm.Cond.instanceMethod ({ cls := "DayOpeners$Course", name := "daysGo", desc := "(LDayOpeners$State;I)V" } : Jvm.MethodName)) ∈ zG := zgm4 208 (rfl) rfl
theorem zg_929 : (Jvm.Cond.selects "DayOpeners$Course" ({ cls := "DayOpeners$Course", name := "daysGo", desc := "(LDayOpeners$State;I)V" } : Jvm.MethodName) ({ cls := "DayOpeners$Course", name := "daysGo", desc := "(LDayOpeners$State;I)V" } : Jvm.MethodName)) ∈ zG := zgm4 209 (rfl) rfl
theorem zg_930 : (Jvm.Cond.code ({ cls := "DayOpeners$Course", name := "daysGo", desc := "(LDayOpeners$State;I)V" } : Jvm.MethodName) prog_2_method_4_code (4 : Nat) (Option.none : Option Jvm.ClassFile.FieldType)) ∈ zG := zgm4 210 (rfl) rfl
theorem zg_931 : (Jvm.Cond.methodLink "DayOpeners$Course" (50 : Nat) ({ cls := "DayOpeners$Course", name := "dayGoes", desc := "(LDayOpeners$State;)V" } : Jvm.MethodName)) ∈ zG := zgm4 211 (rfl) rfl
theorem zg_932 : (Jvm.Cond.instanceMethod ({ cls := "DayOpeners$Course", name := "dayGoes", desc := "(LDayOpeners$State;)V" } : Jvm.MethodName)) ∈ zG := zgm4 212 (rfl) rfl
theorem zg_933 : (Jvm.Cond.selects "DayOpeners$Course" ({ cls := "DayOpeners$Course", name := "dayGoes", desc := "(LDayOpeners$State;)V" } : Jvm.MethodName) ({ cls := "DayOpeners$Course", name := "dayGoes", desc := "(LDayOpeners$State;)V" } : Jvm.MethodName)) ∈ zG := zgm4 213 (rfl) rfl
theorem zg_934 : (Jvm.Cond.code ({ cls := "DayOpeners$Course", name := "dayGoes", desc := "(LDayOpeners$State;)V" } : Jvm.MethodName) prog_2_method_5_code (5 : Nat) (Option.none : Option Jvm.ClassFile.FieldType)) ∈ zG := zgm4 214 (rfl) rfl
theorem zg_935 : (Jvm.Cond.methodLink "DayOpeners$Course" (62 : Nat) ({ cls := "DayOpeners$Told", name := "claimant", desc := "(I)I" } : Jvm.MethodName)) ∈ zG := zgm4 215 (rfl) rfl
theorem zg_936 : (Jvm.Cond.methodLink "DayOpeners$Course" (69 : Nat) ({ cls := "DayOpeners$Course", name := "byTurns", desc := "(LDayOpeners$State;)I" } : Jvm.MethodName)) ∈ zG := zgm4 216 (rfl) rfl
theorem zg_938 : (Jvm.Cond.instanceMethod ({ cls := "DayOpeners$Course", name := "byTurns", desc := "(LDayOpeners$State;)I" } : Jvm.MethodName)) ∈ zG := zgm4 218 (rfl) rfl
theorem zg_939 : (Jvm.Cond.code ({ cls := "DayOpeners$Course", name := "byTurns", desc := "(LDayOpeners$State;)I" } : Jvm.MethodName) prog_2_method_6_code (6 : Nat) (Option.some Jvm.ClassFile.FieldType.int)) ∈ zG := zgm4 219 (rfl) rfl
theorem zg_940 : (Jvm.Cond.methodLink "DayOpeners$Course" (99 : Nat) ({ cls := "DayOpeners$Course", name := "isMistake", desc := "(LDayOpeners$State;)Z" } : Jvm.MethodName)) ∈ zG := zgm4 220 (rfl) rfl
theorem zg_942 : (Jvm.Cond.instanceMethod ({ cls := "DayOpeners$Course", name := "isMistake", desc := "(LDayOpeners$State;)Z" } : Jvm.MethodName)) ∈ zG := zgm4 222 (rfl) rfl
theorem zg_943 : (Jvm.Cond.code ({ cls := "DayOpeners$Course", name := "isMistake", desc := "(LDayOpeners$State;)Z" } : Jvm.MethodName) prog_2_method_7_code (2 : Nat) (Option.some Jvm.ClassFile.FieldType.boolean)) ∈ zG := zgm4 223 (rfl) rfl
theorem zg_944 : (Jvm.Cond.methodLink "DayOpeners$Course" (118 : Nat) ({ cls := "DayOpeners$State", name := "draw", desc := "()I" } : Jvm.MethodName)) ∈ zG := zgm4 224 (rfl) rfl
theorem zg_945 : (Jvm.Cond.instanceMethod ({ cls := "DayOpeners$State", name := "draw", desc := "()I" } : Jvm.MethodName)) ∈ zG := zgm4 225 (rfl) rfl
theorem zg_946 : (Jvm.Cond.selects "DayOpeners$State" ({ cls := "DayOpeners$State", name := "draw", desc := "()I" } : Jvm.MethodName) ({ cls := "DayOpeners$State", name := "draw", desc := "()I" } : Jvm.MethodName)) ∈ zG := zgm4 226 (rfl) rfl
theorem zg_947 : (Jvm.Cond.code ({ cls := "DayOpeners$State", name := "draw", desc := "()I" } : Jvm.MethodName) prog_9_method_7_code (1 : Nat) (Option.some Jvm.ClassFile.FieldType.int)) ∈ zG := zgm4 227 (rfl) rfl
theorem zg_948 : (Jvm.Cond.constant "DayOpeners$State" (86 : Nat) (1103515245 : Int32)) ∈ zG := zgm4 228 (rfl) rfl
theorem zg_949 : (Jvm.Cond.constant "DayOpeners$State" (87 : Nat) (2147483647 : Int32)) ∈ zG := zgm4 229 (rfl) rfl
theorem zg_950 : (Jvm.Cond.constant "DayOpeners$State" (88 : Nat) (65536 : Int32)) ∈ zG := zgm4 230 (rfl) rfl
theorem zg_951 : (Jvm.Cond.methodLink "DayOpeners$Course" (109 : Nat) ({ cls := "DayOpeners$State", name := "behind", desc := "(I)I" } : Jvm.MethodName)) ∈ zG := zgm4 231 (rfl) rfl
theorem zg_952 : (Jvm.Cond.instanceMethod ({ cls := "DayOpeners$State", name := "behind", desc := "(I)I" } : Jvm.MethodName)) ∈ zG := zgm4 232 (rfl) rfl
theorem zg_953 : (Jvm.Cond.selects "DayOpeners$State" ({ cls := "DayOpeners$State", name := "behind", desc := "(I)I" } : Jvm.MethodName) ({ cls := "DayOpeners$State", name := "behind", desc := "(I)I" } : Jvm.MethodName)) ∈ zG := zgm4 233 (rfl) rfl
theorem zg_954 : (Jvm.Cond.code ({ cls := "DayOpeners$State", name := "behind", desc := "(I)I" } : Jvm.MethodName) prog_9_method_6_code (2 : Nat) (Option.some Jvm.ClassFile.FieldType.int)) ∈ zG := zgm4 234 (rfl) rfl
theorem zg_955 : (Jvm.Cond.methodLink "DayOpeners$Course" (79 : Nat) ({ cls := "DayOpeners$Course", name := "lengthBy", desc := "(LDayOpeners$State;I)I" } : Jvm.MethodName)) ∈ zG := zgm4 235 (rfl) rfl
theorem zg_956 : (Jvm.Cond.methodLink "DayOpeners$Course" (91 : Nat) ({ cls := "DayOpeners$State", name := "opens", desc := "(III)V" } : Jvm.MethodName)) ∈ zG := zgm4 236 (rfl) rfl
theorem zg_957 : (Jvm.Cond.instanceMethod ({ cls := "DayOpeners$State", name := "opens", desc := "(III)V" } : Jvm.MethodName)) ∈ zG := zgm4 237 (rfl) rfl
theorem zg_958 : (Jvm.Cond.selects "DayOpeners$State" ({ cls := "DayOpeners$State", name := "opens", desc := "(III)V" } : Jvm.MethodName) ({ cls := "DayOpeners$State", name := "opens", desc := "(III)V" } : Jvm.MethodName)) ∈ zG := zgm4 238 (rfl) rfl
theorem zg_959 : (Jvm.Cond.code ({ cls := "DayOpeners$State", name := "opens", desc := "(III)V" } : Jvm.MethodName) prog_9_method_8_code (4 : Nat) (Option.none : Option Jvm.ClassFile.FieldType)) ∈ zG := zgm4 239 (rfl) rfl
theorem zg_960 : (Jvm.Cond.methodLink "DayOpeners$State" (82 : Nat) ({ cls := "DayOpeners$Row", name := "get", desc := "(I)I" } : Jvm.MethodName)) ∈ zG := zgm5 0 (rfl) rfl
theorem zg_961 : (Jvm.Cond.methodLink "DayOpeners$State" (89 : Nat) ({ cls := "java/lang/Math", name := "min", desc := "(II)I" } : Jvm.MethodName)) ∈ zG := zgm5 1 (rfl) rfl
theorem zg_962 : (Jvm.Cond.methodLink "DayOpeners$State" (95 : Nat) ({ cls := "java/lang/Math", name := "max", desc := "(II)I" } : Jvm.MethodName)) ∈ zG := zgm5 2 (rfl) rfl
theorem zg_963 : (Jvm.Cond.methodLink "DayOpeners$State" (98 : Nat) ({ cls := "DayOpeners$Row", name := "set", desc := "(II)V" } : Jvm.MethodName)) ∈ zG := zgm5 3 (rfl) rfl
theorem zg_964 : (Jvm.Cond.methodLink "DayOpeners$Course" (95 : Nat) ({ cls := "DayOpeners$State", name := "bringOn", desc := "(LDayOpeners$Told;I)V" } : Jvm.MethodName)) ∈ zG := zgm5 4 (rfl) rfl
theorem zg_965 : (Jvm.Cond.instanceMethod ({ cls := "DayOpeners$State", name := "bringOn", desc := "(LDayOpeners$Told;I)V" } : Jvm.MethodName)) ∈ zG := zgm5 5 (rfl) rfl
theorem zg_966 : (Jvm.Cond.selects "DayOpeners$State" ({ cls := "DayOpeners$State", name := "bringOn", desc := "(LDayOpeners$Told;I)V" } : Jvm.MethodName) ({ cls := "DayOpeners$State", name := "bringOn", desc := "(LDayOpeners$Told;I)V" } : Jvm.MethodName)) ∈ zG := zgm5 6 (rfl) rfl
theorem zg_967 : (Jvm.Cond.code ({ cls := "DayOpeners$State", name := "bringOn", desc := "(LDayOpeners$Told;I)V" } : Jvm.MethodName) prog_9_method_9_code (6 : Nat) (Option.none : Option Jvm.ClassFile.FieldType)) ∈ zG := zgm5 7 (rfl) rfl
theorem zg_968 : (Jvm.Cond.methodLink "DayOpenersLaw" (84 : Nat) ({ cls := "DayOpeners", name := "ahead", desc := "(III)I" } : Jvm.MethodName)) ∈ zG := zgm5 8 (rfl) rfl
theorem zg_969 : (Jvm.Cond.instanceMethod ({ cls := "DayOpeners", name := "ahead", desc := "(III)I" } : Jvm.MethodName)) ∈ zG := zgm5 9 (rfl) rfl
theorem zg_970 : (Jvm.Cond.selects "DayOpeners" ({ cls := "DayOpeners", name := "ahead", desc := "(III)I" } : Jvm.MethodName) ({ cls := "DayOpeners", name := "ahead", desc := "(III)I" } : Jvm.MethodName)) ∈ zG := zgm5 10 (rfl) rfl
theorem zg_971 : (Jvm.Cond.code ({ cls := "DayOpeners", name := "ahead", desc := "(III)I" } : Jvm.MethodName) prog_1_method_18_code (4 : Nat) (Option.some Jvm.ClassFile.FieldType.int)) ∈ zG := zgm5 11 (rfl) rfl
theorem zg_972 : (Jvm.Cond.methodLink "DayOpeners" (214 : Nat) ({ cls := "DayOpeners", name := "tryDays", desc := "(I)V" } : Jvm.MethodName)) ∈ zG := zgm5 12 (rfl) rfl
theorem zg_974 : (Jvm.Cond.instanceMethod ({ cls := "DayOpeners", name := "tryDays", desc := "(I)V" } : Jvm.MethodName)) ∈ zG := zgm5 14 (rfl) rfl
theorem zg_975 : (Jvm.Cond.code ({ cls := "DayOpeners", name := "tryDays", desc := "(I)V" } : Jvm.MethodName) prog_1_method_17_code (3 : Nat) (Option.none : Option Jvm.ClassFile.FieldType)) ∈ zG := zgm5 15 (rfl) rfl
theorem zg_976 : (Jvm.Cond.methodLink "DayOpeners" (208 : Nat) ({ cls := "DayOpeners$State", name := "copy", desc := "(LDayOpeners$State;)V" } : Jvm.MethodName)) ∈ zG := zgm5 16 (rfl) rfl
theorem zg_977 : (Jvm.Cond.instanceMethod ({ cls := "DayOpeners$State", name := "copy", desc := "(LDayOpeners$State;)V" } : Jvm.MethodName)) ∈ zG := zgm5 17 (rfl) rfl
theorem zg_978 : (Jvm.Cond.selects "DayOpeners$State" ({ cls := "DayOpeners$State", name := "copy", desc := "(LDayOpeners$State;)V" } : Jvm.MethodName) ({ cls := "DayOpeners$State", name := "copy", desc := "(LDayOpeners$State;)V" } : Jvm.MethodName)) ∈ zG := zgm5 18 (rfl) rfl
theorem zg_979 : (Jvm.Cond.code ({ cls := "DayOpeners$State", name := "copy", desc := "(LDayOpeners$State;)V" } : Jvm.MethodName) prog_9_method_3_code (2 : Nat) (Option.none : Option Jvm.ClassFile.FieldType)) ∈ zG := zgm5 19 (rfl) rfl
theorem zg_980 : (Jvm.Cond.methodLink "DayOpeners" (211 : Nat) ({ cls := "DayOpeners$Course", name := "dayGoes", desc := "(LDayOpeners$State;)V" } : Jvm.MethodName)) ∈ zG := zgm5 20 (rfl) rfl
theorem zg_981 : (Jvm.Cond.methodLink "DayOpenersLaw" (89 : Nat) ({ cls := "DayOpeners", name := "opener", desc := "(I)I" } : Jvm.MethodName)) ∈ zG := zgm5 21 (rfl) rfl
theorem zg_982 : (Jvm.Cond.instanceMethod ({ cls := "DayOpeners", name := "opener", desc := "(I)I" } : Jvm.MethodName)) ∈ zG := zgm5 22 (rfl) rfl
theorem zg_983 : (Jvm.Cond.selects "DayOpeners" ({ cls := "DayOpeners", name := "opener", desc := "(I)I" } : Jvm.MethodName) ({ cls := "DayOpeners", name := "opener", desc := "(I)I" } : Jvm.MethodName)) ∈ zG := zgm5 23 (rfl) rfl
theorem zg_984 : (Jvm.Cond.code ({ cls := "DayOpeners", name := "opener", desc := "(I)I" } : Jvm.MethodName) prog_1_method_19_code (2 : Nat) (Option.some Jvm.ClassFile.FieldType.int)) ∈ zG := zgm5 24 (rfl) rfl
theorem zg_985 : (Jvm.Cond.methodLink "DayOpenersLaw" (93 : Nat) ({ cls := "DayOpeners", name := "longAt", desc := "(I)I" } : Jvm.MethodName)) ∈ zG := zgm5 25 (rfl) rfl
theorem zg_986 : (Jvm.Cond.instanceMethod ({ cls := "DayOpeners", name := "longAt", desc := "(I)I" } : Jvm.MethodName)) ∈ zG := zgm5 26 (rfl) rfl
theorem zg_987 : (Jvm.Cond.selects "DayOpeners" ({ cls := "DayOpeners", name := "longAt", desc := "(I)I" } : Jvm.MethodName) ({ cls := "DayOpeners", name := "longAt", desc := "(I)I" } : Jvm.MethodName)) ∈ zG := zgm5 27 (rfl) rfl
theorem zg_988 : (Jvm.Cond.code ({ cls := "DayOpeners", name := "longAt", desc := "(I)I" } : Jvm.MethodName) prog_1_method_20_code (2 : Nat) (Option.some Jvm.ClassFile.FieldType.int)) ∈ zG := zgm5 28 (rfl) rfl
theorem zg_989 : (Jvm.Cond.methodLink "DayOpenersLaw" (97 : Nat) ({ cls := "DayOpeners", name := "doneWhen", desc := "(I)I" } : Jvm.MethodName)) ∈ zG := zgm5 29 (rfl) rfl
theorem zg_990 : (Jvm.Cond.instanceMethod ({ cls := "DayOpeners", name := "doneWhen", desc := "(I)I" } : Jvm.MethodName)) ∈ zG := zgm5 30 (rfl) rfl
theorem zg_991 : (Jvm.Cond.selects "DayOpeners" ({ cls := "DayOpeners", name := "doneWhen", desc := "(I)I" } : Jvm.MethodName) ({ cls := "DayOpeners", name := "doneWhen", desc := "(I)I" } : Jvm.MethodName)) ∈ zG := zgm5 31 (rfl) rfl
theorem zg_992 : (Jvm.Cond.code ({ cls := "DayOpeners", name := "doneWhen", desc := "(I)I" } : Jvm.MethodName) prog_1_method_21_code (3 : Nat) (Option.some Jvm.ClassFile.FieldType.int)) ∈ zG := zgm5 32 (rfl) rfl
theorem zg_993 : (Jvm.Cond.methodLink "DayOpenersLaw" (101 : Nat) ({ cls := "DayOpeners", name := "soon", desc := "(I)I" } : Jvm.MethodName)) ∈ zG := zgm5 33 (rfl) rfl
theorem zg_994 : (Jvm.Cond.instanceMethod ({ cls := "DayOpeners", name := "soon", desc := "(I)I" } : Jvm.MethodName)) ∈ zG := zgm5 34 (rfl) rfl
theorem zg_995 : (Jvm.Cond.selects "DayOpeners" ({ cls := "DayOpeners", name := "soon", desc := "(I)I" } : Jvm.MethodName) ({ cls := "DayOpeners", name := "soon", desc := "(I)I" } : Jvm.MethodName)) ∈ zG := zgm5 35 (rfl) rfl
theorem zg_996 : (Jvm.Cond.code ({ cls := "DayOpeners", name := "soon", desc := "(I)I" } : Jvm.MethodName) prog_1_method_22_code (3 : Nat) (Option.some Jvm.ClassFile.FieldType.int)) ∈ zG := zgm5 36 (rfl) rfl
theorem zg_997 : (Jvm.Cond.methodLink "DayOpenersLaw" (105 : Nat) ({ cls := "DayOpeners", name := "out", desc := "(I)I" } : Jvm.MethodName)) ∈ zG := zgm5 37 (rfl) rfl
theorem zg_998 : (Jvm.Cond.instanceMethod ({ cls := "DayOpeners", name := "out", desc := "(I)I" } : Jvm.MethodName)) ∈ zG := zgm5 38 (rfl) rfl
theorem zg_999 : (Jvm.Cond.selects "DayOpeners" ({ cls := "DayOpeners", name := "out", desc := "(I)I" } : Jvm.MethodName) ({ cls := "DayOpeners", name := "out", desc := "(I)I" } : Jvm.MethodName)) ∈ zG := zgm5 39 (rfl) rfl
theorem zg_1000 : (Jvm.Cond.code ({ cls := "DayOpeners", name := "out", desc := "(I)I" } : Jvm.MethodName) prog_1_method_23_code (5 : Nat) (Option.some Jvm.ClassFile.FieldType.int)) ∈ zG := zgm5 40 (rfl) rfl
theorem zg_1001 : (Jvm.Cond.methodLink "DayOpeners" (238 : Nat) ({ cls := "java/lang/Math", name := "max", desc := "(II)I" } : Jvm.MethodName)) ∈ zG := zgm5 41 (rfl) rfl
theorem zg_1002 : (Jvm.Cond.methodLink "DayOpenersLaw" (109 : Nat) ({ cls := "DayOpeners", name := "missing", desc := "(I)I" } : Jvm.MethodName)) ∈ zG := zgm5 42 (rfl) rfl
theorem zg_1003 : (Jvm.Cond.instanceMethod ({ cls := "DayOpeners", name := "missing", desc := "(I)I" } : Jvm.MethodName)) ∈ zG := zgm5 43 (rfl) rfl
theorem zg_1004 : (Jvm.Cond.selects "DayOpeners" ({ cls := "DayOpeners", name := "missing", desc := "(I)I" } : Jvm.MethodName) ({ cls := "DayOpeners", name := "missing", desc := "(I)I" } : Jvm.MethodName)) ∈ zG := zgm5 44 (rfl) rfl
theorem zg_1005 : (Jvm.Cond.code ({ cls := "DayOpeners", name := "missing", desc := "(I)I" } : Jvm.MethodName) prog_1_method_24_code (2 : Nat) (Option.some Jvm.ClassFile.FieldType.int)) ∈ zG := zgm5 45 (rfl) rfl
theorem zg_1006 : (Jvm.Cond.methodLink "DayOpenersLaw" (113 : Nat) ({ cls := "DayOpeners", name := "plan", desc := "(I)I" } : Jvm.MethodName)) ∈ zG := zgm5 46 (rfl) rfl
theorem zg_1007 : (Jvm.Cond.instanceMethod ({ cls := "DayOpeners", name := "plan", desc := "(I)I" } : Jvm.MethodName)) ∈ zG := zgm5 47 (rfl) rfl
theorem zg_1008 : (Jvm.Cond.selects "DayOpeners" ({ cls := "DayOpeners", name := "plan", desc := "(I)I" } : Jvm.MethodName) ({ cls := "DayOpeners", name := "plan", desc := "(I)I" } : Jvm.MethodName)) ∈ zG := zgm5 48 (rfl) rfl
theorem zg_1009 : (Jvm.Cond.code ({ cls := "DayOpeners", name := "plan", desc := "(I)I" } : Jvm.MethodName) prog_1_method_25_code (3 : Nat) (Option.some Jvm.ClassFile.FieldType.int)) ∈ zG := zgm5 49 (rfl) rfl
theorem zg_1010 : (Jvm.Cond.methodLink "DayOpeners" (244 : Nat) ({ cls := "DayOpeners$Plans", name := "fewest", desc := "(LDayOpeners$Told;LDayOpeners$State;LDayOpeners$Course;)I" } : Jvm.MethodName)) ∈ zG := zgm5 50 (rfl) rfl
theorem zg_1011 : (Jvm.Cond.instanceMethod ({ cls := "DayOpeners$Plans", name := "fewest", desc := "(LDayOpeners$Told;LDayOpeners$State;LDayOpeners$Course;)I" } : Jvm.MethodName)) ∈ zG := zgm5 51 (rfl) rfl
theorem zg_1012 : (Jvm.Cond.selects "DayOpeners$Plans" ({ cls := "DayOpeners$Plans", name := "fewest", desc := "(LDayOpeners$Told;LDayOpeners$State;LDayOpeners$Course;)I" } : Jvm.MethodName) ({ cls := "DayOpeners$Plans", name := "fewest", desc := "(LDayOpeners$Told;LDayOpeners$State;LDayOpeners$Course;)I" } : Jvm.MethodName)) ∈ zG := zgm5 52 (rfl) rfl
theorem zg_1013 : (Jvm.Cond.code ({ cls := "DayOpeners$Plans", name := "fewest", desc := "(LDayOpeners$Told;LDayOpeners$State;LDayOpeners$Course;)I" } : Jvm.MethodName) prog_6_method_2_code (8 : Nat) (Option.some Jvm.ClassFile.FieldType.int)) ∈ zG := zgm5 53 (rfl) rfl
theorem zg_1014 : (Jvm.Cond.methodLink "DayOpeners$Plans" (51 : Nat) ({ cls := "DayOpeners$Course", name := "lengthBy", desc := "(LDayOpeners$State;I)I" } : Jvm.MethodName)) ∈ zG := zgm5 54 (rfl) rfl
theorem zg_1015 : (Jvm.Cond.methodLink "DayOpeners$Plans" (63 : Nat) ({ cls := "DayOpeners$Row", name := "get", desc := "(I)I" } : Jvm.MethodName)) ∈ zG := zgm5 55 (rfl) rfl
theorem zg_1016 : (Jvm.Cond.methodLink "DayOpeners$Plans" (70 : Nat) ({ cls := "DayOpeners$Row", name := "set", desc := "(II)V" } : Jvm.MethodName)) ∈ zG := zgm5 56 (rfl) rfl
theorem zg_1017 : (Jvm.Cond.methodLink "DayOpeners$Plans" (74 : Nat) ({ cls := "DayOpeners$Plans", name := "spreads", desc := "(LDayOpeners$Plans;II)Z" } : Jvm.MethodName)) ∈ zG := zgm5 57 (rfl) rfl
theorem zg_1018 : (Jvm.Cond.static ({ cls := "DayOpeners$Plans", name := "spreads", desc := "(LDayOpeners$Plans;II)Z" } : Jvm.MethodName)) ∈ zG := zgm5 58 (rfl) rfl
theorem zg_1019 : (Jvm.Cond.code ({ cls := "DayOpeners$Plans", name := "spreads", desc := "(LDayOpeners$Plans;II)Z" } : Jvm.MethodName) prog_6_method_3_code (6 : Nat) (Option.some Jvm.ClassFile.FieldType.boolean)) ∈ zG := zgm5 59 (rfl) rfl
theorem zg_1020 : (Jvm.Cond.methodLink "DayOpeners$Plans" (78 : Nat) ({ cls := "DayOpeners$Plans", name := "allDone", desc := "()Z" } : Jvm.MethodName)) ∈ zG := zgm5 60 (rfl) rfl
theorem zg_1022 : (Jvm.Cond.instanceMethod ({ cls := "DayOpeners$Plans", name := "allDone", desc := "()Z" } : Jvm.MethodName)) ∈ zG := zgm5 62 (rfl) rfl
theorem zg_1023 : (Jvm.Cond.code ({ cls := "DayOpeners$Plans", name := "allDone", desc := "()Z" } : Jvm.MethodName) prog_6_method_4_code (4 : Nat) (Option.some Jvm.ClassFile.FieldType.boolean)) ∈ zG := zgm5 63 (rfl) rfl
theorem zg_1024 : (Jvm.Cond.methodLink "DayOpenersLaw" (117 : Nat) ({ cls := "DayOpeners", name := "best", desc := "(II)I" } : Jvm.MethodName)) ∈ zG := zgm5 64 (rfl) rfl
theorem zg_1025 : (Jvm.Cond.instanceMethod ({ cls := "DayOpeners", name := "best", desc := "(II)I" } : Jvm.MethodName)) ∈ zG := zgm5 65 (rfl) rfl
theorem zg_1026 : (Jvm.Cond.selects "DayOpeners" ({ cls := "DayOpeners", name := "best", desc := "(II)I" } : Jvm.MethodName) ({ cls := "DayOpeners", name := "best", desc := "(II)I" } : Jvm.MethodName)) ∈ zG := zgm5 66 (rfl) rfl
theorem zg_1027 : (Jvm.Cond.code ({ cls := "DayOpeners", name := "best", desc := "(II)I" } : Jvm.MethodName) prog_1_method_26_code (3 : Nat) (Option.some Jvm.ClassFile.FieldType.int)) ∈ zG := zgm5 67 (rfl) rfl
theorem zg_1028 : (Jvm.Cond.methodLink "DayOpeners" (254 : Nat) ({ cls := "DayOpeners$Plans", name := "begin", desc := "(LDayOpeners$Told;LDayOpeners$State;I)V" } : Jvm.MethodName)) ∈ zG := zgm5 68 (rfl) rfl
theorem zg_1029 : (Jvm.Cond.instanceMethod ({ cls := "DayOpeners$Plans", name := "begin", desc := "(LDayOpeners$Told;LDayOpeners$State;I)V" } : Jvm.MethodName)) ∈ zG := zgm5 69 (rfl) rfl
theorem zg_1030 : (Jvm.Cond.selects "DayOpeners$Plans" ({ cls := "DayOpeners$Plans", name := "begin", desc := "(LDayOpeners$Told;LDayOpeners$State;I)V" } : Jvm.MethodName) ({ cls := "DayOpeners$Plans", name := "begin", desc := "(LDayOpeners$Told;LDayOpeners$State;I)V" } : Jvm.MethodName)) ∈ zG := zgm5 70 (rfl) rfl
theorem zg_1031 : (Jvm.Cond.code ({ cls := "DayOpeners$Plans", name := "begin", desc := "(LDayOpeners$Told;LDayOpeners$State;I)V" } : Jvm.MethodName) prog_6_method_5_code (5 : Nat) (Option.none : Option Jvm.ClassFile.FieldType)) ∈ zG := zgm5 71 (rfl) rfl
theorem zg_1032 : (Jvm.Cond.methodLink "DayOpeners$Plans" (94 : Nat) ({ cls := "DayOpeners$Plans", name := "stateBehind", desc := "(I)LDayOpeners$State;" } : Jvm.MethodName)) ∈ zG := zgm5 72 (rfl) rfl
theorem zg_1034 : (Jvm.Cond.instanceMethod ({ cls := "DayOpeners$Plans", name := "stateBehind", desc := "(I)LDayOpeners$State;" } : Jvm.MethodName)) ∈ zG := zgm5 74 (rfl) rfl
theorem zg_1035 : (Jvm.Cond.code ({ cls := "DayOpeners$Plans", name := "stateBehind", desc := "(I)LDayOpeners$State;" } : Jvm.MethodName) prog_6_method_6_code (2 : Nat) (Option.some (Jvm.ClassFile.FieldType.object "DayOpeners$State"))) ∈ zG := zgm5 75 (rfl) rfl
theorem zg_1036 : (Jvm.Cond.methodLink "DayOpeners$Plans" (98 : Nat) ({ cls := "DayOpeners$State", name := "copy", desc := "(LDayOpeners$State;)V" } : Jvm.MethodName)) ∈ zG := zgm5 76 (rfl) rfl
theorem zn_1037 : (Jvm.Cond.methodLinkNest "DayOpeners" (258 : Nat) ({ cls := "DayOpeners$Plans", name := "seek", desc := "(LDayOpeners$Plans;ILDayOpeners$Course;)V" } : Jvm.MethodName) "DayOpeners") ∈ zN := znm5 77 (rfl) rfl
theorem zg_1038 : (Jvm.Cond.static ({ cls := "DayOpeners$Plans", name := "seek", desc := "(LDayOpeners$Plans;ILDayOpeners$Course;)V" } : Jvm.MethodName)) ∈ zG := zgm5 78 (rfl) rfl
theorem zg_1039 : (Jvm.Cond.code ({ cls := "DayOpeners$Plans", name := "seek", desc := "(LDayOpeners$Plans;ILDayOpeners$Course;)V" } : Jvm.MethodName) prog_6_method_7_code (6 : Nat) (Option.none : Option Jvm.ClassFile.FieldType)) ∈ zG := zgm5 79 (rfl) rfl
theorem zg_1040 : (Jvm.Cond.methodLink "DayOpeners$Plans" (102 : Nat) ({ cls := "DayOpeners$Plans", name := "hopes", desc := "(LDayOpeners$State;I)I" } : Jvm.MethodName)) ∈ zG := zgm5 80 (rfl) rfl
theorem zg_1042 : (Jvm.Cond.instanceMethod ({ cls := "DayOpeners$Plans", name := "hopes", desc := "(LDayOpeners$State;I)I" } : Jvm.MethodName)) ∈ zG := zgm5 82 (rfl) rfl
theorem zg_1043 : (Jvm.Cond.code ({ cls := "DayOpeners$Plans", name := "hopes", desc := "(LDayOpeners$State;I)I" } : Jvm.MethodName) prog_6_method_8_code (7 : Nat) (Option.some Jvm.ClassFile.FieldType.int)) ∈ zG := zgm5 83 (rfl) rfl
theorem zg_1044 : (Jvm.Cond.methodLink "DayOpeners$Plans" (108 : Nat) ({ cls := "DayOpeners$Row", name := "copy", desc := "(LDayOpeners$Row;)V" } : Jvm.MethodName)) ∈ zG := zgm5 84 (rfl) rfl
theorem zg_1045 : (Jvm.Cond.methodLink "DayOpeners$Plans" (114 : Nat) ({ cls := "DayOpeners$Course", name := "dayGoes", desc := "(LDayOpeners$State;)V" } : Jvm.MethodName)) ∈ zG := zgm5 85 (rfl) rfl
theorem zg_1046 : (Jvm.Cond.methodLink "DayOpeners$Plans" (117 : Nat) ({ cls := "DayOpeners$Plans", name := "seek", desc := "(LDayOpeners$Plans;ILDayOpeners$Course;)V" } : Jvm.MethodName)) ∈ zG := zgm5 86 (rfl) rfl
theorem zg_1047 : (Jvm.Cond.methodLink "DayOpenersLaw" (121 : Nat) ({ cls := "DayOpeners", name := "fair", desc := "(I)I" } : Jvm.MethodName)) ∈ zG := zgm5 87 (rfl) rfl
theorem zg_1048 : (Jvm.Cond.instanceMethod ({ cls := "DayOpeners", name := "fair", desc := "(I)I" } : Jvm.MethodName)) ∈ zG := zgm5 88 (rfl) rfl
theorem zg_1049 : (Jvm.Cond.selects "DayOpeners" ({ cls := "DayOpeners", name := "fair", desc := "(I)I" } : Jvm.MethodName) ({ cls := "DayOpeners", name := "fair", desc := "(I)I" } : Jvm.MethodName)) ∈ zG := zgm5 89 (rfl) rfl
theorem zg_1050 : (Jvm.Cond.code ({ cls := "DayOpeners", name := "fair", desc := "(I)I" } : Jvm.MethodName) prog_1_method_27_code (2 : Nat) (Option.some Jvm.ClassFile.FieldType.int)) ∈ zG := zgm5 90 (rfl) rfl
theorem zg_1051 : (Jvm.Cond.methodLink "DayOpeners" (268 : Nat) ({ cls := "DayOpeners$Seats", name := "share", desc := "(LDayOpeners$Told;LDayOpeners$State;)V" } : Jvm.MethodName)) ∈ zG := zgm5 91 (rfl) rfl
theorem zg_1052 : (Jvm.Cond.instanceMethod ({ cls := "DayOpeners$Seats", name := "share", desc := "(LDayOpeners$Told;LDayOpeners$State;)V" } : Jvm.MethodName)) ∈ zG := zgm5 92 (rfl) rfl
theorem zg_1053 : (Jvm.Cond.selects "DayOpeners$Seats" ({ cls := "DayOpeners$Seats", name := "share", desc := "(LDayOpeners$Told;LDayOpeners$State;)V" } : Jvm.MethodName) ({ cls := "DayOpeners$Seats", name := "share", desc := "(LDayOpeners$Told;LDayOpeners$State;)V" } : Jvm.MethodName)) ∈ zG := zgm5 93 (rfl) rfl
theorem zg_1054 : (Jvm.Cond.code ({ cls := "DayOpeners$Seats", name := "share", desc := "(LDayOpeners$Told;LDayOpeners$State;)V" } : Jvm.MethodName) prog_8_method_3_code (5 : Nat) (Option.none : Option Jvm.ClassFile.FieldType)) ∈ zG := zgm5 94 (rfl) rfl
theorem zg_1055 : (Jvm.Cond.methodLink "DayOpeners$Seats" (45 : Nat) ({ cls := "DayOpeners$Row", name := "fill", desc := "(I)V" } : Jvm.MethodName)) ∈ zG := zgm5 95 (rfl) rfl
theorem zg_1056 : (Jvm.Cond.methodLink "DayOpeners$Seats" (52 : Nat) ({ cls := "DayOpeners$Seats", name := "firstLeft", desc := "(I)I" } : Jvm.MethodName)) ∈ zG := zgm5 96 (rfl) rfl
theorem zg_1058 : (Jvm.Cond.instanceMethod ({ cls := "DayOpeners$Seats", name := "firstLeft", desc := "(I)I" } : Jvm.MethodName)) ∈ zG := zgm5 98 (rfl) rfl
theorem zg_1059 : (Jvm.Cond.code ({ cls := "DayOpeners$Seats", name := "firstLeft", desc := "(I)I" } : Jvm.MethodName) prog_8_method_4_code (3 : Nat) (Option.some Jvm.ClassFile.FieldType.int)) ∈ zG := zgm5 99 (rfl) rfl
theorem zg_1060 : (Jvm.Cond.methodLink "DayOpeners$Seats" (36 : Nat) ({ cls := "DayOpeners$Row", name := "get", desc := "(I)I" } : Jvm.MethodName)) ∈ zG := zgm5 100 (rfl) rfl
theorem zg_1061 : (Jvm.Cond.methodLink "DayOpeners$Seats" (55 : Nat) ({ cls := "DayOpeners$Seats", name := "wish", desc := "(LDayOpeners$Told;LDayOpeners$State;)V" } : Jvm.MethodName)) ∈ zG := zgm5 101 (rfl) rfl
theorem zg_1063 : (Jvm.Cond.instanceMethod ({ cls := "DayOpeners$Seats", name := "wish", desc := "(LDayOpeners$Told;LDayOpeners$State;)V" } : Jvm.MethodName)) ∈ zG := zgm5 103 (rfl) rfl
theorem zg_1064 : (Jvm.Cond.code ({ cls := "DayOpeners$Seats", name := "wish", desc := "(LDayOpeners$Told;LDayOpeners$State;)V" } : Jvm.MethodName) prog_8_method_5_code (7 : Nat) (Option.none : Option Jvm.ClassFile.FieldType)) ∈ zG := zgm5 104 (rfl) rfl
theorem zg_1065 : (Jvm.Cond.methodLink "DayOpeners$Seats" (63 : Nat) ({ cls := "DayOpeners$Seats", name := "apart", desc := "(LDayOpeners$Told;LDayOpeners$State;II)I" } : Jvm.MethodName)) ∈ zG := zgm5 105 (rfl) rfl
theorem zg_1066 : (Jvm.Cond.static ({ cls := "DayOpeners$Seats", name := "apart", desc := "(LDayOpeners$Told;LDayOpeners$State;II)I" } : Jvm.MethodName)) ∈ zG := zgm5 106 (rfl) rfl
theorem zg_1067 : (Jvm.Cond.code ({ cls := "DayOpeners$Seats", name := "apart", desc := "(LDayOpeners$Told;LDayOpeners$State;II)I" } : Jvm.MethodName) prog_8_method_2_code (4 : Nat) (Option.some Jvm.ClassFile.FieldType.int)) ∈ zG := zgm5 107 (rfl) rfl
theorem zg_1068 : (Jvm.Cond.methodLink "DayOpeners$Seats" (40 : Nat) ({ cls := "java/lang/Math", name := "abs", desc := "(I)I" } : Jvm.MethodName)) ∈ zG := zgm5 108 (rfl) rfl
theorem zg_1069 : (Jvm.Cond.static ({ cls := "java/lang/Math", name := "abs", desc := "(I)I" } : Jvm.MethodName)) ∈ zG := zgm5 109 (rfl) rfl
theorem zg_1070 : (Jvm.Cond.code ({ cls := "java/lang/Math", name := "abs", desc := "(I)I" } : Jvm.MethodName) prog_20_method_59_code (1 : Nat) (Option.some Jvm.ClassFile.FieldType.int)) ∈ zG := zgm5 110 (rfl) rfl
theorem zg_1071 : (Jvm.Cond.methodLink "DayOpeners$Seats" (67 : Nat) ({ cls := "DayOpeners$Row", name := "set", desc := "(II)V" } : Jvm.MethodName)) ∈ zG := zgm5 111 (rfl) rfl
theorem zg_1072 : (Jvm.Cond.methodLink "DayOpeners$Seats" (59 : Nat) ({ cls := "DayOpeners$Seats", name := "closeRing", desc := "(LDayOpeners$State;I)V" } : Jvm.MethodName)) ∈ zG := zgm5 112 (rfl) rfl
theorem zg_1074 : (Jvm.Cond.instanceMethod ({ cls := "DayOpeners$Seats", name := "closeRing", desc := "(LDayOpeners$State;I)V" } : Jvm.MethodName)) ∈ zG := zgm5 114 (rfl) rfl
theorem zg_1075 : (Jvm.Cond.code ({ cls := "DayOpeners$Seats", name := "closeRing", desc := "(LDayOpeners$State;I)V" } : Jvm.MethodName) prog_8_method_6_code (5 : Nat) (Option.none : Option Jvm.ClassFile.FieldType)) ∈ zG := zgm5 115 (rfl) rfl
theorem zg_1076 : (Jvm.Cond.methodLink "DayOpenersLaw" (125 : Nat) ({ cls := "DayOpeners", name := "pairs", desc := "()I" } : Jvm.MethodName)) ∈ zG := zgm5 116 (rfl) rfl
theorem zg_1077 : (Jvm.Cond.instanceMethod ({ cls := "DayOpeners", name := "pairs", desc := "()I" } : Jvm.MethodName)) ∈ zG := zgm5 117 (rfl) rfl
theorem zg_1078 : (Jvm.Cond.selects "DayOpeners" ({ cls := "DayOpeners", name := "pairs", desc := "()I" } : Jvm.MethodName) ({ cls := "DayOpeners", name := "pairs", desc := "()I" } : Jvm.MethodName)) ∈ zG := zgm5 118 (rfl) rfl
theorem zg_1079 : (Jvm.Cond.code ({ cls := "DayOpeners", name := "pairs", desc := "()I" } : Jvm.MethodName) prog_1_method_28_code (1 : Nat) (Option.some Jvm.ClassFile.FieldType.int)) ∈ zG := zgm5 119 (rfl) rfl
theorem zg_1080 : (Jvm.Cond.methodLink "DayOpeners" (275 : Nat) ({ cls := "DayOpeners$Seats", name := "changers", desc := "(LDayOpeners$Told;LDayOpeners$State;)I" } : Jvm.MethodName)) ∈ zG := zgm5 120 (rfl) rfl
theorem zg_1081 : (Jvm.Cond.instanceMethod ({ cls := "DayOpeners$Seats", name := "changers", desc := "(LDayOpeners$Told;LDayOpeners$State;)I" } : Jvm.MethodName)) ∈ zG := zgm5 121 (rfl) rfl
theorem zg_1082 : (Jvm.Cond.selects "DayOpeners$Seats" ({ cls := "DayOpeners$Seats", name := "changers", desc := "(LDayOpeners$Told;LDayOpeners$State;)I" } : Jvm.MethodName) ({ cls := "DayOpeners$Seats", name := "changers", desc := "(LDayOpeners$Told;LDayOpeners$State;)I" } : Jvm.MethodName)) ∈ zG := zgm5 122 (rfl) rfl
theorem zg_1083 : (Jvm.Cond.code ({ cls := "DayOpeners$Seats", name := "changers", desc := "(LDayOpeners$Told;LDayOpeners$State;)I" } : Jvm.MethodName) prog_8_method_7_code (8 : Nat) (Option.some Jvm.ClassFile.FieldType.int)) ∈ zG := zgm5 123 (rfl) rfl
theorem zg_1084 : (Jvm.Cond.methodLink "DayOpenersLaw" (129 : Nat) ({ cls := "DayOpeners", name := "power", desc := "(I)I" } : Jvm.MethodName)) ∈ zG := zgm5 124 (rfl) rfl
theorem zg_1085 : (Jvm.Cond.instanceMethod ({ cls := "DayOpeners", name := "power", desc := "(I)I" } : Jvm.MethodName)) ∈ zG := zgm5 125 (rfl) rfl
theorem zg_1086 : (Jvm.Cond.selects "DayOpeners" ({ cls := "DayOpeners", name := "power", desc := "(I)I" } : Jvm.MethodName) ({ cls := "DayOpeners", name := "power", desc := "(I)I" } : Jvm.MethodName)) ∈ zG := zgm5 126 (rfl) rfl
theorem zg_1087 : (Jvm.Cond.code ({ cls := "DayOpeners", name := "power", desc := "(I)I" } : Jvm.MethodName) prog_1_method_29_code (2 : Nat) (Option.some Jvm.ClassFile.FieldType.int)) ∈ zG := zgm5 127 (rfl) rfl
theorem zg_1088 : (Jvm.Cond.methodLink "DayOpeners" (279 : Nat) ({ cls := "DayOpeners$Seats", name := "weigh", desc := "(LDayOpeners$Told;LDayOpeners$State;)V" } : Jvm.MethodName)) ∈ zG := zgm5 128 (rfl) rfl
theorem zg_1089 : (Jvm.Cond.instanceMethod ({ cls := "DayOpeners$Seats", name := "weigh", desc := "(LDayOpeners$Told;LDayOpeners$State;)V" } : Jvm.MethodName)) ∈ zG := zgm5 129 (rfl) rfl
theorem zg_1090 : (Jvm.Cond.selects "DayOpeners$Seats" ({ cls := "DayOpeners$Seats", name := "weigh", desc := "(LDayOpeners$Told;LDayOpeners$State;)V" } : Jvm.MethodName) ({ cls := "DayOpeners$Seats", name := "weigh", desc := "(LDayOpeners$Told;LDayOpeners$State;)V" } : Jvm.MethodName)) ∈ zG := zgm5 130 (rfl) rfl
theorem zg_1091 : (Jvm.Cond.code ({ cls := "DayOpeners$Seats", name := "weigh", desc := "(LDayOpeners$Told;LDayOpeners$State;)V" } : Jvm.MethodName) prog_8_method_8_code (4 : Nat) (Option.none : Option Jvm.ClassFile.FieldType)) ∈ zG := zgm5 131 (rfl) rfl
theorem zg_1092 : (Jvm.Cond.methodLink "DayOpeners$Seats" (74 : Nat) ({ cls := "DayOpeners$State", name := "placesOf", desc := "(I)I" } : Jvm.MethodName)) ∈ zG := zgm5 132 (rfl) rfl
theorem zg_1093 : (Jvm.Cond.instanceMethod ({ cls := "DayOpeners$State", name := "placesOf", desc := "(I)I" } : Jvm.MethodName)) ∈ zG := zgm5 133 (rfl) rfl
theorem zg_1094 : (Jvm.Cond.selects "DayOpeners$State" ({ cls := "DayOpeners$State", name := "placesOf", desc := "(I)I" } : Jvm.MethodName) ({ cls := "DayOpeners$State", name := "placesOf", desc := "(I)I" } : Jvm.MethodName)) ∈ zG := zgm5 134 (rfl) rfl
theorem zg_1095 : (Jvm.Cond.code ({ cls := "DayOpeners$State", name := "placesOf", desc := "(I)I" } : Jvm.MethodName) prog_9_method_5_code (4 : Nat) (Option.some Jvm.ClassFile.FieldType.int)) ∈ zG := zgm5 135 (rfl) rfl
theorem zg_1096 : (Jvm.Cond.methodLink "DayOpeners" (285 : Nat) ({ cls := "DayOpeners$Seats", name := "decides", desc := "(III)I" } : Jvm.MethodName)) ∈ zG := zgm5 136 (rfl) rfl
theorem zg_1097 : (Jvm.Cond.instanceMethod ({ cls := "DayOpeners$Seats", name := "decides", desc := "(III)I" } : Jvm.MethodName)) ∈ zG := zgm5 137 (rfl) rfl
theorem zg_1098 : (Jvm.Cond.selects "DayOpeners$Seats" ({ cls := "DayOpeners$Seats", name := "decides", desc := "(III)I" } : Jvm.MethodName) ({ cls := "DayOpeners$Seats", name := "decides", desc := "(III)I" } : Jvm.MethodName)) ∈ zG := zgm5 138 (rfl) rfl
theorem zg_1099 : (Jvm.Cond.code ({ cls := "DayOpeners$Seats", name := "decides", desc := "(III)I" } : Jvm.MethodName) prog_8_method_10_code (8 : Nat) (Option.some Jvm.ClassFile.FieldType.int)) ∈ zG := zgm5 139 (rfl) rfl
theorem zg_1100 : (Jvm.Cond.methodLink "DayOpeners$Seats" (77 : Nat) ({ cls := "DayOpeners$Seats", name := "weightOf", desc := "(I)I" } : Jvm.MethodName)) ∈ zG := zgm5 140 (rfl) rfl
theorem zg_1102 : (Jvm.Cond.instanceMethod ({ cls := "DayOpeners$Seats", name := "weightOf", desc := "(I)I" } : Jvm.MethodName)) ∈ zG := zgm5 142 (rfl) rfl
theorem zg_1103 : (Jvm.Cond.code ({ cls := "DayOpeners$Seats", name := "weightOf", desc := "(I)I" } : Jvm.MethodName) prog_8_method_9_code (4 : Nat) (Option.some Jvm.ClassFile.FieldType.int)) ∈ zG := zgm5 143 (rfl) rfl
theorem zg_1104 : (Jvm.Cond.methodLink "DayOpenersLaw" (133 : Nat) ({ cls := "DayOpeners", name := "even", desc := "(I)I" } : Jvm.MethodName)) ∈ zG := zgm5 144 (rfl) rfl
theorem zg_1105 : (Jvm.Cond.instanceMethod ({ cls := "DayOpeners", name := "even", desc := "(I)I" } : Jvm.MethodName)) ∈ zG := zgm5 145 (rfl) rfl
theorem zg_1106 : (Jvm.Cond.selects "DayOpeners" ({ cls := "DayOpeners", name := "even", desc := "(I)I" } : Jvm.MethodName) ({ cls := "DayOpeners", name := "even", desc := "(I)I" } : Jvm.MethodName)) ∈ zG := zgm5 146 (rfl) rfl
theorem zg_1107 : (Jvm.Cond.code ({ cls := "DayOpeners", name := "even", desc := "(I)I" } : Jvm.MethodName) prog_1_method_30_code (2 : Nat) (Option.some Jvm.ClassFile.FieldType.int)) ∈ zG := zgm5 147 (rfl) rfl
theorem zg_1108 : (Jvm.Cond.methodLink "DayOpeners" (289 : Nat) ({ cls := "DayOpeners$Seats", name := "canHalve", desc := "(I)Z" } : Jvm.MethodName)) ∈ zG := zgm5 148 (rfl) rfl
theorem zg_1109 : (Jvm.Cond.instanceMethod ({ cls := "DayOpeners$Seats", name := "canHalve", desc := "(I)Z" } : Jvm.MethodName)) ∈ zG := zgm5 149 (rfl) rfl
theorem zg_1110 : (Jvm.Cond.selects "DayOpeners$Seats" ({ cls := "DayOpeners$Seats", name := "canHalve", desc := "(I)Z" } : Jvm.MethodName) ({ cls := "DayOpeners$Seats", name := "canHalve", desc := "(I)Z" } : Jvm.MethodName)) ∈ zG := zgm5 150 (rfl) rfl
theorem zg_1111 : (Jvm.Cond.code ({ cls := "DayOpeners$Seats", name := "canHalve", desc := "(I)Z" } : Jvm.MethodName) prog_8_method_11_code (4 : Nat) (Option.some Jvm.ClassFile.FieldType.boolean)) ∈ zG := zgm5 151 (rfl) rfl
theorem zg_1112 : (Jvm.Cond.methodLink "DayOpenersLaw" (137 : Nat) ({ cls := "DayOpeners", name := "rare", desc := "()I" } : Jvm.MethodName)) ∈ zG := zgm5 152 (rfl) rfl
theorem zg_1113 : (Jvm.Cond.instanceMethod ({ cls := "DayOpeners", name := "rare", desc := "()I" } : Jvm.MethodName)) ∈ zG := zgm5 153 (rfl) rfl
theorem zg_1114 : (Jvm.Cond.selects "DayOpeners" ({ cls := "DayOpeners", name := "rare", desc := "()I" } : Jvm.MethodName) ({ cls := "DayOpeners", name := "rare", desc := "()I" } : Jvm.MethodName)) ∈ zG := zgm5 154 (rfl) rfl
theorem zg_1115 : (Jvm.Cond.code ({ cls := "DayOpeners", name := "rare", desc := "()I" } : Jvm.MethodName) prog_1_method_31_code (4 : Nat) (Option.some Jvm.ClassFile.FieldType.int)) ∈ zG := zgm5 155 (rfl) rfl
theorem zg_1116 : (Jvm.Cond.methodLink "DayOpeners" (148 : Nat) ({ cls := "DayOpeners$State", name := "placesOf", desc := "(I)I" } : Jvm.MethodName)) ∈ zG := zgm5 156 (rfl) rfl
theorem zg_1117 : (Jvm.Cond.methodLink "DayOpenersLaw" (141 : Nat) ({ cls := "DayOpeners", name := "rests", desc := "(II)I" } : Jvm.MethodName)) ∈ zG := zgm5 157 (rfl) rfl
theorem zg_1118 : (Jvm.Cond.instanceMethod ({ cls := "DayOpeners", name := "rests", desc := "(II)I" } : Jvm.MethodName)) ∈ zG := zgm5 158 (rfl) rfl
theorem zg_1119 : (Jvm.Cond.selects "DayOpeners" ({ cls := "DayOpeners", name := "rests", desc := "(II)I" } : Jvm.MethodName) ({ cls := "DayOpeners", name := "rests", desc := "(II)I" } : Jvm.MethodName)) ∈ zG := zgm5 159 (rfl) rfl
theorem zg_1120 : (Jvm.Cond.code ({ cls := "DayOpeners", name := "rests", desc := "(II)I" } : Jvm.MethodName) prog_1_method_32_code (5 : Nat) (Option.some Jvm.ClassFile.FieldType.int)) ∈ zG := zgm5 160 (rfl) rfl
theorem zg_1121 : (Jvm.Cond.methodLink "DayOpeners" (292 : Nat) ({ cls := "DayOpeners", name := "isRest", desc := "(III)Z" } : Jvm.MethodName)) ∈ zG := zgm5 161 (rfl) rfl
theorem zg_1123 : (Jvm.Cond.instanceMethod ({ cls := "DayOpeners", name := "isRest", desc := "(III)Z" } : Jvm.MethodName)) ∈ zG := zgm5 163 (rfl) rfl
theorem zg_1124 : (Jvm.Cond.code ({ cls := "DayOpeners", name := "isRest", desc := "(III)Z" } : Jvm.MethodName) prog_1_method_34_code (6 : Nat) (Option.some Jvm.ClassFile.FieldType.boolean)) ∈ zG := zgm5 164 (rfl) rfl
theorem zg_1125 : (Jvm.Cond.methodLink "DayOpeners" (296 : Nat) ({ cls := "DayOpeners", name := "gain", desc := "(IIII)I" } : Jvm.MethodName)) ∈ zG := zgm5 165 (rfl) rfl
theorem zg_1127 : (Jvm.Cond.instanceMethod ({ cls := "DayOpeners", name := "gain", desc := "(IIII)I" } : Jvm.MethodName)) ∈ zG := zgm5 167 (rfl) rfl
theorem zg_1128 : (Jvm.Cond.code ({ cls := "DayOpeners", name := "gain", desc := "(IIII)I" } : Jvm.MethodName) prog_1_method_35_code (6 : Nat) (Option.some Jvm.ClassFile.FieldType.int)) ∈ zG := zgm5 168 (rfl) rfl
theorem zg_1129 : (Jvm.Cond.methodLink "DayOpeners" (300 : Nat) ({ cls := "java/lang/Math", name := "abs", desc := "(I)I" } : Jvm.MethodName)) ∈ zG := zgm5 169 (rfl) rfl
theorem zg_1130 : (Jvm.Cond.methodLink "DayOpenersLaw" (145 : Nat) ({ cls := "DayOpeners", name := "rest", desc := "(III)I" } : Jvm.MethodName)) ∈ zG := zgm5 170 (rfl) rfl
theorem zg_1131 : (Jvm.Cond.instanceMethod ({ cls := "DayOpeners", name := "rest", desc := "(III)I" } : Jvm.MethodName)) ∈ zG := zgm5 171 (rfl) rfl
theorem zg_1132 : (Jvm.Cond.selects "DayOpeners" ({ cls := "DayOpeners", name := "rest", desc := "(III)I" } : Jvm.MethodName) ({ cls := "DayOpeners", name := "rest", desc := "(III)I" } : Jvm.MethodName)) ∈ zG := zgm5 172 (rfl) rfl
theorem zg_1133 : (Jvm.Cond.code ({ cls := "DayOpeners", name := "rest", desc := "(III)I" } : Jvm.MethodName) prog_1_method_33_code (6 : Nat) (Option.some Jvm.ClassFile.FieldType.int)) ∈ zG := zgm5 173 (rfl) rfl
theorem zg_1134 : (Jvm.Cond.methodLink "DayOpenersLaw" (149 : Nat) ({ cls := "DayOpeners", name := "sure", desc := "(II)J" } : Jvm.MethodName)) ∈ zG := zgm5 174 (rfl) rfl
theorem zg_1135 : (Jvm.Cond.instanceMethod ({ cls := "DayOpeners", name := "sure", desc := "(II)J" } : Jvm.MethodName)) ∈ zG := zgm5 175 (rfl) rfl
theorem zg_1136 : (Jvm.Cond.selects "DayOpeners" ({ cls := "DayOpeners", name := "sure", desc := "(II)J" } : Jvm.MethodName) ({ cls := "DayOpeners", name := "sure", desc := "(II)J" } : Jvm.MethodName)) ∈ zG := zgm5 176 (rfl) rfl
theorem zg_1137 : (Jvm.Cond.code ({ cls := "DayOpeners", name := "sure", desc := "(II)J" } : Jvm.MethodName) prog_1_method_36_code (8 : Nat) (Option.some Jvm.ClassFile.FieldType.long)) ∈ zG := zgm5 177 (rfl) rfl
theorem zg_1138 : (Jvm.Cond.constantLong "DayOpeners" (303 : Nat) (-1 : Int64)) ∈ zG := zgm5 178 (rfl) rfl
theorem zg_1139 : (Jvm.Cond.methodLink "DayOpenersLaw" (153 : Nat) ({ cls := "DayOpeners", name := "note", desc := "(IIZ)I" } : Jvm.MethodName)) ∈ zG := zgm5 179 (rfl) rfl
theorem zg_1140 : (Jvm.Cond.instanceMethod ({ cls := "DayOpeners", name := "note", desc := "(IIZ)I" } : Jvm.MethodName)) ∈ zG := zgm5 180 (rfl) rfl
theorem zg_1141 : (Jvm.Cond.selects "DayOpeners" ({ cls := "DayOpeners", name := "note", desc := "(IIZ)I" } : Jvm.MethodName) ({ cls := "DayOpeners", name := "note", desc := "(IIZ)I" } : Jvm.MethodName)) ∈ zG := zgm5 181 (rfl) rfl
theorem zg_1142 : (Jvm.Cond.code ({ cls := "DayOpeners", name := "note", desc := "(IIZ)I" } : Jvm.MethodName) prog_1_method_37_code (4 : Nat) (Option.some Jvm.ClassFile.FieldType.int)) ∈ zG := zgm5 182 (rfl) rfl
theorem zg_1143 : (Jvm.Cond.methodLink "DayOpeners" (308 : Nat) ({ cls := "DayOpeners$Notes", name := "add", desc := "(III)I" } : Jvm.MethodName)) ∈ zG := zgm5 183 (rfl) rfl
theorem zg_1144 : (Jvm.Cond.instanceMethod ({ cls := "DayOpeners$Notes", name := "add", desc := "(III)I" } : Jvm.MethodName)) ∈ zG := zgm5 184 (rfl) rfl
theorem zg_1145 : (Jvm.Cond.selects "DayOpeners$Notes" ({ cls := "DayOpeners$Notes", name := "add", desc := "(III)I" } : Jvm.MethodName) ({ cls := "DayOpeners$Notes", name := "add", desc := "(III)I" } : Jvm.MethodName)) ∈ zG := zgm5 185 (rfl) rfl
theorem zg_1146 : (Jvm.Cond.code ({ cls := "DayOpeners$Notes", name := "add", desc := "(III)I" } : Jvm.MethodName) prog_4_method_3_code (4 : Nat) (Option.some Jvm.ClassFile.FieldType.int)) ∈ zG := zgm5 186 (rfl) rfl
theorem zg_1147 : (Jvm.Cond.methodLink "DayOpeners$Notes" (42 : Nat) ({ cls := "DayOpeners$Row", name := "set", desc := "(II)V" } : Jvm.MethodName)) ∈ zG := zgm5 187 (rfl) rfl
theorem zg_1148 : (Jvm.Cond.methodLink "DayOpenersLaw" (158 : Nat) ({ cls := "DayOpeners", name := "strike", desc := "(I)I" } : Jvm.MethodName)) ∈ zG := zgm5 188 (rfl) rfl
theorem zg_1149 : (Jvm.Cond.instanceMethod ({ cls := "DayOpeners", name := "strike", desc := "(I)I" } : Jvm.MethodName)) ∈ zG := zgm5 189 (rfl) rfl
theorem zg_1150 : (Jvm.Cond.selects "DayOpeners" ({ cls := "DayOpeners", name := "strike", desc := "(I)I" } : Jvm.MethodName) ({ cls := "DayOpeners", name := "strike", desc := "(I)I" } : Jvm.MethodName)) ∈ zG := zgm5 190 (rfl) rfl
theorem zg_1151 : (Jvm.Cond.code ({ cls := "DayOpeners", name := "strike", desc := "(I)I" } : Jvm.MethodName) prog_1_method_38_code (2 : Nat) (Option.some Jvm.ClassFile.FieldType.int)) ∈ zG := zgm5 191 (rfl) rfl
theorem zg_1152 : (Jvm.Cond.methodLink "DayOpenersLaw" (162 : Nat) ({ cls := "DayOpeners", name := "toldBy", desc := "(I)Z" } : Jvm.MethodName)) ∈ zG := zgm5 192 (rfl) rfl
theorem zg_1153 : (Jvm.Cond.instanceMethod ({ cls := "DayOpeners", name := "toldBy", desc := "(I)Z" } : Jvm.MethodName)) ∈ zG := zgm5 193 (rfl) rfl
theorem zg_1154 : (Jvm.Cond.selects "DayOpeners" ({ cls := "DayOpeners", name := "toldBy", desc := "(I)Z" } : Jvm.MethodName) ({ cls := "DayOpeners", name := "toldBy", desc := "(I)Z" } : Jvm.MethodName)) ∈ zG := zgm5 194 (rfl) rfl
theorem zg_1155 : (Jvm.Cond.code ({ cls := "DayOpeners", name := "toldBy", desc := "(I)Z" } : Jvm.MethodName) prog_1_method_39_code (2 : Nat) (Option.some Jvm.ClassFile.FieldType.boolean)) ∈ zG := zgm5 195 (rfl) rfl
theorem zg_1156 : (Jvm.Cond.methodLink "DayOpenersLaw" (166 : Nat) ({ cls := "DayOpeners", name := "hours", desc := "(I)I" } : Jvm.MethodName)) ∈ zG := zgm5 196 (rfl) rfl
theorem zg_1157 : (Jvm.Cond.instanceMethod ({ cls := "DayOpeners", name := "hours", desc := "(I)I" } : Jvm.MethodName)) ∈ zG := zgm5 197 (rfl) rfl
theorem zg_1158 : (Jvm.Cond.selects "DayOpeners" ({ cls := "DayOpeners", name := "hours", desc := "(I)I" } : Jvm.MethodName) ({ cls := "DayOpeners", name := "hours", desc := "(I)I" } : Jvm.MethodName)) ∈ zG := zgm5 198 (rfl) rfl
theorem zg_1159 : (Jvm.Cond.code ({ cls := "DayOpeners", name := "hours", desc := "(I)I" } : Jvm.MethodName) prog_1_method_40_code (2 : Nat) (Option.some Jvm.ClassFile.FieldType.int)) ∈ zG := zgm5 199 (rfl) rfl
theorem zg_1160 : (Jvm.Cond.methodLink "DayOpeners" (314 : Nat) ({ cls := "DayOpeners", name := "watchHours", desc := "(II)V" } : Jvm.MethodName)) ∈ zG := zgm5 200 (rfl) rfl
theorem zg_1162 : (Jvm.Cond.instanceMethod ({ cls := "DayOpeners", name := "watchHours", desc := "(II)V" } : Jvm.MethodName)) ∈ zG := zgm5 202 (rfl) rfl
theorem zg_1163 : (Jvm.Cond.code ({ cls := "DayOpeners", name := "watchHours", desc := "(II)V" } : Jvm.MethodName) prog_1_method_42_code (6 : Nat) (Option.none : Option Jvm.ClassFile.FieldType)) ∈ zG := zgm5 203 (rfl) rfl
theorem zg_1164 : (Jvm.Cond.methodLink "DayOpeners" (330 : Nat) ({ cls := "DayOpeners$Notes", name := "strikeOut", desc := "()V" } : Jvm.MethodName)) ∈ zG := zgm5 204 (rfl) rfl
theorem zg_1165 : (Jvm.Cond.instanceMethod ({ cls := "DayOpeners$Notes", name := "strikeOut", desc := "()V" } : Jvm.MethodName)) ∈ zG := zgm5 205 (rfl) rfl
theorem zg_1166 : (Jvm.Cond.selects "DayOpeners$Notes" ({ cls := "DayOpeners$Notes", name := "strikeOut", desc := "()V" } : Jvm.MethodName) ({ cls := "DayOpeners$Notes", name := "strikeOut", desc := "()V" } : Jvm.MethodName)) ∈ zG := zgm5 206 (rfl) rfl
theorem zg_1167 : (Jvm.Cond.code ({ cls := "DayOpeners$Notes", name := "strikeOut", desc := "()V" } : Jvm.MethodName) prog_4_method_5_code (2 : Nat) (Option.none : Option Jvm.ClassFile.FieldType)) ∈ zG := zgm5 207 (rfl) rfl
theorem zg_1168 : (Jvm.Cond.methodLink "DayOpeners$Notes" (46 : Nat) ({ cls := "DayOpeners$Row", name := "fill", desc := "(I)V" } : Jvm.MethodName)) ∈ zG := zgm5 208 (rfl) rfl
theorem zg_1169 : (Jvm.Cond.methodLink "DayOpeners$Notes" (49 : Nat) ({ cls := "DayOpeners$Notes", name := "byHowMany", desc := "()I" } : Jvm.MethodName)) ∈ zG := zgm5 209 (rfl) rfl
theorem zg_1170 : (Jvm.Cond.instanceMethod ({ cls := "DayOpeners$Notes", name := "byHowMany", desc := "()I" } : Jvm.MethodName)) ∈ zG := zgm5 210 (rfl) rfl
theorem zg_1171 : (Jvm.Cond.selects "DayOpeners$Notes" ({ cls := "DayOpeners$Notes", name := "byHowMany", desc := "()I" } : Jvm.MethodName) ({ cls := "DayOpeners$Notes", name := "byHowMany", desc := "()I" } : Jvm.MethodName)) ∈ zG := zgm5 211 (rfl) rfl
theorem zg_1172 : (Jvm.Cond.code ({ cls := "DayOpeners$Notes", name := "byHowMany", desc := "()I" } : Jvm.MethodName) prog_4_method_4_code (1 : Nat) (Option.some Jvm.ClassFile.FieldType.int)) ∈ zG := zgm5 212 (rfl) rfl
theorem zg_1173 : (Jvm.Cond.methodLink "DayOpeners$Notes" (53 : Nat) ({ cls := "DayOpeners$Row", name := "get", desc := "(I)I" } : Jvm.MethodName)) ∈ zG := zgm5 213 (rfl) rfl
theorem zg_1174 : (Jvm.Cond.methodLink "DayOpeners" (333 : Nat) ({ cls := "DayOpeners$Notes", name := "longest", desc := "()I" } : Jvm.MethodName)) ∈ zG := zgm5 214 (rfl) rfl
theorem zg_1175 : (Jvm.Cond.instanceMethod ({ cls := "DayOpeners$Notes", name := "longest", desc := "()I" } : Jvm.MethodName)) ∈ zG := zgm5 215 (rfl) rfl
theorem zg_1176 : (Jvm.Cond.selects "DayOpeners$Notes" ({ cls := "DayOpeners$Notes", name := "longest", desc := "()I" } : Jvm.MethodName) ({ cls := "DayOpeners$Notes", name := "longest", desc := "()I" } : Jvm.MethodName)) ∈ zG := zgm5 216 (rfl) rfl
theorem zg_1177 : (Jvm.Cond.code ({ cls := "DayOpeners$Notes", name := "longest", desc := "()I" } : Jvm.MethodName) prog_4_method_7_code (3 : Nat) (Option.some Jvm.ClassFile.FieldType.int)) ∈ zG := zgm5 217 (rfl) rfl
theorem zg_1178 : (Jvm.Cond.methodLink "DayOpeners$Notes" (57 : Nat) ({ cls := "DayOpeners$Notes", name := "tells", desc := "(I)Z" } : Jvm.MethodName)) ∈ zG := zgm5 218 (rfl) rfl
theorem zg_1180 : (Jvm.Cond.instanceMethod ({ cls := "DayOpeners$Notes", name := "tells", desc := "(I)Z" } : Jvm.MethodName)) ∈ zG := zgm5 220 (rfl) rfl
theorem zg_1181 : (Jvm.Cond.code ({ cls := "DayOpeners$Notes", name := "tells", desc := "(I)Z" } : Jvm.MethodName) prog_4_method_6_code (2 : Nat) (Option.some Jvm.ClassFile.FieldType.boolean)) ∈ zG := zgm5 221 (rfl) rfl
theorem zg_1182 : (Jvm.Cond.methodLink "DayOpeners$Notes" (61 : Nat) ({ cls := "java/lang/Math", name := "max", desc := "(II)I" } : Jvm.MethodName)) ∈ zG := zgm5 222 (rfl) rfl
theorem zg_1183 : (Jvm.Cond.methodLink "DayOpeners" (337 : Nat) ({ cls := "DayOpeners$Notes", name := "sees", desc := "(III)V" } : Jvm.MethodName)) ∈ zG := zgm5 223 (rfl) rfl
theorem zg_1184 : (Jvm.Cond.instanceMethod ({ cls := "DayOpeners$Notes", name := "sees", desc := "(III)V" } : Jvm.MethodName)) ∈ zG := zgm5 224 (rfl) rfl
theorem zg_1185 : (Jvm.Cond.selects "DayOpeners$Notes" ({ cls := "DayOpeners$Notes", name := "sees", desc := "(III)V" } : Jvm.MethodName) ({ cls := "DayOpeners$Notes", name := "sees", desc := "(III)V" } : Jvm.MethodName)) ∈ zG := zgm5 225 (rfl) rfl
theorem zg_1186 : (Jvm.Cond.code ({ cls := "DayOpeners$Notes", name := "sees", desc := "(III)V" } : Jvm.MethodName) prog_4_method_8_code (4 : Nat) (Option.none : Option Jvm.ClassFile.FieldType)) ∈ zG := zgm5 226 (rfl) rfl
theorem zg_1187 : (Jvm.Cond.methodLink "DayOpeners" (317 : Nat) ({ cls := "DayOpeners$Notes", name := "fitting", desc := "()I" } : Jvm.MethodName)) ∈ zG := zgm5 227 (rfl) rfl
theorem zg_1188 : (Jvm.Cond.instanceMethod ({ cls := "DayOpeners$Notes", name := "fitting", desc := "()I" } : Jvm.MethodName)) ∈ zG := zgm5 228 (rfl) rfl
theorem zg_1189 : (Jvm.Cond.selects "DayOpeners$Notes" ({ cls := "DayOpeners$Notes", name := "fitting", desc := "()I" } : Jvm.MethodName) ({ cls := "DayOpeners$Notes", name := "fitting", desc := "()I" } : Jvm.MethodName)) ∈ zG := zgm5 229 (rfl) rfl
theorem zg_1190 : (Jvm.Cond.code ({ cls := "DayOpeners$Notes", name := "fitting", desc := "()I" } : Jvm.MethodName) prog_4_method_11_code (4 : Nat) (Option.some Jvm.ClassFile.FieldType.int)) ∈ zG := zgm5 230 (rfl) rfl
theorem zg_1191 : (Jvm.Cond.constant "DayOpeners$Notes" (70 : Nat) (16777215 : Int32)) ∈ zG := zgm5 231 (rfl) rfl
theorem zg_1192 : (Jvm.Cond.methodLink "DayOpeners$Notes" (71 : Nat) ({ cls := "DayOpeners$Notes", name := "fits", desc := "(II)Z" } : Jvm.MethodName)) ∈ zG := zgm5 232 (rfl) rfl
theorem zg_1194 : (Jvm.Cond.instanceMethod ({ cls := "DayOpeners$Notes", name := "fits", desc := "(II)Z" } : Jvm.MethodName)) ∈ zG := zgm5 234 (rfl) rfl
theorem zg_1195 : (Jvm.Cond.code ({ cls := "DayOpeners$Notes", name := "fits", desc := "(II)Z" } : Jvm.MethodName) prog_4_method_10_code (4 : Nat) (Option.some Jvm.ClassFile.FieldType.boolean)) ∈ zG := zgm5 235 (rfl) rfl
theorem zg_1196 : (Jvm.Cond.methodLink "DayOpeners$Notes" (67 : Nat) ({ cls := "DayOpeners$Notes", name := "lastBehind", desc := "(II)I" } : Jvm.MethodName)) ∈ zG := zgm5 236 (rfl) rfl
theorem zg_1198 : (Jvm.Cond.instanceMethod ({ cls := "DayOpeners$Notes", name := "lastBehind", desc := "(II)I" } : Jvm.MethodName)) ∈ zG := zgm5 238 (rfl) rfl
theorem zg_1199 : (Jvm.Cond.code ({ cls := "DayOpeners$Notes", name := "lastBehind", desc := "(II)I" } : Jvm.MethodName) prog_4_method_9_code (3 : Nat) (Option.some Jvm.ClassFile.FieldType.int)) ∈ zG := zgm5 239 (rfl) rfl
theorem zg_1200 : (Jvm.Cond.methodLink "DayOpenersLaw" (170 : Nat) ({ cls := "DayOpeners", name := "ask", desc := "(II)I" } : Jvm.MethodName)) ∈ zG := zgm6 0 (rfl) rfl
theorem zg_1201 : (Jvm.Cond.instanceMethod ({ cls := "DayOpeners", name := "ask", desc := "(II)I" } : Jvm.MethodName)) ∈ zG := zgm6 1 (rfl) rfl
theorem zg_1202 : (Jvm.Cond.selects "DayOpeners" ({ cls := "DayOpeners", name := "ask", desc := "(II)I" } : Jvm.MethodName) ({ cls := "DayOpeners", name := "ask", desc := "(II)I" } : Jvm.MethodName)) ∈ zG := zgm6 2 (rfl) rfl
theorem zg_1203 : (Jvm.Cond.code ({ cls := "DayOpeners", name := "ask", desc := "(II)I" } : Jvm.MethodName) prog_1_method_41_code (3 : Nat) (Option.some Jvm.ClassFile.FieldType.int)) ∈ zG := zgm6 3 (rfl) rfl
theorem zg_1204 : (Jvm.Cond.methodLink "DayOpeners" (321 : Nat) ({ cls := "DayOpeners$Notes", name := "seekQuestion", desc := "(I)V" } : Jvm.MethodName)) ∈ zG := zgm6 4 (rfl) rfl
theorem zg_1205 : (Jvm.Cond.instanceMethod ({ cls := "DayOpeners$Notes", name := "seekQuestion", desc := "(I)V" } : Jvm.MethodName)) ∈ zG := zgm6 5 (rfl) rfl
theorem zg_1206 : (Jvm.Cond.selects "DayOpeners$Notes" ({ cls := "DayOpeners$Notes", name := "seekQuestion", desc := "(I)V" } : Jvm.MethodName) ({ cls := "DayOpeners$Notes", name := "seekQuestion", desc := "(I)V" } : Jvm.MethodName)) ∈ zG := zgm6 6 (rfl) rfl
theorem zg_1207 : (Jvm.Cond.code ({ cls := "DayOpeners$Notes", name := "seekQuestion", desc := "(I)V" } : Jvm.MethodName) prog_4_method_12_code (4 : Nat) (Option.none : Option Jvm.ClassFile.FieldType)) ∈ zG := zgm6 7 (rfl) rfl
theorem zg_1208 : (Jvm.Cond.methodLink "DayOpeners$Notes" (78 : Nat) ({ cls := "DayOpeners$Notes", name := "worstOf", desc := "(II)I" } : Jvm.MethodName)) ∈ zG := zgm6 8 (rfl) rfl
theorem zg_1210 : (Jvm.Cond.instanceMethod ({ cls := "DayOpeners$Notes", name := "worstOf", desc := "(II)I" } : Jvm.MethodName)) ∈ zG := zgm6 10 (rfl) rfl
theorem zg_1211 : (Jvm.Cond.code ({ cls := "DayOpeners$Notes", name := "worstOf", desc := "(II)I" } : Jvm.MethodName) prog_4_method_13_code (6 : Nat) (Option.some Jvm.ClassFile.FieldType.int)) ∈ zG := zgm6 11 (rfl) rfl
theorem zg_1212 : (Jvm.Cond.methodLink "DayOpenersLaw" (174 : Nat) ({ cls := "DayOpeners", name := "chance", desc := "(III)I" } : Jvm.MethodName)) ∈ zG := zgm6 12 (rfl) rfl
theorem zg_1213 : (Jvm.Cond.instanceMethod ({ cls := "DayOpeners", name := "chance", desc := "(III)I" } : Jvm.MethodName)) ∈ zG := zgm6 13 (rfl) rfl
theorem zg_1214 : (Jvm.Cond.selects "DayOpeners" ({ cls := "DayOpeners", name := "chance", desc := "(III)I" } : Jvm.MethodName) ({ cls := "DayOpeners", name := "chance", desc := "(III)I" } : Jvm.MethodName)) ∈ zG := zgm6 14 (rfl) rfl
theorem zg_1215 : (Jvm.Cond.code ({ cls := "DayOpeners", name := "chance", desc := "(III)I" } : Jvm.MethodName) prog_1_method_43_code (7 : Nat) (Option.some Jvm.ClassFile.FieldType.int)) ∈ zG := zgm6 15 (rfl) rfl
theorem zg_1216 : (Jvm.Cond.methodLink "DayOpenersLaw" (178 : Nat) ({ cls := "DayOpeners", name := "tried", desc := "(III)I" } : Jvm.MethodName)) ∈ zG := zgm6 16 (rfl) rfl
theorem zg_1217 : (Jvm.Cond.instanceMethod ({ cls := "DayOpeners", name := "tried", desc := "(III)I" } : Jvm.MethodName)) ∈ zG := zgm6 17 (rfl) rfl
theorem zg_1218 : (Jvm.Cond.selects "DayOpeners" ({ cls := "DayOpeners", name := "tried", desc := "(III)I" } : Jvm.MethodName) ({ cls := "DayOpeners", name := "tried", desc := "(III)I" } : Jvm.MethodName)) ∈ zG := zgm6 18 (rfl) rfl
theorem zg_1219 : (Jvm.Cond.code ({ cls := "DayOpeners", name := "tried", desc := "(III)I" } : Jvm.MethodName) prog_1_method_44_code (5 : Nat) (Option.some Jvm.ClassFile.FieldType.int)) ∈ zG := zgm6 19 (rfl) rfl
theorem zg_1220 : (Jvm.Cond.methodLink "DayOpeners" (344 : Nat) ({ cls := "DayOpeners$Course", name := "differs", desc := "(II)V" } : Jvm.MethodName)) ∈ zG := zgm6 20 (rfl) rfl
theorem zg_1221 : (Jvm.Cond.instanceMethod ({ cls := "DayOpeners$Course", name := "differs", desc := "(II)V" } : Jvm.MethodName)) ∈ zG := zgm6 21 (rfl) rfl
theorem zg_1222 : (Jvm.Cond.selects "DayOpeners$Course" ({ cls := "DayOpeners$Course", name := "differs", desc := "(II)V" } : Jvm.MethodName) ({ cls := "DayOpeners$Course", name := "differs", desc := "(II)V" } : Jvm.MethodName)) ∈ zG := zgm6 22 (rfl) rfl
theorem zg_1223 : (Jvm.Cond.code ({ cls := "DayOpeners$Course", name := "differs", desc := "(II)V" } : Jvm.MethodName) prog_2_method_3_code (3 : Nat) (Option.none : Option Jvm.ClassFile.FieldType)) ∈ zG := zgm6 23 (rfl) rfl
theorem zg_1224 : (Jvm.Cond.methodLink "DayOpeners$Course" (47 : Nat) ({ cls := "DayOpeners$Row", name := "fill", desc := "(I)V" } : Jvm.MethodName)) ∈ zG := zgm6 24 (rfl) rfl
theorem zg_1225 : (Jvm.Cond.methodLink "DayOpenersLaw" (182 : Nat) ({ cls := "DayOpeners", name := "undo", desc := "()I" } : Jvm.MethodName)) ∈ zG := zgm6 25 (rfl) rfl
theorem zg_1226 : (Jvm.Cond.instanceMethod ({ cls := "DayOpeners", name := "undo", desc := "()I" } : Jvm.MethodName)) ∈ zG := zgm6 26 (rfl) rfl
theorem zg_1227 : (Jvm.Cond.selects "DayOpeners" ({ cls := "DayOpeners", name := "undo", desc := "()I" } : Jvm.MethodName) ({ cls := "DayOpeners", name := "undo", desc := "()I" } : Jvm.MethodName)) ∈ zG := zgm6 27 (rfl) rfl
theorem zg_1228 : (Jvm.Cond.code ({ cls := "DayOpeners", name := "undo", desc := "()I" } : Jvm.MethodName) prog_1_method_45_code (1 : Nat) (Option.some Jvm.ClassFile.FieldType.int)) ∈ zG := zgm6 28 (rfl) rfl
theorem zg_1229 : (Jvm.Cond.methodLink "DayOpeners" (347 : Nat) ({ cls := "DayOpeners$Steps", name := "takeBack", desc := "(LDayOpeners$State;)I" } : Jvm.MethodName)) ∈ zG := zgm6 29 (rfl) rfl
theorem zg_1230 : (Jvm.Cond.instanceMethod ({ cls := "DayOpeners$Steps", name := "takeBack", desc := "(LDayOpeners$State;)I" } : Jvm.MethodName)) ∈ zG := zgm6 30 (rfl) rfl
theorem zg_1231 : (Jvm.Cond.selects "DayOpeners$Steps" ({ cls := "DayOpeners$Steps", name := "takeBack", desc := "(LDayOpeners$State;)I" } : Jvm.MethodName) ({ cls := "DayOpeners$Steps", name := "takeBack", desc := "(LDayOpeners$State;)I" } : Jvm.MethodName)) ∈ zG := zgm6 31 (rfl) rfl
theorem zg_1232 : (Jvm.Cond.code ({ cls := "DayOpeners$Steps", name := "takeBack", desc := "(LDayOpeners$State;)I" } : Jvm.MethodName) prog_10_method_4_code (3 : Nat) (Option.some Jvm.ClassFile.FieldType.int)) ∈ zG := zgm6 32 (rfl) rfl
theorem zg_1233 : (Jvm.Cond.methodLink "DayOpenersLaw" (186 : Nat) ({ cls := "DayOpeners", name := "keep", desc := "()I" } : Jvm.MethodName)) ∈ zG := zgm6 33 (rfl) rfl
theorem zg_1234 : (Jvm.Cond.instanceMethod ({ cls := "DayOpeners", name := "keep", desc := "()I" } : Jvm.MethodName)) ∈ zG := zgm6 34 (rfl) rfl
theorem zg_1235 : (Jvm.Cond.selects "DayOpeners" ({ cls := "DayOpeners", name := "keep", desc := "()I" } : Jvm.MethodName) ({ cls := "DayOpeners", name := "keep", desc := "()I" } : Jvm.MethodName)) ∈ zG := zgm6 35 (rfl) rfl
theorem zg_1236 : (Jvm.Cond.code ({ cls := "DayOpeners", name := "keep", desc := "()I" } : Jvm.MethodName) prog_1_method_46_code (1 : Nat) (Option.some Jvm.ClassFile.FieldType.int)) ∈ zG := zgm6 36 (rfl) rfl
theorem zg_1237 : (Jvm.Cond.methodLink "DayOpenersLaw" (190 : Nat) ({ cls := "DayOpeners", name := "back", desc := "()I" } : Jvm.MethodName)) ∈ zG := zgm6 37 (rfl) rfl
theorem zg_1238 : (Jvm.Cond.instanceMethod ({ cls := "DayOpeners", name := "back", desc := "()I" } : Jvm.MethodName)) ∈ zG := zgm6 38 (rfl) rfl
theorem zg_1239 : (Jvm.Cond.selects "DayOpeners" ({ cls := "DayOpeners", name := "back", desc := "()I" } : Jvm.MethodName) ({ cls := "DayOpeners", name := "back", desc := "()I" } : Jvm.MethodName)) ∈ zG := zgm6 39 (rfl) rfl
theorem zg_1240 : (Jvm.Cond.code ({ cls := "DayOpeners", name := "back", desc := "()I" } : Jvm.MethodName) prog_1_method_47_code (1 : Nat) (Option.some Jvm.ClassFile.FieldType.int)) ∈ zG := zgm6 40 (rfl) rfl
theorem zg_1241 : (Jvm.Cond.methodLink "DayOpenersLaw" (194 : Nat) ({ cls := "DayOpeners", name := "count", desc := "(I)I" } : Jvm.MethodName)) ∈ zG := zgm6 41 (rfl) rfl
theorem zg_1242 : (Jvm.Cond.instanceMethod ({ cls := "DayOpeners", name := "count", desc := "(I)I" } : Jvm.MethodName)) ∈ zG := zgm6 42 (rfl) rfl
theorem zg_1243 : (Jvm.Cond.selects "DayOpeners" ({ cls := "DayOpeners", name := "count", desc := "(I)I" } : Jvm.MethodName) ({ cls := "DayOpeners", name := "count", desc := "(I)I" } : Jvm.MethodName)) ∈ zG := zgm6 43 (rfl) rfl
theorem zg_1244 : (Jvm.Cond.code ({ cls := "DayOpeners", name := "count", desc := "(I)I" } : Jvm.MethodName) prog_1_method_48_code (2 : Nat) (Option.some Jvm.ClassFile.FieldType.int)) ∈ zG := zgm6 44 (rfl) rfl
theorem zg_1245 : (Jvm.Cond.methodLink "DayOpeners" (366 : Nat) ({ cls := "DayOpeners$Row", name := "sum", desc := "()I" } : Jvm.MethodName)) ∈ zG := zgm6 45 (rfl) rfl
theorem zg_1246 : (Jvm.Cond.instanceMethod ({ cls := "DayOpeners$Row", name := "sum", desc := "()I" } : Jvm.MethodName)) ∈ zG := zgm6 46 (rfl) rfl
theorem zg_1247 : (Jvm.Cond.selects "DayOpeners$Row" ({ cls := "DayOpeners$Row", name := "sum", desc := "()I" } : Jvm.MethodName) ({ cls := "DayOpeners$Row", name := "sum", desc := "()I" } : Jvm.MethodName)) ∈ zG := zgm6 47 (rfl) rfl
theorem zg_1248 : (Jvm.Cond.code ({ cls := "DayOpeners$Row", name := "sum", desc := "()I" } : Jvm.MethodName) prog_7_method_6_code (3 : Nat) (Option.some Jvm.ClassFile.FieldType.int)) ∈ zG := zgm6 48 (rfl) rfl
theorem zg_1249 : (Jvm.Cond.methodLink "DayOpeners" (369 : Nat) ({ cls := "DayOpeners$Notes", name := "byHowMany", desc := "()I" } : Jvm.MethodName)) ∈ zG := zgm6 49 (rfl) rfl
theorem zg_1250 : (Jvm.Cond.methodLink "DayOpenersLaw" (39 : Nat) ({ cls := "DayOpenersLaw", name := "trade", desc := "(LDayOpeners;II[J)I" } : Jvm.MethodName)) ∈ zG := zgm6 50 (rfl) rfl
theorem zg_1251 : (Jvm.Cond.static ({ cls := "DayOpenersLaw", name := "trade", desc := "(LDayOpeners;II[J)I" } : Jvm.MethodName)) ∈ zG := zgm6 51 (rfl) rfl
theorem zg_1253 : (Jvm.Cond.classLink "DayOpenersLaw" (13 : Nat) "java/lang/IndexOutOfBoundsException") ∈ zG := zgm6 53 (rfl) rfl
theorem zg_1254 : (Jvm.Cond.classLink "DayOpenersLaw" (15 : Nat) "java/util/NoSuchElementException") ∈ zG := zgm6 54 (rfl) rfl
theorem zg_1255 : (Jvm.Cond.methodLink "DayOpenersLaw" (7 : Nat) ({ cls := "DayOpeners", name := "trade", desc := "(II)I" } : Jvm.MethodName)) ∈ zG := zgm6 55 (rfl) rfl
theorem zg_1256 : (Jvm.Cond.instanceMethod ({ cls := "DayOpeners", name := "trade", desc := "(II)I" } : Jvm.MethodName)) ∈ zG := zgm6 56 (rfl) rfl
theorem zg_1257 : (Jvm.Cond.selects "DayOpeners" ({ cls := "DayOpeners", name := "trade", desc := "(II)I" } : Jvm.MethodName) ({ cls := "DayOpeners", name := "trade", desc := "(II)I" } : Jvm.MethodName)) ∈ zG := zgm6 57 (rfl) rfl
theorem zg_1258 : (Jvm.Cond.code ({ cls := "DayOpeners", name := "trade", desc := "(II)I" } : Jvm.MethodName) prog_1_method_7_code (3 : Nat) (Option.some Jvm.ClassFile.FieldType.int)) ∈ zG := zgm6 58 (rfl) rfl
theorem zg_1259 : (Jvm.Cond.classLink "DayOpeners" (130 : Nat) "java/lang/IndexOutOfBoundsException") ∈ zG := zgm6 59 (rfl) rfl
theorem zg_1260 : (Jvm.Cond.instantiable "java/lang/IndexOutOfBoundsException" (6 : Nat)) ∈ zG := zgm6 60 (rfl) rfl
theorem zg_1268 : (Jvm.Cond.selects "java/lang/IndexOutOfBoundsException" ({ cls := "java/lang/Throwable", name := "fillInStackTrace", desc := "(I)Ljava/lang/Throwable;" } : Jvm.MethodName) ({ cls := "java/lang/Throwable", name := "fillInStackTrace", desc := "(I)Ljava/lang/Throwable;" } : Jvm.MethodName)) ∈ zG := zgm6 68 (rfl) rfl
theorem zg_1269 : (Jvm.Cond.selects "java/lang/IndexOutOfBoundsException" ({ cls := "java/lang/Throwable", name := "fillInStackTrace", desc := "()Ljava/lang/Throwable;" } : Jvm.MethodName) ({ cls := "java/lang/Throwable", name := "fillInStackTrace", desc := "()Ljava/lang/Throwable;" } : Jvm.MethodName)) ∈ zG := zgm6 69 (rfl) rfl
theorem zg_1282 : (Jvm.Cond.instanceMethod ({ cls := "java/lang/Throwable", name := "<init>", desc := "()V" } : Jvm.MethodName)) ∈ zG := zgm6 82 (rfl) rfl
theorem zg_1283 : (Jvm.Cond.code ({ cls := "java/lang/Throwable", name := "<init>", desc := "()V" } : Jvm.MethodName) prog_26_method_1_code (1 : Nat) (Option.none : Option Jvm.ClassFile.FieldType)) ∈ zG := zgm6 83 (rfl) rfl
theorem zg_1290 : (Jvm.Cond.instanceMethod ({ cls := "java/lang/Throwable", name := "fillInStackTrace", desc := "()Ljava/lang/Throwable;" } : Jvm.MethodName)) ∈ zG := zgm6 90 (rfl) rfl
theorem zg_1292 : (Jvm.Cond.selects "java/util/NoSuchElementException" ({ cls := "java/lang/Throwable", name := "fillInStackTrace", desc := "()Ljava/lang/Throwable;" } : Jvm.MethodName) ({ cls := "java/lang/Throwable", name := "fillInStackTrace", desc := "()Ljava/lang/Throwable;" } : Jvm.MethodName)) ∈ zG := zgm6 92 (rfl) rfl
theorem zg_1296 : (Jvm.Cond.instanceMethod ({ cls := "java/lang/Throwable", name := "fillInStackTrace", desc := "(I)Ljava/lang/Throwable;" } : Jvm.MethodName)) ∈ zG := zgm6 96 (rfl) rfl
theorem zg_1297 : (Jvm.Cond.instantiable "java/lang/Throwable" (6 : Nat)) ∈ zG := zgm6 97 (rfl) rfl
theorem zg_1298 : (Jvm.Cond.native ({ cls := "java/lang/Throwable", name := "fillInStackTrace", desc := "(I)Ljava/lang/Throwable;" } : Jvm.MethodName)) ∈ zG := zgm6 98 (rfl) rfl
theorem zg_1299 : (Jvm.Cond.methodLink "DayOpeners" (132 : Nat) ({ cls := "java/lang/IndexOutOfBoundsException", name := "<init>", desc := "()V" } : Jvm.MethodName)) ∈ zG := zgm6 99 (rfl) rfl
theorem zg_1300 : (Jvm.Cond.instanceMethod ({ cls := "java/lang/IndexOutOfBoundsException", name := "<init>", desc := "()V" } : Jvm.MethodName)) ∈ zG := zgm6 100 (rfl) rfl
theorem zg_1301 : (Jvm.Cond.code ({ cls := "java/lang/IndexOutOfBoundsException", name := "<init>", desc := "()V" } : Jvm.MethodName) prog_19_method_1_code (1 : Nat) (Option.none : Option Jvm.ClassFile.FieldType)) ∈ zG := zgm6 101 (rfl) rfl
theorem zg_1303 : (Jvm.Cond.instanceMethod ({ cls := "java/lang/RuntimeException", name := "<init>", desc := "()V" } : Jvm.MethodName)) ∈ zG := zgm6 103 (rfl) rfl
theorem zg_1304 : (Jvm.Cond.code ({ cls := "java/lang/RuntimeException", name := "<init>", desc := "()V" } : Jvm.MethodName) prog_21_method_1_code (1 : Nat) (Option.none : Option Jvm.ClassFile.FieldType)) ∈ zG := zgm6 104 (rfl) rfl
theorem zg_1306 : (Jvm.Cond.instanceMethod ({ cls := "java/lang/Exception", name := "<init>", desc := "()V" } : Jvm.MethodName)) ∈ zG := zgm6 106 (rfl) rfl
theorem zg_1307 : (Jvm.Cond.code ({ cls := "java/lang/Exception", name := "<init>", desc := "()V" } : Jvm.MethodName) prog_18_method_1_code (1 : Nat) (Option.none : Option Jvm.ClassFile.FieldType)) ∈ zG := zgm6 107 (rfl) rfl
theorem zg_1321 : (Jvm.Cond.classLink "DayOpeners" (151 : Nat) "java/util/NoSuchElementException") ∈ zG := zgm6 121 (rfl) rfl
theorem zg_1322 : (Jvm.Cond.instantiable "java/util/NoSuchElementException" (6 : Nat)) ∈ zG := zgm6 122 (rfl) rfl
theorem zg_1324 : (Jvm.Cond.selects "java/util/NoSuchElementException" ({ cls := "java/lang/Throwable", name := "fillInStackTrace", desc := "(I)Ljava/lang/Throwable;" } : Jvm.MethodName) ({ cls := "java/lang/Throwable", name := "fillInStackTrace", desc := "(I)Ljava/lang/Throwable;" } : Jvm.MethodName)) ∈ zG := zgm6 124 (rfl) rfl
theorem zg_1330 : (Jvm.Cond.methodLink "DayOpeners" (153 : Nat) ({ cls := "java/util/NoSuchElementException", name := "<init>", desc := "()V" } : Jvm.MethodName)) ∈ zG := zgm6 130 (rfl) rfl
theorem zg_1331 : (Jvm.Cond.instanceMethod ({ cls := "java/util/NoSuchElementException", name := "<init>", desc := "()V" } : Jvm.MethodName)) ∈ zG := zgm6 131 (rfl) rfl
theorem zg_1332 : (Jvm.Cond.code ({ cls := "java/util/NoSuchElementException", name := "<init>", desc := "()V" } : Jvm.MethodName) prog_29_method_1_code (1 : Nat) (Option.none : Option Jvm.ClassFile.FieldType)) ∈ zG := zgm6 132 (rfl) rfl
theorem zg_1336 : (Jvm.Cond.classLink "DayOpenersLaw" (18 : Nat) "DayOpenersModel") ∈ zG := zgm6 136 (rfl) rfl
theorem zg_1337 : (Jvm.Cond.instantiable "DayOpenersModel" (66 : Nat)) ∈ zG := zgm6 137 (rfl) rfl
theorem zg_1338 : (Jvm.Cond.methodLink "DayOpenersLaw" (20 : Nat) ({ cls := "DayOpenersModel", name := "<init>", desc := "()V" } : Jvm.MethodName)) ∈ zG := zgm6 138 (rfl) rfl
theorem zg_1339 : (Jvm.Cond.instanceMethod ({ cls := "DayOpenersModel", name := "<init>", desc := "()V" } : Jvm.MethodName)) ∈ zG := zgm6 139 (rfl) rfl
theorem zg_1340 : (Jvm.Cond.code ({ cls := "DayOpenersModel", name := "<init>", desc := "()V" } : Jvm.MethodName) prog_14_method_1_code (1 : Nat) (Option.none : Option Jvm.ClassFile.FieldType)) ∈ zG := zgm6 140 (rfl) rfl
theorem zg_1341 : (Jvm.Cond.methodLink "DayOpenersModel" (1 : Nat) ({ cls := "java/lang/Object", name := "<init>", desc := "()V" } : Jvm.MethodName)) ∈ zG := zgm6 141 (rfl) rfl
theorem zg_1342 : (Jvm.Cond.methodLink "DayOpenersModel" (148 : Nat) ({ cls := "DayOpenersModel", name := "begins", desc := "()V" } : Jvm.MethodName)) ∈ zG := zgm6 142 (rfl) rfl
theorem zg_1344 : (Jvm.Cond.instanceMethod ({ cls := "DayOpenersModel", name := "begins", desc := "()V" } : Jvm.MethodName)) ∈ zG := zgm6 144 (rfl) rfl
theorem zg_1345 : (Jvm.Cond.code ({ cls := "DayOpenersModel", name := "begins", desc := "()V" } : Jvm.MethodName) prog_14_method_42_code (2 : Nat) (Option.none : Option Jvm.ClassFile.FieldType)) ∈ zG := zgm6 145 (rfl) rfl
theorem zg_1346 : (Jvm.Cond.methodLink "DayOpenersModel" (334 : Nat) ({ cls := "DayOpenersModel", name := "starts", desc := "(I)V" } : Jvm.MethodName)) ∈ zG := zgm6 146 (rfl) rfl
theorem zg_1348 : (Jvm.Cond.instanceMethod ({ cls := "DayOpenersModel", name := "starts", desc := "(I)V" } : Jvm.MethodName)) ∈ zG := zgm6 148 (rfl) rfl
theorem zg_1349 : (Jvm.Cond.code ({ cls := "DayOpenersModel", name := "starts", desc := "(I)V" } : Jvm.MethodName) prog_14_method_41_code (3 : Nat) (Option.none : Option Jvm.ClassFile.FieldType)) ∈ zG := zgm6 149 (rfl) rfl
theorem zg_1350 : (Jvm.Cond.fieldLink "DayOpenersModel" (151 : Nat) "DayOpenersModel" "thrown" "I") ∈ zG := zgm6 150 (rfl) rfl
theorem zg_1351 : (Jvm.Cond.fieldLink "DayOpenersModel" (7 : Nat) "DayOpenersModel" "tape" "[I") ∈ zG := zgm6 151 (rfl) rfl
theorem zg_1352 : (Jvm.Cond.fieldLink "DayOpenersModel" (154 : Nat) "DayOpenersModel" "taped" "I") ∈ zG := zgm6 152 (rfl) rfl
theorem zg_1353 : (Jvm.Cond.fieldLink "DayOpenersModel" (13 : Nat) "DayOpenersModel" "number" "[I") ∈ zG := zgm6 153 (rfl) rfl
theorem zg_1354 : (Jvm.Cond.fieldLink "DayOpenersModel" (16 : Nat) "DayOpenersModel" "tradeName" "[I") ∈ zG := zgm6 154 (rfl) rfl
theorem zg_1355 : (Jvm.Cond.fieldLink "DayOpenersModel" (19 : Nat) "DayOpenersModel" "hourAs" "[I") ∈ zG := zgm6 155 (rfl) rfl
theorem zg_1356 : (Jvm.Cond.fieldLink "DayOpenersModel" (22 : Nat) "DayOpenersModel" "mannerOf" "[I") ∈ zG := zgm6 156 (rfl) rfl
theorem zg_1357 : (Jvm.Cond.fieldLink "DayOpenersModel" (25 : Nat) "DayOpenersModel" "listAs" "[I") ∈ zG := zgm6 157 (rfl) rfl
theorem zg_1358 : (Jvm.Cond.fieldLink "DayOpenersModel" (28 : Nat) "DayOpenersModel" "claimOf" "[I") ∈ zG := zgm6 158 (rfl) rfl
theorem zg_1359 : (Jvm.Cond.fieldLink "DayOpenersModel" (31 : Nat) "DayOpenersModel" "workName" "[I") ∈ zG := zgm6 159 (rfl) rfl
theorem zg_1360 : (Jvm.Cond.fieldLink "DayOpenersModel" (34 : Nat) "DayOpenersModel" "lowOf" "[I") ∈ zG := zgm6 160 (rfl) rfl
theorem zg_1361 : (Jvm.Cond.fieldLink "DayOpenersModel" (37 : Nat) "DayOpenersModel" "highOf" "[I") ∈ zG := zgm6 161 (rfl) rfl
theorem zg_1362 : (Jvm.Cond.fieldLink "DayOpenersModel" (40 : Nat) "DayOpenersModel" "needOf" "[I") ∈ zG := zgm6 162 (rfl) rfl
theorem zg_1363 : (Jvm.Cond.fieldLink "DayOpenersModel" (43 : Nat) "DayOpenersModel" "sumFrom" "[I") ∈ zG := zgm6 163 (rfl) rfl
theorem zg_1364 : (Jvm.Cond.fieldLink "DayOpenersModel" (46 : Nat) "DayOpenersModel" "sumTo" "[I") ∈ zG := zgm6 164 (rfl) rfl
theorem zg_1365 : (Jvm.Cond.fieldLink "DayOpenersModel" (49 : Nat) "DayOpenersModel" "knotSort" "[I") ∈ zG := zgm6 165 (rfl) rfl
theorem zg_1366 : (Jvm.Cond.fieldLink "DayOpenersModel" (52 : Nat) "DayOpenersModel" "knotValue" "[I") ∈ zG := zgm6 166 (rfl) rfl
theorem zg_1367 : (Jvm.Cond.fieldLink "DayOpenersModel" (231 : Nat) "DayOpenersModel" "told" "I") ∈ zG := zgm6 167 (rfl) rfl
theorem zg_1368 : (Jvm.Cond.fieldLink "DayOpenersModel" (258 : Nat) "DayOpenersModel" "lines" "I") ∈ zG := zgm6 168 (rfl) rfl
theorem zg_1369 : (Jvm.Cond.fieldLink "DayOpenersModel" (160 : Nat) "DayOpenersModel" "size" "I") ∈ zG := zgm6 169 (rfl) rfl
theorem zg_1370 : (Jvm.Cond.fieldLink "DayOpenersModel" (157 : Nat) "DayOpenersModel" "at" "I") ∈ zG := zgm6 170 (rfl) rfl
theorem zg_1371 : (Jvm.Cond.fieldLink "DayOpenersModel" (167 : Nat) "DayOpenersModel" "place" "I") ∈ zG := zgm6 171 (rfl) rfl
theorem zg_1372 : (Jvm.Cond.fieldLink "DayOpenersModel" (170 : Nat) "DayOpenersModel" "sort" "I") ∈ zG := zgm6 172 (rfl) rfl
theorem zg_1373 : (Jvm.Cond.fieldLink "DayOpenersModel" (180 : Nat) "DayOpenersModel" "value" "I") ∈ zG := zgm6 173 (rfl) rfl
theorem zg_1374 : (Jvm.Cond.fieldLink "DayOpenersModel" (205 : Nat) "DayOpenersModel" "fault" "I") ∈ zG := zgm6 174 (rfl) rfl
theorem zg_1375 : (Jvm.Cond.fieldLink "DayOpenersModel" (208 : Nat) "DayOpenersModel" "faultPlace" "I") ∈ zG := zgm6 175 (rfl) rfl
theorem zg_1376 : (Jvm.Cond.fieldLink "DayOpenersModel" (297 : Nat) "DayOpenersModel" "lastFault" "I") ∈ zG := zgm6 176 (rfl) rfl
theorem zg_1377 : (Jvm.Cond.fieldLink "DayOpenersModel" (55 : Nat) "DayOpenersModel" "lastPlace" "I") ∈ zG := zgm6 177 (rfl) rfl
theorem zg_1378 : (Jvm.Cond.fieldLink "DayOpenersModel" (291 : Nat) "DayOpenersModel" "open" "I") ∈ zG := zgm6 178 (rfl) rfl
theorem zg_1379 : (Jvm.Cond.fieldLink "DayOpenersModel" (264 : Nat) "DayOpenersModel" "counted" "I") ∈ zG := zgm6 179 (rfl) rfl
theorem zg_1380 : (Jvm.Cond.fieldLink "DayOpenersModel" (59 : Nat) "DayOpenersModel" "names" "[J") ∈ zG := zgm6 180 (rfl) rfl
theorem zg_1381 : (Jvm.Cond.fieldLink "DayOpenersModel" (63 : Nat) "DayOpenersModel" "worked" "[J") ∈ zG := zgm6 181 (rfl) rfl
theorem zg_1382 : (Jvm.Cond.fieldLink "DayOpenersModel" (314 : Nat) "DayOpenersModel" "workedMany" "I") ∈ zG := zgm6 182 (rfl) rfl
theorem zg_1383 : (Jvm.Cond.fieldLink "DayOpenersModel" (66 : Nat) "DayOpenersModel" "day" "[I") ∈ zG := zgm6 183 (rfl) rfl
theorem zg_1384 : (Jvm.Cond.fieldLink "DayOpenersModel" (69 : Nat) "DayOpenersModel" "drawn" "[I") ∈ zG := zgm6 184 (rfl) rfl
theorem zg_1385 : (Jvm.Cond.fieldLink "DayOpenersModel" (72 : Nat) "DayOpenersModel" "next" "[I") ∈ zG := zgm6 185 (rfl) rfl
theorem zg_1386 : (Jvm.Cond.fieldLink "DayOpenersModel" (75 : Nat) "DayOpenersModel" "appointed" "[I") ∈ zG := zgm6 186 (rfl) rfl
theorem zg_1387 : (Jvm.Cond.fieldLink "DayOpenersModel" (78 : Nat) "DayOpenersModel" "mistakes" "[I") ∈ zG := zgm6 187 (rfl) rfl
theorem zg_1388 : (Jvm.Cond.fieldLink "DayOpenersModel" (81 : Nat) "DayOpenersModel" "dark" "[I") ∈ zG := zgm6 188 (rfl) rfl
theorem zg_1389 : (Jvm.Cond.fieldLink "DayOpenersModel" (84 : Nat) "DayOpenersModel" "last" "[I") ∈ zG := zgm6 189 (rfl) rfl
theorem zg_1390 : (Jvm.Cond.fieldLink "DayOpenersModel" (87 : Nat) "DayOpenersModel" "openedBy" "[I") ∈ zG := zgm6 190 (rfl) rfl
theorem zg_1391 : (Jvm.Cond.fieldLink "DayOpenersModel" (90 : Nat) "DayOpenersModel" "knownOf" "[I") ∈ zG := zgm6 191 (rfl) rfl
theorem zg_1392 : (Jvm.Cond.fieldLink "DayOpenersModel" (93 : Nat) "DayOpenersModel" "openedOf" "[I") ∈ zG := zgm6 192 (rfl) rfl
theorem zg_1393 : (Jvm.Cond.fieldLink "DayOpenersModel" (96 : Nat) "DayOpenersModel" "listOf" "[I") ∈ zG := zgm6 193 (rfl) rfl
theorem zg_1394 : (Jvm.Cond.fieldLink "DayOpenersModel" (99 : Nat) "DayOpenersModel" "wentOn" "[I") ∈ zG := zgm6 194 (rfl) rfl
theorem zg_1395 : (Jvm.Cond.fieldLink "DayOpenersModel" (307 : Nat) "DayOpenersModel" "hasImage" "Z") ∈ zG := zgm6 195 (rfl) rfl
theorem zg_1396 : (Jvm.Cond.fieldLink "DayOpenersModel" (311 : Nat) "DayOpenersModel" "undoMany" "I") ∈ zG := zgm6 196 (rfl) rfl
theorem zg_1397 : (Jvm.Cond.fieldLink "DayOpenersModel" (341 : Nat) "DayOpenersModel" "tryWhat" "I") ∈ zG := zgm6 197 (rfl) rfl
theorem zg_1398 : (Jvm.Cond.fieldLink "DayOpenersModel" (102 : Nat) "DayOpenersModel" "tryTrade" "I") ∈ zG := zgm6 198 (rfl) rfl
theorem zg_1399 : (Jvm.Cond.fieldLink "DayOpenersModel" (105 : Nat) "DayOpenersModel" "hourOne" "I") ∈ zG := zgm6 199 (rfl) rfl
theorem zg_1400 : (Jvm.Cond.fieldLink "DayOpenersModel" (344 : Nat) "DayOpenersModel" "hourTried" "I") ∈ zG := zgm6 200 (rfl) rfl
theorem zg_1401 : (Jvm.Cond.fieldLink "DayOpenersModel" (108 : Nat) "DayOpenersModel" "lengthBy" "[I") ∈ zG := zgm6 201 (rfl) rfl
theorem zg_1402 : (Jvm.Cond.fieldLink "DayOpenersModel" (111 : Nat) "DayOpenersModel" "given" "[I") ∈ zG := zgm6 202 (rfl) rfl
theorem zg_1403 : (Jvm.Cond.fieldLink "DayOpenersModel" (114 : Nat) "DayOpenersModel" "rowNow" "[I") ∈ zG := zgm6 203 (rfl) rfl
theorem zg_1404 : (Jvm.Cond.fieldLink "DayOpenersModel" (117 : Nat) "DayOpenersModel" "rowBest" "[I") ∈ zG := zgm6 204 (rfl) rfl
theorem zg_1405 : (Jvm.Cond.fieldLink "DayOpenersModel" (446 : Nat) "DayOpenersModel" "rowDone" "I") ∈ zG := zgm6 205 (rfl) rfl
theorem zg_1406 : (Jvm.Cond.fieldLink "DayOpenersModel" (120 : Nat) "DayOpenersModel" "fairOf" "[I") ∈ zG := zgm6 206 (rfl) rfl
theorem zg_1407 : (Jvm.Cond.fieldLink "DayOpenersModel" (123 : Nat) "DayOpenersModel" "wantOf" "[I") ∈ zG := zgm6 207 (rfl) rfl
theorem zg_1408 : (Jvm.Cond.fieldLink "DayOpenersModel" (304 : Nat) "DayOpenersModel" "notes" "I") ∈ zG := zgm6 208 (rfl) rfl
theorem zg_1409 : (Jvm.Cond.fieldLink "DayOpenersModel" (126 : Nat) "DayOpenersModel" "knownBy" "I") ∈ zG := zgm6 209 (rfl) rfl
theorem zg_1410 : (Jvm.Cond.fieldLink "DayOpenersModel" (129 : Nat) "DayOpenersModel" "noteDays" "[I") ∈ zG := zgm6 210 (rfl) rfl
theorem zg_1411 : (Jvm.Cond.fieldLink "DayOpenersModel" (132 : Nat) "DayOpenersModel" "noteLength" "[I") ∈ zG := zgm6 211 (rfl) rfl
theorem zg_1412 : (Jvm.Cond.fieldLink "DayOpenersModel" (135 : Nat) "DayOpenersModel" "noteLeast" "[Z") ∈ zG := zgm6 212 (rfl) rfl
theorem zg_1413 : (Jvm.Cond.fieldLink "DayOpenersModel" (139 : Nat) "DayOpenersModel" "outs" "[I") ∈ zG := zgm6 213 (rfl) rfl
theorem zg_1414 : (Jvm.Cond.fieldLink "DayOpenersModel" (142 : Nat) "DayOpenersModel" "isOut" "[Z") ∈ zG := zgm6 214 (rfl) rfl
theorem zg_1415 : (Jvm.Cond.fieldLink "DayOpenersModel" (145 : Nat) "DayOpenersModel" "lastBy" "[I") ∈ zG := zgm6 215 (rfl) rfl
theorem zg_1416 : (Jvm.Cond.lays "DayOpenersModel" "DayOpenersModel" "thrown" "I") ∈ zG := zgm6 216 (rfl) rfl
theorem zg_1418 : (Jvm.Cond.laysFinal "DayOpenersModel" "DayOpenersModel" "tape" "[I") ∈ zG := zgm6 218 (rfl) rfl
theorem zg_1420 : (Jvm.Cond.lays "DayOpenersModel" "DayOpenersModel" "taped" "I") ∈ zG := zgm6 220 (rfl) rfl
theorem zg_1422 : (Jvm.Cond.laysFinal "DayOpenersModel" "DayOpenersModel" "number" "[I") ∈ zG := zgm6 222 (rfl) rfl
theorem zg_1424 : (Jvm.Cond.laysFinal "DayOpenersModel" "DayOpenersModel" "tradeName" "[I") ∈ zG := zgm6 224 (rfl) rfl
theorem zg_1426 : (Jvm.Cond.laysFinal "DayOpenersModel" "DayOpenersModel" "hourAs" "[I") ∈ zG := zgm6 226 (rfl) rfl
theorem zg_1428 : (Jvm.Cond.laysFinal "DayOpenersModel" "DayOpenersModel" "mannerOf" "[I") ∈ zG := zgm6 228 (rfl) rfl
theorem zg_1430 : (Jvm.Cond.laysFinal "DayOpenersModel" "DayOpenersModel" "listAs" "[I") ∈ zG := zgm6 230 (rfl) rfl
theorem zg_1432 : (Jvm.Cond.laysFinal "DayOpenersModel" "DayOpenersModel" "claimOf" "[I") ∈ zG := zgm6 232 (rfl) rfl
theorem zg_1434 : (Jvm.Cond.laysFinal "DayOpenersModel" "DayOpenersModel" "workName" "[I") ∈ zG := zgm6 234 (rfl) rfl
theorem zg_1436 : (Jvm.Cond.laysFinal "DayOpenersModel" "DayOpenersModel" "lowOf" "[I") ∈ zG := zgm6 236 (rfl) rfl
theorem zg_1438 : (Jvm.Cond.laysFinal "DayOpenersModel" "DayOpenersModel" "highOf" "[I") ∈ zG := zgm6 238 (rfl) rfl
theorem zg_1440 : (Jvm.Cond.laysFinal "DayOpenersModel" "DayOpenersModel" "needOf" "[I") ∈ zG := zgm7 0 (rfl) rfl
theorem zg_1442 : (Jvm.Cond.laysFinal "DayOpenersModel" "DayOpenersModel" "sumFrom" "[I") ∈ zG := zgm7 2 (rfl) rfl
theorem zg_1444 : (Jvm.Cond.laysFinal "DayOpenersModel" "DayOpenersModel" "sumTo" "[I") ∈ zG := zgm7 4 (rfl) rfl
theorem zg_1446 : (Jvm.Cond.laysFinal "DayOpenersModel" "DayOpenersModel" "knotSort" "[I") ∈ zG := zgm7 6 (rfl) rfl
theorem zg_1448 : (Jvm.Cond.laysFinal "DayOpenersModel" "DayOpenersModel" "knotValue" "[I") ∈ zG := zgm7 8 (rfl) rfl
theorem zg_1450 : (Jvm.Cond.lays "DayOpenersModel" "DayOpenersModel" "told" "I") ∈ zG := zgm7 10 (rfl) rfl
theorem zg_1452 : (Jvm.Cond.lays "DayOpenersModel" "DayOpenersModel" "lines" "I") ∈ zG := zgm7 12 (rfl) rfl
theorem zg_1454 : (Jvm.Cond.lays "DayOpenersModel" "DayOpenersModel" "size" "I") ∈ zG := zgm7 14 (rfl) rfl
theorem zg_1456 : (Jvm.Cond.lays "DayOpenersModel" "DayOpenersModel" "at" "I") ∈ zG := zgm7 16 (rfl) rfl
theorem zg_1458 : (Jvm.Cond.lays "DayOpenersModel" "DayOpenersModel" "place" "I") ∈ zG := zgm7 18 (rfl) rfl
theorem zg_1460 : (Jvm.Cond.lays "DayOpenersModel" "DayOpenersModel" "sort" "I") ∈ zG := zgm7 20 (rfl) rfl
theorem zg_1462 : (Jvm.Cond.lays "DayOpenersModel" "DayOpenersModel" "value" "I") ∈ zG := zgm7 22 (rfl) rfl
theorem zg_1464 : (Jvm.Cond.lays "DayOpenersModel" "DayOpenersModel" "fault" "I") ∈ zG := zgm7 24 (rfl) rfl
theorem zg_1466 : (Jvm.Cond.lays "DayOpenersModel" "DayOpenersModel" "faultPlace" "I") ∈ zG := zgm7 26 (rfl) rfl
theorem zg_1468 : (Jvm.Cond.lays "DayOpenersModel" "DayOpenersModel" "lastFault" "I") ∈ zG := zgm7 28 (rfl) rfl
theorem zg_1470 : (Jvm.Cond.lays "DayOpenersModel" "DayOpenersModel" "lastPlace" "I") ∈ zG := zgm7 30 (rfl) rfl
theorem zg_1472 : (Jvm.Cond.lays "DayOpenersModel" "DayOpenersModel" "open" "I") ∈ zG := zgm7 32 (rfl) rfl
theorem zg_1474 : (Jvm.Cond.lays "DayOpenersModel" "DayOpenersModel" "counted" "I") ∈ zG := zgm7 34 (rfl) rfl
theorem zg_1476 : (Jvm.Cond.laysFinal "DayOpenersModel" "DayOpenersModel" "names" "[J") ∈ zG := zgm7 36 (rfl) rfl
theorem zg_1478 : (Jvm.Cond.laysFinal "DayOpenersModel" "DayOpenersModel" "worked" "[J") ∈ zG := zgm7 38 (rfl) rfl
theorem zg_1480 : (Jvm.Cond.lays "DayOpenersModel" "DayOpenersModel" "workedMany" "I") ∈ zG := zgm7 40 (rfl) rfl
theorem zg_1482 : (Jvm.Cond.laysFinal "DayOpenersModel" "DayOpenersModel" "day" "[I") ∈ zG := zgm7 42 (rfl) rfl
theorem zg_1484 : (Jvm.Cond.laysFinal "DayOpenersModel" "DayOpenersModel" "drawn" "[I") ∈ zG := zgm7 44 (rfl) rfl
theorem zg_1486 : (Jvm.Cond.laysFinal "DayOpenersModel" "DayOpenersModel" "next" "[I") ∈ zG := zgm7 46 (rfl) rfl
theorem zg_1488 : (Jvm.Cond.laysFinal "DayOpenersModel" "DayOpenersModel" "appointed" "[I") ∈ zG := zgm7 48 (rfl) rfl
theorem zg_1490 : (Jvm.Cond.laysFinal "DayOpenersModel" "DayOpenersModel" "mistakes" "[I") ∈ zG := zgm7 50 (rfl) rfl
theorem zg_1492 : (Jvm.Cond.laysFinal "DayOpenersModel" "DayOpenersModel" "dark" "[I") ∈ zG := zgm7 52 (rfl) rfl
theorem zg_1494 : (Jvm.Cond.laysFinal "DayOpenersModel" "DayOpenersModel" "last" "[I") ∈ zG := zgm7 54 (rfl) rfl
theorem zg_1496 : (Jvm.Cond.laysFinal "DayOpenersModel" "DayOpenersModel" "openedBy" "[I") ∈ zG := zgm7 56 (rfl) rfl
theorem zg_1498 : (Jvm.Cond.laysFinal "DayOpenersModel" "DayOpenersModel" "knownOf" "[I") ∈ zG := zgm7 58 (rfl) rfl
theorem zg_1500 : (Jvm.Cond.laysFinal "DayOpenersModel" "DayOpenersModel" "openedOf" "[I") ∈ zG := zgm7 60 (rfl) rfl
theorem zg_1502 : (Jvm.Cond.laysFinal "DayOpenersModel" "DayOpenersModel" "listOf" "[I") ∈ zG := zgm7 62 (rfl) rfl
theorem zg_1504 : (Jvm.Cond.laysFinal "DayOpenersModel" "DayOpenersModel" "wentOn" "[I") ∈ zG := zgm7 64 (rfl) rfl
theorem zg_1506 : (Jvm.Cond.lays "DayOpenersModel" "DayOpenersModel" "hasImage" "Z") ∈ zG := zgm7 66 (rfl) rfl
theorem zg_1508 : (Jvm.Cond.lays "DayOpenersModel" "DayOpenersModel" "undoMany" "I") ∈ zG := zgm7 68 (rfl) rfl
theorem zg_1510 : (Jvm.Cond.lays "DayOpenersModel" "DayOpenersModel" "tryWhat" "I") ∈ zG := zgm7 70 (rfl) rfl
theorem zg_1512 : (Jvm.Cond.lays "DayOpenersModel" "DayOpenersModel" "tryTrade" "I") ∈ zG := zgm7 72 (rfl) rfl
theorem zg_1514 : (Jvm.Cond.lays "DayOpenersModel" "DayOpenersModel" "hourOne" "I") ∈ zG := zgm7 74 (rfl) rfl
theorem zg_1516 : (Jvm.Cond.lays "DayOpenersModel" "DayOpenersModel" "hourTried" "I") ∈ zG := zgm7 76 (rfl) rfl
theorem zg_1518 : (Jvm.Cond.laysFinal "DayOpenersModel" "DayOpenersModel" "lengthBy" "[I") ∈ zG := zgm7 78 (rfl) rfl
theorem zg_1520 : (Jvm.Cond.laysFinal "DayOpenersModel" "DayOpenersModel" "given" "[I") ∈ zG := zgm7 80 (rfl) rfl
theorem zg_1522 : (Jvm.Cond.laysFinal "DayOpenersModel" "DayOpenersModel" "rowNow" "[I") ∈ zG := zgm7 82 (rfl) rfl
theorem zg_1524 : (Jvm.Cond.laysFinal "DayOpenersModel" "DayOpenersModel" "rowBest" "[I") ∈ zG := zgm7 84 (rfl) rfl
theorem zg_1526 : (Jvm.Cond.lays "DayOpenersModel" "DayOpenersModel" "rowDone" "I") ∈ zG := zgm7 86 (rfl) rfl
theorem zg_1528 : (Jvm.Cond.laysFinal "DayOpenersModel" "DayOpenersModel" "fairOf" "[I") ∈ zG := zgm7 88 (rfl) rfl
theorem zg_1530 : (Jvm.Cond.laysFinal "DayOpenersModel" "DayOpenersModel" "wantOf" "[I") ∈ zG := zgm7 90 (rfl) rfl
theorem zg_1532 : (Jvm.Cond.lays "DayOpenersModel" "DayOpenersModel" "notes" "I") ∈ zG := zgm7 92 (rfl) rfl
theorem zg_1534 : (Jvm.Cond.lays "DayOpenersModel" "DayOpenersModel" "knownBy" "I") ∈ zG := zgm7 94 (rfl) rfl
theorem zg_1536 : (Jvm.Cond.laysFinal "DayOpenersModel" "DayOpenersModel" "noteDays" "[I") ∈ zG := zgm7 96 (rfl) rfl
theorem zg_1538 : (Jvm.Cond.laysFinal "DayOpenersModel" "DayOpenersModel" "noteLength" "[I") ∈ zG := zgm7 98 (rfl) rfl
theorem zg_1540 : (Jvm.Cond.laysFinal "DayOpenersModel" "DayOpenersModel" "noteLeast" "[Z") ∈ zG := zgm7 100 (rfl) rfl
theorem zg_1542 : (Jvm.Cond.laysFinal "DayOpenersModel" "DayOpenersModel" "outs" "[I") ∈ zG := zgm7 102 (rfl) rfl
theorem zg_1544 : (Jvm.Cond.laysFinal "DayOpenersModel" "DayOpenersModel" "isOut" "[Z") ∈ zG := zgm7 104 (rfl) rfl
theorem zg_1546 : (Jvm.Cond.laysFinal "DayOpenersModel" "DayOpenersModel" "lastBy" "[I") ∈ zG := zgm7 106 (rfl) rfl
theorem zg_1549 : (Jvm.Cond.arrayClass Jvm.ClassFile.FieldType.boolean) ∈ zG := zgm7 109 (rfl) rfl
theorem zg_1550 : (Jvm.Cond.methodLink "DayOpenersLaw" (45 : Nat) ({ cls := "DayOpenersModel", name := "thrown", desc := "()I" } : Jvm.MethodName)) ∈ zG := zgm7 110 (rfl) rfl
theorem zg_1551 : (Jvm.Cond.instanceMethod ({ cls := "DayOpenersModel", name := "thrown", desc := "()I" } : Jvm.MethodName)) ∈ zG := zgm7 111 (rfl) rfl
theorem zg_1552 : (Jvm.Cond.selects "DayOpenersModel" ({ cls := "DayOpenersModel", name := "thrown", desc := "()I" } : Jvm.MethodName) ({ cls := "DayOpenersModel", name := "thrown", desc := "()I" } : Jvm.MethodName)) ∈ zG := zgm7 112 (rfl) rfl
theorem zg_1553 : (Jvm.Cond.code ({ cls := "DayOpenersModel", name := "thrown", desc := "()I" } : Jvm.MethodName) prog_14_method_2_code (1 : Nat) (Option.some Jvm.ClassFile.FieldType.int)) ∈ zG := zgm7 113 (rfl) rfl
theorem zg_1554 : (Jvm.Cond.methodLink "DayOpenersLaw" (25 : Nat) ({ cls := "DayOpenersModel", name := "feed", desc := "(IIIII)I" } : Jvm.MethodName)) ∈ zG := zgm7 114 (rfl) rfl
theorem zg_1555 : (Jvm.Cond.instanceMethod ({ cls := "DayOpenersModel", name := "feed", desc := "(IIIII)I" } : Jvm.MethodName)) ∈ zG := zgm7 115 (rfl) rfl
theorem zg_1556 : (Jvm.Cond.selects "DayOpenersModel" ({ cls := "DayOpenersModel", name := "feed", desc := "(IIIII)I" } : Jvm.MethodName) ({ cls := "DayOpenersModel", name := "feed", desc := "(IIIII)I" } : Jvm.MethodName)) ∈ zG := zgm7 116 (rfl) rfl
theorem zg_1557 : (Jvm.Cond.code ({ cls := "DayOpenersModel", name := "feed", desc := "(IIIII)I" } : Jvm.MethodName) prog_14_method_3_code (8 : Nat) (Option.some Jvm.ClassFile.FieldType.int)) ∈ zG := zgm7 117 (rfl) rfl
theorem zg_1558 : (Jvm.Cond.methodLink "DayOpenersLaw" (30 : Nat) ({ cls := "DayOpenersModel", name := "text", desc := "(I)I" } : Jvm.MethodName)) ∈ zG := zgm7 118 (rfl) rfl
theorem zg_1559 : (Jvm.Cond.instanceMethod ({ cls := "DayOpenersModel", name := "text", desc := "(I)I" } : Jvm.MethodName)) ∈ zG := zgm7 119 (rfl) rfl
theorem zg_1560 : (Jvm.Cond.selects "DayOpenersModel" ({ cls := "DayOpenersModel", name := "text", desc := "(I)I" } : Jvm.MethodName) ({ cls := "DayOpenersModel", name := "text", desc := "(I)I" } : Jvm.MethodName)) ∈ zG := zgm7 120 (rfl) rfl
theorem zg_1561 : (Jvm.Cond.code ({ cls := "DayOpenersModel", name := "text", desc := "(I)I" } : Jvm.MethodName) prog_14_method_34_code (3 : Nat) (Option.some Jvm.ClassFile.FieldType.int)) ∈ zG := zgm7 121 (rfl) rfl
theorem zg_1562 : (Jvm.Cond.methodLink "DayOpenersModel" (242 : Nat) ({ cls := "DayOpenersModel", name := "reads", desc := "(II)V" } : Jvm.MethodName)) ∈ zG := zgm7 122 (rfl) rfl
theorem zg_1564 : (Jvm.Cond.instanceMethod ({ cls := "DayOpenersModel", name := "reads", desc := "(II)V" } : Jvm.MethodName)) ∈ zG := zgm7 124 (rfl) rfl
theorem zg_1565 : (Jvm.Cond.code ({ cls := "DayOpenersModel", name := "reads", desc := "(II)V" } : Jvm.MethodName) prog_14_method_19_code (3 : Nat) (Option.none : Option Jvm.ClassFile.FieldType)) ∈ zG := zgm7 125 (rfl) rfl
theorem zg_1566 : (Jvm.Cond.methodLink "DayOpenersModel" (211 : Nat) ({ cls := "DayOpenersModel", name := "token", desc := "()V" } : Jvm.MethodName)) ∈ zG := zgm7 126 (rfl) rfl
theorem zg_1568 : (Jvm.Cond.instanceMethod ({ cls := "DayOpenersModel", name := "token", desc := "()V" } : Jvm.MethodName)) ∈ zG := zgm7 128 (rfl) rfl
theorem zg_1569 : (Jvm.Cond.code ({ cls := "DayOpenersModel", name := "token", desc := "()V" } : Jvm.MethodName) prog_14_method_7_code (2 : Nat) (Option.none : Option Jvm.ClassFile.FieldType)) ∈ zG := zgm7 129 (rfl) rfl
theorem zg_1570 : (Jvm.Cond.methodLink "DayOpenersModel" (163 : Nat) ({ cls := "DayOpenersModel", name := "here", desc := "()I" } : Jvm.MethodName)) ∈ zG := zgm7 130 (rfl) rfl
theorem zg_1572 : (Jvm.Cond.instanceMethod ({ cls := "DayOpenersModel", name := "here", desc := "()I" } : Jvm.MethodName)) ∈ zG := zgm7 132 (rfl) rfl
theorem zg_1573 : (Jvm.Cond.code ({ cls := "DayOpenersModel", name := "here", desc := "()I" } : Jvm.MethodName) prog_14_method_4_code (1 : Nat) (Option.some Jvm.ClassFile.FieldType.int)) ∈ zG := zgm7 133 (rfl) rfl
theorem zg_1574 : (Jvm.Cond.methodLink "DayOpenersModel" (173 : Nat) ({ cls := "DayOpenersModel", name := "isSmall", desc := "(I)Z" } : Jvm.MethodName)) ∈ zG := zgm7 134 (rfl) rfl
theorem zg_1575 : (Jvm.Cond.static ({ cls := "DayOpenersModel", name := "isSmall", desc := "(I)Z" } : Jvm.MethodName)) ∈ zG := zgm7 135 (rfl) rfl
theorem zg_1576 : (Jvm.Cond.code ({ cls := "DayOpenersModel", name := "isSmall", desc := "(I)Z" } : Jvm.MethodName) prog_14_method_5_code (1 : Nat) (Option.some Jvm.ClassFile.FieldType.boolean)) ∈ zG := zgm7 136 (rfl) rfl
theorem zg_1577 : (Jvm.Cond.methodLink "DayOpenersModel" (177 : Nat) ({ cls := "DayOpenersModel", name := "word", desc := "()I" } : Jvm.MethodName)) ∈ zG := zgm7 137 (rfl) rfl
theorem zg_1579 : (Jvm.Cond.instanceMethod ({ cls := "DayOpenersModel", name := "word", desc := "()I" } : Jvm.MethodName)) ∈ zG := zgm7 139 (rfl) rfl
theorem zg_1580 : (Jvm.Cond.code ({ cls := "DayOpenersModel", name := "word", desc := "()I" } : Jvm.MethodName) prog_14_method_9_code (4 : Nat) (Option.some Jvm.ClassFile.FieldType.int)) ∈ zG := zgm7 140 (rfl) rfl
theorem zg_1582 : (Jvm.Cond.methodLink "DayOpenersModel" (196 : Nat) ({ cls := "java/lang/String", name := "length", desc := "()I" } : Jvm.MethodName)) ∈ zG := zgm7 142 (rfl) rfl
theorem zg_1583 : (Jvm.Cond.methodLink "DayOpenersModel" (201 : Nat) ({ cls := "java/lang/String", name := "charAt", desc := "(I)C" } : Jvm.MethodName)) ∈ zG := zgm7 143 (rfl) rfl
theorem zg_1584 : (Jvm.Cond.methodLink "DayOpenersModel" (183 : Nat) ({ cls := "DayOpenersModel", name := "name", desc := "()V" } : Jvm.MethodName)) ∈ zG := zgm7 144 (rfl) rfl
theorem zg_1586 : (Jvm.Cond.instanceMethod ({ cls := "DayOpenersModel", name := "name", desc := "()V" } : Jvm.MethodName)) ∈ zG := zgm7 146 (rfl) rfl
theorem zg_1587 : (Jvm.Cond.code ({ cls := "DayOpenersModel", name := "name", desc := "()V" } : Jvm.MethodName) prog_14_method_10_code (2 : Nat) (Option.none : Option Jvm.ClassFile.FieldType)) ∈ zG := zgm7 147 (rfl) rfl
theorem zg_1588 : (Jvm.Cond.methodLink "DayOpenersModel" (186 : Nat) ({ cls := "DayOpenersModel", name := "isDigit", desc := "(I)Z" } : Jvm.MethodName)) ∈ zG := zgm7 148 (rfl) rfl
theorem zg_1589 : (Jvm.Cond.static ({ cls := "DayOpenersModel", name := "isDigit", desc := "(I)Z" } : Jvm.MethodName)) ∈ zG := zgm7 149 (rfl) rfl
theorem zg_1590 : (Jvm.Cond.code ({ cls := "DayOpenersModel", name := "isDigit", desc := "(I)Z" } : Jvm.MethodName) prog_14_method_6_code (1 : Nat) (Option.some Jvm.ClassFile.FieldType.boolean)) ∈ zG := zgm7 150 (rfl) rfl
theorem zg_1591 : (Jvm.Cond.constant "DayOpenersModel" (189 : Nat) (99999 : Int32)) ∈ zG := zgm7 151 (rfl) rfl
theorem zg_1592 : (Jvm.Cond.methodLink "DayOpenersModel" (190 : Nat) ({ cls := "DayOpenersModel", name := "sign", desc := "(I)V" } : Jvm.MethodName)) ∈ zG := zgm7 152 (rfl) rfl
theorem zg_1594 : (Jvm.Cond.instanceMethod ({ cls := "DayOpenersModel", name := "sign", desc := "(I)V" } : Jvm.MethodName)) ∈ zG := zgm7 154 (rfl) rfl
theorem zg_1595 : (Jvm.Cond.code ({ cls := "DayOpenersModel", name := "sign", desc := "(I)V" } : Jvm.MethodName) prog_14_method_8_code (2 : Nat) (Option.none : Option Jvm.ClassFile.FieldType)) ∈ zG := zgm7 155 (rfl) rfl
theorem zg_1596 : (Jvm.Cond.methodLink "DayOpenersModel" (294 : Nat) ({ cls := "DayOpenersModel", name := "line", desc := "()V" } : Jvm.MethodName)) ∈ zG := zgm7 156 (rfl) rfl
theorem zg_1598 : (Jvm.Cond.instanceMethod ({ cls := "DayOpenersModel", name := "line", desc := "()V" } : Jvm.MethodName)) ∈ zG := zgm7 158 (rfl) rfl
theorem zg_1599 : (Jvm.Cond.code ({ cls := "DayOpenersModel", name := "line", desc := "()V" } : Jvm.MethodName) prog_14_method_22_code (4 : Nat) (Option.none : Option Jvm.ClassFile.FieldType)) ∈ zG := zgm7 159 (rfl) rfl
theorem zg_1600 : (Jvm.Cond.methodLink "DayOpenersModel" (214 : Nat) ({ cls := "DayOpenersModel", name := "wrong", desc := "(I)V" } : Jvm.MethodName)) ∈ zG := zgm7 160 (rfl) rfl
theorem zg_1602 : (Jvm.Cond.instanceMethod ({ cls := "DayOpenersModel", name := "wrong", desc := "(I)V" } : Jvm.MethodName)) ∈ zG := zgm7 162 (rfl) rfl
theorem zg_1603 : (Jvm.Cond.code ({ cls := "DayOpenersModel", name := "wrong", desc := "(I)V" } : Jvm.MethodName) prog_14_method_11_code (2 : Nat) (Option.none : Option Jvm.ClassFile.FieldType)) ∈ zG := zgm7 163 (rfl) rfl
theorem zg_1604 : (Jvm.Cond.methodLink "DayOpenersModel" (228 : Nat) ({ cls := "DayOpenersModel", name := "isFull", desc := "(I)Z" } : Jvm.MethodName)) ∈ zG := zgm7 164 (rfl) rfl
theorem zg_1606 : (Jvm.Cond.instanceMethod ({ cls := "DayOpenersModel", name := "isFull", desc := "(I)Z" } : Jvm.MethodName)) ∈ zG := zgm7 166 (rfl) rfl
theorem zg_1607 : (Jvm.Cond.code ({ cls := "DayOpenersModel", name := "isFull", desc := "(I)Z" } : Jvm.MethodName) prog_14_method_21_code (2 : Nat) (Option.some Jvm.ClassFile.FieldType.boolean)) ∈ zG := zgm7 167 (rfl) rfl
theorem zg_1608 : (Jvm.Cond.methodLink "DayOpenersModel" (221 : Nat) ({ cls := "DayOpenersModel", name := "fresher", desc := "(I)I" } : Jvm.MethodName)) ∈ zG := zgm7 168 (rfl) rfl
theorem zg_1610 : (Jvm.Cond.instanceMethod ({ cls := "DayOpenersModel", name := "fresher", desc := "(I)I" } : Jvm.MethodName)) ∈ zG := zgm7 170 (rfl) rfl
theorem zg_1611 : (Jvm.Cond.code ({ cls := "DayOpenersModel", name := "fresher", desc := "(I)I" } : Jvm.MethodName) prog_14_method_18_code (2 : Nat) (Option.some Jvm.ClassFile.FieldType.int)) ∈ zG := zgm7 171 (rfl) rfl
theorem zg_1612 : (Jvm.Cond.methodLink "DayOpenersModel" (234 : Nat) ({ cls := "DayOpenersModel", name := "fresh", desc := "([III)I" } : Jvm.MethodName)) ∈ zG := zgm7 172 (rfl) rfl
theorem zg_1614 : (Jvm.Cond.instanceMethod ({ cls := "DayOpenersModel", name := "fresh", desc := "([III)I" } : Jvm.MethodName)) ∈ zG := zgm7 174 (rfl) rfl
theorem zg_1615 : (Jvm.Cond.code ({ cls := "DayOpenersModel", name := "fresh", desc := "([III)I" } : Jvm.MethodName) prog_14_method_17_code (5 : Nat) (Option.some Jvm.ClassFile.FieldType.int)) ∈ zG := zgm7 175 (rfl) rfl
theorem zg_1616 : (Jvm.Cond.methodLink "DayOpenersModel" (217 : Nat) ({ cls := "DayOpenersModel", name := "found", desc := "([IIII)I" } : Jvm.MethodName)) ∈ zG := zgm7 176 (rfl) rfl
theorem zg_1617 : (Jvm.Cond.static ({ cls := "DayOpenersModel", name := "found", desc := "([IIII)I" } : Jvm.MethodName)) ∈ zG := zgm7 177 (rfl) rfl
theorem zg_1618 : (Jvm.Cond.code ({ cls := "DayOpenersModel", name := "found", desc := "([IIII)I" } : Jvm.MethodName) prog_14_method_16_code (5 : Nat) (Option.some Jvm.ClassFile.FieldType.int)) ∈ zG := zgm7 178 (rfl) rfl
theorem zg_1619 : (Jvm.Cond.methodLink "DayOpenersModel" (238 : Nat) ({ cls := "DayOpenersModel", name := "numeral", desc := "(II)I" } : Jvm.MethodName)) ∈ zG := zgm7 179 (rfl) rfl
theorem zg_1621 : (Jvm.Cond.instanceMethod ({ cls := "DayOpenersModel", name := "numeral", desc := "(II)I" } : Jvm.MethodName)) ∈ zG := zgm7 181 (rfl) rfl
theorem zg_1622 : (Jvm.Cond.code ({ cls := "DayOpenersModel", name := "numeral", desc := "(II)I" } : Jvm.MethodName) prog_14_method_15_code (4 : Nat) (Option.some Jvm.ClassFile.FieldType.int)) ∈ zG := zgm7 182 (rfl) rfl
theorem zg_1623 : (Jvm.Cond.methodLink "DayOpenersModel" (246 : Nat) ({ cls := "DayOpenersModel", name := "tradeAhead", desc := "()I" } : Jvm.MethodName)) ∈ zG := zgm7 183 (rfl) rfl
theorem zg_1625 : (Jvm.Cond.instanceMethod ({ cls := "DayOpenersModel", name := "tradeAhead", desc := "()I" } : Jvm.MethodName)) ∈ zG := zgm7 185 (rfl) rfl
theorem zg_1626 : (Jvm.Cond.code ({ cls := "DayOpenersModel", name := "tradeAhead", desc := "()I" } : Jvm.MethodName) prog_14_method_20_code (2 : Nat) (Option.some Jvm.ClassFile.FieldType.int)) ∈ zG := zgm7 186 (rfl) rfl
theorem zg_1627 : (Jvm.Cond.methodLink "DayOpenersModel" (225 : Nat) ({ cls := "DayOpenersModel", name := "goOn", desc := "()V" } : Jvm.MethodName)) ∈ zG := zgm7 187 (rfl) rfl
theorem zg_1629 : (Jvm.Cond.instanceMethod ({ cls := "DayOpenersModel", name := "goOn", desc := "()V" } : Jvm.MethodName)) ∈ zG := zgm7 189 (rfl) rfl
theorem zg_1630 : (Jvm.Cond.code ({ cls := "DayOpenersModel", name := "goOn", desc := "()V" } : Jvm.MethodName) prog_14_method_14_code (1 : Nat) (Option.none : Option Jvm.ClassFile.FieldType)) ∈ zG := zgm7 190 (rfl) rfl
theorem zg_1631 : (Jvm.Cond.methodLink "DayOpenersModel" (249 : Nat) ({ cls := "DayOpenersModel", name := "claimLine", desc := "()V" } : Jvm.MethodName)) ∈ zG := zgm7 191 (rfl) rfl
theorem zg_1633 : (Jvm.Cond.instanceMethod ({ cls := "DayOpenersModel", name := "claimLine", desc := "()V" } : Jvm.MethodName)) ∈ zG := zgm7 193 (rfl) rfl
theorem zg_1634 : (Jvm.Cond.code ({ cls := "DayOpenersModel", name := "claimLine", desc := "()V" } : Jvm.MethodName) prog_14_method_23_code (3 : Nat) (Option.none : Option Jvm.ClassFile.FieldType)) ∈ zG := zgm7 194 (rfl) rfl
theorem zg_1635 : (Jvm.Cond.methodLink "DayOpenersModel" (252 : Nat) ({ cls := "DayOpenersModel", name := "lawLine", desc := "()V" } : Jvm.MethodName)) ∈ zG := zgm7 195 (rfl) rfl
theorem zg_1637 : (Jvm.Cond.instanceMethod ({ cls := "DayOpenersModel", name := "lawLine", desc := "()V" } : Jvm.MethodName)) ∈ zG := zgm7 197 (rfl) rfl
theorem zg_1638 : (Jvm.Cond.code ({ cls := "DayOpenersModel", name := "lawLine", desc := "()V" } : Jvm.MethodName) prog_14_method_24_code (2 : Nat) (Option.none : Option Jvm.ClassFile.FieldType)) ∈ zG := zgm7 198 (rfl) rfl
theorem zg_1639 : (Jvm.Cond.methodLink "DayOpenersModel" (261 : Nat) ({ cls := "DayOpenersModel", name := "expression", desc := "()V" } : Jvm.MethodName)) ∈ zG := zgm7 199 (rfl) rfl
theorem zg_1641 : (Jvm.Cond.instanceMethod ({ cls := "DayOpenersModel", name := "expression", desc := "()V" } : Jvm.MethodName)) ∈ zG := zgm7 201 (rfl) rfl
theorem zg_1642 : (Jvm.Cond.code ({ cls := "DayOpenersModel", name := "expression", desc := "()V" } : Jvm.MethodName) prog_14_method_27_code (1 : Nat) (Option.none : Option Jvm.ClassFile.FieldType)) ∈ zG := zgm7 202 (rfl) rfl
theorem zg_1643 : (Jvm.Cond.methodLink "DayOpenersModel" (267 : Nat) ({ cls := "DayOpenersModel", name := "conjunction", desc := "()V" } : Jvm.MethodName)) ∈ zG := zgm7 203 (rfl) rfl
theorem zg_1645 : (Jvm.Cond.instanceMethod ({ cls := "DayOpenersModel", name := "conjunction", desc := "()V" } : Jvm.MethodName)) ∈ zG := zgm7 205 (rfl) rfl
theorem zg_1646 : (Jvm.Cond.code ({ cls := "DayOpenersModel", name := "conjunction", desc := "()V" } : Jvm.MethodName) prog_14_method_28_code (1 : Nat) (Option.none : Option Jvm.ClassFile.FieldType)) ∈ zG := zgm7 206 (rfl) rfl
theorem zg_1647 : (Jvm.Cond.methodLink "DayOpenersModel" (279 : Nat) ({ cls := "DayOpenersModel", name := "negation", desc := "()V" } : Jvm.MethodName)) ∈ zG := zgm7 207 (rfl) rfl
theorem zg_1649 : (Jvm.Cond.instanceMethod ({ cls := "DayOpenersModel", name := "negation", desc := "()V" } : Jvm.MethodName)) ∈ zG := zgm7 209 (rfl) rfl
theorem zg_1650 : (Jvm.Cond.code ({ cls := "DayOpenersModel", name := "negation", desc := "()V" } : Jvm.MethodName) prog_14_method_29_code (2 : Nat) (Option.none : Option Jvm.ClassFile.FieldType)) ∈ zG := zgm7 210 (rfl) rfl
theorem zg_1651 : (Jvm.Cond.methodLink "DayOpenersModel" (270 : Nat) ({ cls := "DayOpenersModel", name := "isWord", desc := "(I)Z" } : Jvm.MethodName)) ∈ zG := zgm7 211 (rfl) rfl
theorem zg_1653 : (Jvm.Cond.instanceMethod ({ cls := "DayOpenersModel", name := "isWord", desc := "(I)Z" } : Jvm.MethodName)) ∈ zG := zgm7 213 (rfl) rfl
theorem zg_1654 : (Jvm.Cond.code ({ cls := "DayOpenersModel", name := "isWord", desc := "(I)Z" } : Jvm.MethodName) prog_14_method_12_code (2 : Nat) (Option.some Jvm.ClassFile.FieldType.boolean)) ∈ zG := zgm7 214 (rfl) rfl
theorem zg_1655 : (Jvm.Cond.methodLink "DayOpenersModel" (273 : Nat) ({ cls := "DayOpenersModel", name := "knot", desc := "()V" } : Jvm.MethodName)) ∈ zG := zgm7 215 (rfl) rfl
theorem zg_1657 : (Jvm.Cond.instanceMethod ({ cls := "DayOpenersModel", name := "knot", desc := "()V" } : Jvm.MethodName)) ∈ zG := zgm7 217 (rfl) rfl
theorem zg_1658 : (Jvm.Cond.code ({ cls := "DayOpenersModel", name := "knot", desc := "()V" } : Jvm.MethodName) prog_14_method_26_code (1 : Nat) (Option.none : Option Jvm.ClassFile.FieldType)) ∈ zG := zgm7 218 (rfl) rfl
theorem zg_1659 : (Jvm.Cond.methodLink "DayOpenersModel" (276 : Nat) ({ cls := "DayOpenersModel", name := "puts", desc := "(II)V" } : Jvm.MethodName)) ∈ zG := zgm7 219 (rfl) rfl
theorem zg_1661 : (Jvm.Cond.instanceMethod ({ cls := "DayOpenersModel", name := "puts", desc := "(II)V" } : Jvm.MethodName)) ∈ zG := zgm7 221 (rfl) rfl
theorem zg_1662 : (Jvm.Cond.code ({ cls := "DayOpenersModel", name := "puts", desc := "(II)V" } : Jvm.MethodName) prog_14_method_25_code (3 : Nat) (Option.none : Option Jvm.ClassFile.FieldType)) ∈ zG := zgm7 222 (rfl) rfl
theorem zg_1663 : (Jvm.Cond.methodLink "DayOpenersModel" (282 : Nat) ({ cls := "DayOpenersModel", name := "sum", desc := "()V" } : Jvm.MethodName)) ∈ zG := zgm7 223 (rfl) rfl
theorem zg_1665 : (Jvm.Cond.instanceMethod ({ cls := "DayOpenersModel", name := "sum", desc := "()V" } : Jvm.MethodName)) ∈ zG := zgm7 225 (rfl) rfl
theorem zg_1666 : (Jvm.Cond.code ({ cls := "DayOpenersModel", name := "sum", desc := "()V" } : Jvm.MethodName) prog_14_method_30_code (2 : Nat) (Option.none : Option Jvm.ClassFile.FieldType)) ∈ zG := zgm7 226 (rfl) rfl
theorem zg_1667 : (Jvm.Cond.methodLink "DayOpenersModel" (285 : Nat) ({ cls := "DayOpenersModel", name := "product", desc := "()V" } : Jvm.MethodName)) ∈ zG := zgm7 227 (rfl) rfl
theorem zg_1669 : (Jvm.Cond.instanceMethod ({ cls := "DayOpenersModel", name := "product", desc := "()V" } : Jvm.MethodName)) ∈ zG := zgm7 229 (rfl) rfl
theorem zg_1670 : (Jvm.Cond.code ({ cls := "DayOpenersModel", name := "product", desc := "()V" } : Jvm.MethodName) prog_14_method_31_code (2 : Nat) (Option.none : Option Jvm.ClassFile.FieldType)) ∈ zG := zgm7 230 (rfl) rfl
theorem zg_1671 : (Jvm.Cond.methodLink "DayOpenersModel" (288 : Nat) ({ cls := "DayOpenersModel", name := "primary", desc := "()V" } : Jvm.MethodName)) ∈ zG := zgm7 231 (rfl) rfl
theorem zg_1673 : (Jvm.Cond.instanceMethod ({ cls := "DayOpenersModel", name := "primary", desc := "()V" } : Jvm.MethodName)) ∈ zG := zgm7 233 (rfl) rfl
theorem zg_1674 : (Jvm.Cond.code ({ cls := "DayOpenersModel", name := "primary", desc := "()V" } : Jvm.MethodName) prog_14_method_32_code (2 : Nat) (Option.none : Option Jvm.ClassFile.FieldType)) ∈ zG := zgm7 234 (rfl) rfl
theorem zg_1675 : (Jvm.Cond.methodLink "DayOpenersModel" (255 : Nat) ({ cls := "DayOpenersModel", name := "isSign", desc := "(I)Z" } : Jvm.MethodName)) ∈ zG := zgm7 235 (rfl) rfl
theorem zg_1677 : (Jvm.Cond.instanceMethod ({ cls := "DayOpenersModel", name := "isSign", desc := "(I)Z" } : Jvm.MethodName)) ∈ zG := zgm7 237 (rfl) rfl
theorem zg_1678 : (Jvm.Cond.code ({ cls := "DayOpenersModel", name := "isSign", desc := "(I)Z" } : Jvm.MethodName) prog_14_method_13_code (2 : Nat) (Option.some Jvm.ClassFile.FieldType.boolean)) ∈ zG := zgm7 238 (rfl) rfl
theorem zg_1679 : (Jvm.Cond.methodLink "DayOpenersModel" (300 : Nat) ({ cls := "DayOpenersModel", name := "half", desc := "([I)V" } : Jvm.MethodName)) ∈ zG := zgm7 239 (rfl) rfl
theorem zg_1680 : (Jvm.Cond.static ({ cls := "DayOpenersModel", name := "half", desc := "([I)V" } : Jvm.MethodName)) ∈ zG := zgm8 0 (rfl) rfl
theorem zg_1681 : (Jvm.Cond.code ({ cls := "DayOpenersModel", name := "half", desc := "([I)V" } : Jvm.MethodName) prog_14_method_33_code (3 : Nat) (Option.none : Option Jvm.ClassFile.FieldType)) ∈ zG := zgm8 1 (rfl) rfl
theorem zg_1682 : (Jvm.Cond.methodLink "DayOpenersLaw" (34 : Nat) ({ cls := "DayOpenersModel", name := "fault", desc := "(I)I" } : Jvm.MethodName)) ∈ zG := zgm8 2 (rfl) rfl
theorem zg_1683 : (Jvm.Cond.instanceMethod ({ cls := "DayOpenersModel", name := "fault", desc := "(I)I" } : Jvm.MethodName)) ∈ zG := zgm8 3 (rfl) rfl
theorem zg_1684 : (Jvm.Cond.selects "DayOpenersModel" ({ cls := "DayOpenersModel", name := "fault", desc := "(I)I" } : Jvm.MethodName) ({ cls := "DayOpenersModel", name := "fault", desc := "(I)I" } : Jvm.MethodName)) ∈ zG := zgm8 4 (rfl) rfl
theorem zg_1685 : (Jvm.Cond.code ({ cls := "DayOpenersModel", name := "fault", desc := "(I)I" } : Jvm.MethodName) prog_14_method_35_code (2 : Nat) (Option.some Jvm.ClassFile.FieldType.int)) ∈ zG := zgm8 5 (rfl) rfl
theorem zg_1686 : (Jvm.Cond.methodLink "DayOpenersLaw" (38 : Nat) ({ cls := "DayOpenersModel", name := "named", desc := "(II)I" } : Jvm.MethodName)) ∈ zG := zgm8 6 (rfl) rfl
theorem zg_1687 : (Jvm.Cond.instanceMethod ({ cls := "DayOpenersModel", name := "named", desc := "(II)I" } : Jvm.MethodName)) ∈ zG := zgm8 7 (rfl) rfl
theorem zg_1688 : (Jvm.Cond.selects "DayOpenersModel" ({ cls := "DayOpenersModel", name := "named", desc := "(II)I" } : Jvm.MethodName) ({ cls := "DayOpenersModel", name := "named", desc := "(II)I" } : Jvm.MethodName)) ∈ zG := zgm8 8 (rfl) rfl
theorem zg_1689 : (Jvm.Cond.code ({ cls := "DayOpenersModel", name := "named", desc := "(II)I" } : Jvm.MethodName) prog_14_method_36_code (3 : Nat) (Option.some Jvm.ClassFile.FieldType.int)) ∈ zG := zgm8 9 (rfl) rfl
theorem zg_1690 : (Jvm.Cond.methodLink "DayOpenersLaw" (44 : Nat) ({ cls := "DayOpenersModel", name := "trade", desc := "(II)I" } : Jvm.MethodName)) ∈ zG := zgm8 10 (rfl) rfl
theorem zg_1691 : (Jvm.Cond.instanceMethod ({ cls := "DayOpenersModel", name := "trade", desc := "(II)I" } : Jvm.MethodName)) ∈ zG := zgm8 11 (rfl) rfl
theorem zg_1692 : (Jvm.Cond.selects "DayOpenersModel" ({ cls := "DayOpenersModel", name := "trade", desc := "(II)I" } : Jvm.MethodName) ({ cls := "DayOpenersModel", name := "trade", desc := "(II)I" } : Jvm.MethodName)) ∈ zG := zgm8 12 (rfl) rfl
theorem zg_1693 : (Jvm.Cond.code ({ cls := "DayOpenersModel", name := "trade", desc := "(II)I" } : Jvm.MethodName) prog_14_method_62_code (3 : Nat) (Option.some Jvm.ClassFile.FieldType.int)) ∈ zG := zgm8 13 (rfl) rfl
theorem zg_1694 : (Jvm.Cond.methodLink "DayOpenersModel" (405 : Nat) ({ cls := "DayOpenersModel", name := "isTrade", desc := "(I)Z" } : Jvm.MethodName)) ∈ zG := zgm8 14 (rfl) rfl
theorem zg_1696 : (Jvm.Cond.instanceMethod ({ cls := "DayOpenersModel", name := "isTrade", desc := "(I)Z" } : Jvm.MethodName)) ∈ zG := zgm8 16 (rfl) rfl
theorem zg_1697 : (Jvm.Cond.code ({ cls := "DayOpenersModel", name := "isTrade", desc := "(I)Z" } : Jvm.MethodName) prog_14_method_44_code (2 : Nat) (Option.some Jvm.ClassFile.FieldType.boolean)) ∈ zG := zgm8 17 (rfl) rfl
theorem zg_1698 : (Jvm.Cond.methodLink "DayOpenersModel" (408 : Nat) ({ cls := "DayOpenersModel", name := "placesOf", desc := "(I)I" } : Jvm.MethodName)) ∈ zG := zgm8 18 (rfl) rfl
theorem zg_1700 : (Jvm.Cond.instanceMethod ({ cls := "DayOpenersModel", name := "placesOf", desc := "(I)I" } : Jvm.MethodName)) ∈ zG := zgm8 20 (rfl) rfl
theorem zg_1701 : (Jvm.Cond.code ({ cls := "DayOpenersModel", name := "placesOf", desc := "(I)I" } : Jvm.MethodName) prog_14_method_61_code (4 : Nat) (Option.some Jvm.ClassFile.FieldType.int)) ∈ zG := zgm8 21 (rfl) rfl
theorem zg_1702 : (Jvm.Cond.methodLink "DayOpenersLaw" (52 : Nat) ({ cls := "DayOpenersModel", name := "place", desc := "(I)I" } : Jvm.MethodName)) ∈ zG := zgm8 22 (rfl) rfl
theorem zg_1703 : (Jvm.Cond.instanceMethod ({ cls := "DayOpenersModel", name := "place", desc := "(I)I" } : Jvm.MethodName)) ∈ zG := zgm8 23 (rfl) rfl
theorem zg_1704 : (Jvm.Cond.selects "DayOpenersModel" ({ cls := "DayOpenersModel", name := "place", desc := "(I)I" } : Jvm.MethodName) ({ cls := "DayOpenersModel", name := "place", desc := "(I)I" } : Jvm.MethodName)) ∈ zG := zgm8 24 (rfl) rfl
theorem zg_1705 : (Jvm.Cond.code ({ cls := "DayOpenersModel", name := "place", desc := "(I)I" } : Jvm.MethodName) prog_14_method_63_code (2 : Nat) (Option.some Jvm.ClassFile.FieldType.int)) ∈ zG := zgm8 25 (rfl) rfl
theorem zg_1706 : (Jvm.Cond.methodLink "DayOpenersModel" (411 : Nat) ({ cls := "DayOpenersModel", name := "isPlace", desc := "(I)Z" } : Jvm.MethodName)) ∈ zG := zgm8 26 (rfl) rfl
theorem zg_1708 : (Jvm.Cond.instanceMethod ({ cls := "DayOpenersModel", name := "isPlace", desc := "(I)Z" } : Jvm.MethodName)) ∈ zG := zgm8 28 (rfl) rfl
theorem zg_1709 : (Jvm.Cond.code ({ cls := "DayOpenersModel", name := "isPlace", desc := "(I)Z" } : Jvm.MethodName) prog_14_method_45_code (2 : Nat) (Option.some Jvm.ClassFile.FieldType.boolean)) ∈ zG := zgm8 29 (rfl) rfl
theorem zg_1710 : (Jvm.Cond.methodLink "DayOpenersLaw" (56 : Nat) ({ cls := "DayOpenersModel", name := "work", desc := "(II)I" } : Jvm.MethodName)) ∈ zG := zgm8 30 (rfl) rfl
theorem zg_1711 : (Jvm.Cond.instanceMethod ({ cls := "DayOpenersModel", name := "work", desc := "(II)I" } : Jvm.MethodName)) ∈ zG := zgm8 31 (rfl) rfl
theorem zg_1712 : (Jvm.Cond.selects "DayOpenersModel" ({ cls := "DayOpenersModel", name := "work", desc := "(II)I" } : Jvm.MethodName) ({ cls := "DayOpenersModel", name := "work", desc := "(II)I" } : Jvm.MethodName)) ∈ zG := zgm8 32 (rfl) rfl
theorem zg_1713 : (Jvm.Cond.code ({ cls := "DayOpenersModel", name := "work", desc := "(II)I" } : Jvm.MethodName) prog_14_method_64_code (3 : Nat) (Option.some Jvm.ClassFile.FieldType.int)) ∈ zG := zgm8 33 (rfl) rfl
theorem zg_1714 : (Jvm.Cond.methodLink "DayOpenersModel" (414 : Nat) ({ cls := "DayOpenersModel", name := "isWork", desc := "(I)Z" } : Jvm.MethodName)) ∈ zG := zgm8 34 (rfl) rfl
theorem zg_1716 : (Jvm.Cond.instanceMethod ({ cls := "DayOpenersModel", name := "isWork", desc := "(I)Z" } : Jvm.MethodName)) ∈ zG := zgm8 36 (rfl) rfl
theorem zg_1717 : (Jvm.Cond.code ({ cls := "DayOpenersModel", name := "isWork", desc := "(I)Z" } : Jvm.MethodName) prog_14_method_46_code (2 : Nat) (Option.some Jvm.ClassFile.FieldType.boolean)) ∈ zG := zgm8 37 (rfl) rfl
theorem zg_1718 : (Jvm.Cond.methodLink "DayOpenersLaw" (61 : Nat) ({ cls := "DayOpenersModel", name := "law", desc := "(II)J" } : Jvm.MethodName)) ∈ zG := zgm8 38 (rfl) rfl
theorem zg_1719 : (Jvm.Cond.instanceMethod ({ cls := "DayOpenersModel", name := "law", desc := "(II)J" } : Jvm.MethodName)) ∈ zG := zgm8 39 (rfl) rfl
theorem zg_1720 : (Jvm.Cond.selects "DayOpenersModel" ({ cls := "DayOpenersModel", name := "law", desc := "(II)J" } : Jvm.MethodName) ({ cls := "DayOpenersModel", name := "law", desc := "(II)J" } : Jvm.MethodName)) ∈ zG := zgm8 40 (rfl) rfl
theorem zg_1721 : (Jvm.Cond.code ({ cls := "DayOpenersModel", name := "law", desc := "(II)J" } : Jvm.MethodName) prog_14_method_65_code (3 : Nat) (Option.some Jvm.ClassFile.FieldType.long)) ∈ zG := zgm8 41 (rfl) rfl
theorem zg_1722 : (Jvm.Cond.methodLink "DayOpenersModel" (353 : Nat) ({ cls := "DayOpenersModel", name := "hasLaw", desc := "(I)Z" } : Jvm.MethodName)) ∈ zG := zgm8 42 (rfl) rfl
theorem zg_1724 : (Jvm.Cond.instanceMethod ({ cls := "DayOpenersModel", name := "hasLaw", desc := "(I)Z" } : Jvm.MethodName)) ∈ zG := zgm8 44 (rfl) rfl
theorem zg_1725 : (Jvm.Cond.code ({ cls := "DayOpenersModel", name := "hasLaw", desc := "(I)Z" } : Jvm.MethodName) prog_14_method_40_code (2 : Nat) (Option.some Jvm.ClassFile.FieldType.boolean)) ∈ zG := zgm8 45 (rfl) rfl
theorem zg_1726 : (Jvm.Cond.constantLong "DayOpenersModel" (419 : Nat) (-9223372036854775808 : Int64)) ∈ zG := zgm8 46 (rfl) rfl
theorem zg_1727 : (Jvm.Cond.methodLink "DayOpenersModel" (366 : Nat) ({ cls := "DayOpenersModel", name := "calls", desc := "(II)V" } : Jvm.MethodName)) ∈ zG := zgm8 47 (rfl) rfl
theorem zg_1729 : (Jvm.Cond.instanceMethod ({ cls := "DayOpenersModel", name := "calls", desc := "(II)V" } : Jvm.MethodName)) ∈ zG := zgm8 49 (rfl) rfl
theorem zg_1730 : (Jvm.Cond.code ({ cls := "DayOpenersModel", name := "calls", desc := "(II)V" } : Jvm.MethodName) prog_14_method_51_code (3 : Nat) (Option.none : Option Jvm.ClassFile.FieldType)) ∈ zG := zgm8 50 (rfl) rfl
theorem zg_1731 : (Jvm.Cond.methodLink "DayOpenersModel" (347 : Nat) ({ cls := "DayOpenersModel", name := "hourOf", desc := "(I)I" } : Jvm.MethodName)) ∈ zG := zgm8 51 (rfl) rfl
theorem zg_1733 : (Jvm.Cond.instanceMethod ({ cls := "DayOpenersModel", name := "hourOf", desc := "(I)I" } : Jvm.MethodName)) ∈ zG := zgm8 53 (rfl) rfl
theorem zg_1734 : (Jvm.Cond.code ({ cls := "DayOpenersModel", name := "hourOf", desc := "(I)I" } : Jvm.MethodName) prog_14_method_50_code (2 : Nat) (Option.some Jvm.ClassFile.FieldType.int)) ∈ zG := zgm8 54 (rfl) rfl
theorem zg_1735 : (Jvm.Cond.methodLink "DayOpenersModel" (350 : Nat) ({ cls := "DayOpenersModel", name := "doneMany", desc := "(I)I" } : Jvm.MethodName)) ∈ zG := zgm8 55 (rfl) rfl
theorem zg_1737 : (Jvm.Cond.instanceMethod ({ cls := "DayOpenersModel", name := "doneMany", desc := "(I)I" } : Jvm.MethodName)) ∈ zG := zgm8 57 (rfl) rfl
theorem zg_1738 : (Jvm.Cond.code ({ cls := "DayOpenersModel", name := "doneMany", desc := "(I)I" } : Jvm.MethodName) prog_14_method_48_code (4 : Nat) (Option.some Jvm.ClassFile.FieldType.int)) ∈ zG := zgm8 58 (rfl) rfl
theorem zg_1739 : (Jvm.Cond.methodLink "DayOpenersModel" (337 : Nat) ({ cls := "DayOpenersModel", name := "isDone", desc := "(II)Z" } : Jvm.MethodName)) ∈ zG := zgm8 59 (rfl) rfl
theorem zg_1741 : (Jvm.Cond.instanceMethod ({ cls := "DayOpenersModel", name := "isDone", desc := "(II)Z" } : Jvm.MethodName)) ∈ zG := zgm8 61 (rfl) rfl
theorem zg_1742 : (Jvm.Cond.code ({ cls := "DayOpenersModel", name := "isDone", desc := "(II)Z" } : Jvm.MethodName) prog_14_method_47_code (3 : Nat) (Option.some Jvm.ClassFile.FieldType.boolean)) ∈ zG := zgm8 62 (rfl) rfl
theorem zg_1743 : (Jvm.Cond.methodLink "DayOpenersModel" (356 : Nat) ({ cls := "DayOpenersModel", name := "goes", desc := "(I)Z" } : Jvm.MethodName)) ∈ zG := zgm8 63 (rfl) rfl
theorem zg_1745 : (Jvm.Cond.instanceMethod ({ cls := "DayOpenersModel", name := "goes", desc := "(I)Z" } : Jvm.MethodName)) ∈ zG := zgm8 65 (rfl) rfl
theorem zg_1746 : (Jvm.Cond.code ({ cls := "DayOpenersModel", name := "goes", desc := "(I)Z" } : Jvm.MethodName) prog_14_method_39_code (3 : Nat) (Option.some Jvm.ClassFile.FieldType.boolean)) ∈ zG := zgm8 66 (rfl) rfl
theorem zg_1747 : (Jvm.Cond.methodLink "DayOpenersModel" (331 : Nat) ({ cls := "DayOpenersModel", name := "works", desc := "(I)Z" } : Jvm.MethodName)) ∈ zG := zgm8 67 (rfl) rfl
theorem zg_1749 : (Jvm.Cond.instanceMethod ({ cls := "DayOpenersModel", name := "works", desc := "(I)Z" } : Jvm.MethodName)) ∈ zG := zgm8 69 (rfl) rfl
theorem zg_1750 : (Jvm.Cond.code ({ cls := "DayOpenersModel", name := "works", desc := "(I)Z" } : Jvm.MethodName) prog_14_method_38_code (8 : Nat) (Option.some Jvm.ClassFile.FieldType.boolean)) ∈ zG := zgm8 70 (rfl) rfl
theorem zg_1751 : (Jvm.Cond.methodLink "DayOpenersModel" (317 : Nat) ({ cls := "DayOpenersModel", name := "is", desc := "(Z)J" } : Jvm.MethodName)) ∈ zG := zgm8 71 (rfl) rfl
theorem zg_1752 : (Jvm.Cond.static ({ cls := "DayOpenersModel", name := "is", desc := "(Z)J" } : Jvm.MethodName)) ∈ zG := zgm8 72 (rfl) rfl
theorem zg_1753 : (Jvm.Cond.code ({ cls := "DayOpenersModel", name := "is", desc := "(Z)J" } : Jvm.MethodName) prog_14_method_37_code (1 : Nat) (Option.some Jvm.ClassFile.FieldType.long)) ∈ zG := zgm8 73 (rfl) rfl
theorem zg_1754 : (Jvm.Cond.methodLink "DayOpenersModel" (321 : Nat) ({ cls := "java/lang/Math", name := "abs", desc := "(J)J" } : Jvm.MethodName)) ∈ zG := zgm8 74 (rfl) rfl
theorem zg_1755 : (Jvm.Cond.constantLong "DayOpenersModel" (327 : Nat) (1000000000000 : Int64)) ∈ zG := zgm8 75 (rfl) rfl
theorem zg_1756 : (Jvm.Cond.constantLong "DayOpenersModel" (329 : Nat) (-1000000000000 : Int64)) ∈ zG := zgm8 76 (rfl) rfl
theorem zg_1757 : (Jvm.Cond.methodLink "DayOpenersLaw" (65 : Nat) ({ cls := "DayOpenersModel", name := "length", desc := "(I)I" } : Jvm.MethodName)) ∈ zG := zgm8 77 (rfl) rfl
theorem zg_1758 : (Jvm.Cond.instanceMethod ({ cls := "DayOpenersModel", name := "length", desc := "(I)I" } : Jvm.MethodName)) ∈ zG := zgm8 78 (rfl) rfl
theorem zg_1759 : (Jvm.Cond.selects "DayOpenersModel" ({ cls := "DayOpenersModel", name := "length", desc := "(I)I" } : Jvm.MethodName) ({ cls := "DayOpenersModel", name := "length", desc := "(I)I" } : Jvm.MethodName)) ∈ zG := zgm8 79 (rfl) rfl
theorem zg_1760 : (Jvm.Cond.code ({ cls := "DayOpenersModel", name := "length", desc := "(I)I" } : Jvm.MethodName) prog_14_method_66_code (2 : Nat) (Option.some Jvm.ClassFile.FieldType.int)) ∈ zG := zgm8 80 (rfl) rfl
theorem zg_1761 : (Jvm.Cond.methodLink "DayOpenersModel" (388 : Nat) ({ cls := "DayOpenersModel", name := "lengthOf", desc := "(II)I" } : Jvm.MethodName)) ∈ zG := zgm8 81 (rfl) rfl
theorem zg_1763 : (Jvm.Cond.instanceMethod ({ cls := "DayOpenersModel", name := "lengthOf", desc := "(II)I" } : Jvm.MethodName)) ∈ zG := zgm8 83 (rfl) rfl
theorem zg_1764 : (Jvm.Cond.code ({ cls := "DayOpenersModel", name := "lengthOf", desc := "(II)I" } : Jvm.MethodName) prog_14_method_53_code (3 : Nat) (Option.some Jvm.ClassFile.FieldType.int)) ∈ zG := zgm8 84 (rfl) rfl
theorem zg_1765 : (Jvm.Cond.methodLink "DayOpenersModel" (369 : Nat) ({ cls := "DayOpenersModel", name := "within", desc := "(IIII)I" } : Jvm.MethodName)) ∈ zG := zgm8 85 (rfl) rfl
theorem zg_1767 : (Jvm.Cond.instanceMethod ({ cls := "DayOpenersModel", name := "within", desc := "(IIII)I" } : Jvm.MethodName)) ∈ zG := zgm8 87 (rfl) rfl
theorem zg_1768 : (Jvm.Cond.code ({ cls := "DayOpenersModel", name := "within", desc := "(IIII)I" } : Jvm.MethodName) prog_14_method_52_code (5 : Nat) (Option.some Jvm.ClassFile.FieldType.int)) ∈ zG := zgm8 88 (rfl) rfl
theorem zg_1769 : (Jvm.Cond.methodLink "DayOpenersModel" (359 : Nat) ({ cls := "java/lang/Math", name := "min", desc := "(JJ)J" } : Jvm.MethodName)) ∈ zG := zgm8 89 (rfl) rfl
theorem zg_1770 : (Jvm.Cond.methodLink "DayOpenersModel" (363 : Nat) ({ cls := "java/lang/Math", name := "max", desc := "(JJ)J" } : Jvm.MethodName)) ∈ zG := zgm8 90 (rfl) rfl
theorem zg_1771 : (Jvm.Cond.methodLink "DayOpenersLaw" (70 : Nat) ({ cls := "DayOpenersModel", name := "appoint", desc := "(I)Z" } : Jvm.MethodName)) ∈ zG := zgm8 91 (rfl) rfl
theorem zg_1772 : (Jvm.Cond.instanceMethod ({ cls := "DayOpenersModel", name := "appoint", desc := "(I)Z" } : Jvm.MethodName)) ∈ zG := zgm8 92 (rfl) rfl
theorem zg_1773 : (Jvm.Cond.selects "DayOpenersModel" ({ cls := "DayOpenersModel", name := "appoint", desc := "(I)Z" } : Jvm.MethodName) ({ cls := "DayOpenersModel", name := "appoint", desc := "(I)Z" } : Jvm.MethodName)) ∈ zG := zgm8 93 (rfl) rfl
theorem zg_1774 : (Jvm.Cond.code ({ cls := "DayOpenersModel", name := "appoint", desc := "(I)Z" } : Jvm.MethodName) prog_14_method_68_code (2 : Nat) (Option.some Jvm.ClassFile.FieldType.boolean)) ∈ zG := zgm8 94 (rfl) rfl
theorem zg_1775 : (Jvm.Cond.methodLink "DayOpenersModel" (424 : Nat) ({ cls := "DayOpenersModel", name := "keepNow", desc := "()V" } : Jvm.MethodName)) ∈ zG := zgm8 95 (rfl) rfl
theorem zg_1777 : (Jvm.Cond.instanceMethod ({ cls := "DayOpenersModel", name := "keepNow", desc := "()V" } : Jvm.MethodName)) ∈ zG := zgm8 97 (rfl) rfl
theorem zg_1778 : (Jvm.Cond.code ({ cls := "DayOpenersModel", name := "keepNow", desc := "()V" } : Jvm.MethodName) prog_14_method_67_code (2 : Nat) (Option.none : Option Jvm.ClassFile.FieldType)) ∈ zG := zgm8 98 (rfl) rfl
theorem zg_1779 : (Jvm.Cond.methodLink "DayOpenersModel" (421 : Nat) ({ cls := "DayOpenersModel", name := "copies", desc := "(II)V" } : Jvm.MethodName)) ∈ zG := zgm8 99 (rfl) rfl
theorem zg_1781 : (Jvm.Cond.instanceMethod ({ cls := "DayOpenersModel", name := "copies", desc := "(II)V" } : Jvm.MethodName)) ∈ zG := zgm8 101 (rfl) rfl
theorem zg_1782 : (Jvm.Cond.code ({ cls := "DayOpenersModel", name := "copies", desc := "(II)V" } : Jvm.MethodName) prog_14_method_43_code (4 : Nat) (Option.none : Option Jvm.ClassFile.FieldType)) ∈ zG := zgm8 102 (rfl) rfl
theorem zg_1783 : (Jvm.Cond.methodLink "DayOpenersLaw" (74 : Nat) ({ cls := "DayOpenersModel", name := "put", desc := "(II)I" } : Jvm.MethodName)) ∈ zG := zgm8 103 (rfl) rfl
theorem zg_1784 : (Jvm.Cond.instanceMethod ({ cls := "DayOpenersModel", name := "put", desc := "(II)I" } : Jvm.MethodName)) ∈ zG := zgm8 104 (rfl) rfl
theorem zg_1785 : (Jvm.Cond.selects "DayOpenersModel" ({ cls := "DayOpenersModel", name := "put", desc := "(II)I" } : Jvm.MethodName) ({ cls := "DayOpenersModel", name := "put", desc := "(II)I" } : Jvm.MethodName)) ∈ zG := zgm8 105 (rfl) rfl
theorem zg_1786 : (Jvm.Cond.code ({ cls := "DayOpenersModel", name := "put", desc := "(II)I" } : Jvm.MethodName) prog_14_method_69_code (4 : Nat) (Option.some Jvm.ClassFile.FieldType.int)) ∈ zG := zgm8 106 (rfl) rfl
theorem zg_1787 : (Jvm.Cond.methodLink "DayOpenersLaw" (79 : Nat) ({ cls := "DayOpenersModel", name := "swap", desc := "(II)Z" } : Jvm.MethodName)) ∈ zG := zgm8 107 (rfl) rfl
theorem zg_1788 : (Jvm.Cond.instanceMethod ({ cls := "DayOpenersModel", name := "swap", desc := "(II)Z" } : Jvm.MethodName)) ∈ zG := zgm8 108 (rfl) rfl
theorem zg_1789 : (Jvm.Cond.selects "DayOpenersModel" ({ cls := "DayOpenersModel", name := "swap", desc := "(II)Z" } : Jvm.MethodName) ({ cls := "DayOpenersModel", name := "swap", desc := "(II)Z" } : Jvm.MethodName)) ∈ zG := zgm8 109 (rfl) rfl
theorem zg_1790 : (Jvm.Cond.code ({ cls := "DayOpenersModel", name := "swap", desc := "(II)Z" } : Jvm.MethodName) prog_14_method_70_code (4 : Nat) (Option.some Jvm.ClassFile.FieldType.boolean)) ∈ zG := zgm8 110 (rfl) rfl
theorem zg_1791 : (Jvm.Cond.methodLink "DayOpenersLaw" (83 : Nat) ({ cls := "DayOpenersModel", name := "go", desc := "(I)I" } : Jvm.MethodName)) ∈ zG := zgm8 111 (rfl) rfl
theorem zg_1792 : (Jvm.Cond.instanceMethod ({ cls := "DayOpenersModel", name := "go", desc := "(I)I" } : Jvm.MethodName)) ∈ zG := zgm8 112 (rfl) rfl
theorem zg_1793 : (Jvm.Cond.selects "DayOpenersModel" ({ cls := "DayOpenersModel", name := "go", desc := "(I)I" } : Jvm.MethodName) ({ cls := "DayOpenersModel", name := "go", desc := "(I)I" } : Jvm.MethodName)) ∈ zG := zgm8 113 (rfl) rfl
theorem zg_1794 : (Jvm.Cond.code ({ cls := "DayOpenersModel", name := "go", desc := "(I)I" } : Jvm.MethodName) prog_14_method_71_code (3 : Nat) (Option.some Jvm.ClassFile.FieldType.int)) ∈ zG := zgm8 114 (rfl) rfl
theorem zg_1795 : (Jvm.Cond.methodLink "DayOpenersModel" (401 : Nat) ({ cls := "DayOpenersModel", name := "passes", desc := "(IZ)V" } : Jvm.MethodName)) ∈ zG := zgm8 115 (rfl) rfl
theorem zg_1797 : (Jvm.Cond.instanceMethod ({ cls := "DayOpenersModel", name := "passes", desc := "(IZ)V" } : Jvm.MethodName)) ∈ zG := zgm8 117 (rfl) rfl
theorem zg_1798 : (Jvm.Cond.code ({ cls := "DayOpenersModel", name := "passes", desc := "(IZ)V" } : Jvm.MethodName) prog_14_method_59_code (4 : Nat) (Option.none : Option Jvm.ClassFile.FieldType)) ∈ zG := zgm8 118 (rfl) rfl
theorem zg_1799 : (Jvm.Cond.methodLink "DayOpenersModel" (395 : Nat) ({ cls := "DayOpenersModel", name := "whoOpens", desc := "(IZ)I" } : Jvm.MethodName)) ∈ zG := zgm8 119 (rfl) rfl
theorem zg_1801 : (Jvm.Cond.instanceMethod ({ cls := "DayOpenersModel", name := "whoOpens", desc := "(IZ)I" } : Jvm.MethodName)) ∈ zG := zgm8 121 (rfl) rfl
theorem zg_1802 : (Jvm.Cond.code ({ cls := "DayOpenersModel", name := "whoOpens", desc := "(IZ)I" } : Jvm.MethodName) prog_14_method_57_code (3 : Nat) (Option.some Jvm.ClassFile.FieldType.int)) ∈ zG := zgm8 122 (rfl) rfl
theorem zg_1803 : (Jvm.Cond.methodLink "DayOpenersModel" (384 : Nat) ({ cls := "DayOpenersModel", name := "byTurn", desc := "(IZ)I" } : Jvm.MethodName)) ∈ zG := zgm8 123 (rfl) rfl
theorem zg_1805 : (Jvm.Cond.instanceMethod ({ cls := "DayOpenersModel", name := "byTurn", desc := "(IZ)I" } : Jvm.MethodName)) ∈ zG := zgm8 125 (rfl) rfl
theorem zg_1806 : (Jvm.Cond.code ({ cls := "DayOpenersModel", name := "byTurn", desc := "(IZ)I" } : Jvm.MethodName) prog_14_method_56_code (6 : Nat) (Option.some Jvm.ClassFile.FieldType.int)) ∈ zG := zgm8 126 (rfl) rfl
theorem zg_1807 : (Jvm.Cond.methodLink "DayOpenersModel" (377 : Nat) ({ cls := "DayOpenersModel", name := "isMistake", desc := "(IZ)Z" } : Jvm.MethodName)) ∈ zG := zgm8 127 (rfl) rfl
theorem zg_1809 : (Jvm.Cond.instanceMethod ({ cls := "DayOpenersModel", name := "isMistake", desc := "(IZ)Z" } : Jvm.MethodName)) ∈ zG := zgm8 129 (rfl) rfl
theorem zg_1810 : (Jvm.Cond.code ({ cls := "DayOpenersModel", name := "isMistake", desc := "(IZ)Z" } : Jvm.MethodName) prog_14_method_55_code (4 : Nat) (Option.some Jvm.ClassFile.FieldType.boolean)) ∈ zG := zgm8 130 (rfl) rfl
theorem zg_1811 : (Jvm.Cond.constant "DayOpenersModel" (373 : Nat) (1103515245 : Int32)) ∈ zG := zgm8 131 (rfl) rfl
theorem zg_1812 : (Jvm.Cond.constant "DayOpenersModel" (376 : Nat) (2147483647 : Int32)) ∈ zG := zgm8 132 (rfl) rfl
theorem zg_1813 : (Jvm.Cond.methodLink "DayOpenersModel" (381 : Nat) ({ cls := "DayOpenersModel", name := "wills", desc := "(II)Z" } : Jvm.MethodName)) ∈ zG := zgm8 133 (rfl) rfl
theorem zg_1815 : (Jvm.Cond.instanceMethod ({ cls := "DayOpenersModel", name := "wills", desc := "(II)Z" } : Jvm.MethodName)) ∈ zG := zgm8 135 (rfl) rfl
theorem zg_1816 : (Jvm.Cond.code ({ cls := "DayOpenersModel", name := "wills", desc := "(II)Z" } : Jvm.MethodName) prog_14_method_54_code (3 : Nat) (Option.some Jvm.ClassFile.FieldType.boolean)) ∈ zG := zgm8 136 (rfl) rfl
theorem zg_1817 : (Jvm.Cond.methodLink "DayOpenersModel" (398 : Nat) ({ cls := "DayOpenersModel", name := "opens", desc := "(II)V" } : Jvm.MethodName)) ∈ zG := zgm8 137 (rfl) rfl
theorem zg_1819 : (Jvm.Cond.instanceMethod ({ cls := "DayOpenersModel", name := "opens", desc := "(II)V" } : Jvm.MethodName)) ∈ zG := zgm8 139 (rfl) rfl
theorem zg_1820 : (Jvm.Cond.code ({ cls := "DayOpenersModel", name := "opens", desc := "(II)V" } : Jvm.MethodName) prog_14_method_58_code (6 : Nat) (Option.none : Option Jvm.ClassFile.FieldType)) ∈ zG := zgm8 140 (rfl) rfl
theorem zg_1821 : (Jvm.Cond.methodLink "DayOpenersModel" (391 : Nat) ({ cls := "java/lang/Math", name := "min", desc := "(II)I" } : Jvm.MethodName)) ∈ zG := zgm8 141 (rfl) rfl
theorem zg_1822 : (Jvm.Cond.methodLink "DayOpenersModel" (393 : Nat) ({ cls := "java/lang/Math", name := "max", desc := "(II)I" } : Jvm.MethodName)) ∈ zG := zgm8 142 (rfl) rfl
theorem zg_1823 : (Jvm.Cond.methodLink "DayOpenersLaw" (88 : Nat) ({ cls := "DayOpenersModel", name := "ahead", desc := "(III)I" } : Jvm.MethodName)) ∈ zG := zgm8 143 (rfl) rfl
theorem zg_1824 : (Jvm.Cond.instanceMethod ({ cls := "DayOpenersModel", name := "ahead", desc := "(III)I" } : Jvm.MethodName)) ∈ zG := zgm8 144 (rfl) rfl
theorem zg_1825 : (Jvm.Cond.selects "DayOpenersModel" ({ cls := "DayOpenersModel", name := "ahead", desc := "(III)I" } : Jvm.MethodName) ({ cls := "DayOpenersModel", name := "ahead", desc := "(III)I" } : Jvm.MethodName)) ∈ zG := zgm8 145 (rfl) rfl
theorem zg_1826 : (Jvm.Cond.code ({ cls := "DayOpenersModel", name := "ahead", desc := "(III)I" } : Jvm.MethodName) prog_14_method_74_code (5 : Nat) (Option.some Jvm.ClassFile.FieldType.int)) ∈ zG := zgm8 146 (rfl) rfl
theorem zg_1827 : (Jvm.Cond.methodLink "DayOpenersModel" (427 : Nat) ({ cls := "DayOpenersModel", name := "isAhead", desc := "(I)Z" } : Jvm.MethodName)) ∈ zG := zgm8 147 (rfl) rfl
theorem zg_1828 : (Jvm.Cond.static ({ cls := "DayOpenersModel", name := "isAhead", desc := "(I)Z" } : Jvm.MethodName)) ∈ zG := zgm8 148 (rfl) rfl
theorem zg_1829 : (Jvm.Cond.code ({ cls := "DayOpenersModel", name := "isAhead", desc := "(I)Z" } : Jvm.MethodName) prog_14_method_72_code (1 : Nat) (Option.some Jvm.ClassFile.FieldType.boolean)) ∈ zG := zgm8 149 (rfl) rfl
theorem zg_1830 : (Jvm.Cond.methodLink "DayOpenersModel" (430 : Nat) ({ cls := "DayOpenersModel", name := "lengthsIn", desc := "(I)I" } : Jvm.MethodName)) ∈ zG := zgm8 150 (rfl) rfl
theorem zg_1832 : (Jvm.Cond.instanceMethod ({ cls := "DayOpenersModel", name := "lengthsIn", desc := "(I)I" } : Jvm.MethodName)) ∈ zG := zgm8 152 (rfl) rfl
theorem zg_1833 : (Jvm.Cond.code ({ cls := "DayOpenersModel", name := "lengthsIn", desc := "(I)I" } : Jvm.MethodName) prog_14_method_73_code (4 : Nat) (Option.some Jvm.ClassFile.FieldType.int)) ∈ zG := zgm8 153 (rfl) rfl
theorem zg_1834 : (Jvm.Cond.methodLink "DayOpenersLaw" (92 : Nat) ({ cls := "DayOpenersModel", name := "opener", desc := "(I)I" } : Jvm.MethodName)) ∈ zG := zgm8 154 (rfl) rfl
theorem zg_1835 : (Jvm.Cond.instanceMethod ({ cls := "DayOpenersModel", name := "opener", desc := "(I)I" } : Jvm.MethodName)) ∈ zG := zgm8 155 (rfl) rfl
theorem zg_1836 : (Jvm.Cond.selects "DayOpenersModel" ({ cls := "DayOpenersModel", name := "opener", desc := "(I)I" } : Jvm.MethodName) ({ cls := "DayOpenersModel", name := "opener", desc := "(I)I" } : Jvm.MethodName)) ∈ zG := zgm8 156 (rfl) rfl
theorem zg_1837 : (Jvm.Cond.code ({ cls := "DayOpenersModel", name := "opener", desc := "(I)I" } : Jvm.MethodName) prog_14_method_75_code (2 : Nat) (Option.some Jvm.ClassFile.FieldType.int)) ∈ zG := zgm8 157 (rfl) rfl
theorem zg_1838 : (Jvm.Cond.methodLink "DayOpenersModel" (433 : Nat) ({ cls := "DayOpenersModel", name := "goesOn", desc := "(I)V" } : Jvm.MethodName)) ∈ zG := zgm8 158 (rfl) rfl
theorem zg_1840 : (Jvm.Cond.instanceMethod ({ cls := "DayOpenersModel", name := "goesOn", desc := "(I)V" } : Jvm.MethodName)) ∈ zG := zgm8 160 (rfl) rfl
theorem zg_1841 : (Jvm.Cond.code ({ cls := "DayOpenersModel", name := "goesOn", desc := "(I)V" } : Jvm.MethodName) prog_14_method_60_code (3 : Nat) (Option.none : Option Jvm.ClassFile.FieldType)) ∈ zG := zgm8 161 (rfl) rfl
theorem zg_1842 : (Jvm.Cond.methodLink "DayOpenersLaw" (96 : Nat) ({ cls := "DayOpenersModel", name := "longAt", desc := "(I)I" } : Jvm.MethodName)) ∈ zG := zgm8 162 (rfl) rfl
theorem zg_1843 : (Jvm.Cond.instanceMethod ({ cls := "DayOpenersModel", name := "longAt", desc := "(I)I" } : Jvm.MethodName)) ∈ zG := zgm8 163 (rfl) rfl
theorem zg_1844 : (Jvm.Cond.selects "DayOpenersModel" ({ cls := "DayOpenersModel", name := "longAt", desc := "(I)I" } : Jvm.MethodName) ({ cls := "DayOpenersModel", name := "longAt", desc := "(I)I" } : Jvm.MethodName)) ∈ zG := zgm8 164 (rfl) rfl
theorem zg_1845 : (Jvm.Cond.code ({ cls := "DayOpenersModel", name := "longAt", desc := "(I)I" } : Jvm.MethodName) prog_14_method_76_code (2 : Nat) (Option.some Jvm.ClassFile.FieldType.int)) ∈ zG := zgm8 165 (rfl) rfl
theorem zg_1846 : (Jvm.Cond.methodLink "DayOpenersLaw" (100 : Nat) ({ cls := "DayOpenersModel", name := "doneWhen", desc := "(I)I" } : Jvm.MethodName)) ∈ zG := zgm8 166 (rfl) rfl
theorem zg_1847 : (Jvm.Cond.instanceMethod ({ cls := "DayOpenersModel", name := "doneWhen", desc := "(I)I" } : Jvm.MethodName)) ∈ zG := zgm8 167 (rfl) rfl
theorem zg_1848 : (Jvm.Cond.selects "DayOpenersModel" ({ cls := "DayOpenersModel", name := "doneWhen", desc := "(I)I" } : Jvm.MethodName) ({ cls := "DayOpenersModel", name := "doneWhen", desc := "(I)I" } : Jvm.MethodName)) ∈ zG := zgm8 168 (rfl) rfl
theorem zg_1849 : (Jvm.Cond.code ({ cls := "DayOpenersModel", name := "doneWhen", desc := "(I)I" } : Jvm.MethodName) prog_14_method_77_code (3 : Nat) (Option.some Jvm.ClassFile.FieldType.int)) ∈ zG := zgm8 169 (rfl) rfl
theorem zg_1850 : (Jvm.Cond.methodLink "DayOpenersLaw" (104 : Nat) ({ cls := "DayOpenersModel", name := "soon", desc := "(I)I" } : Jvm.MethodName)) ∈ zG := zgm8 170 (rfl) rfl
theorem zg_1851 : (Jvm.Cond.instanceMethod ({ cls := "DayOpenersModel", name := "soon", desc := "(I)I" } : Jvm.MethodName)) ∈ zG := zgm8 171 (rfl) rfl
theorem zg_1852 : (Jvm.Cond.selects "DayOpenersModel" ({ cls := "DayOpenersModel", name := "soon", desc := "(I)I" } : Jvm.MethodName) ({ cls := "DayOpenersModel", name := "soon", desc := "(I)I" } : Jvm.MethodName)) ∈ zG := zgm8 172 (rfl) rfl
theorem zg_1853 : (Jvm.Cond.code ({ cls := "DayOpenersModel", name := "soon", desc := "(I)I" } : Jvm.MethodName) prog_14_method_78_code (3 : Nat) (Option.some Jvm.ClassFile.FieldType.int)) ∈ zG := zgm8 173 (rfl) rfl
theorem zg_1854 : (Jvm.Cond.methodLink "DayOpenersLaw" (108 : Nat) ({ cls := "DayOpenersModel", name := "out", desc := "(I)I" } : Jvm.MethodName)) ∈ zG := zgm8 174 (rfl) rfl
theorem zg_1855 : (Jvm.Cond.instanceMethod ({ cls := "DayOpenersModel", name := "out", desc := "(I)I" } : Jvm.MethodName)) ∈ zG := zgm8 175 (rfl) rfl
theorem zg_1856 : (Jvm.Cond.selects "DayOpenersModel" ({ cls := "DayOpenersModel", name := "out", desc := "(I)I" } : Jvm.MethodName) ({ cls := "DayOpenersModel", name := "out", desc := "(I)I" } : Jvm.MethodName)) ∈ zG := zgm8 176 (rfl) rfl
theorem zg_1857 : (Jvm.Cond.code ({ cls := "DayOpenersModel", name := "out", desc := "(I)I" } : Jvm.MethodName) prog_14_method_79_code (5 : Nat) (Option.some Jvm.ClassFile.FieldType.int)) ∈ zG := zgm8 177 (rfl) rfl
theorem zg_1858 : (Jvm.Cond.methodLink "DayOpenersLaw" (112 : Nat) ({ cls := "DayOpenersModel", name := "missing", desc := "(I)I" } : Jvm.MethodName)) ∈ zG := zgm8 178 (rfl) rfl
theorem zg_1859 : (Jvm.Cond.instanceMethod ({ cls := "DayOpenersModel", name := "missing", desc := "(I)I" } : Jvm.MethodName)) ∈ zG := zgm8 179 (rfl) rfl
theorem zg_1860 : (Jvm.Cond.selects "DayOpenersModel" ({ cls := "DayOpenersModel", name := "missing", desc := "(I)I" } : Jvm.MethodName) ({ cls := "DayOpenersModel", name := "missing", desc := "(I)I" } : Jvm.MethodName)) ∈ zG := zgm8 180 (rfl) rfl
theorem zg_1861 : (Jvm.Cond.code ({ cls := "DayOpenersModel", name := "missing", desc := "(I)I" } : Jvm.MethodName) prog_14_method_80_code (2 : Nat) (Option.some Jvm.ClassFile.FieldType.int)) ∈ zG := zgm8 181 (rfl) rfl
theorem zg_1862 : (Jvm.Cond.methodLink "DayOpenersLaw" (116 : Nat) ({ cls := "DayOpenersModel", name := "plan", desc := "(I)I" } : Jvm.MethodName)) ∈ zG := zgm8 182 (rfl) rfl
theorem zg_1863 : (Jvm.Cond.instanceMethod ({ cls := "DayOpenersModel", name := "plan", desc := "(I)I" } : Jvm.MethodName)) ∈ zG := zgm8 183 (rfl) rfl
theorem zg_1864 : (Jvm.Cond.selects "DayOpenersModel" ({ cls := "DayOpenersModel", name := "plan", desc := "(I)I" } : Jvm.MethodName) ({ cls := "DayOpenersModel", name := "plan", desc := "(I)I" } : Jvm.MethodName)) ∈ zG := zgm8 184 (rfl) rfl
theorem zg_1865 : (Jvm.Cond.code ({ cls := "DayOpenersModel", name := "plan", desc := "(I)I" } : Jvm.MethodName) prog_14_method_84_code (3 : Nat) (Option.some Jvm.ClassFile.FieldType.int)) ∈ zG := zgm8 185 (rfl) rfl
theorem zg_1866 : (Jvm.Cond.methodLink "DayOpenersModel" (443 : Nat) ({ cls := "DayOpenersModel", name := "planned", desc := "()I" } : Jvm.MethodName)) ∈ zG := zgm8 186 (rfl) rfl
theorem zg_1868 : (Jvm.Cond.instanceMethod ({ cls := "DayOpenersModel", name := "planned", desc := "()I" } : Jvm.MethodName)) ∈ zG := zgm8 188 (rfl) rfl
theorem zg_1869 : (Jvm.Cond.code ({ cls := "DayOpenersModel", name := "planned", desc := "()I" } : Jvm.MethodName) prog_14_method_83_code (2 : Nat) (Option.some Jvm.ClassFile.FieldType.int)) ∈ zG := zgm8 189 (rfl) rfl
theorem zg_1870 : (Jvm.Cond.methodLink "DayOpenersModel" (440 : Nat) ({ cls := "DayOpenersModel", name := "gives", desc := "(II)Z" } : Jvm.MethodName)) ∈ zG := zgm8 190 (rfl) rfl
theorem zg_1872 : (Jvm.Cond.instanceMethod ({ cls := "DayOpenersModel", name := "gives", desc := "(II)Z" } : Jvm.MethodName)) ∈ zG := zgm8 192 (rfl) rfl
theorem zg_1873 : (Jvm.Cond.code ({ cls := "DayOpenersModel", name := "gives", desc := "(II)Z" } : Jvm.MethodName) prog_14_method_82_code (4 : Nat) (Option.some Jvm.ClassFile.FieldType.boolean)) ∈ zG := zgm8 193 (rfl) rfl
theorem zg_1874 : (Jvm.Cond.methodLink "DayOpenersModel" (436 : Nat) ({ cls := "DayOpenersModel", name := "doesAll", desc := "()Z" } : Jvm.MethodName)) ∈ zG := zgm8 194 (rfl) rfl
theorem zg_1876 : (Jvm.Cond.instanceMethod ({ cls := "DayOpenersModel", name := "doesAll", desc := "()Z" } : Jvm.MethodName)) ∈ zG := zgm8 196 (rfl) rfl
theorem zg_1877 : (Jvm.Cond.code ({ cls := "DayOpenersModel", name := "doesAll", desc := "()Z" } : Jvm.MethodName) prog_14_method_81_code (4 : Nat) (Option.some Jvm.ClassFile.FieldType.boolean)) ∈ zG := zgm8 197 (rfl) rfl
theorem zg_1878 : (Jvm.Cond.methodLink "DayOpenersLaw" (120 : Nat) ({ cls := "DayOpenersModel", name := "best", desc := "(II)I" } : Jvm.MethodName)) ∈ zG := zgm8 198 (rfl) rfl
theorem zg_1879 : (Jvm.Cond.instanceMethod ({ cls := "DayOpenersModel", name := "best", desc := "(II)I" } : Jvm.MethodName)) ∈ zG := zgm8 199 (rfl) rfl
theorem zg_1880 : (Jvm.Cond.selects "DayOpenersModel" ({ cls := "DayOpenersModel", name := "best", desc := "(II)I" } : Jvm.MethodName) ({ cls := "DayOpenersModel", name := "best", desc := "(II)I" } : Jvm.MethodName)) ∈ zG := zgm8 200 (rfl) rfl
theorem zg_1881 : (Jvm.Cond.code ({ cls := "DayOpenersModel", name := "best", desc := "(II)I" } : Jvm.MethodName) prog_14_method_86_code (3 : Nat) (Option.some Jvm.ClassFile.FieldType.int)) ∈ zG := zgm8 201 (rfl) rfl
theorem zg_1882 : (Jvm.Cond.methodLink "DayOpenersModel" (449 : Nat) ({ cls := "DayOpenersModel", name := "lays", desc := "(II)V" } : Jvm.MethodName)) ∈ zG := zgm8 202 (rfl) rfl
theorem zg_1884 : (Jvm.Cond.instanceMethod ({ cls := "DayOpenersModel", name := "lays", desc := "(II)V" } : Jvm.MethodName)) ∈ zG := zgm8 204 (rfl) rfl
theorem zg_1885 : (Jvm.Cond.code ({ cls := "DayOpenersModel", name := "lays", desc := "(II)V" } : Jvm.MethodName) prog_14_method_85_code (5 : Nat) (Option.none : Option Jvm.ClassFile.FieldType)) ∈ zG := zgm8 205 (rfl) rfl
theorem zg_1886 : (Jvm.Cond.methodLink "DayOpenersLaw" (124 : Nat) ({ cls := "DayOpenersModel", name := "fair", desc := "(I)I" } : Jvm.MethodName)) ∈ zG := zgm8 206 (rfl) rfl
theorem zg_1887 : (Jvm.Cond.instanceMethod ({ cls := "DayOpenersModel", name := "fair", desc := "(I)I" } : Jvm.MethodName)) ∈ zG := zgm8 207 (rfl) rfl
theorem zg_1888 : (Jvm.Cond.selects "DayOpenersModel" ({ cls := "DayOpenersModel", name := "fair", desc := "(I)I" } : Jvm.MethodName) ({ cls := "DayOpenersModel", name := "fair", desc := "(I)I" } : Jvm.MethodName)) ∈ zG := zgm8 208 (rfl) rfl
theorem zg_1889 : (Jvm.Cond.code ({ cls := "DayOpenersModel", name := "fair", desc := "(I)I" } : Jvm.MethodName) prog_14_method_91_code (3 : Nat) (Option.some Jvm.ClassFile.FieldType.int)) ∈ zG := zgm8 209 (rfl) rfl
theorem zg_1890 : (Jvm.Cond.methodLink "DayOpenersModel" (461 : Nat) ({ cls := "DayOpenersModel", name := "closes", desc := "(I)V" } : Jvm.MethodName)) ∈ zG := zgm8 210 (rfl) rfl
theorem zg_1892 : (Jvm.Cond.instanceMethod ({ cls := "DayOpenersModel", name := "closes", desc := "(I)V" } : Jvm.MethodName)) ∈ zG := zgm8 212 (rfl) rfl
theorem zg_1893 : (Jvm.Cond.code ({ cls := "DayOpenersModel", name := "closes", desc := "(I)V" } : Jvm.MethodName) prog_14_method_90_code (6 : Nat) (Option.none : Option Jvm.ClassFile.FieldType)) ∈ zG := zgm8 213 (rfl) rfl
theorem zg_1894 : (Jvm.Cond.methodLink "DayOpenersModel" (458 : Nat) ({ cls := "DayOpenersModel", name := "wantAt", desc := "(I)I" } : Jvm.MethodName)) ∈ zG := zgm8 214 (rfl) rfl
theorem zg_1896 : (Jvm.Cond.instanceMethod ({ cls := "DayOpenersModel", name := "wantAt", desc := "(I)I" } : Jvm.MethodName)) ∈ zG := zgm8 216 (rfl) rfl
theorem zg_1897 : (Jvm.Cond.code ({ cls := "DayOpenersModel", name := "wantAt", desc := "(I)I" } : Jvm.MethodName) prog_14_method_89_code (4 : Nat) (Option.some Jvm.ClassFile.FieldType.int)) ∈ zG := zgm8 217 (rfl) rfl
theorem zg_1898 : (Jvm.Cond.methodLink "DayOpenersModel" (452 : Nat) ({ cls := "DayOpenersModel", name := "mannerAt", desc := "(I)I" } : Jvm.MethodName)) ∈ zG := zgm8 218 (rfl) rfl
theorem zg_1900 : (Jvm.Cond.instanceMethod ({ cls := "DayOpenersModel", name := "mannerAt", desc := "(I)I" } : Jvm.MethodName)) ∈ zG := zgm8 220 (rfl) rfl
theorem zg_1901 : (Jvm.Cond.code ({ cls := "DayOpenersModel", name := "mannerAt", desc := "(I)I" } : Jvm.MethodName) prog_14_method_88_code (2 : Nat) (Option.some Jvm.ClassFile.FieldType.int)) ∈ zG := zgm8 221 (rfl) rfl
theorem zg_1902 : (Jvm.Cond.methodLink "DayOpenersModel" (455 : Nat) ({ cls := "DayOpenersModel", name := "apart", desc := "(II)I" } : Jvm.MethodName)) ∈ zG := zgm8 222 (rfl) rfl
theorem zg_1903 : (Jvm.Cond.static ({ cls := "DayOpenersModel", name := "apart", desc := "(II)I" } : Jvm.MethodName)) ∈ zG := zgm8 223 (rfl) rfl
theorem zg_1904 : (Jvm.Cond.code ({ cls := "DayOpenersModel", name := "apart", desc := "(II)I" } : Jvm.MethodName) prog_14_method_87_code (2 : Nat) (Option.some Jvm.ClassFile.FieldType.int)) ∈ zG := zgm8 224 (rfl) rfl
theorem zg_1905 : (Jvm.Cond.methodLink "DayOpenersLaw" (128 : Nat) ({ cls := "DayOpenersModel", name := "pairs", desc := "()I" } : Jvm.MethodName)) ∈ zG := zgm8 225 (rfl) rfl
theorem zg_1906 : (Jvm.Cond.instanceMethod ({ cls := "DayOpenersModel", name := "pairs", desc := "()I" } : Jvm.MethodName)) ∈ zG := zgm8 226 (rfl) rfl
theorem zg_1907 : (Jvm.Cond.selects "DayOpenersModel" ({ cls := "DayOpenersModel", name := "pairs", desc := "()I" } : Jvm.MethodName) ({ cls := "DayOpenersModel", name := "pairs", desc := "()I" } : Jvm.MethodName)) ∈ zG := zgm8 227 (rfl) rfl
theorem zg_1908 : (Jvm.Cond.code ({ cls := "DayOpenersModel", name := "pairs", desc := "()I" } : Jvm.MethodName) prog_14_method_92_code (4 : Nat) (Option.some Jvm.ClassFile.FieldType.int)) ∈ zG := zgm8 228 (rfl) rfl
theorem zg_1909 : (Jvm.Cond.methodLink "DayOpenersLaw" (132 : Nat) ({ cls := "DayOpenersModel", name := "power", desc := "(I)I" } : Jvm.MethodName)) ∈ zG := zgm8 229 (rfl) rfl
theorem zg_1910 : (Jvm.Cond.instanceMethod ({ cls := "DayOpenersModel", name := "power", desc := "(I)I" } : Jvm.MethodName)) ∈ zG := zgm8 230 (rfl) rfl
theorem zg_1911 : (Jvm.Cond.selects "DayOpenersModel" ({ cls := "DayOpenersModel", name := "power", desc := "(I)I" } : Jvm.MethodName) ({ cls := "DayOpenersModel", name := "power", desc := "(I)I" } : Jvm.MethodName)) ∈ zG := zgm8 231 (rfl) rfl
theorem zg_1912 : (Jvm.Cond.code ({ cls := "DayOpenersModel", name := "power", desc := "(I)I" } : Jvm.MethodName) prog_14_method_94_code (6 : Nat) (Option.some Jvm.ClassFile.FieldType.int)) ∈ zG := zgm8 232 (rfl) rfl
theorem zg_1913 : (Jvm.Cond.methodLink "DayOpenersModel" (464 : Nat) ({ cls := "DayOpenersModel", name := "placesIn", desc := "(I)I" } : Jvm.MethodName)) ∈ zG := zgm8 233 (rfl) rfl
theorem zg_1915 : (Jvm.Cond.instanceMethod ({ cls := "DayOpenersModel", name := "placesIn", desc := "(I)I" } : Jvm.MethodName)) ∈ zG := zgm8 235 (rfl) rfl
theorem zg_1916 : (Jvm.Cond.code ({ cls := "DayOpenersModel", name := "placesIn", desc := "(I)I" } : Jvm.MethodName) prog_14_method_93_code (4 : Nat) (Option.some Jvm.ClassFile.FieldType.int)) ∈ zG := zgm8 236 (rfl) rfl
theorem zg_1917 : (Jvm.Cond.methodLink "DayOpenersLaw" (136 : Nat) ({ cls := "DayOpenersModel", name := "even", desc := "(I)I" } : Jvm.MethodName)) ∈ zG := zgm8 237 (rfl) rfl
theorem zg_1918 : (Jvm.Cond.instanceMethod ({ cls := "DayOpenersModel", name := "even", desc := "(I)I" } : Jvm.MethodName)) ∈ zG := zgm8 238 (rfl) rfl
theorem zg_1919 : (Jvm.Cond.selects "DayOpenersModel" ({ cls := "DayOpenersModel", name := "even", desc := "(I)I" } : Jvm.MethodName) ({ cls := "DayOpenersModel", name := "even", desc := "(I)I" } : Jvm.MethodName)) ∈ zG := zgm8 239 (rfl) rfl
theorem zg_1920 : (Jvm.Cond.code ({ cls := "DayOpenersModel", name := "even", desc := "(I)I" } : Jvm.MethodName) prog_14_method_95_code (4 : Nat) (Option.some Jvm.ClassFile.FieldType.int)) ∈ zG := zgm9 0 (rfl) rfl
theorem zg_1921 : (Jvm.Cond.methodLink "DayOpenersLaw" (140 : Nat) ({ cls := "DayOpenersModel", name := "rare", desc := "()I" } : Jvm.MethodName)) ∈ zG := zgm9 1 (rfl) rfl
theorem zg_1922 : (Jvm.Cond.instanceMethod ({ cls := "DayOpenersModel", name := "rare", desc := "()I" } : Jvm.MethodName)) ∈ zG := zgm9 2 (rfl) rfl
theorem zg_1923 : (Jvm.Cond.selects "DayOpenersModel" ({ cls := "DayOpenersModel", name := "rare", desc := "()I" } : Jvm.MethodName) ({ cls := "DayOpenersModel", name := "rare", desc := "()I" } : Jvm.MethodName)) ∈ zG := zgm9 3 (rfl) rfl
theorem zg_1924 : (Jvm.Cond.code ({ cls := "DayOpenersModel", name := "rare", desc := "()I" } : Jvm.MethodName) prog_14_method_96_code (3 : Nat) (Option.some Jvm.ClassFile.FieldType.int)) ∈ zG := zgm9 4 (rfl) rfl
theorem zg_1925 : (Jvm.Cond.methodLink "DayOpenersLaw" (144 : Nat) ({ cls := "DayOpenersModel", name := "rests", desc := "(II)I" } : Jvm.MethodName)) ∈ zG := zgm9 5 (rfl) rfl
theorem zg_1926 : (Jvm.Cond.instanceMethod ({ cls := "DayOpenersModel", name := "rests", desc := "(II)I" } : Jvm.MethodName)) ∈ zG := zgm9 6 (rfl) rfl
theorem zg_1927 : (Jvm.Cond.selects "DayOpenersModel" ({ cls := "DayOpenersModel", name := "rests", desc := "(II)I" } : Jvm.MethodName) ({ cls := "DayOpenersModel", name := "rests", desc := "(II)I" } : Jvm.MethodName)) ∈ zG := zgm9 7 (rfl) rfl
theorem zg_1928 : (Jvm.Cond.code ({ cls := "DayOpenersModel", name := "rests", desc := "(II)I" } : Jvm.MethodName) prog_14_method_101_code (3 : Nat) (Option.some Jvm.ClassFile.FieldType.int)) ∈ zG := zgm9 8 (rfl) rfl
theorem zg_1929 : (Jvm.Cond.methodLink "DayOpenersModel" (474 : Nat) ({ cls := "DayOpenersModel", name := "areTwo", desc := "(II)Z" } : Jvm.MethodName)) ∈ zG := zgm9 9 (rfl) rfl
theorem zg_1931 : (Jvm.Cond.instanceMethod ({ cls := "DayOpenersModel", name := "areTwo", desc := "(II)Z" } : Jvm.MethodName)) ∈ zG := zgm9 11 (rfl) rfl
theorem zg_1932 : (Jvm.Cond.code ({ cls := "DayOpenersModel", name := "areTwo", desc := "(II)Z" } : Jvm.MethodName) prog_14_method_100_code (3 : Nat) (Option.some Jvm.ClassFile.FieldType.boolean)) ∈ zG := zgm9 12 (rfl) rfl
theorem zg_1933 : (Jvm.Cond.methodLink "DayOpenersModel" (477 : Nat) ({ cls := "DayOpenersModel", name := "restOf", desc := "(III)I" } : Jvm.MethodName)) ∈ zG := zgm9 13 (rfl) rfl
theorem zg_1935 : (Jvm.Cond.instanceMethod ({ cls := "DayOpenersModel", name := "restOf", desc := "(III)I" } : Jvm.MethodName)) ∈ zG := zgm9 15 (rfl) rfl
theorem zg_1936 : (Jvm.Cond.code ({ cls := "DayOpenersModel", name := "restOf", desc := "(III)I" } : Jvm.MethodName) prog_14_method_99_code (6 : Nat) (Option.some Jvm.ClassFile.FieldType.int)) ∈ zG := zgm9 16 (rfl) rfl
theorem zg_1937 : (Jvm.Cond.methodLink "DayOpenersModel" (470 : Nat) ({ cls := "DayOpenersModel", name := "isRest", desc := "(III)Z" } : Jvm.MethodName)) ∈ zG := zgm9 17 (rfl) rfl
theorem zg_1939 : (Jvm.Cond.instanceMethod ({ cls := "DayOpenersModel", name := "isRest", desc := "(III)Z" } : Jvm.MethodName)) ∈ zG := zgm9 19 (rfl) rfl
theorem zg_1940 : (Jvm.Cond.code ({ cls := "DayOpenersModel", name := "isRest", desc := "(III)Z" } : Jvm.MethodName) prog_14_method_98_code (6 : Nat) (Option.some Jvm.ClassFile.FieldType.boolean)) ∈ zG := zgm9 20 (rfl) rfl
theorem zg_1941 : (Jvm.Cond.methodLink "DayOpenersModel" (467 : Nat) ({ cls := "DayOpenersModel", name := "hasOf", desc := "(IIII)I" } : Jvm.MethodName)) ∈ zG := zgm9 21 (rfl) rfl
theorem zg_1943 : (Jvm.Cond.instanceMethod ({ cls := "DayOpenersModel", name := "hasOf", desc := "(IIII)I" } : Jvm.MethodName)) ∈ zG := zgm9 23 (rfl) rfl
theorem zg_1944 : (Jvm.Cond.code ({ cls := "DayOpenersModel", name := "hasOf", desc := "(IIII)I" } : Jvm.MethodName) prog_14_method_97_code (5 : Nat) (Option.some Jvm.ClassFile.FieldType.int)) ∈ zG := zgm9 24 (rfl) rfl
theorem zg_1945 : (Jvm.Cond.methodLink "DayOpenersLaw" (148 : Nat) ({ cls := "DayOpenersModel", name := "rest", desc := "(III)I" } : Jvm.MethodName)) ∈ zG := zgm9 25 (rfl) rfl
theorem zg_1946 : (Jvm.Cond.instanceMethod ({ cls := "DayOpenersModel", name := "rest", desc := "(III)I" } : Jvm.MethodName)) ∈ zG := zgm9 26 (rfl) rfl
theorem zg_1947 : (Jvm.Cond.selects "DayOpenersModel" ({ cls := "DayOpenersModel", name := "rest", desc := "(III)I" } : Jvm.MethodName) ({ cls := "DayOpenersModel", name := "rest", desc := "(III)I" } : Jvm.MethodName)) ∈ zG := zgm9 27 (rfl) rfl
theorem zg_1948 : (Jvm.Cond.code ({ cls := "DayOpenersModel", name := "rest", desc := "(III)I" } : Jvm.MethodName) prog_14_method_102_code (4 : Nat) (Option.some Jvm.ClassFile.FieldType.int)) ∈ zG := zgm9 28 (rfl) rfl
theorem zg_1949 : (Jvm.Cond.methodLink "DayOpenersLaw" (152 : Nat) ({ cls := "DayOpenersModel", name := "sure", desc := "(II)J" } : Jvm.MethodName)) ∈ zG := zgm9 29 (rfl) rfl
theorem zg_1950 : (Jvm.Cond.instanceMethod ({ cls := "DayOpenersModel", name := "sure", desc := "(II)J" } : Jvm.MethodName)) ∈ zG := zgm9 30 (rfl) rfl
theorem zg_1951 : (Jvm.Cond.selects "DayOpenersModel" ({ cls := "DayOpenersModel", name := "sure", desc := "(II)J" } : Jvm.MethodName) ({ cls := "DayOpenersModel", name := "sure", desc := "(II)J" } : Jvm.MethodName)) ∈ zG := zgm9 31 (rfl) rfl
theorem zg_1952 : (Jvm.Cond.code ({ cls := "DayOpenersModel", name := "sure", desc := "(II)J" } : Jvm.MethodName) prog_14_method_103_code (13 : Nat) (Option.some Jvm.ClassFile.FieldType.long)) ∈ zG := zgm9 32 (rfl) rfl
theorem zg_1953 : (Jvm.Cond.constantLong "DayOpenersModel" (481 : Nat) (-1 : Int64)) ∈ zG := zgm9 33 (rfl) rfl
theorem zg_1954 : (Jvm.Cond.constantLong "DayOpenersModel" (483 : Nat) (100 : Int64)) ∈ zG := zgm9 34 (rfl) rfl
theorem zg_1955 : (Jvm.Cond.methodLink "DayOpenersLaw" (157 : Nat) ({ cls := "DayOpenersModel", name := "note", desc := "(IIZ)I" } : Jvm.MethodName)) ∈ zG := zgm9 35 (rfl) rfl
theorem zg_1956 : (Jvm.Cond.instanceMethod ({ cls := "DayOpenersModel", name := "note", desc := "(IIZ)I" } : Jvm.MethodName)) ∈ zG := zgm9 36 (rfl) rfl
theorem zg_1957 : (Jvm.Cond.selects "DayOpenersModel" ({ cls := "DayOpenersModel", name := "note", desc := "(IIZ)I" } : Jvm.MethodName) ({ cls := "DayOpenersModel", name := "note", desc := "(IIZ)I" } : Jvm.MethodName)) ∈ zG := zgm9 37 (rfl) rfl
theorem zg_1958 : (Jvm.Cond.code ({ cls := "DayOpenersModel", name := "note", desc := "(IIZ)I" } : Jvm.MethodName) prog_14_method_104_code (4 : Nat) (Option.some Jvm.ClassFile.FieldType.int)) ∈ zG := zgm9 38 (rfl) rfl
theorem zg_1959 : (Jvm.Cond.methodLink "DayOpenersLaw" (161 : Nat) ({ cls := "DayOpenersModel", name := "strike", desc := "(I)I" } : Jvm.MethodName)) ∈ zG := zgm9 39 (rfl) rfl
theorem zg_1960 : (Jvm.Cond.instanceMethod ({ cls := "DayOpenersModel", name := "strike", desc := "(I)I" } : Jvm.MethodName)) ∈ zG := zgm9 40 (rfl) rfl
theorem zg_1961 : (Jvm.Cond.selects "DayOpenersModel" ({ cls := "DayOpenersModel", name := "strike", desc := "(I)I" } : Jvm.MethodName) ({ cls := "DayOpenersModel", name := "strike", desc := "(I)I" } : Jvm.MethodName)) ∈ zG := zgm9 41 (rfl) rfl
theorem zg_1962 : (Jvm.Cond.code ({ cls := "DayOpenersModel", name := "strike", desc := "(I)I" } : Jvm.MethodName) prog_14_method_105_code (2 : Nat) (Option.some Jvm.ClassFile.FieldType.int)) ∈ zG := zgm9 42 (rfl) rfl
theorem zg_1963 : (Jvm.Cond.methodLink "DayOpenersLaw" (165 : Nat) ({ cls := "DayOpenersModel", name := "toldBy", desc := "(I)Z" } : Jvm.MethodName)) ∈ zG := zgm9 43 (rfl) rfl
theorem zg_1964 : (Jvm.Cond.instanceMethod ({ cls := "DayOpenersModel", name := "toldBy", desc := "(I)Z" } : Jvm.MethodName)) ∈ zG := zgm9 44 (rfl) rfl
theorem zg_1965 : (Jvm.Cond.selects "DayOpenersModel" ({ cls := "DayOpenersModel", name := "toldBy", desc := "(I)Z" } : Jvm.MethodName) ({ cls := "DayOpenersModel", name := "toldBy", desc := "(I)Z" } : Jvm.MethodName)) ∈ zG := zgm9 45 (rfl) rfl
theorem zg_1966 : (Jvm.Cond.code ({ cls := "DayOpenersModel", name := "toldBy", desc := "(I)Z" } : Jvm.MethodName) prog_14_method_106_code (2 : Nat) (Option.some Jvm.ClassFile.FieldType.boolean)) ∈ zG := zgm9 46 (rfl) rfl
theorem zg_1967 : (Jvm.Cond.methodLink "DayOpenersLaw" (169 : Nat) ({ cls := "DayOpenersModel", name := "hours", desc := "(I)I" } : Jvm.MethodName)) ∈ zG := zgm9 47 (rfl) rfl
theorem zg_1968 : (Jvm.Cond.instanceMethod ({ cls := "DayOpenersModel", name := "hours", desc := "(I)I" } : Jvm.MethodName)) ∈ zG := zgm9 48 (rfl) rfl
theorem zg_1969 : (Jvm.Cond.selects "DayOpenersModel" ({ cls := "DayOpenersModel", name := "hours", desc := "(I)I" } : Jvm.MethodName) ({ cls := "DayOpenersModel", name := "hours", desc := "(I)I" } : Jvm.MethodName)) ∈ zG := zgm9 49 (rfl) rfl
theorem zg_1970 : (Jvm.Cond.code ({ cls := "DayOpenersModel", name := "hours", desc := "(I)I" } : Jvm.MethodName) prog_14_method_111_code (2 : Nat) (Option.some Jvm.ClassFile.FieldType.int)) ∈ zG := zgm9 50 (rfl) rfl
theorem zg_1971 : (Jvm.Cond.methodLink "DayOpenersModel" (494 : Nat) ({ cls := "DayOpenersModel", name := "hoursOf", desc := "(I)I" } : Jvm.MethodName)) ∈ zG := zgm9 51 (rfl) rfl
theorem zg_1973 : (Jvm.Cond.instanceMethod ({ cls := "DayOpenersModel", name := "hoursOf", desc := "(I)I" } : Jvm.MethodName)) ∈ zG := zgm9 53 (rfl) rfl
theorem zg_1974 : (Jvm.Cond.code ({ cls := "DayOpenersModel", name := "hoursOf", desc := "(I)I" } : Jvm.MethodName) prog_14_method_110_code (5 : Nat) (Option.some Jvm.ClassFile.FieldType.int)) ∈ zG := zgm9 54 (rfl) rfl
theorem zg_1975 : (Jvm.Cond.methodLink "DayOpenersModel" (485 : Nat) ({ cls := "DayOpenersModel", name := "knownMany", desc := "()I" } : Jvm.MethodName)) ∈ zG := zgm9 55 (rfl) rfl
theorem zg_1977 : (Jvm.Cond.instanceMethod ({ cls := "DayOpenersModel", name := "knownMany", desc := "()I" } : Jvm.MethodName)) ∈ zG := zgm9 57 (rfl) rfl
theorem zg_1978 : (Jvm.Cond.code ({ cls := "DayOpenersModel", name := "knownMany", desc := "()I" } : Jvm.MethodName) prog_14_method_107_code (1 : Nat) (Option.some Jvm.ClassFile.FieldType.int)) ∈ zG := zgm9 58 (rfl) rfl
theorem zg_1979 : (Jvm.Cond.methodLink "DayOpenersModel" (491 : Nat) ({ cls := "DayOpenersModel", name := "fitsHour", desc := "(I)Z" } : Jvm.MethodName)) ∈ zG := zgm9 59 (rfl) rfl
theorem zg_1981 : (Jvm.Cond.instanceMethod ({ cls := "DayOpenersModel", name := "fitsHour", desc := "(I)Z" } : Jvm.MethodName)) ∈ zG := zgm9 61 (rfl) rfl
theorem zg_1982 : (Jvm.Cond.code ({ cls := "DayOpenersModel", name := "fitsHour", desc := "(I)Z" } : Jvm.MethodName) prog_14_method_109_code (3 : Nat) (Option.some Jvm.ClassFile.FieldType.boolean)) ∈ zG := zgm9 62 (rfl) rfl
theorem zg_1983 : (Jvm.Cond.methodLink "DayOpenersModel" (488 : Nat) ({ cls := "DayOpenersModel", name := "isSo", desc := "(I)Z" } : Jvm.MethodName)) ∈ zG := zgm9 63 (rfl) rfl
theorem zg_1985 : (Jvm.Cond.instanceMethod ({ cls := "DayOpenersModel", name := "isSo", desc := "(I)Z" } : Jvm.MethodName)) ∈ zG := zgm9 65 (rfl) rfl
theorem zg_1986 : (Jvm.Cond.code ({ cls := "DayOpenersModel", name := "isSo", desc := "(I)Z" } : Jvm.MethodName) prog_14_method_108_code (3 : Nat) (Option.some Jvm.ClassFile.FieldType.boolean)) ∈ zG := zgm9 66 (rfl) rfl
theorem zg_1987 : (Jvm.Cond.methodLink "DayOpenersLaw" (173 : Nat) ({ cls := "DayOpenersModel", name := "ask", desc := "(II)I" } : Jvm.MethodName)) ∈ zG := zgm9 67 (rfl) rfl
theorem zg_1988 : (Jvm.Cond.instanceMethod ({ cls := "DayOpenersModel", name := "ask", desc := "(II)I" } : Jvm.MethodName)) ∈ zG := zgm9 68 (rfl) rfl
theorem zg_1989 : (Jvm.Cond.selects "DayOpenersModel" ({ cls := "DayOpenersModel", name := "ask", desc := "(II)I" } : Jvm.MethodName) ({ cls := "DayOpenersModel", name := "ask", desc := "(II)I" } : Jvm.MethodName)) ∈ zG := zgm9 69 (rfl) rfl
theorem zg_1990 : (Jvm.Cond.code ({ cls := "DayOpenersModel", name := "ask", desc := "(II)I" } : Jvm.MethodName) prog_14_method_113_code (6 : Nat) (Option.some Jvm.ClassFile.FieldType.int)) ∈ zG := zgm9 70 (rfl) rfl
theorem zg_1991 : (Jvm.Cond.methodLink "DayOpenersModel" (497 : Nat) ({ cls := "DayOpenersModel", name := "worstAt", desc := "(II)I" } : Jvm.MethodName)) ∈ zG := zgm9 71 (rfl) rfl
theorem zg_1993 : (Jvm.Cond.instanceMethod ({ cls := "DayOpenersModel", name := "worstAt", desc := "(II)I" } : Jvm.MethodName)) ∈ zG := zgm9 73 (rfl) rfl
theorem zg_1994 : (Jvm.Cond.code ({ cls := "DayOpenersModel", name := "worstAt", desc := "(II)I" } : Jvm.MethodName) prog_14_method_112_code (7 : Nat) (Option.some Jvm.ClassFile.FieldType.int)) ∈ zG := zgm9 74 (rfl) rfl
theorem zg_1995 : (Jvm.Cond.methodLink "DayOpenersLaw" (177 : Nat) ({ cls := "DayOpenersModel", name := "chance", desc := "(III)I" } : Jvm.MethodName)) ∈ zG := zgm9 75 (rfl) rfl
theorem zg_1996 : (Jvm.Cond.instanceMethod ({ cls := "DayOpenersModel", name := "chance", desc := "(III)I" } : Jvm.MethodName)) ∈ zG := zgm9 76 (rfl) rfl
theorem zg_1997 : (Jvm.Cond.selects "DayOpenersModel" ({ cls := "DayOpenersModel", name := "chance", desc := "(III)I" } : Jvm.MethodName) ({ cls := "DayOpenersModel", name := "chance", desc := "(III)I" } : Jvm.MethodName)) ∈ zG := zgm9 77 (rfl) rfl
theorem zg_1998 : (Jvm.Cond.code ({ cls := "DayOpenersModel", name := "chance", desc := "(III)I" } : Jvm.MethodName) prog_14_method_114_code (8 : Nat) (Option.some Jvm.ClassFile.FieldType.int)) ∈ zG := zgm9 78 (rfl) rfl
theorem zg_1999 : (Jvm.Cond.methodLink "DayOpenersLaw" (181 : Nat) ({ cls := "DayOpenersModel", name := "tried", desc := "(III)I" } : Jvm.MethodName)) ∈ zG := zgm9 79 (rfl) rfl
theorem zg_2000 : (Jvm.Cond.instanceMethod ({ cls := "DayOpenersModel", name := "tried", desc := "(III)I" } : Jvm.MethodName)) ∈ zG := zgm9 80 (rfl) rfl
theorem zg_2001 : (Jvm.Cond.selects "DayOpenersModel" ({ cls := "DayOpenersModel", name := "tried", desc := "(III)I" } : Jvm.MethodName) ({ cls := "DayOpenersModel", name := "tried", desc := "(III)I" } : Jvm.MethodName)) ∈ zG := zgm9 81 (rfl) rfl
theorem zg_2002 : (Jvm.Cond.code ({ cls := "DayOpenersModel", name := "tried", desc := "(III)I" } : Jvm.MethodName) prog_14_method_115_code (5 : Nat) (Option.some Jvm.ClassFile.FieldType.int)) ∈ zG := zgm9 82 (rfl) rfl
theorem zg_2003 : (Jvm.Cond.methodLink "DayOpenersLaw" (185 : Nat) ({ cls := "DayOpenersModel", name := "undo", desc := "()I" } : Jvm.MethodName)) ∈ zG := zgm9 83 (rfl) rfl
theorem zg_2004 : (Jvm.Cond.instanceMethod ({ cls := "DayOpenersModel", name := "undo", desc := "()I" } : Jvm.MethodName)) ∈ zG := zgm9 84 (rfl) rfl
theorem zg_2005 : (Jvm.Cond.selects "DayOpenersModel" ({ cls := "DayOpenersModel", name := "undo", desc := "()I" } : Jvm.MethodName) ({ cls := "DayOpenersModel", name := "undo", desc := "()I" } : Jvm.MethodName)) ∈ zG := zgm9 85 (rfl) rfl
theorem zg_2006 : (Jvm.Cond.code ({ cls := "DayOpenersModel", name := "undo", desc := "()I" } : Jvm.MethodName) prog_14_method_116_code (1 : Nat) (Option.some Jvm.ClassFile.FieldType.int)) ∈ zG := zgm9 86 (rfl) rfl
theorem zg_2007 : (Jvm.Cond.methodLink "DayOpenersLaw" (189 : Nat) ({ cls := "DayOpenersModel", name := "keep", desc := "()I" } : Jvm.MethodName)) ∈ zG := zgm9 87 (rfl) rfl
theorem zg_2008 : (Jvm.Cond.instanceMethod ({ cls := "DayOpenersModel", name := "keep", desc := "()I" } : Jvm.MethodName)) ∈ zG := zgm9 88 (rfl) rfl
theorem zg_2009 : (Jvm.Cond.selects "DayOpenersModel" ({ cls := "DayOpenersModel", name := "keep", desc := "()I" } : Jvm.MethodName) ({ cls := "DayOpenersModel", name := "keep", desc := "()I" } : Jvm.MethodName)) ∈ zG := zgm9 89 (rfl) rfl
theorem zg_2010 : (Jvm.Cond.code ({ cls := "DayOpenersModel", name := "keep", desc := "()I" } : Jvm.MethodName) prog_14_method_117_code (1 : Nat) (Option.some Jvm.ClassFile.FieldType.int)) ∈ zG := zgm9 90 (rfl) rfl
theorem zg_2011 : (Jvm.Cond.methodLink "DayOpenersLaw" (193 : Nat) ({ cls := "DayOpenersModel", name := "back", desc := "()I" } : Jvm.MethodName)) ∈ zG := zgm9 91 (rfl) rfl
theorem zg_2012 : (Jvm.Cond.instanceMethod ({ cls := "DayOpenersModel", name := "back", desc := "()I" } : Jvm.MethodName)) ∈ zG := zgm9 92 (rfl) rfl
theorem zg_2013 : (Jvm.Cond.selects "DayOpenersModel" ({ cls := "DayOpenersModel", name := "back", desc := "()I" } : Jvm.MethodName) ({ cls := "DayOpenersModel", name := "back", desc := "()I" } : Jvm.MethodName)) ∈ zG := zgm9 93 (rfl) rfl
theorem zg_2014 : (Jvm.Cond.code ({ cls := "DayOpenersModel", name := "back", desc := "()I" } : Jvm.MethodName) prog_14_method_118_code (1 : Nat) (Option.some Jvm.ClassFile.FieldType.int)) ∈ zG := zgm9 94 (rfl) rfl
theorem zg_2015 : (Jvm.Cond.methodLink "DayOpenersLaw" (197 : Nat) ({ cls := "DayOpenersModel", name := "count", desc := "(I)I" } : Jvm.MethodName)) ∈ zG := zgm9 95 (rfl) rfl
theorem zg_2016 : (Jvm.Cond.instanceMethod ({ cls := "DayOpenersModel", name := "count", desc := "(I)I" } : Jvm.MethodName)) ∈ zG := zgm9 96 (rfl) rfl
theorem zg_2017 : (Jvm.Cond.selects "DayOpenersModel" ({ cls := "DayOpenersModel", name := "count", desc := "(I)I" } : Jvm.MethodName) ({ cls := "DayOpenersModel", name := "count", desc := "(I)I" } : Jvm.MethodName)) ∈ zG := zgm9 97 (rfl) rfl
theorem zg_2018 : (Jvm.Cond.code ({ cls := "DayOpenersModel", name := "count", desc := "(I)I" } : Jvm.MethodName) prog_14_method_120_code (2 : Nat) (Option.some Jvm.ClassFile.FieldType.int)) ∈ zG := zgm9 98 (rfl) rfl
theorem zg_2019 : (Jvm.Cond.methodLink "DayOpenersModel" (500 : Nat) ({ cls := "DayOpenersModel", name := "knownAll", desc := "()I" } : Jvm.MethodName)) ∈ zG := zgm9 99 (rfl) rfl
theorem zg_2021 : (Jvm.Cond.instanceMethod ({ cls := "DayOpenersModel", name := "knownAll", desc := "()I" } : Jvm.MethodName)) ∈ zG := zgm9 101 (rfl) rfl
theorem zg_2022 : (Jvm.Cond.code ({ cls := "DayOpenersModel", name := "knownAll", desc := "()I" } : Jvm.MethodName) prog_14_method_119_code (3 : Nat) (Option.some Jvm.ClassFile.FieldType.int)) ∈ zG := zgm9 102 (rfl) rfl
theorem zs_0 : Cond.selects "DayOpeners" ⟨"DayOpeners", "tapeNumber", "(I)V"⟩ ⟨"DayOpeners", "tapeNumber", "(I)V"⟩ ∈ zG := zgs 0 (rfl) rfl
theorem zs_1 : Cond.selects "DayOpeners$Tokens" ⟨"DayOpeners$Tokens", "nextWord", "()V"⟩ ⟨"DayOpeners$Tokens", "nextWord", "()V"⟩ ∈ zG := zgs 1 (rfl) rfl
theorem zs_2 : Cond.selects "DayOpeners$Tokens" ⟨"DayOpeners$Tokens", "nextNumber", "()V"⟩ ⟨"DayOpeners$Tokens", "nextNumber", "()V"⟩ ∈ zG := zgs 2 (rfl) rfl
theorem zs_3 : Cond.selects "DayOpeners$Tokens" ⟨"DayOpeners$Tokens", "nextSign", "(I)V"⟩ ⟨"DayOpeners$Tokens", "nextSign", "(I)V"⟩ ∈ zG := zgs 3 (rfl) rfl
theorem zs_4 : Cond.selects "DayOpeners$Parser" ⟨"DayOpeners$Parser", "line", "()Z"⟩ ⟨"DayOpeners$Parser", "line", "()Z"⟩ ∈ zG := zgs 4 (rfl) rfl
theorem zs_5 : Cond.selects "DayOpeners$Parser" ⟨"DayOpeners$Parser", "fails", "(I)Z"⟩ ⟨"DayOpeners$Parser", "fails", "(I)Z"⟩ ∈ zG := zgs 5 (rfl) rfl
theorem zs_6 : Cond.selects "DayOpeners$Parser" ⟨"DayOpeners$Parser", "trades", "()Z"⟩ ⟨"DayOpeners$Parser", "trades", "()Z"⟩ ∈ zG := zgs 6 (rfl) rfl
theorem zs_7 : Cond.selects "DayOpeners$Parser" ⟨"DayOpeners$Parser", "isNewName", "(I)Z"⟩ ⟨"DayOpeners$Parser", "isNewName", "(I)Z"⟩ ∈ zG := zgs 7 (rfl) rfl
theorem zs_8 : Cond.selects "DayOpeners$Parser" ⟨"DayOpeners$Parser", "taken", "()I"⟩ ⟨"DayOpeners$Parser", "taken", "()I"⟩ ∈ zG := zgs 8 (rfl) rfl
theorem zs_9 : Cond.selects "DayOpeners$Parser" ⟨"DayOpeners$Parser", "isNumber", "(II)Z"⟩ ⟨"DayOpeners$Parser", "isNumber", "(II)Z"⟩ ∈ zG := zgs 9 (rfl) rfl
theorem zs_10 : Cond.selects "DayOpeners$Parser" ⟨"DayOpeners$Parser", "ends", "()Z"⟩ ⟨"DayOpeners$Parser", "ends", "()Z"⟩ ∈ zG := zgs 10 (rfl) rfl
theorem zs_11 : Cond.selects "DayOpeners$Parser" ⟨"DayOpeners$Parser", "turns", "()Z"⟩ ⟨"DayOpeners$Parser", "turns", "()Z"⟩ ∈ zG := zgs 11 (rfl) rfl
theorem zs_12 : Cond.selects "DayOpeners$Parser" ⟨"DayOpeners$Parser", "isTrade", "()Z"⟩ ⟨"DayOpeners$Parser", "isTrade", "()Z"⟩ ∈ zG := zgs 12 (rfl) rfl
theorem zs_13 : Cond.selects "DayOpeners$Parser" ⟨"DayOpeners$Parser", "claims", "()Z"⟩ ⟨"DayOpeners$Parser", "claims", "()Z"⟩ ∈ zG := zgs 13 (rfl) rfl
theorem zs_14 : Cond.selects "DayOpeners$Parser" ⟨"DayOpeners$Parser", "works", "()Z"⟩ ⟨"DayOpeners$Parser", "works", "()Z"⟩ ∈ zG := zgs 14 (rfl) rfl
theorem zs_15 : Cond.selects "DayOpeners$Parser" ⟨"DayOpeners$Parser", "slips", "()Z"⟩ ⟨"DayOpeners$Parser", "slips", "()Z"⟩ ∈ zG := zgs 15 (rfl) rfl
theorem zs_16 : Cond.selects "DayOpeners$Parser" ⟨"DayOpeners$Parser", "seeds", "()Z"⟩ ⟨"DayOpeners$Parser", "seeds", "()Z"⟩ ∈ zG := zgs 16 (rfl) rfl
theorem zs_17 : Cond.selects "DayOpeners$Parser" ⟨"DayOpeners$Parser", "laws", "()Z"⟩ ⟨"DayOpeners$Parser", "laws", "()Z"⟩ ∈ zG := zgs 17 (rfl) rfl
theorem zs_18 : Cond.selects "DayOpeners$Parser" ⟨"DayOpeners$Parser", "beginsPart", "()Z"⟩ ⟨"DayOpeners$Parser", "beginsPart", "()Z"⟩ ∈ zG := zgs 18 (rfl) rfl
theorem zs_19 : Cond.selects "DayOpeners$Parser" ⟨"DayOpeners$Parser", "counts", "()Z"⟩ ⟨"DayOpeners$Parser", "counts", "()Z"⟩ ∈ zG := zgs 19 (rfl) rfl
theorem zs_20 : Cond.selects "DayOpeners$Parser" ⟨"DayOpeners$Parser", "tells", "(II)Z"⟩ ⟨"DayOpeners$Parser", "tells", "(II)Z"⟩ ∈ zG := zgs 20 (rfl) rfl
theorem zs_21 : Cond.selects "DayOpeners$Parser" ⟨"DayOpeners$Parser", "hold", "(I)Z"⟩ ⟨"DayOpeners$Parser", "hold", "(I)Z"⟩ ∈ zG := zgs 21 (rfl) rfl
theorem zs_22 : Cond.selects "DayOpeners$Parser" ⟨"DayOpeners$Parser", "topWaiting", "()I"⟩ ⟨"DayOpeners$Parser", "topWaiting", "()I"⟩ ∈ zG := zgs 22 (rfl) rfl
theorem zs_23 : Cond.selects "DayOpeners$Parser" ⟨"DayOpeners$Parser", "endsPart", "()Z"⟩ ⟨"DayOpeners$Parser", "endsPart", "()Z"⟩ ∈ zG := zgs 23 (rfl) rfl
theorem zs_24 : Cond.selects "DayOpeners$Parser" ⟨"DayOpeners$Parser", "unwind", "(I)V"⟩ ⟨"DayOpeners$Parser", "unwind", "(I)V"⟩ ∈ zG := zgs 24 (rfl) rfl
theorem zs_25 : Cond.selects "DayOpeners$Laws" ⟨"DayOpeners$Laws", "nameWorth", "(I)J"⟩ ⟨"DayOpeners$Laws", "nameWorth", "(I)J"⟩ ∈ zG := zgs 25 (rfl) rfl
theorem zs_26 : Cond.selects "DayOpeners$Course" ⟨"DayOpeners$Course", "byTurns", "(LDayOpeners$State;)I"⟩ ⟨"DayOpeners$Course", "byTurns", "(LDayOpeners$State;)I"⟩ ∈ zG := zgs 26 (rfl) rfl
theorem zs_27 : Cond.selects "DayOpeners$Course" ⟨"DayOpeners$Course", "isMistake", "(LDayOpeners$State;)Z"⟩ ⟨"DayOpeners$Course", "isMistake", "(LDayOpeners$State;)Z"⟩ ∈ zG := zgs 27 (rfl) rfl
theorem zs_28 : Cond.selects "DayOpeners" ⟨"DayOpeners", "tryDays", "(I)V"⟩ ⟨"DayOpeners", "tryDays", "(I)V"⟩ ∈ zG := zgs 28 (rfl) rfl
theorem zs_29 : Cond.selects "DayOpeners$Plans" ⟨"DayOpeners$Plans", "allDone", "()Z"⟩ ⟨"DayOpeners$Plans", "allDone", "()Z"⟩ ∈ zG := zgs 29 (rfl) rfl
theorem zs_30 : Cond.selects "DayOpeners$Plans" ⟨"DayOpeners$Plans", "stateBehind", "(I)LDayOpeners$State;"⟩ ⟨"DayOpeners$Plans", "stateBehind", "(I)LDayOpeners$State;"⟩ ∈ zG := zgs 30 (rfl) rfl
theorem zs_31 : Cond.selects "DayOpeners$Plans" ⟨"DayOpeners$Plans", "hopes", "(LDayOpeners$State;I)I"⟩ ⟨"DayOpeners$Plans", "hopes", "(LDayOpeners$State;I)I"⟩ ∈ zG := zgs 31 (rfl) rfl
theorem zs_32 : Cond.selects "DayOpeners$Seats" ⟨"DayOpeners$Seats", "firstLeft", "(I)I"⟩ ⟨"DayOpeners$Seats", "firstLeft", "(I)I"⟩ ∈ zG := zgs 32 (rfl) rfl
theorem zs_33 : Cond.selects "DayOpeners$Seats" ⟨"DayOpeners$Seats", "wish", "(LDayOpeners$Told;LDayOpeners$State;)V"⟩ ⟨"DayOpeners$Seats", "wish", "(LDayOpeners$Told;LDayOpeners$State;)V"⟩ ∈ zG := zgs 33 (rfl) rfl
theorem zs_34 : Cond.selects "DayOpeners$Seats" ⟨"DayOpeners$Seats", "closeRing", "(LDayOpeners$State;I)V"⟩ ⟨"DayOpeners$Seats", "closeRing", "(LDayOpeners$State;I)V"⟩ ∈ zG := zgs 34 (rfl) rfl
theorem zs_35 : Cond.selects "DayOpeners$Seats" ⟨"DayOpeners$Seats", "weightOf", "(I)I"⟩ ⟨"DayOpeners$Seats", "weightOf", "(I)I"⟩ ∈ zG := zgs 35 (rfl) rfl
theorem zs_36 : Cond.selects "DayOpeners" ⟨"DayOpeners", "isRest", "(III)Z"⟩ ⟨"DayOpeners", "isRest", "(III)Z"⟩ ∈ zG := zgs 36 (rfl) rfl
theorem zs_37 : Cond.selects "DayOpeners" ⟨"DayOpeners", "gain", "(IIII)I"⟩ ⟨"DayOpeners", "gain", "(IIII)I"⟩ ∈ zG := zgs 37 (rfl) rfl
theorem zs_38 : Cond.selects "DayOpeners" ⟨"DayOpeners", "watchHours", "(II)V"⟩ ⟨"DayOpeners", "watchHours", "(II)V"⟩ ∈ zG := zgs 38 (rfl) rfl
theorem zs_39 : Cond.selects "DayOpeners$Notes" ⟨"DayOpeners$Notes", "tells", "(I)Z"⟩ ⟨"DayOpeners$Notes", "tells", "(I)Z"⟩ ∈ zG := zgs 39 (rfl) rfl
theorem zs_40 : Cond.selects "DayOpeners$Notes" ⟨"DayOpeners$Notes", "fits", "(II)Z"⟩ ⟨"DayOpeners$Notes", "fits", "(II)Z"⟩ ∈ zG := zgs 40 (rfl) rfl
theorem zs_41 : Cond.selects "DayOpeners$Notes" ⟨"DayOpeners$Notes", "lastBehind", "(II)I"⟩ ⟨"DayOpeners$Notes", "lastBehind", "(II)I"⟩ ∈ zG := zgs 41 (rfl) rfl
theorem zs_42 : Cond.selects "DayOpeners$Notes" ⟨"DayOpeners$Notes", "worstOf", "(II)I"⟩ ⟨"DayOpeners$Notes", "worstOf", "(II)I"⟩ ∈ zG := zgs 42 (rfl) rfl
theorem zs_43 : Cond.selects "java/lang/Throwable" ⟨"java/lang/Throwable", "fillInStackTrace", "(I)Ljava/lang/Throwable;"⟩ ⟨"java/lang/Throwable", "fillInStackTrace", "(I)Ljava/lang/Throwable;"⟩ ∈ zG := zgs 43 (rfl) rfl
theorem zs_44 : Cond.selects "DayOpenersModel" ⟨"DayOpenersModel", "begins", "()V"⟩ ⟨"DayOpenersModel", "begins", "()V"⟩ ∈ zG := zgs 44 (rfl) rfl
theorem zs_45 : Cond.selects "DayOpenersModel" ⟨"DayOpenersModel", "starts", "(I)V"⟩ ⟨"DayOpenersModel", "starts", "(I)V"⟩ ∈ zG := zgs 45 (rfl) rfl
theorem zs_46 : Cond.selects "DayOpenersModel" ⟨"DayOpenersModel", "reads", "(II)V"⟩ ⟨"DayOpenersModel", "reads", "(II)V"⟩ ∈ zG := zgs 46 (rfl) rfl
theorem zs_47 : Cond.selects "DayOpenersModel" ⟨"DayOpenersModel", "token", "()V"⟩ ⟨"DayOpenersModel", "token", "()V"⟩ ∈ zG := zgs 47 (rfl) rfl
theorem zs_48 : Cond.selects "DayOpenersModel" ⟨"DayOpenersModel", "here", "()I"⟩ ⟨"DayOpenersModel", "here", "()I"⟩ ∈ zG := zgs 48 (rfl) rfl
theorem zs_49 : Cond.selects "DayOpenersModel" ⟨"DayOpenersModel", "word", "()I"⟩ ⟨"DayOpenersModel", "word", "()I"⟩ ∈ zG := zgs 49 (rfl) rfl
theorem zs_50 : Cond.selects "DayOpenersModel" ⟨"DayOpenersModel", "name", "()V"⟩ ⟨"DayOpenersModel", "name", "()V"⟩ ∈ zG := zgs 50 (rfl) rfl
theorem zs_51 : Cond.selects "DayOpenersModel" ⟨"DayOpenersModel", "sign", "(I)V"⟩ ⟨"DayOpenersModel", "sign", "(I)V"⟩ ∈ zG := zgs 51 (rfl) rfl
theorem zs_52 : Cond.selects "DayOpenersModel" ⟨"DayOpenersModel", "line", "()V"⟩ ⟨"DayOpenersModel", "line", "()V"⟩ ∈ zG := zgs 52 (rfl) rfl
theorem zs_53 : Cond.selects "DayOpenersModel" ⟨"DayOpenersModel", "wrong", "(I)V"⟩ ⟨"DayOpenersModel", "wrong", "(I)V"⟩ ∈ zG := zgs 53 (rfl) rfl
theorem zs_54 : Cond.selects "DayOpenersModel" ⟨"DayOpenersModel", "isFull", "(I)Z"⟩ ⟨"DayOpenersModel", "isFull", "(I)Z"⟩ ∈ zG := zgs 54 (rfl) rfl
theorem zs_55 : Cond.selects "DayOpenersModel" ⟨"DayOpenersModel", "fresher", "(I)I"⟩ ⟨"DayOpenersModel", "fresher", "(I)I"⟩ ∈ zG := zgs 55 (rfl) rfl
theorem zs_56 : Cond.selects "DayOpenersModel" ⟨"DayOpenersModel", "fresh", "([III)I"⟩ ⟨"DayOpenersModel", "fresh", "([III)I"⟩ ∈ zG := zgs 56 (rfl) rfl
theorem zs_57 : Cond.selects "DayOpenersModel" ⟨"DayOpenersModel", "numeral", "(II)I"⟩ ⟨"DayOpenersModel", "numeral", "(II)I"⟩ ∈ zG := zgs 57 (rfl) rfl
theorem zs_58 : Cond.selects "DayOpenersModel" ⟨"DayOpenersModel", "tradeAhead", "()I"⟩ ⟨"DayOpenersModel", "tradeAhead", "()I"⟩ ∈ zG := zgs 58 (rfl) rfl
theorem zs_59 : Cond.selects "DayOpenersModel" ⟨"DayOpenersModel", "goOn", "()V"⟩ ⟨"DayOpenersModel", "goOn", "()V"⟩ ∈ zG := zgs 59 (rfl) rfl
theorem zs_60 : Cond.selects "DayOpenersModel" ⟨"DayOpenersModel", "claimLine", "()V"⟩ ⟨"DayOpenersModel", "claimLine", "()V"⟩ ∈ zG := zgs 60 (rfl) rfl
theorem zs_61 : Cond.selects "DayOpenersModel" ⟨"DayOpenersModel", "lawLine", "()V"⟩ ⟨"DayOpenersModel", "lawLine", "()V"⟩ ∈ zG := zgs 61 (rfl) rfl
theorem zs_62 : Cond.selects "DayOpenersModel" ⟨"DayOpenersModel", "expression", "()V"⟩ ⟨"DayOpenersModel", "expression", "()V"⟩ ∈ zG := zgs 62 (rfl) rfl
theorem zs_63 : Cond.selects "DayOpenersModel" ⟨"DayOpenersModel", "conjunction", "()V"⟩ ⟨"DayOpenersModel", "conjunction", "()V"⟩ ∈ zG := zgs 63 (rfl) rfl
theorem zs_64 : Cond.selects "DayOpenersModel" ⟨"DayOpenersModel", "negation", "()V"⟩ ⟨"DayOpenersModel", "negation", "()V"⟩ ∈ zG := zgs 64 (rfl) rfl
theorem zs_65 : Cond.selects "DayOpenersModel" ⟨"DayOpenersModel", "isWord", "(I)Z"⟩ ⟨"DayOpenersModel", "isWord", "(I)Z"⟩ ∈ zG := zgs 65 (rfl) rfl
theorem zs_66 : Cond.selects "DayOpenersModel" ⟨"DayOpenersModel", "knot", "()V"⟩ ⟨"DayOpenersModel", "knot", "()V"⟩ ∈ zG := zgs 66 (rfl) rfl
theorem zs_67 : Cond.selects "DayOpenersModel" ⟨"DayOpenersModel", "puts", "(II)V"⟩ ⟨"DayOpenersModel", "puts", "(II)V"⟩ ∈ zG := zgs 67 (rfl) rfl
theorem zs_68 : Cond.selects "DayOpenersModel" ⟨"DayOpenersModel", "sum", "()V"⟩ ⟨"DayOpenersModel", "sum", "()V"⟩ ∈ zG := zgs 68 (rfl) rfl
theorem zs_69 : Cond.selects "DayOpenersModel" ⟨"DayOpenersModel", "product", "()V"⟩ ⟨"DayOpenersModel", "product", "()V"⟩ ∈ zG := zgs 69 (rfl) rfl
theorem zs_70 : Cond.selects "DayOpenersModel" ⟨"DayOpenersModel", "primary", "()V"⟩ ⟨"DayOpenersModel", "primary", "()V"⟩ ∈ zG := zgs 70 (rfl) rfl
theorem zs_71 : Cond.selects "DayOpenersModel" ⟨"DayOpenersModel", "isSign", "(I)Z"⟩ ⟨"DayOpenersModel", "isSign", "(I)Z"⟩ ∈ zG := zgs 71 (rfl) rfl
theorem zs_72 : Cond.selects "DayOpenersModel" ⟨"DayOpenersModel", "isTrade", "(I)Z"⟩ ⟨"DayOpenersModel", "isTrade", "(I)Z"⟩ ∈ zG := zgs 72 (rfl) rfl
theorem zs_73 : Cond.selects "DayOpenersModel" ⟨"DayOpenersModel", "placesOf", "(I)I"⟩ ⟨"DayOpenersModel", "placesOf", "(I)I"⟩ ∈ zG := zgs 73 (rfl) rfl
theorem zs_74 : Cond.selects "DayOpenersModel" ⟨"DayOpenersModel", "isPlace", "(I)Z"⟩ ⟨"DayOpenersModel", "isPlace", "(I)Z"⟩ ∈ zG := zgs 74 (rfl) rfl
theorem zs_75 : Cond.selects "DayOpenersModel" ⟨"DayOpenersModel", "isWork", "(I)Z"⟩ ⟨"DayOpenersModel", "isWork", "(I)Z"⟩ ∈ zG := zgs 75 (rfl) rfl
theorem zs_76 : Cond.selects "DayOpenersModel" ⟨"DayOpenersModel", "hasLaw", "(I)Z"⟩ ⟨"DayOpenersModel", "hasLaw", "(I)Z"⟩ ∈ zG := zgs 76 (rfl) rfl
theorem zs_77 : Cond.selects "DayOpenersModel" ⟨"DayOpenersModel", "calls", "(II)V"⟩ ⟨"DayOpenersModel", "calls", "(II)V"⟩ ∈ zG := zgs 77 (rfl) rfl
theorem zs_78 : Cond.selects "DayOpenersModel" ⟨"DayOpenersModel", "hourOf", "(I)I"⟩ ⟨"DayOpenersModel", "hourOf", "(I)I"⟩ ∈ zG := zgs 78 (rfl) rfl
theorem zs_79 : Cond.selects "DayOpenersModel" ⟨"DayOpenersModel", "doneMany", "(I)I"⟩ ⟨"DayOpenersModel", "doneMany", "(I)I"⟩ ∈ zG := zgs 79 (rfl) rfl
theorem zs_80 : Cond.selects "DayOpenersModel" ⟨"DayOpenersModel", "isDone", "(II)Z"⟩ ⟨"DayOpenersModel", "isDone", "(II)Z"⟩ ∈ zG := zgs 80 (rfl) rfl
theorem zs_81 : Cond.selects "DayOpenersModel" ⟨"DayOpenersModel", "goes", "(I)Z"⟩ ⟨"DayOpenersModel", "goes", "(I)Z"⟩ ∈ zG := zgs 81 (rfl) rfl
theorem zs_82 : Cond.selects "DayOpenersModel" ⟨"DayOpenersModel", "works", "(I)Z"⟩ ⟨"DayOpenersModel", "works", "(I)Z"⟩ ∈ zG := zgs 82 (rfl) rfl
theorem zs_83 : Cond.selects "DayOpenersModel" ⟨"DayOpenersModel", "lengthOf", "(II)I"⟩ ⟨"DayOpenersModel", "lengthOf", "(II)I"⟩ ∈ zG := zgs 83 (rfl) rfl
theorem zs_84 : Cond.selects "DayOpenersModel" ⟨"DayOpenersModel", "within", "(IIII)I"⟩ ⟨"DayOpenersModel", "within", "(IIII)I"⟩ ∈ zG := zgs 84 (rfl) rfl
theorem zs_85 : Cond.selects "DayOpenersModel" ⟨"DayOpenersModel", "keepNow", "()V"⟩ ⟨"DayOpenersModel", "keepNow", "()V"⟩ ∈ zG := zgs 85 (rfl) rfl
theorem zs_86 : Cond.selects "DayOpenersModel" ⟨"DayOpenersModel", "copies", "(II)V"⟩ ⟨"DayOpenersModel", "copies", "(II)V"⟩ ∈ zG := zgs 86 (rfl) rfl
theorem zs_87 : Cond.selects "DayOpenersModel" ⟨"DayOpenersModel", "passes", "(IZ)V"⟩ ⟨"DayOpenersModel", "passes", "(IZ)V"⟩ ∈ zG := zgs 87 (rfl) rfl
theorem zs_88 : Cond.selects "DayOpenersModel" ⟨"DayOpenersModel", "whoOpens", "(IZ)I"⟩ ⟨"DayOpenersModel", "whoOpens", "(IZ)I"⟩ ∈ zG := zgs 88 (rfl) rfl
theorem zs_89 : Cond.selects "DayOpenersModel" ⟨"DayOpenersModel", "byTurn", "(IZ)I"⟩ ⟨"DayOpenersModel", "byTurn", "(IZ)I"⟩ ∈ zG := zgs 89 (rfl) rfl
theorem zs_90 : Cond.selects "DayOpenersModel" ⟨"DayOpenersModel", "isMistake", "(IZ)Z"⟩ ⟨"DayOpenersModel", "isMistake", "(IZ)Z"⟩ ∈ zG := zgs 90 (rfl) rfl
theorem zs_91 : Cond.selects "DayOpenersModel" ⟨"DayOpenersModel", "wills", "(II)Z"⟩ ⟨"DayOpenersModel", "wills", "(II)Z"⟩ ∈ zG := zgs 91 (rfl) rfl
theorem zs_92 : Cond.selects "DayOpenersModel" ⟨"DayOpenersModel", "opens", "(II)V"⟩ ⟨"DayOpenersModel", "opens", "(II)V"⟩ ∈ zG := zgs 92 (rfl) rfl
theorem zs_93 : Cond.selects "DayOpenersModel" ⟨"DayOpenersModel", "lengthsIn", "(I)I"⟩ ⟨"DayOpenersModel", "lengthsIn", "(I)I"⟩ ∈ zG := zgs 93 (rfl) rfl
theorem zs_94 : Cond.selects "DayOpenersModel" ⟨"DayOpenersModel", "goesOn", "(I)V"⟩ ⟨"DayOpenersModel", "goesOn", "(I)V"⟩ ∈ zG := zgs 94 (rfl) rfl
theorem zs_95 : Cond.selects "DayOpenersModel" ⟨"DayOpenersModel", "planned", "()I"⟩ ⟨"DayOpenersModel", "planned", "()I"⟩ ∈ zG := zgs 95 (rfl) rfl
theorem zs_96 : Cond.selects "DayOpenersModel" ⟨"DayOpenersModel", "gives", "(II)Z"⟩ ⟨"DayOpenersModel", "gives", "(II)Z"⟩ ∈ zG := zgs 96 (rfl) rfl
theorem zs_97 : Cond.selects "DayOpenersModel" ⟨"DayOpenersModel", "doesAll", "()Z"⟩ ⟨"DayOpenersModel", "doesAll", "()Z"⟩ ∈ zG := zgs 97 (rfl) rfl
theorem zs_98 : Cond.selects "DayOpenersModel" ⟨"DayOpenersModel", "lays", "(II)V"⟩ ⟨"DayOpenersModel", "lays", "(II)V"⟩ ∈ zG := zgs 98 (rfl) rfl
theorem zs_99 : Cond.selects "DayOpenersModel" ⟨"DayOpenersModel", "closes", "(I)V"⟩ ⟨"DayOpenersModel", "closes", "(I)V"⟩ ∈ zG := zgs 99 (rfl) rfl
theorem zs_100 : Cond.selects "DayOpenersModel" ⟨"DayOpenersModel", "wantAt", "(I)I"⟩ ⟨"DayOpenersModel", "wantAt", "(I)I"⟩ ∈ zG := zgs 100 (rfl) rfl
theorem zs_101 : Cond.selects "DayOpenersModel" ⟨"DayOpenersModel", "mannerAt", "(I)I"⟩ ⟨"DayOpenersModel", "mannerAt", "(I)I"⟩ ∈ zG := zgs 101 (rfl) rfl
theorem zs_102 : Cond.selects "DayOpenersModel" ⟨"DayOpenersModel", "placesIn", "(I)I"⟩ ⟨"DayOpenersModel", "placesIn", "(I)I"⟩ ∈ zG := zgs 102 (rfl) rfl
theorem zs_103 : Cond.selects "DayOpenersModel" ⟨"DayOpenersModel", "areTwo", "(II)Z"⟩ ⟨"DayOpenersModel", "areTwo", "(II)Z"⟩ ∈ zG := zgs 103 (rfl) rfl
theorem zs_104 : Cond.selects "DayOpenersModel" ⟨"DayOpenersModel", "restOf", "(III)I"⟩ ⟨"DayOpenersModel", "restOf", "(III)I"⟩ ∈ zG := zgs 104 (rfl) rfl
theorem zs_105 : Cond.selects "DayOpenersModel" ⟨"DayOpenersModel", "isRest", "(III)Z"⟩ ⟨"DayOpenersModel", "isRest", "(III)Z"⟩ ∈ zG := zgs 105 (rfl) rfl
theorem zs_106 : Cond.selects "DayOpenersModel" ⟨"DayOpenersModel", "hasOf", "(IIII)I"⟩ ⟨"DayOpenersModel", "hasOf", "(IIII)I"⟩ ∈ zG := zgs 106 (rfl) rfl
theorem zs_107 : Cond.selects "DayOpenersModel" ⟨"DayOpenersModel", "hoursOf", "(I)I"⟩ ⟨"DayOpenersModel", "hoursOf", "(I)I"⟩ ∈ zG := zgs 107 (rfl) rfl
theorem zs_108 : Cond.selects "DayOpenersModel" ⟨"DayOpenersModel", "knownMany", "()I"⟩ ⟨"DayOpenersModel", "knownMany", "()I"⟩ ∈ zG := zgs 108 (rfl) rfl
theorem zs_109 : Cond.selects "DayOpenersModel" ⟨"DayOpenersModel", "fitsHour", "(I)Z"⟩ ⟨"DayOpenersModel", "fitsHour", "(I)Z"⟩ ∈ zG := zgs 109 (rfl) rfl
theorem zs_110 : Cond.selects "DayOpenersModel" ⟨"DayOpenersModel", "isSo", "(I)Z"⟩ ⟨"DayOpenersModel", "isSo", "(I)Z"⟩ ∈ zG := zgs 110 (rfl) rfl
theorem zs_111 : Cond.selects "DayOpenersModel" ⟨"DayOpenersModel", "worstAt", "(II)I"⟩ ⟨"DayOpenersModel", "worstAt", "(II)I"⟩ ∈ zG := zgs 111 (rfl) rfl
theorem zs_112 : Cond.selects "DayOpenersModel" ⟨"DayOpenersModel", "knownAll", "()I"⟩ ⟨"DayOpenersModel", "knownAll", "()I"⟩ ∈ zG := zgs 112 (rfl) rfl
theorem zc0 : zCl 0 RX0 TX0 6 := ⟨rfl, List.forall_mem_cons.mpr ⟨zg_425, List.forall_mem_cons.mpr ⟨zg_427, List.forall_mem_cons.mpr ⟨zg_429, List.forall_mem_cons.mpr ⟨zg_431, List.forall_mem_cons.mpr ⟨zg_433, List.forall_mem_cons.mpr ⟨zg_435, fun _ h => absurd h List.not_mem_nil⟩⟩⟩⟩⟩⟩, tyX0_ok, nmX0, by decide, by decide +kernel⟩
theorem zc1 : zCl 1 RX1 TX1 7 := ⟨rfl, List.forall_mem_cons.mpr ⟨zg_164, List.forall_mem_cons.mpr ⟨zg_166, List.forall_mem_cons.mpr ⟨zg_168, List.forall_mem_cons.mpr ⟨zg_170, List.forall_mem_cons.mpr ⟨zg_172, List.forall_mem_cons.mpr ⟨zg_174, List.forall_mem_cons.mpr ⟨zg_176, fun _ h => absurd h List.not_mem_nil⟩⟩⟩⟩⟩⟩⟩, tyX1_ok, nmX1, by decide, by decide +kernel⟩
theorem zc2 : zCl 2 RX2 TX2 10 := ⟨rfl, List.forall_mem_cons.mpr ⟨zg_460, List.forall_mem_cons.mpr ⟨zg_462, List.forall_mem_cons.mpr ⟨zg_464, List.forall_mem_cons.mpr ⟨zg_466, List.forall_mem_cons.mpr ⟨zg_468, List.forall_mem_cons.mpr ⟨zg_470, List.forall_mem_cons.mpr ⟨zg_472, List.forall_mem_cons.mpr ⟨zg_474, List.forall_mem_cons.mpr ⟨zg_476, List.forall_mem_cons.mpr ⟨zg_478, fun _ h => absurd h List.not_mem_nil⟩⟩⟩⟩⟩⟩⟩⟩⟩⟩, tyX2_ok, nmX2, by decide, by decide +kernel⟩
theorem zc3 : zCl 3 RX3 TX3 10 := ⟨rfl, List.forall_mem_cons.mpr ⟨zg_296, List.forall_mem_cons.mpr ⟨zg_298, List.forall_mem_cons.mpr ⟨zg_300, List.forall_mem_cons.mpr ⟨zg_302, List.forall_mem_cons.mpr ⟨zg_304, List.forall_mem_cons.mpr ⟨zg_306, List.forall_mem_cons.mpr ⟨zg_308, List.forall_mem_cons.mpr ⟨zg_310, List.forall_mem_cons.mpr ⟨zg_312, List.forall_mem_cons.mpr ⟨zg_314, fun _ h => absurd h List.not_mem_nil⟩⟩⟩⟩⟩⟩⟩⟩⟩⟩, tyX3_ok, nmX3, by decide, by decide +kernel⟩
theorem zc4 : zCl 4 RX4 TX4 9 := ⟨rfl, List.forall_mem_cons.mpr ⟨zg_541, List.forall_mem_cons.mpr ⟨zg_543, List.forall_mem_cons.mpr ⟨zg_545, List.forall_mem_cons.mpr ⟨zg_547, List.forall_mem_cons.mpr ⟨zg_549, List.forall_mem_cons.mpr ⟨zg_551, List.forall_mem_cons.mpr ⟨zg_553, List.forall_mem_cons.mpr ⟨zg_555, List.forall_mem_cons.mpr ⟨zg_557, fun _ h => absurd h List.not_mem_nil⟩⟩⟩⟩⟩⟩⟩⟩⟩, tyX4_ok, nmX4, by decide, by decide +kernel⟩
theorem zc5 : zCl 5 RX5 TX5 1 := ⟨rfl, List.forall_mem_cons.mpr ⟨zg_43, fun _ h => absurd h List.not_mem_nil⟩, tyX5_ok, nmX5, by decide, by decide +kernel⟩
theorem zc6 : zCl 6 RX6 TX6 3 := ⟨rfl, List.forall_mem_cons.mpr ⟨zg_509, List.forall_mem_cons.mpr ⟨zg_511, List.forall_mem_cons.mpr ⟨zg_513, fun _ h => absurd h List.not_mem_nil⟩⟩⟩, tyX6_ok, nmX6, by decide, by decide +kernel⟩
theorem zc7 : zCl 7 RX7 TX7 15 := ⟨rfl, List.forall_mem_cons.mpr ⟨zg_376, List.forall_mem_cons.mpr ⟨zg_378, List.forall_mem_cons.mpr ⟨zg_380, List.forall_mem_cons.mpr ⟨zg_382, List.forall_mem_cons.mpr ⟨zg_384, List.forall_mem_cons.mpr ⟨zg_386, List.forall_mem_cons.mpr ⟨zg_388, List.forall_mem_cons.mpr ⟨zg_390, List.forall_mem_cons.mpr ⟨zg_392, List.forall_mem_cons.mpr ⟨zg_394, List.forall_mem_cons.mpr ⟨zg_396, List.forall_mem_cons.mpr ⟨zg_398, List.forall_mem_cons.mpr ⟨zg_400, List.forall_mem_cons.mpr ⟨zg_402, List.forall_mem_cons.mpr ⟨zg_404, fun _ h => absurd h List.not_mem_nil⟩⟩⟩⟩⟩⟩⟩⟩⟩⟩⟩⟩⟩⟩⟩, tyX7_ok, nmX7, by decide, by decide +kernel⟩
theorem zc8 : zCl 8 RX8 TX8 2 := ⟨rfl, List.forall_mem_cons.mpr ⟨zg_492, List.forall_mem_cons.mpr ⟨zg_494, fun _ h => absurd h List.not_mem_nil⟩⟩, tyX8_ok, nmX8, by decide, by decide +kernel⟩
theorem zc9 : zCl 9 RX9 TX9 7 := ⟨rfl, List.forall_mem_cons.mpr ⟨zg_124, List.forall_mem_cons.mpr ⟨zg_126, List.forall_mem_cons.mpr ⟨zg_128, List.forall_mem_cons.mpr ⟨zg_130, List.forall_mem_cons.mpr ⟨zg_132, List.forall_mem_cons.mpr ⟨zg_134, List.forall_mem_cons.mpr ⟨zg_136, fun _ h => absurd h List.not_mem_nil⟩⟩⟩⟩⟩⟩⟩, tyX9_ok, nmX9, by decide, by decide +kernel⟩
theorem zc10 : zCl 10 RX10 TX10 18 := ⟨rfl, List.forall_mem_cons.mpr ⟨zg_245, List.forall_mem_cons.mpr ⟨zg_247, List.forall_mem_cons.mpr ⟨zg_249, List.forall_mem_cons.mpr ⟨zg_251, List.forall_mem_cons.mpr ⟨zg_253, List.forall_mem_cons.mpr ⟨zg_255, List.forall_mem_cons.mpr ⟨zg_257, List.forall_mem_cons.mpr ⟨zg_259, List.forall_mem_cons.mpr ⟨zg_261, List.forall_mem_cons.mpr ⟨zg_263, List.forall_mem_cons.mpr ⟨zg_265, List.forall_mem_cons.mpr ⟨zg_267, List.forall_mem_cons.mpr ⟨zg_269, List.forall_mem_cons.mpr ⟨zg_271, List.forall_mem_cons.mpr ⟨zg_273, List.forall_mem_cons.mpr ⟨zg_275, List.forall_mem_cons.mpr ⟨zg_277, List.forall_mem_cons.mpr ⟨zg_279, fun _ h => absurd h List.not_mem_nil⟩⟩⟩⟩⟩⟩⟩⟩⟩⟩⟩⟩⟩⟩⟩⟩⟩⟩, tyX10_ok, nmX10, by decide, by decide +kernel⟩
theorem zc11 : zCl 11 RX11 TX11 14 := ⟨rfl, List.forall_mem_cons.mpr ⟨zg_574, List.forall_mem_cons.mpr ⟨zg_576, List.forall_mem_cons.mpr ⟨zg_578, List.forall_mem_cons.mpr ⟨zg_580, List.forall_mem_cons.mpr ⟨zg_582, List.forall_mem_cons.mpr ⟨zg_584, List.forall_mem_cons.mpr ⟨zg_586, List.forall_mem_cons.mpr ⟨zg_588, List.forall_mem_cons.mpr ⟨zg_590, List.forall_mem_cons.mpr ⟨zg_592, List.forall_mem_cons.mpr ⟨zg_594, List.forall_mem_cons.mpr ⟨zg_596, List.forall_mem_cons.mpr ⟨zg_598, List.forall_mem_cons.mpr ⟨zg_600, fun _ h => absurd h List.not_mem_nil⟩⟩⟩⟩⟩⟩⟩⟩⟩⟩⟩⟩⟩⟩, tyX11_ok, nmX11, by decide, by decide +kernel⟩
theorem zc12 : zCl 12 RX12 TX12 66 := ⟨rfl, List.forall_mem_cons.mpr ⟨zg_1416, List.forall_mem_cons.mpr ⟨zg_1418, List.forall_mem_cons.mpr ⟨zg_1420, List.forall_mem_cons.mpr ⟨zg_1422, List.forall_mem_cons.mpr ⟨zg_1424, List.forall_mem_cons.mpr ⟨zg_1426, List.forall_mem_cons.mpr ⟨zg_1428, List.forall_mem_cons.mpr ⟨zg_1430, List.forall_mem_cons.mpr ⟨zg_1432, List.forall_mem_cons.mpr ⟨zg_1434, List.forall_mem_cons.mpr ⟨zg_1436, List.forall_mem_cons.mpr ⟨zg_1438, List.forall_mem_cons.mpr ⟨zg_1440, List.forall_mem_cons.mpr ⟨zg_1442, List.forall_mem_cons.mpr ⟨zg_1444, List.forall_mem_cons.mpr ⟨zg_1446, List.forall_mem_cons.mpr ⟨zg_1448, List.forall_mem_cons.mpr ⟨zg_1450, List.forall_mem_cons.mpr ⟨zg_1452, List.forall_mem_cons.mpr ⟨zg_1454, List.forall_mem_cons.mpr ⟨zg_1456, List.forall_mem_cons.mpr ⟨zg_1458, List.forall_mem_cons.mpr ⟨zg_1460, List.forall_mem_cons.mpr ⟨zg_1462, List.forall_mem_cons.mpr ⟨zg_1464, List.forall_mem_cons.mpr ⟨zg_1466, List.forall_mem_cons.mpr ⟨zg_1468, List.forall_mem_cons.mpr ⟨zg_1470, List.forall_mem_cons.mpr ⟨zg_1472, List.forall_mem_cons.mpr ⟨zg_1474, List.forall_mem_cons.mpr ⟨zg_1476, List.forall_mem_cons.mpr ⟨zg_1478, List.forall_mem_cons.mpr ⟨zg_1480, List.forall_mem_cons.mpr ⟨zg_1482, List.forall_mem_cons.mpr ⟨zg_1484, List.forall_mem_cons.mpr ⟨zg_1486, List.forall_mem_cons.mpr ⟨zg_1488, List.forall_mem_cons.mpr ⟨zg_1490, List.forall_mem_cons.mpr ⟨zg_1492, List.forall_mem_cons.mpr ⟨zg_1494, List.forall_mem_cons.mpr ⟨zg_1496, List.forall_mem_cons.mpr ⟨zg_1498, List.forall_mem_cons.mpr ⟨zg_1500, List.forall_mem_cons.mpr ⟨zg_1502, List.forall_mem_cons.mpr ⟨zg_1504, List.forall_mem_cons.mpr ⟨zg_1506, List.forall_mem_cons.mpr ⟨zg_1508, List.forall_mem_cons.mpr ⟨zg_1510, List.forall_mem_cons.mpr ⟨zg_1512, List.forall_mem_cons.mpr ⟨zg_1514, List.forall_mem_cons.mpr ⟨zg_1516, List.forall_mem_cons.mpr ⟨zg_1518, List.forall_mem_cons.mpr ⟨zg_1520, List.forall_mem_cons.mpr ⟨zg_1522, List.forall_mem_cons.mpr ⟨zg_1524, List.forall_mem_cons.mpr ⟨zg_1526, List.forall_mem_cons.mpr ⟨zg_1528, List.forall_mem_cons.mpr ⟨zg_1530, List.forall_mem_cons.mpr ⟨zg_1532, List.forall_mem_cons.mpr ⟨zg_1534, List.forall_mem_cons.mpr ⟨zg_1536, List.forall_mem_cons.mpr ⟨zg_1538, List.forall_mem_cons.mpr ⟨zg_1540, List.forall_mem_cons.mpr ⟨zg_1542, List.forall_mem_cons.mpr ⟨zg_1544, List.forall_mem_cons.mpr ⟨zg_1546, fun _ h => absurd h List.not_mem_nil⟩⟩⟩⟩⟩⟩⟩⟩⟩⟩⟩⟩⟩⟩⟩⟩⟩⟩⟩⟩⟩⟩⟩⟩⟩⟩⟩⟩⟩⟩⟩⟩⟩⟩⟩⟩⟩⟩⟩⟩⟩⟩⟩⟩⟩⟩⟩⟩⟩⟩⟩⟩⟩⟩⟩⟩⟩⟩⟩⟩⟩⟩⟩⟩⟩⟩, tyX12_ok, nmX12, by decide, by decide +kernel⟩
