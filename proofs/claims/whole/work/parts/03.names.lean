/-! Names: classes, fields, methods, and the tables' words by their places (by program, out of the Statement). -/
abbrev R_F : String := "PolynomialHeap$Field"
abbrev R_Q : String := "PolynomialHeap$Monomial"
abbrev R_P : String := "PolynomialHeap$Polynomial"
abbrev R_T : String := "PolynomialHeap$PowerTable"
abbrev R_S : String := "PolynomialHeap$Sheet"
abbrev R_H : String := "PolynomialHeap"
abbrev R_R : String := "PolynomialHeapModel"
abbrev R_L : String := "PolynomialHeapLaw"
abbrev R_Jm : String := "java/lang/Math"
abbrev R_Ja : String := "java/util/Arrays"
abbrev R_Ji : String := "java/lang/Integer"
abbrev R_Js : String := "java/lang/System"
abbrev R_Jo : String := "java/lang/Object"
def T_F : u_T := fun k => match k with
  | _ => ("PolynomialHeap$Field", "prime", "I", true)
def ty_F : Nat → FieldType := fun k => match k with
  | _ => .int
theorem nm_F : ∀ a, a < 1 → ∀ b, b < 1 → a ≠ b → (T_F a).2.1 ≠ (T_F b).2.1 := by decide +kernel
theorem tyok_F : ∀ k, k < 1 → parseFieldDescriptor (T_F k).2.2.1 = some (ty_F k) := by decide +kernel
def T_P : u_T := fun k => match k with
  | 0 => ("PolynomialHeap$Polynomial", "monomials", "[I", false)
  | 1 => ("PolynomialHeap$Polynomial", "coefficients", "[I", false)
  | _ => ("PolynomialHeap$Polynomial", "size", "I", false)
def ty_P : Nat → FieldType := fun k => match k with
  | 0 => .array .int
  | 1 => .array .int
  | _ => .int
theorem nm_P : ∀ a, a < 3 → ∀ b, b < 3 → a ≠ b → (T_P a).2.1 ≠ (T_P b).2.1 := by decide +kernel
theorem tyok_P : ∀ k, k < 3 → parseFieldDescriptor (T_P k).2.2.1 = some (ty_P k) := by decide +kernel
def T_T : u_T := fun k => match k with
  | 0 => ("PolynomialHeap$PowerTable", "field", "LPolynomialHeap$Field;", true)
  | _ => ("PolynomialHeap$PowerTable", "rows", "[[I", true)
def ty_T : Nat → FieldType := fun k => match k with
  | 0 => .object "PolynomialHeap$Field"
  | _ => .array (.array .int)
theorem nm_T : ∀ a, a < 2 → ∀ b, b < 2 → a ≠ b → (T_T a).2.1 ≠ (T_T b).2.1 := by decide +kernel
theorem tyok_T : ∀ k, k < 2 → parseFieldDescriptor (T_T k).2.2.1 = some (ty_T k) := by decide +kernel
def T_S : u_T := fun k => match k with
  | 0 => ("PolynomialHeap$Sheet", "field", "LPolynomialHeap$Field;", true)
  | 1 => ("PolynomialHeap$Sheet", "monomials", "[I", true)
  | 2 => ("PolynomialHeap$Sheet", "firstRanks", "[I", true)
  | 3 => ("PolynomialHeap$Sheet", "cells", "[I", true)
  | _ => ("PolynomialHeap$Sheet", "end", "I", false)
def ty_S : Nat → FieldType := fun k => match k with
  | 0 => .object "PolynomialHeap$Field"
  | 1 => .array .int
  | 2 => .array .int
  | 3 => .array .int
  | _ => .int
theorem nm_S : ∀ a, a < 5 → ∀ b, b < 5 → a ≠ b → (T_S a).2.1 ≠ (T_S b).2.1 := by decide +kernel
theorem tyok_S : ∀ k, k < 5 → parseFieldDescriptor (T_S k).2.2.1 = some (ty_S k) := by decide +kernel
def T_H : u_T := fun k => match k with
  | 0 => ("PolynomialHeap", "field", "LPolynomialHeap$Field;", true)
  | 1 => ("PolynomialHeap", "sheet", "LPolynomialHeap$Sheet;", true)
  | 2 => ("PolynomialHeap", "powers", "LPolynomialHeap$PowerTable;", true)
  | 3 => ("PolynomialHeap", "registers", "[LPolynomialHeap$Polynomial;", true)
  | 4 => ("PolynomialHeap", "minors", "[LPolynomialHeap$Polynomial;", true)
  | 5 => ("PolynomialHeap", "spare", "LPolynomialHeap$Polynomial;", false)
  | _ => ("PolynomialHeap", "refusals", "I", false)
def ty_H : Nat → FieldType := fun k => match k with
  | 0 => .object "PolynomialHeap$Field"
  | 1 => .object "PolynomialHeap$Sheet"
  | 2 => .object "PolynomialHeap$PowerTable"
  | 3 => .array (.object "PolynomialHeap$Polynomial")
  | 4 => .array (.object "PolynomialHeap$Polynomial")
  | 5 => .object "PolynomialHeap$Polynomial"
  | _ => .int
theorem nm_H : ∀ a, a < 7 → ∀ b, b < 7 → a ≠ b → (T_H a).2.1 ≠ (T_H b).2.1 := by decide +kernel
theorem tyok_H : ∀ k, k < 7 → parseFieldDescriptor (T_H k).2.2.1 = some (ty_H k) := by decide +kernel
def T_R : u_T := fun k => match k with
  | 0 => ("PolynomialHeapModel", "thrown", "I", false)
  | 1 => ("PolynomialHeapModel", "prime", "I", true)
  | 2 => ("PolynomialHeapModel", "refused", "I", false)
  | 3 => ("PolynomialHeapModel", "exponents", "[I", true)
  | 4 => ("PolynomialHeapModel", "places", "[I", true)
  | 5 => ("PolynomialHeapModel", "rows", "[I", true)
  | 6 => ("PolynomialHeapModel", "one", "[I", true)
  | 7 => ("PolynomialHeapModel", "two", "[I", true)
  | 8 => ("PolynomialHeapModel", "out", "[I", true)
  | 9 => ("PolynomialHeapModel", "listed", "[I", true)
  | 10 => ("PolynomialHeapModel", "now", "[I", true)
  | 11 => ("PolynomialHeapModel", "some", "[I", true)
  | 12 => ("PolynomialHeapModel", "entries", "[I", true)
  | _ => ("PolynomialHeapModel", "sums", "[I", true)
def ty_R : Nat → FieldType := fun k => match k with
  | 0 => .int
  | 1 => .int
  | 2 => .int
  | 3 => .array .int
  | 4 => .array .int
  | 5 => .array .int
  | 6 => .array .int
  | 7 => .array .int
  | 8 => .array .int
  | 9 => .array .int
  | 10 => .array .int
  | 11 => .array .int
  | 12 => .array .int
  | _ => .array .int
theorem nm_R : ∀ a, a < 14 → ∀ b, b < 14 → a ≠ b → (T_R a).2.1 ≠ (T_R b).2.1 := by decide +kernel
theorem tyok_R : ∀ k, k < 14 → parseFieldDescriptor (T_R k).2.2.1 = some (ty_R k) := by decide +kernel
abbrev vC : List vw_C := [(R_F, T_F, 1), (R_P, T_P, 3), (R_T, T_T, 2), (R_S, T_S, 5), (R_H, T_H, 7), (R_R, T_R, 14)]
abbrev b_H_init : ByteArray := prog_1_method_1_code
abbrev y_H_init : MethodName := ⟨R_H, "<init>", "(I)V"⟩
abbrev b_Jo_init : ByteArray := object_method_1_code
abbrev y_Jo_init : MethodName := ⟨R_Jo, "<init>", "()V"⟩
abbrev b_F_init : ByteArray := prog_2_method_1_code
abbrev y_F_init : MethodName := ⟨R_F, "<init>", "(I)V"⟩
abbrev b_F_leastPrime : ByteArray := prog_2_method_2_code
abbrev y_F_leastPrime : MethodName := ⟨R_F, "leastPrime", "(I)I"⟩
abbrev b_Jm_max : ByteArray := prog_14_method_65_code
abbrev y_Jm_max : MethodName := ⟨R_Jm, "max", "(II)I"⟩
abbrev b_F_isPrime : ByteArray := prog_2_method_3_code
abbrev y_F_isPrime : MethodName := ⟨R_F, "isPrime", "(I)Z"⟩
abbrev b_S_init : ByteArray := prog_6_method_1_code
abbrev y_S_init : MethodName := ⟨R_S, "<init>", "(LPolynomialHeap$Field;)V"⟩
abbrev b_Q_of : ByteArray := prog_3_method_2_code
abbrev y_Q_of : MethodName := ⟨R_Q, "of", "(III)I"⟩
abbrev b_T_init : ByteArray := prog_5_method_1_code
abbrev y_T_init : MethodName := ⟨R_T, "<init>", "(LPolynomialHeap$Field;)V"⟩
abbrev b_P_init : ByteArray := prog_4_method_1_code
abbrev y_P_init : MethodName := ⟨R_P, "<init>", "()V"⟩
abbrev b_H_count : ByteArray := prog_1_method_17_code
abbrev y_H_count : MethodName := ⟨R_H, "count", "(I)I"⟩
abbrev b_H_allTerms : ByteArray := prog_1_method_24_code
abbrev y_H_allTerms : MethodName := ⟨R_H, "allTerms", "()I"⟩
abbrev b_H_zeroRegisters : ByteArray := prog_1_method_25_code
abbrev y_H_zeroRegisters : MethodName := ⟨R_H, "zeroRegisters", "()I"⟩
abbrev b_P_isZero : ByteArray := prog_4_method_5_code
abbrev y_P_isZero : MethodName := ⟨R_P, "isZero", "()Z"⟩
abbrev b_H_greatestDegree : ByteArray := prog_1_method_26_code
abbrev y_H_greatestDegree : MethodName := ⟨R_H, "greatestDegree", "()I"⟩
abbrev b_P_degreeIn : ByteArray := prog_4_method_6_code
abbrev y_P_degreeIn : MethodName := ⟨R_P, "degreeIn", "(I)I"⟩
abbrev b_Q_exponent : ByteArray := prog_3_method_5_code
abbrev y_Q_exponent : MethodName := ⟨R_Q, "exponent", "(II)I"⟩
abbrev b_L_cell : ByteArray := method_2_code
abbrev y_L_cell : MethodName := ⟨R_L, "cell", "([II)I"⟩
abbrev b_L_constant : ByteArray := method_3_code
abbrev y_L_constant : MethodName := ⟨R_L, "constant", "(LPolynomialHeap;II)I"⟩
abbrev b_H_constant : ByteArray := prog_1_method_2_code
abbrev y_H_constant : MethodName := ⟨R_H, "constant", "(II)V"⟩
abbrev b_H_checkRegister : ByteArray := prog_1_method_18_code
abbrev y_H_checkRegister : MethodName := ⟨R_H, "checkRegister", "(I)V"⟩
abbrev b_F_reduced : ByteArray := prog_2_method_4_code
abbrev y_F_reduced : MethodName := ⟨R_F, "reduced", "(I)I"⟩
abbrev b_Jm_floorMod : ByteArray := prog_14_method_50_code
abbrev y_Jm_floorMod : MethodName := ⟨R_Jm, "floorMod", "(II)I"⟩
abbrev b_P_becomeNumber : ByteArray := prog_4_method_4_code
abbrev y_P_becomeNumber : MethodName := ⟨R_P, "becomeNumber", "(I)V"⟩
abbrev b_P_clear : ByteArray := prog_4_method_2_code
abbrev y_P_clear : MethodName := ⟨R_P, "clear", "()V"⟩
abbrev b_P_append : ByteArray := prog_4_method_3_code
abbrev y_P_append : MethodName := ⟨R_P, "append", "(II)V"⟩
abbrev b_Ja_copyOf : ByteArray := prog_18_method_123_code
abbrev y_Ja_copyOf : MethodName := ⟨R_Ja, "copyOf", "([II)[I"⟩
abbrev b_Jm_min : ByteArray := prog_14_method_69_code
abbrev y_Jm_min : MethodName := ⟨R_Jm, "min", "(II)I"⟩
abbrev b_L_variable : ByteArray := method_4_code
abbrev y_L_variable : MethodName := ⟨R_L, "variable", "(LPolynomialHeap;II)I"⟩
abbrev b_H_variable : ByteArray := prog_1_method_3_code
abbrev y_H_variable : MethodName := ⟨R_H, "variable", "(II)V"⟩
abbrev b_H_checkVariable : ByteArray := prog_1_method_20_code
abbrev y_H_checkVariable : MethodName := ⟨R_H, "checkVariable", "(I)V"⟩
abbrev b_Q_ofVariable : ByteArray := prog_3_method_3_code
abbrev y_Q_ofVariable : MethodName := ⟨R_Q, "ofVariable", "(I)I"⟩
abbrev b_L_add : ByteArray := method_5_code
abbrev y_L_add : MethodName := ⟨R_L, "add", "(LPolynomialHeap;IIII)I"⟩
abbrev b_H_add : ByteArray := prog_1_method_4_code
abbrev y_H_add : MethodName := ⟨R_H, "add", "(IIII)V"⟩
abbrev b_H_checkRegisters : ByteArray := prog_1_method_19_code
abbrev y_H_checkRegisters : MethodName := ⟨R_H, "checkRegisters", "(III)V"⟩
abbrev b_S_addMultiple : ByteArray := prog_6_method_4_code
abbrev y_S_addMultiple : MethodName := ⟨R_S, "addMultiple", "(LPolynomialHeap$Polynomial;II)V"⟩
abbrev b_S_addTerm : ByteArray := prog_6_method_3_code
abbrev y_S_addTerm : MethodName := ⟨R_S, "addTerm", "(III)V"⟩
abbrev b_S_rankOf : ByteArray := prog_6_method_2_code
abbrev y_S_rankOf : MethodName := ⟨R_S, "rankOf", "(I)I"⟩
abbrev b_Q_sumAndFirst : ByteArray := prog_3_method_6_code
abbrev y_Q_sumAndFirst : MethodName := ⟨R_Q, "sumAndFirst", "(I)I"⟩
abbrev b_F_sumWithProduct : ByteArray := prog_2_method_6_code
abbrev y_F_sumWithProduct : MethodName := ⟨R_F, "sumWithProduct", "(III)I"⟩
abbrev b_S_moveTo : ByteArray := prog_6_method_8_code
abbrev y_S_moveTo : MethodName := ⟨R_S, "moveTo", "(LPolynomialHeap$Polynomial;)V"⟩
abbrev b_S_clear : ByteArray := prog_6_method_9_code
abbrev y_S_clear : MethodName := ⟨R_S, "clear", "()V"⟩
abbrev b_Ja_fill : ByteArray := prog_18_method_104_code
abbrev y_Ja_fill : MethodName := ⟨R_Ja, "fill", "([IIII)V"⟩
abbrev b_Ja_rangeCheck : ByteArray := prog_18_method_30_code
abbrev y_Ja_rangeCheck : MethodName := ⟨R_Ja, "rangeCheck", "(III)V"⟩
abbrev b_L_multiply : ByteArray := method_6_code
abbrev y_L_multiply : MethodName := ⟨R_L, "multiply", "(LPolynomialHeap;III[J)I"⟩
abbrev b_H_multiply : ByteArray := prog_1_method_5_code
abbrev y_H_multiply : MethodName := ⟨R_H, "multiply", "(III)Z"⟩
abbrev b_H_refuse : ByteArray := prog_1_method_21_code
abbrev y_H_refuse : MethodName := ⟨R_H, "refuse", "()Z"⟩
abbrev b_S_addProduct : ByteArray := prog_6_method_5_code
abbrev y_S_addProduct : MethodName := ⟨R_S, "addProduct", "(LPolynomialHeap$Polynomial;LPolynomialHeap$Polynomial;)V"⟩
abbrev b_L_power : ByteArray := method_7_code
abbrev y_L_power : MethodName := ⟨R_L, "power", "(LPolynomialHeap;III[J)I"⟩
abbrev b_H_power : ByteArray := prog_1_method_6_code
abbrev y_H_power : MethodName := ⟨R_H, "power", "(III)Z"⟩
abbrev b_H_exchangeSpare : ByteArray := prog_1_method_22_code
abbrev y_H_exchangeSpare : MethodName := ⟨R_H, "exchangeSpare", "(I)V"⟩
abbrev b_L_divide : ByteArray := method_8_code
abbrev y_L_divide : MethodName := ⟨R_L, "divide", "(LPolynomialHeap;IIIZ)I"⟩
abbrev b_H_divide : ByteArray := prog_1_method_7_code
abbrev y_H_divide : MethodName := ⟨R_H, "divide", "(IIIZ)V"⟩
abbrev b_S_divideBy : ByteArray := prog_6_method_7_code
abbrev y_S_divideBy : MethodName := ⟨R_S, "divideBy", "(LPolynomialHeap$Polynomial;LPolynomialHeap$Polynomial;)V"⟩
abbrev b_F_inverse : ByteArray := prog_2_method_8_code
abbrev y_F_inverse : MethodName := ⟨R_F, "inverse", "(I)I"⟩
abbrev b_F_product : ByteArray := prog_2_method_5_code
abbrev y_F_product : MethodName := ⟨R_F, "product", "(II)I"⟩
abbrev b_Q_isMultiple : ByteArray := prog_3_method_8_code
abbrev y_Q_isMultiple : MethodName := ⟨R_Q, "isMultiple", "(II)Z"⟩
abbrev b_F_negative : ByteArray := prog_2_method_7_code
abbrev y_F_negative : MethodName := ⟨R_F, "negative", "(I)I"⟩
abbrev b_L_derive : ByteArray := method_9_code
abbrev y_L_derive : MethodName := ⟨R_L, "derive", "(LPolynomialHeap;III)I"⟩
abbrev b_H_derive : ByteArray := prog_1_method_8_code
abbrev y_H_derive : MethodName := ⟨R_H, "derive", "(III)V"⟩
abbrev b_L_put : ByteArray := method_10_code
abbrev y_L_put : MethodName := ⟨R_L, "put", "(LPolynomialHeap;IIII[J)I"⟩
abbrev b_H_put : ByteArray := prog_1_method_9_code
abbrev y_H_put : MethodName := ⟨R_H, "put", "(IIII)Z"⟩
abbrev b_S_addCoefficientOf : ByteArray := prog_6_method_6_code
abbrev y_S_addCoefficientOf : MethodName := ⟨R_S, "addCoefficientOf", "(LPolynomialHeap$Polynomial;II)V"⟩
abbrev b_Q_without : ByteArray := prog_3_method_7_code
abbrev y_Q_without : MethodName := ⟨R_Q, "without", "(II)I"⟩
abbrev b_L_resultant : ByteArray := method_11_code
abbrev y_L_resultant : MethodName := ⟨R_L, "resultant", "(LPolynomialHeap;IIII[J)I"⟩
abbrev b_H_resultant : ByteArray := prog_1_method_10_code
abbrev y_H_resultant : MethodName := ⟨R_H, "resultant", "(IIII)Z"⟩
abbrev b_Ji_bitCount : ByteArray := prog_13_method_49_code
abbrev y_Ji_bitCount : MethodName := ⟨R_Ji, "bitCount", "(I)I"⟩
abbrev b_H_addExpansion : ByteArray := prog_1_method_23_code
abbrev y_H_addExpansion : MethodName := ⟨R_H, "addExpansion", "(ILPolynomialHeap$Polynomial;II)V"⟩
abbrev b_L_value : ByteArray := method_12_code
abbrev y_L_value : MethodName := ⟨R_L, "value", "(LPolynomialHeap;IIII[J)I"⟩
abbrev b_H_value : ByteArray := prog_1_method_11_code
abbrev y_H_value : MethodName := ⟨R_H, "value", "(IIII)I"⟩
abbrev b_T_fillRow : ByteArray := prog_5_method_2_code
abbrev y_T_fillRow : MethodName := ⟨R_T, "fillRow", "(II)V"⟩
abbrev b_T_at : ByteArray := prog_5_method_3_code
abbrev y_T_at : MethodName := ⟨R_T, "at", "(I)I"⟩
abbrev b_L_terms : ByteArray := method_13_code
abbrev y_L_terms : MethodName := ⟨R_L, "terms", "(LPolynomialHeap;I[J)I"⟩
abbrev b_H_terms : ByteArray := prog_1_method_12_code
abbrev y_H_terms : MethodName := ⟨R_H, "terms", "(I)I"⟩
abbrev b_L_term : ByteArray := method_14_code
abbrev y_L_term : MethodName := ⟨R_L, "term", "(LPolynomialHeap;III[J)I"⟩
abbrev b_H_term : ByteArray := prog_1_method_13_code
abbrev y_H_term : MethodName := ⟨R_H, "term", "(III)I"⟩
abbrev b_L_coefficient : ByteArray := method_15_code
abbrev y_L_coefficient : MethodName := ⟨R_L, "coefficient", "(LPolynomialHeap;IIII[J)I"⟩
abbrev b_H_coefficient : ByteArray := prog_1_method_14_code
abbrev y_H_coefficient : MethodName := ⟨R_H, "coefficient", "(IIII)I"⟩
abbrev b_Q_exists : ByteArray := prog_3_method_4_code
abbrev y_Q_exists : MethodName := ⟨R_Q, "exists", "(III)Z"⟩
abbrev b_P_coefficientOf : ByteArray := prog_4_method_7_code
abbrev y_P_coefficientOf : MethodName := ⟨R_P, "coefficientOf", "(I)I"⟩
abbrev b_L_degree : ByteArray := method_16_code
abbrev y_L_degree : MethodName := ⟨R_L, "degree", "(LPolynomialHeap;II[J)I"⟩
abbrev b_H_degree : ByteArray := prog_1_method_15_code
abbrev y_H_degree : MethodName := ⟨R_H, "degree", "(II)I"⟩
abbrev b_L_isSame : ByteArray := method_17_code
abbrev y_L_isSame : MethodName := ⟨R_L, "isSame", "(LPolynomialHeap;II[J)I"⟩
abbrev b_H_isSame : ByteArray := prog_1_method_16_code
abbrev y_H_isSame : MethodName := ⟨R_H, "isSame", "(II)Z"⟩
abbrev b_P_matches : ByteArray := prog_4_method_8_code
abbrev y_P_matches : MethodName := ⟨R_P, "matches", "(LPolynomialHeap$Polynomial;)Z"⟩
abbrev b_R_init : ByteArray := prog_8_method_1_code
abbrev y_R_init : MethodName := ⟨R_R, "<init>", "(I)V"⟩
abbrev b_R_isPrime : ByteArray := prog_8_method_2_code
abbrev y_R_isPrime : MethodName := ⟨R_R, "isPrime", "(I)Z"⟩
abbrev b_R_thrown : ByteArray := prog_8_method_3_code
abbrev y_R_thrown : MethodName := ⟨R_R, "thrown", "()I"⟩
abbrev b_R_constant : ByteArray := prog_8_method_19_code
abbrev y_R_constant : MethodName := ⟨R_R, "constant", "(II)V"⟩
abbrev b_R_isRegister : ByteArray := prog_8_method_5_code
abbrev y_R_isRegister : MethodName := ⟨R_R, "isRegister", "(I)Z"⟩
abbrev b_R_fails : ByteArray := prog_8_method_4_code
abbrev y_R_fails : MethodName := ⟨R_R, "fails", "(ZZ)Z"⟩
abbrev b_R_clear : ByteArray := prog_8_method_12_code
abbrev y_R_clear : MethodName := ⟨R_R, "clear", "([I)V"⟩
abbrev b_R_reduced : ByteArray := prog_8_method_7_code
abbrev y_R_reduced : MethodName := ⟨R_R, "reduced", "(J)I"⟩
abbrev b_R_keep : ByteArray := prog_8_method_11_code
abbrev y_R_keep : MethodName := ⟨R_R, "keep", "(I[I)V"⟩
abbrev b_R_variable : ByteArray := prog_8_method_20_code
abbrev y_R_variable : MethodName := ⟨R_R, "variable", "(II)V"⟩
abbrev b_R_isVariable : ByteArray := prog_8_method_6_code
abbrev y_R_isVariable : MethodName := ⟨R_R, "isVariable", "(I)Z"⟩
abbrev b_R_place : ByteArray := prog_8_method_8_code
abbrev y_R_place : MethodName := ⟨R_R, "place", "(III)I"⟩
abbrev b_R_add : ByteArray := prog_8_method_21_code
abbrev y_R_add : MethodName := ⟨R_R, "add", "(IIII)V"⟩
abbrev b_R_load : ByteArray := prog_8_method_10_code
abbrev y_R_load : MethodName := ⟨R_R, "load", "(I[I)V"⟩
abbrev b_R_multiply : ByteArray := prog_8_method_22_code
abbrev y_R_multiply : MethodName := ⟨R_R, "multiply", "(III)Z"⟩
abbrev b_R_degreeOf : ByteArray := prog_8_method_14_code
abbrev y_R_degreeOf : MethodName := ⟨R_R, "degreeOf", "([II)I"⟩
abbrev b_R_exponent : ByteArray := prog_8_method_9_code
abbrev y_R_exponent : MethodName := ⟨R_R, "exponent", "(II)I"⟩
abbrev b_R_refuses : ByteArray := prog_8_method_18_code
abbrev y_R_refuses : MethodName := ⟨R_R, "refuses", "(Z)Z"⟩
abbrev b_R_times : ByteArray := prog_8_method_17_code
abbrev y_R_times : MethodName := ⟨R_R, "times", "([I[I)V"⟩
abbrev b_R_gather : ByteArray := prog_8_method_16_code
abbrev y_R_gather : MethodName := ⟨R_R, "gather", "([II[II[IIZ)V"⟩
abbrev b_R_copy : ByteArray := prog_8_method_13_code
abbrev y_R_copy : MethodName := ⟨R_R, "copy", "([I[I)V"⟩
abbrev b_R_power : ByteArray := prog_8_method_23_code
abbrev y_R_power : MethodName := ⟨R_R, "power", "(III)Z"⟩
abbrev b_R_divide : ByteArray := prog_8_method_25_code
abbrev y_R_divide : MethodName := ⟨R_R, "divide", "(IIIZ)V"⟩
abbrev b_R_isZero : ByteArray := prog_8_method_15_code
abbrev y_R_isZero : MethodName := ⟨R_R, "isZero", "([I)Z"⟩
abbrev b_R_inverse : ByteArray := prog_8_method_24_code
abbrev y_R_inverse : MethodName := ⟨R_R, "inverse", "(I)I"⟩
abbrev b_R_derive : ByteArray := prog_8_method_26_code
abbrev y_R_derive : MethodName := ⟨R_R, "derive", "(III)V"⟩
abbrev b_R_put : ByteArray := prog_8_method_28_code
abbrev y_R_put : MethodName := ⟨R_R, "put", "(IIII)Z"⟩
abbrev b_R_part : ByteArray := prog_8_method_27_code
abbrev y_R_part : MethodName := ⟨R_R, "part", "([III)V"⟩
abbrev b_R_resultant : ByteArray := prog_8_method_29_code
abbrev y_R_resultant : MethodName := ⟨R_R, "resultant", "(IIII)Z"⟩
abbrev b_R_entry : ByteArray := prog_8_method_30_code
abbrev y_R_entry : MethodName := ⟨R_R, "entry", "([IIII)V"⟩
abbrev b_R_determinant : ByteArray := prog_8_method_31_code
abbrev y_R_determinant : MethodName := ⟨R_R, "determinant", "(I)V"⟩
abbrev b_R_bits : ByteArray := prog_8_method_32_code
abbrev y_R_bits : MethodName := ⟨R_R, "bits", "(I)I"⟩
abbrev b_R_cross : ByteArray := prog_8_method_33_code
abbrev y_R_cross : MethodName := ⟨R_R, "cross", "(IIIZ)V"⟩
abbrev b_R_value : ByteArray := prog_8_method_34_code
abbrev y_R_value : MethodName := ⟨R_R, "value", "(IIII)I"⟩
abbrev b_R_terms : ByteArray := prog_8_method_36_code
abbrev y_R_terms : MethodName := ⟨R_R, "terms", "(I)I"⟩
abbrev b_R_counted : ByteArray := prog_8_method_35_code
abbrev y_R_counted : MethodName := ⟨R_R, "counted", "(I)I"⟩
abbrev b_R_term : ByteArray := prog_8_method_37_code
abbrev y_R_term : MethodName := ⟨R_R, "term", "(III)I"⟩
abbrev b_R_coefficient : ByteArray := prog_8_method_38_code
abbrev y_R_coefficient : MethodName := ⟨R_R, "coefficient", "(IIII)I"⟩
abbrev b_R_degree : ByteArray := prog_8_method_39_code
abbrev y_R_degree : MethodName := ⟨R_R, "degree", "(II)I"⟩
abbrev b_R_isSame : ByteArray := prog_8_method_40_code
abbrev y_R_isSame : MethodName := ⟨R_R, "isSame", "(II)Z"⟩
abbrev b_R_count : ByteArray := prog_8_method_41_code
abbrev y_R_count : MethodName := ⟨R_R, "count", "(I)I"⟩
abbrev b_L_law : ByteArray := code
abbrev y_L_law : MethodName := ⟨R_L, "law", "([I)Z"⟩
/-- the words that ride with every call, out of the tables; those that need a law of their own -/
def GW : List Cond := lw_tbl.filter goodWord
def nwB : Cond → Bool
  | .methodLinkNest _ _ _ _ => true
  | .castable _ _ => true
  | .arrayOver _ => true
  | .declares _ => true
  | _ => false
def NW : List Cond := lw_tbl.filter nwB
theorem gw_in {w : Cond} (i : Nat) (h : lw_tbl[i]? = some w) (hg : goodWord w = true) : w ∈ GW := List.mem_filter.mpr ⟨List.mem_of_getElem? h, hg⟩
theorem nw_in {w : Cond} (i : Nat) (h : lw_tbl[i]? = some w) (hg : nwB w = true) : w ∈ NW := List.mem_filter.mpr ⟨List.mem_of_getElem? h, hg⟩
theorem wl_H_allTerms : Cond.selects R_H y_H_allTerms y_H_allTerms ∈ GW := gw_in 0 (by decide +kernel) (by decide +kernel)
theorem wl_H_zeroRegisters : Cond.selects R_H y_H_zeroRegisters y_H_zeroRegisters ∈ GW := gw_in 1 (by decide +kernel) (by decide +kernel)
theorem wl_H_greatestDegree : Cond.selects R_H y_H_greatestDegree y_H_greatestDegree ∈ GW := gw_in 2 (by decide +kernel) (by decide +kernel)
theorem wl_S_addTerm : Cond.selects R_S y_S_addTerm y_S_addTerm ∈ GW := gw_in 4 (by decide +kernel) (by decide +kernel)
theorem wl_S_rankOf : Cond.selects R_S y_S_rankOf y_S_rankOf ∈ GW := gw_in 5 (by decide +kernel) (by decide +kernel)
theorem wl_H_refuse : Cond.selects R_H y_H_refuse y_H_refuse ∈ GW := gw_in 6 (by decide +kernel) (by decide +kernel)
theorem wl_H_exchangeSpare : Cond.selects R_H y_H_exchangeSpare y_H_exchangeSpare ∈ GW := gw_in 7 (by decide +kernel) (by decide +kernel)
theorem wl_H_addExpansion : Cond.selects R_H y_H_addExpansion y_H_addExpansion ∈ GW := gw_in 8 (by decide +kernel) (by decide +kernel)
theorem wl_R_fails : Cond.selects R_R y_R_fails y_R_fails ∈ GW := gw_in 9 (by decide +kernel) (by decide +kernel)
theorem wl_R_reduced : Cond.selects R_R y_R_reduced y_R_reduced ∈ GW := gw_in 10 (by decide +kernel) (by decide +kernel)
theorem wl_R_keep : Cond.selects R_R y_R_keep y_R_keep ∈ GW := gw_in 11 (by decide +kernel) (by decide +kernel)
theorem wl_R_place : Cond.selects R_R y_R_place y_R_place ∈ GW := gw_in 12 (by decide +kernel) (by decide +kernel)
theorem wl_R_load : Cond.selects R_R y_R_load y_R_load ∈ GW := gw_in 13 (by decide +kernel) (by decide +kernel)
theorem wl_R_degreeOf : Cond.selects R_R y_R_degreeOf y_R_degreeOf ∈ GW := gw_in 14 (by decide +kernel) (by decide +kernel)
theorem wl_R_exponent : Cond.selects R_R y_R_exponent y_R_exponent ∈ GW := gw_in 15 (by decide +kernel) (by decide +kernel)
theorem wl_R_refuses : Cond.selects R_R y_R_refuses y_R_refuses ∈ GW := gw_in 16 (by decide +kernel) (by decide +kernel)
theorem wl_R_times : Cond.selects R_R y_R_times y_R_times ∈ GW := gw_in 17 (by decide +kernel) (by decide +kernel)
theorem wl_R_gather : Cond.selects R_R y_R_gather y_R_gather ∈ GW := gw_in 18 (by decide +kernel) (by decide +kernel)
theorem wl_R_inverse : Cond.selects R_R y_R_inverse y_R_inverse ∈ GW := gw_in 19 (by decide +kernel) (by decide +kernel)
theorem wl_R_part : Cond.selects R_R y_R_part y_R_part ∈ GW := gw_in 20 (by decide +kernel) (by decide +kernel)
theorem wl_R_entry : Cond.selects R_R y_R_entry y_R_entry ∈ GW := gw_in 21 (by decide +kernel) (by decide +kernel)
theorem wl_R_determinant : Cond.selects R_R y_R_determinant y_R_determinant ∈ GW := gw_in 22 (by decide +kernel) (by decide +kernel)
theorem wl_R_cross : Cond.selects R_R y_R_cross y_R_cross ∈ GW := gw_in 23 (by decide +kernel) (by decide +kernel)
theorem wl_R_counted : Cond.selects R_R y_R_counted y_R_counted ∈ GW := gw_in 24 (by decide +kernel) (by decide +kernel)
theorem wn_L : Cond.initialized R_L ∈ GW := gw_in 25 (by decide +kernel) (by decide +kernel)
theorem wn_H : Cond.initialized R_H ∈ GW := gw_in 26 (by decide +kernel) (by decide +kernel)
theorem wn_F : Cond.initialized R_F ∈ GW := gw_in 27 (by decide +kernel) (by decide +kernel)
theorem wn_Jm : Cond.initialized R_Jm ∈ GW := gw_in 28 (by decide +kernel) (by decide +kernel)
theorem wn_S : Cond.initialized R_S ∈ GW := gw_in 29 (by decide +kernel) (by decide +kernel)
theorem wn_Q : Cond.initialized R_Q ∈ GW := gw_in 30 (by decide +kernel) (by decide +kernel)
theorem wn_T : Cond.initialized R_T ∈ GW := gw_in 31 (by decide +kernel) (by decide +kernel)
theorem wn_P : Cond.initialized R_P ∈ GW := gw_in 32 (by decide +kernel) (by decide +kernel)
theorem wn_R : Cond.initialized R_R ∈ GW := gw_in 33 (by decide +kernel) (by decide +kernel)
theorem wn_Throwable : Cond.initialized "java/lang/Throwable" ∈ GW := gw_in 34 (by decide +kernel) (by decide +kernel)
theorem wn_Exception : Cond.initialized "java/lang/Exception" ∈ GW := gw_in 35 (by decide +kernel) (by decide +kernel)
theorem wn_RuntimeException : Cond.initialized "java/lang/RuntimeException" ∈ GW := gw_in 36 (by decide +kernel) (by decide +kernel)
theorem wn_IndexOutOfBoundsException : Cond.initialized "java/lang/IndexOutOfBoundsException" ∈ GW := gw_in 37 (by decide +kernel) (by decide +kernel)
theorem wn_Ja : Cond.initialized R_Ja ∈ GW := gw_in 38 (by decide +kernel) (by decide +kernel)
theorem wn_Js : Cond.initialized R_Js ∈ GW := gw_in 39 (by decide +kernel) (by decide +kernel)
theorem wn_IllegalArgumentException : Cond.initialized "java/lang/IllegalArgumentException" ∈ GW := gw_in 40 (by decide +kernel) (by decide +kernel)
theorem wn_Ji : Cond.initialized R_Ji ∈ GW := gw_in 41 (by decide +kernel) (by decide +kernel)
theorem cl_L_8 : Cond.classLink R_L 8 "PolynomialHeap" ∈ GW := gw_in 42 (by decide +kernel) (by decide +kernel)
theorem is_H : Cond.instantiable R_H 7 ∈ GW := gw_in 43 (by decide +kernel) (by decide +kernel)
theorem ml_L_75 : Cond.methodLink R_L 75 y_H_init ∈ GW := gw_in 44 (by decide +kernel) (by decide +kernel)
theorem wi_H_init : Cond.instanceMethod y_H_init ∈ GW := gw_in 45 (by decide +kernel) (by decide +kernel)
set_option maxRecDepth 100000 in
theorem wc_H_init : Cond.code y_H_init b_H_init 3 none ∈ GW := gw_in 46 (rfl) (by decide +kernel)
theorem ml_H_1 : Cond.methodLink R_H 1 y_Jo_init ∈ GW := gw_in 47 (by decide +kernel) (by decide +kernel)
theorem wi_Jo_init : Cond.instanceMethod y_Jo_init ∈ GW := gw_in 48 (by decide +kernel) (by decide +kernel)
set_option maxRecDepth 100000 in
theorem wc_Jo_init : Cond.code y_Jo_init b_Jo_init 1 none ∈ GW := gw_in 49 (rfl) (by decide +kernel)
theorem cl_H_9 : Cond.classLink R_H 9 "PolynomialHeap$Polynomial" ∈ GW := gw_in 50 (by decide +kernel) (by decide +kernel)
theorem ao_51 : Cond.arrayOver (.object "PolynomialHeap$Polynomial") ∈ NW := nw_in 51 (by decide +kernel) (by decide +kernel)
theorem cl_H_18 : Cond.classLink R_H 18 "PolynomialHeap$Field" ∈ GW := gw_in 52 (by decide +kernel) (by decide +kernel)
theorem is_F : Cond.instantiable R_F 1 ∈ GW := gw_in 53 (by decide +kernel) (by decide +kernel)
theorem ml_H_20 : Cond.methodLink R_H 20 y_F_init ∈ GW := gw_in 54 (by decide +kernel) (by decide +kernel)
theorem wi_F_init : Cond.instanceMethod y_F_init ∈ GW := gw_in 55 (by decide +kernel) (by decide +kernel)
set_option maxRecDepth 100000 in
theorem wc_F_init : Cond.code y_F_init b_F_init 2 none ∈ GW := gw_in 56 (rfl) (by decide +kernel)
theorem ml_F_1 : Cond.methodLink R_F 1 y_Jo_init ∈ GW := gw_in 57 (by decide +kernel) (by decide +kernel)
theorem ml_F_7 : Cond.methodLink R_F 7 y_F_leastPrime ∈ GW := gw_in 58 (by decide +kernel) (by decide +kernel)
theorem ws_F_leastPrime : Cond.static y_F_leastPrime ∈ GW := gw_in 59 (by decide +kernel) (by decide +kernel)
set_option maxRecDepth 100000 in
theorem wc_F_leastPrime : Cond.code y_F_leastPrime b_F_leastPrime 2 (some .int) ∈ GW := gw_in 60 (rfl) (by decide +kernel)
theorem ml_F_17 : Cond.methodLink R_F 17 y_Jm_max ∈ GW := gw_in 61 (by decide +kernel) (by decide +kernel)
theorem ws_Jm_max : Cond.static y_Jm_max ∈ GW := gw_in 62 (by decide +kernel) (by decide +kernel)
set_option maxRecDepth 100000 in
theorem wc_Jm_max : Cond.code y_Jm_max b_Jm_max 2 (some .int) ∈ GW := gw_in 63 (rfl) (by decide +kernel)
theorem kc_F_23 : Cond.constant R_F 23 46337 ∈ GW := gw_in 64 (by decide +kernel) (by decide +kernel)
theorem ml_F_24 : Cond.methodLink R_F 24 y_F_isPrime ∈ GW := gw_in 65 (by decide +kernel) (by decide +kernel)
theorem ws_F_isPrime : Cond.static y_F_isPrime ∈ GW := gw_in 66 (by decide +kernel) (by decide +kernel)
set_option maxRecDepth 100000 in
theorem wc_F_isPrime : Cond.code y_F_isPrime b_F_isPrime 2 (some .boolean) ∈ GW := gw_in 67 (rfl) (by decide +kernel)
theorem fl_F_13 : Cond.fieldLink R_F 13 "PolynomialHeap$Field" "prime" "I" ∈ GW := gw_in 68 (by decide +kernel) (by decide +kernel)
theorem fl_H_166 : Cond.fieldLink R_H 166 "PolynomialHeap$Field" "prime" "I" ∈ GW := gw_in 69 (by decide +kernel) (by decide +kernel)
theorem cl_H_27 : Cond.classLink R_H 27 "PolynomialHeap$Sheet" ∈ GW := gw_in 73 (by decide +kernel) (by decide +kernel)
theorem is_S : Cond.instantiable R_S 5 ∈ GW := gw_in 74 (by decide +kernel) (by decide +kernel)
theorem ml_H_29 : Cond.methodLink R_H 29 y_S_init ∈ GW := gw_in 75 (by decide +kernel) (by decide +kernel)
theorem wi_S_init : Cond.instanceMethod y_S_init ∈ GW := gw_in 76 (by decide +kernel) (by decide +kernel)
set_option maxRecDepth 100000 in
theorem wc_S_init : Cond.code y_S_init b_S_init 6 none ∈ GW := gw_in 77 (rfl) (by decide +kernel)
theorem ml_S_1 : Cond.methodLink R_S 1 y_Jo_init ∈ GW := gw_in 78 (by decide +kernel) (by decide +kernel)
theorem ml_S_25 : Cond.methodLink R_S 25 y_Q_of ∈ GW := gw_in 79 (by decide +kernel) (by decide +kernel)
theorem ws_Q_of : Cond.static y_Q_of ∈ GW := gw_in 80 (by decide +kernel) (by decide +kernel)
set_option maxRecDepth 100000 in
theorem wc_Q_of : Cond.code y_Q_of b_Q_of 3 (some .int) ∈ GW := gw_in 81 (rfl) (by decide +kernel)
theorem fl_S_21 : Cond.fieldLink R_S 21 "PolynomialHeap$Sheet" "field" "LPolynomialHeap$Field;" ∈ GW := gw_in 82 (by decide +kernel) (by decide +kernel)
theorem fl_S_9 : Cond.fieldLink R_S 9 "PolynomialHeap$Sheet" "monomials" "[I" ∈ GW := gw_in 83 (by decide +kernel) (by decide +kernel)
theorem fl_S_15 : Cond.fieldLink R_S 15 "PolynomialHeap$Sheet" "firstRanks" "[I" ∈ GW := gw_in 84 (by decide +kernel) (by decide +kernel)
theorem fl_S_18 : Cond.fieldLink R_S 18 "PolynomialHeap$Sheet" "cells" "[I" ∈ GW := gw_in 85 (by decide +kernel) (by decide +kernel)
theorem fl_S_45 : Cond.fieldLink R_S 45 "PolynomialHeap$Sheet" "end" "I" ∈ GW := gw_in 86 (by decide +kernel) (by decide +kernel)
theorem ac_int : Cond.arrayClass .int ∈ GW := gw_in 98 (by decide +kernel) (by decide +kernel)
theorem cl_H_36 : Cond.classLink R_H 36 "PolynomialHeap$PowerTable" ∈ GW := gw_in 99 (by decide +kernel) (by decide +kernel)
theorem is_T : Cond.instantiable R_T 2 ∈ GW := gw_in 100 (by decide +kernel) (by decide +kernel)
theorem ml_H_38 : Cond.methodLink R_H 38 y_T_init ∈ GW := gw_in 101 (by decide +kernel) (by decide +kernel)
theorem wi_T_init : Cond.instanceMethod y_T_init ∈ GW := gw_in 102 (by decide +kernel) (by decide +kernel)
set_option maxRecDepth 100000 in
theorem wc_T_init : Cond.code y_T_init b_T_init 2 none ∈ GW := gw_in 103 (rfl) (by decide +kernel)
theorem ml_T_3 : Cond.methodLink R_T 3 y_Jo_init ∈ GW := gw_in 104 (by decide +kernel) (by decide +kernel)
theorem cl_T_11 : Cond.classLink R_T 11 "[[I" ∈ GW := gw_in 105 (by decide +kernel) (by decide +kernel)
theorem ao_106 : Cond.arrayOver (.array .int) ∈ NW := nw_in 106 (by decide +kernel) (by decide +kernel)
theorem fl_T_18 : Cond.fieldLink R_T 18 "PolynomialHeap$PowerTable" "field" "LPolynomialHeap$Field;" ∈ GW := gw_in 107 (by decide +kernel) (by decide +kernel)
theorem fl_T_13 : Cond.fieldLink R_T 13 "PolynomialHeap$PowerTable" "rows" "[[I" ∈ GW := gw_in 108 (by decide +kernel) (by decide +kernel)
theorem is_P : Cond.instantiable R_P 3 ∈ GW := gw_in 114 (by decide +kernel) (by decide +kernel)
theorem mN_H_43 : Cond.methodLinkNest R_H 43 y_P_init "PolynomialHeap" ∈ NW := nw_in 115 (by decide +kernel) (by decide +kernel)
theorem wi_P_init : Cond.instanceMethod y_P_init ∈ GW := gw_in 116 (by decide +kernel) (by decide +kernel)
set_option maxRecDepth 100000 in
theorem wc_P_init : Cond.code y_P_init b_P_init 1 none ∈ GW := gw_in 117 (rfl) (by decide +kernel)
theorem ml_P_1 : Cond.methodLink R_P 1 y_Jo_init ∈ GW := gw_in 118 (by decide +kernel) (by decide +kernel)
theorem fl_P_9 : Cond.fieldLink R_P 9 "PolynomialHeap$Polynomial" "monomials" "[I" ∈ GW := gw_in 119 (by decide +kernel) (by decide +kernel)
theorem fl_S_59 : Cond.fieldLink R_S 59 "PolynomialHeap$Polynomial" "monomials" "[I" ∈ GW := gw_in 120 (by decide +kernel) (by decide +kernel)
theorem fl_H_113 : Cond.fieldLink R_H 113 "PolynomialHeap$Polynomial" "monomials" "[I" ∈ GW := gw_in 121 (by decide +kernel) (by decide +kernel)
theorem fl_P_13 : Cond.fieldLink R_P 13 "PolynomialHeap$Polynomial" "coefficients" "[I" ∈ GW := gw_in 122 (by decide +kernel) (by decide +kernel)
theorem fl_S_60 : Cond.fieldLink R_S 60 "PolynomialHeap$Polynomial" "coefficients" "[I" ∈ GW := gw_in 123 (by decide +kernel) (by decide +kernel)
theorem fl_H_121 : Cond.fieldLink R_H 121 "PolynomialHeap$Polynomial" "coefficients" "[I" ∈ GW := gw_in 124 (by decide +kernel) (by decide +kernel)
theorem fl_P_16 : Cond.fieldLink R_P 16 "PolynomialHeap$Polynomial" "size" "I" ∈ GW := gw_in 125 (by decide +kernel) (by decide +kernel)
theorem fl_S_54 : Cond.fieldLink R_S 54 "PolynomialHeap$Polynomial" "size" "I" ∈ GW := gw_in 126 (by decide +kernel) (by decide +kernel)
theorem fl_H_109 : Cond.fieldLink R_H 109 "PolynomialHeap$Polynomial" "size" "I" ∈ GW := gw_in 127 (by decide +kernel) (by decide +kernel)
theorem fl_H_23 : Cond.fieldLink R_H 23 "PolynomialHeap" "field" "LPolynomialHeap$Field;" ∈ GW := gw_in 135 (by decide +kernel) (by decide +kernel)
theorem fl_H_32 : Cond.fieldLink R_H 32 "PolynomialHeap" "sheet" "LPolynomialHeap$Sheet;" ∈ GW := gw_in 136 (by decide +kernel) (by decide +kernel)
theorem fl_H_39 : Cond.fieldLink R_H 39 "PolynomialHeap" "powers" "LPolynomialHeap$PowerTable;" ∈ GW := gw_in 137 (by decide +kernel) (by decide +kernel)
theorem fl_H_11 : Cond.fieldLink R_H 11 "PolynomialHeap" "registers" "[LPolynomialHeap$Polynomial;" ∈ GW := gw_in 138 (by decide +kernel) (by decide +kernel)
theorem fl_H_15 : Cond.fieldLink R_H 15 "PolynomialHeap" "minors" "[LPolynomialHeap$Polynomial;" ∈ GW := gw_in 139 (by decide +kernel) (by decide +kernel)
theorem fl_H_44 : Cond.fieldLink R_H 44 "PolynomialHeap" "spare" "LPolynomialHeap$Polynomial;" ∈ GW := gw_in 140 (by decide +kernel) (by decide +kernel)
theorem fl_H_179 : Cond.fieldLink R_H 179 "PolynomialHeap" "refusals" "I" ∈ GW := gw_in 141 (by decide +kernel) (by decide +kernel)
theorem ml_L_138 : Cond.methodLink R_L 138 y_H_count ∈ GW := gw_in 157 (by decide +kernel) (by decide +kernel)
theorem wi_H_count : Cond.instanceMethod y_H_count ∈ GW := gw_in 158 (by decide +kernel) (by decide +kernel)
theorem wl_H_count : Cond.selects R_H y_H_count y_H_count ∈ GW := gw_in 159 (by decide +kernel) (by decide +kernel)
set_option maxRecDepth 100000 in
theorem wc_H_count : Cond.code y_H_count b_H_count 2 (some .int) ∈ GW := gw_in 160 (rfl) (by decide +kernel)
theorem ml_H_169 : Cond.methodLink R_H 169 y_H_allTerms ∈ GW := gw_in 161 (by decide +kernel) (by decide +kernel)
theorem wi_H_allTerms : Cond.instanceMethod y_H_allTerms ∈ GW := gw_in 163 (by decide +kernel) (by decide +kernel)
set_option maxRecDepth 100000 in
theorem wc_H_allTerms : Cond.code y_H_allTerms b_H_allTerms 3 (some .int) ∈ GW := gw_in 164 (rfl) (by decide +kernel)
theorem ml_H_173 : Cond.methodLink R_H 173 y_H_zeroRegisters ∈ GW := gw_in 165 (by decide +kernel) (by decide +kernel)
theorem wi_H_zeroRegisters : Cond.instanceMethod y_H_zeroRegisters ∈ GW := gw_in 167 (by decide +kernel) (by decide +kernel)
set_option maxRecDepth 100000 in
theorem wc_H_zeroRegisters : Cond.code y_H_zeroRegisters b_H_zeroRegisters 3 (some .int) ∈ GW := gw_in 168 (rfl) (by decide +kernel)
theorem ml_H_102 : Cond.methodLink R_H 102 y_P_isZero ∈ GW := gw_in 169 (by decide +kernel) (by decide +kernel)
theorem wi_P_isZero : Cond.instanceMethod y_P_isZero ∈ GW := gw_in 170 (by decide +kernel) (by decide +kernel)
theorem wl_P_isZero : Cond.selects R_P y_P_isZero y_P_isZero ∈ GW := gw_in 171 (by decide +kernel) (by decide +kernel)
set_option maxRecDepth 100000 in
theorem wc_P_isZero : Cond.code y_P_isZero b_P_isZero 1 (some .boolean) ∈ GW := gw_in 172 (rfl) (by decide +kernel)
theorem ml_H_176 : Cond.methodLink R_H 176 y_H_greatestDegree ∈ GW := gw_in 173 (by decide +kernel) (by decide +kernel)
theorem wi_H_greatestDegree : Cond.instanceMethod y_H_greatestDegree ∈ GW := gw_in 175 (by decide +kernel) (by decide +kernel)
set_option maxRecDepth 100000 in
theorem wc_H_greatestDegree : Cond.code y_H_greatestDegree b_H_greatestDegree 4 (some .int) ∈ GW := gw_in 176 (rfl) (by decide +kernel)
theorem ml_H_85 : Cond.methodLink R_H 85 y_P_degreeIn ∈ GW := gw_in 177 (by decide +kernel) (by decide +kernel)
theorem wi_P_degreeIn : Cond.instanceMethod y_P_degreeIn ∈ GW := gw_in 178 (by decide +kernel) (by decide +kernel)
theorem wl_P_degreeIn : Cond.selects R_P y_P_degreeIn y_P_degreeIn ∈ GW := gw_in 179 (by decide +kernel) (by decide +kernel)
set_option maxRecDepth 100000 in
theorem wc_P_degreeIn : Cond.code y_P_degreeIn b_P_degreeIn 4 (some .int) ∈ GW := gw_in 180 (rfl) (by decide +kernel)
theorem ml_P_35 : Cond.methodLink R_P 35 y_Q_exponent ∈ GW := gw_in 181 (by decide +kernel) (by decide +kernel)
theorem ws_Q_exponent : Cond.static y_Q_exponent ∈ GW := gw_in 182 (by decide +kernel) (by decide +kernel)
set_option maxRecDepth 100000 in
theorem wc_Q_exponent : Cond.code y_Q_exponent b_Q_exponent 2 (some .int) ∈ GW := gw_in 183 (rfl) (by decide +kernel)
theorem ml_P_39 : Cond.methodLink R_P 39 y_Jm_max ∈ GW := gw_in 184 (by decide +kernel) (by decide +kernel)
theorem ml_H_188 : Cond.methodLink R_H 188 y_Jm_max ∈ GW := gw_in 185 (by decide +kernel) (by decide +kernel)
theorem ml_L_69 : Cond.methodLink R_L 69 y_L_cell ∈ GW := gw_in 186 (by decide +kernel) (by decide +kernel)
theorem ws_L_cell : Cond.static y_L_cell ∈ GW := gw_in 187 (by decide +kernel) (by decide +kernel)
set_option maxRecDepth 100000 in
theorem wc_L_cell : Cond.code y_L_cell b_L_cell 2 (some .int) ∈ GW := gw_in 188 (rfl) (by decide +kernel)
theorem ml_L_81 : Cond.methodLink R_L 81 y_L_constant ∈ GW := gw_in 189 (by decide +kernel) (by decide +kernel)
theorem ws_L_constant : Cond.static y_L_constant ∈ GW := gw_in 190 (by decide +kernel) (by decide +kernel)
theorem cl_L_13 : Cond.classLink R_L 13 "java/lang/IndexOutOfBoundsException" ∈ GW := gw_in 192 (by decide +kernel) (by decide +kernel)
theorem ml_L_7 : Cond.methodLink R_L 7 y_H_constant ∈ GW := gw_in 193 (by decide +kernel) (by decide +kernel)
theorem wi_H_constant : Cond.instanceMethod y_H_constant ∈ GW := gw_in 194 (by decide +kernel) (by decide +kernel)
theorem wl_H_constant : Cond.selects R_H y_H_constant y_H_constant ∈ GW := gw_in 195 (by decide +kernel) (by decide +kernel)
set_option maxRecDepth 100000 in
theorem wc_H_constant : Cond.code y_H_constant b_H_constant 3 none ∈ GW := gw_in 196 (rfl) (by decide +kernel)
theorem ml_H_48 : Cond.methodLink R_H 48 y_H_checkRegister ∈ GW := gw_in 197 (by decide +kernel) (by decide +kernel)
theorem ws_H_checkRegister : Cond.static y_H_checkRegister ∈ GW := gw_in 198 (by decide +kernel) (by decide +kernel)
set_option maxRecDepth 100000 in
theorem wc_H_checkRegister : Cond.code y_H_checkRegister b_H_checkRegister 1 none ∈ GW := gw_in 199 (rfl) (by decide +kernel)
theorem cl_H_149 : Cond.classLink R_H 149 "java/lang/IndexOutOfBoundsException" ∈ GW := gw_in 200 (by decide +kernel) (by decide +kernel)
theorem ca_202 : Cond.castable "java/lang/IndexOutOfBoundsException" "java/lang/IndexOutOfBoundsException" ∈ NW := nw_in 202 (by decide +kernel) (by decide +kernel)
theorem wv_fillInStackTrace : Cond.native ⟨"java/lang/Throwable", "fillInStackTrace", "(I)Ljava/lang/Throwable;"⟩ ∈ GW := gw_in 239 (by decide +kernel) (by decide +kernel)
theorem ml_H_151 : Cond.methodLink R_H 151 ⟨"java/lang/IndexOutOfBoundsException", "<init>", "()V"⟩ ∈ GW := gw_in 240 (by decide +kernel) (by decide +kernel)
theorem ml_H_51 : Cond.methodLink R_H 51 y_F_reduced ∈ GW := gw_in 262 (by decide +kernel) (by decide +kernel)
theorem wi_F_reduced : Cond.instanceMethod y_F_reduced ∈ GW := gw_in 263 (by decide +kernel) (by decide +kernel)
theorem wl_F_reduced : Cond.selects R_F y_F_reduced y_F_reduced ∈ GW := gw_in 264 (by decide +kernel) (by decide +kernel)
set_option maxRecDepth 100000 in
theorem wc_F_reduced : Cond.code y_F_reduced b_F_reduced 2 (some .int) ∈ GW := gw_in 265 (rfl) (by decide +kernel)
theorem ml_F_28 : Cond.methodLink R_F 28 y_Jm_floorMod ∈ GW := gw_in 266 (by decide +kernel) (by decide +kernel)
theorem ws_Jm_floorMod : Cond.static y_Jm_floorMod ∈ GW := gw_in 267 (by decide +kernel) (by decide +kernel)
set_option maxRecDepth 100000 in
theorem wc_Jm_floorMod : Cond.code y_Jm_floorMod b_Jm_floorMod 3 (some .int) ∈ GW := gw_in 268 (rfl) (by decide +kernel)
theorem ml_H_55 : Cond.methodLink R_H 55 y_P_becomeNumber ∈ GW := gw_in 269 (by decide +kernel) (by decide +kernel)
theorem wi_P_becomeNumber : Cond.instanceMethod y_P_becomeNumber ∈ GW := gw_in 270 (by decide +kernel) (by decide +kernel)
theorem wl_P_becomeNumber : Cond.selects R_P y_P_becomeNumber y_P_becomeNumber ∈ GW := gw_in 271 (by decide +kernel) (by decide +kernel)
set_option maxRecDepth 100000 in
theorem wc_P_becomeNumber : Cond.code y_P_becomeNumber b_P_becomeNumber 2 none ∈ GW := gw_in 272 (rfl) (by decide +kernel)
theorem ml_P_26 : Cond.methodLink R_P 26 y_P_clear ∈ GW := gw_in 273 (by decide +kernel) (by decide +kernel)
theorem wi_P_clear : Cond.instanceMethod y_P_clear ∈ GW := gw_in 274 (by decide +kernel) (by decide +kernel)
theorem wl_P_clear : Cond.selects R_P y_P_clear y_P_clear ∈ GW := gw_in 275 (by decide +kernel) (by decide +kernel)
set_option maxRecDepth 100000 in
theorem wc_P_clear : Cond.code y_P_clear b_P_clear 1 none ∈ GW := gw_in 276 (rfl) (by decide +kernel)
theorem ml_P_31 : Cond.methodLink R_P 31 y_P_append ∈ GW := gw_in 277 (by decide +kernel) (by decide +kernel)
theorem wi_P_append : Cond.instanceMethod y_P_append ∈ GW := gw_in 278 (by decide +kernel) (by decide +kernel)
theorem wl_P_append : Cond.selects R_P y_P_append y_P_append ∈ GW := gw_in 279 (by decide +kernel) (by decide +kernel)
set_option maxRecDepth 100000 in
theorem wc_P_append : Cond.code y_P_append b_P_append 3 none ∈ GW := gw_in 280 (rfl) (by decide +kernel)
theorem ml_P_20 : Cond.methodLink R_P 20 y_Ja_copyOf ∈ GW := gw_in 281 (by decide +kernel) (by decide +kernel)
theorem ws_Ja_copyOf : Cond.static y_Ja_copyOf ∈ GW := gw_in 282 (by decide +kernel) (by decide +kernel)
set_option maxRecDepth 100000 in
theorem wc_Ja_copyOf : Cond.code y_Ja_copyOf b_Ja_copyOf 3 (some (.array .int)) ∈ GW := gw_in 283 (rfl) (by decide +kernel)
theorem ml_Ja_316 : Cond.methodLink R_Ja 316 ⟨"[I", "clone", "()Ljava/lang/Object;"⟩ ∈ GW := gw_in 284 (by decide +kernel) (by decide +kernel)
theorem wv_clone : Cond.native ⟨"java/lang/Object", "clone", "()Ljava/lang/Object;"⟩ ∈ GW := gw_in 286 (by decide +kernel) (by decide +kernel)
theorem ca_289 : Cond.castable "[I" "java/lang/Cloneable" ∈ NW := nw_in 289 (by decide +kernel) (by decide +kernel)
theorem cl_Ja_317 : Cond.classLink R_Ja 317 "[I" ∈ GW := gw_in 290 (by decide +kernel) (by decide +kernel)
theorem ml_Ja_304 : Cond.methodLink R_Ja 304 y_Jm_min ∈ GW := gw_in 291 (by decide +kernel) (by decide +kernel)
theorem ws_Jm_min : Cond.static y_Jm_min ∈ GW := gw_in 292 (by decide +kernel) (by decide +kernel)
set_option maxRecDepth 100000 in
theorem wc_Jm_min : Cond.code y_Jm_min b_Jm_min 2 (some .int) ∈ GW := gw_in 293 (rfl) (by decide +kernel)
theorem ml_Ja_150 : Cond.methodLink R_Ja 150 ⟨"java/lang/System", "arraycopy", "(Ljava/lang/Object;ILjava/lang/Object;II)V"⟩ ∈ GW := gw_in 294 (by decide +kernel) (by decide +kernel)
theorem ws_arraycopy : Cond.static ⟨"java/lang/System", "arraycopy", "(Ljava/lang/Object;ILjava/lang/Object;II)V"⟩ ∈ GW := gw_in 295 (by decide +kernel) (by decide +kernel)
theorem wv_arraycopy : Cond.native ⟨"java/lang/System", "arraycopy", "(Ljava/lang/Object;ILjava/lang/Object;II)V"⟩ ∈ GW := gw_in 296 (by decide +kernel) (by decide +kernel)
theorem ml_L_89 : Cond.methodLink R_L 89 y_L_variable ∈ GW := gw_in 297 (by decide +kernel) (by decide +kernel)
theorem ws_L_variable : Cond.static y_L_variable ∈ GW := gw_in 298 (by decide +kernel) (by decide +kernel)
theorem cl_L_18 : Cond.classLink R_L 18 "java/lang/IllegalArgumentException" ∈ GW := gw_in 300 (by decide +kernel) (by decide +kernel)
theorem ml_L_15 : Cond.methodLink R_L 15 y_H_variable ∈ GW := gw_in 301 (by decide +kernel) (by decide +kernel)
theorem wi_H_variable : Cond.instanceMethod y_H_variable ∈ GW := gw_in 302 (by decide +kernel) (by decide +kernel)
theorem wl_H_variable : Cond.selects R_H y_H_variable y_H_variable ∈ GW := gw_in 303 (by decide +kernel) (by decide +kernel)
set_option maxRecDepth 100000 in
theorem wc_H_variable : Cond.code y_H_variable b_H_variable 3 none ∈ GW := gw_in 304 (rfl) (by decide +kernel)
theorem ml_H_58 : Cond.methodLink R_H 58 y_H_checkVariable ∈ GW := gw_in 305 (by decide +kernel) (by decide +kernel)
theorem ws_H_checkVariable : Cond.static y_H_checkVariable ∈ GW := gw_in 306 (by decide +kernel) (by decide +kernel)
set_option maxRecDepth 100000 in
theorem wc_H_checkVariable : Cond.code y_H_checkVariable b_H_checkVariable 1 none ∈ GW := gw_in 307 (rfl) (by decide +kernel)
theorem cl_H_96 : Cond.classLink R_H 96 "java/lang/IllegalArgumentException" ∈ GW := gw_in 308 (by decide +kernel) (by decide +kernel)
theorem ca_310 : Cond.castable "java/lang/IllegalArgumentException" "java/lang/IllegalArgumentException" ∈ NW := nw_in 310 (by decide +kernel) (by decide +kernel)
theorem ml_H_98 : Cond.methodLink R_H 98 ⟨"java/lang/IllegalArgumentException", "<init>", "()V"⟩ ∈ GW := gw_in 317 (by decide +kernel) (by decide +kernel)
theorem ml_H_61 : Cond.methodLink R_H 61 y_P_clear ∈ GW := gw_in 323 (by decide +kernel) (by decide +kernel)
theorem ml_H_64 : Cond.methodLink R_H 64 y_Q_ofVariable ∈ GW := gw_in 324 (by decide +kernel) (by decide +kernel)
theorem ws_Q_ofVariable : Cond.static y_Q_ofVariable ∈ GW := gw_in 325 (by decide +kernel) (by decide +kernel)
set_option maxRecDepth 100000 in
theorem wc_Q_ofVariable : Cond.code y_Q_ofVariable b_Q_ofVariable 1 (some .int) ∈ GW := gw_in 326 (rfl) (by decide +kernel)
theorem kc_Q_9 : Cond.constant R_Q 9 262144 ∈ GW := gw_in 327 (by decide +kernel) (by decide +kernel)
theorem ml_H_69 : Cond.methodLink R_H 69 y_P_append ∈ GW := gw_in 328 (by decide +kernel) (by decide +kernel)
theorem ml_L_92 : Cond.methodLink R_L 92 y_L_add ∈ GW := gw_in 329 (by decide +kernel) (by decide +kernel)
theorem ws_L_add : Cond.static y_L_add ∈ GW := gw_in 330 (by decide +kernel) (by decide +kernel)
theorem ml_L_20 : Cond.methodLink R_L 20 y_H_add ∈ GW := gw_in 332 (by decide +kernel) (by decide +kernel)
theorem wi_H_add : Cond.instanceMethod y_H_add ∈ GW := gw_in 333 (by decide +kernel) (by decide +kernel)
theorem wl_H_add : Cond.selects R_H y_H_add y_H_add ∈ GW := gw_in 334 (by decide +kernel) (by decide +kernel)
set_option maxRecDepth 100000 in
theorem wc_H_add : Cond.code y_H_add b_H_add 5 none ∈ GW := gw_in 335 (rfl) (by decide +kernel)
theorem ml_H_73 : Cond.methodLink R_H 73 y_H_checkRegisters ∈ GW := gw_in 336 (by decide +kernel) (by decide +kernel)
theorem ws_H_checkRegisters : Cond.static y_H_checkRegisters ∈ GW := gw_in 337 (by decide +kernel) (by decide +kernel)
set_option maxRecDepth 100000 in
theorem wc_H_checkRegisters : Cond.code y_H_checkRegisters b_H_checkRegisters 3 none ∈ GW := gw_in 338 (rfl) (by decide +kernel)
theorem ml_H_77 : Cond.methodLink R_H 77 y_S_addMultiple ∈ GW := gw_in 339 (by decide +kernel) (by decide +kernel)
theorem wi_S_addMultiple : Cond.instanceMethod y_S_addMultiple ∈ GW := gw_in 340 (by decide +kernel) (by decide +kernel)
theorem wl_S_addMultiple : Cond.selects R_S y_S_addMultiple y_S_addMultiple ∈ GW := gw_in 341 (by decide +kernel) (by decide +kernel)
set_option maxRecDepth 100000 in
theorem wc_S_addMultiple : Cond.code y_S_addMultiple b_S_addMultiple 5 none ∈ GW := gw_in 342 (rfl) (by decide +kernel)
theorem ml_S_63 : Cond.methodLink R_S 63 y_S_addTerm ∈ GW := gw_in 343 (by decide +kernel) (by decide +kernel)
theorem wi_S_addTerm : Cond.instanceMethod y_S_addTerm ∈ GW := gw_in 345 (by decide +kernel) (by decide +kernel)
set_option maxRecDepth 100000 in
theorem wc_S_addTerm : Cond.code y_S_addTerm b_S_addTerm 5 none ∈ GW := gw_in 346 (rfl) (by decide +kernel)
theorem ml_S_37 : Cond.methodLink R_S 37 y_S_rankOf ∈ GW := gw_in 347 (by decide +kernel) (by decide +kernel)
theorem wi_S_rankOf : Cond.instanceMethod y_S_rankOf ∈ GW := gw_in 349 (by decide +kernel) (by decide +kernel)
set_option maxRecDepth 100000 in
theorem wc_S_rankOf : Cond.code y_S_rankOf b_S_rankOf 2 (some .int) ∈ GW := gw_in 350 (rfl) (by decide +kernel)
theorem ml_S_29 : Cond.methodLink R_S 29 y_Q_sumAndFirst ∈ GW := gw_in 351 (by decide +kernel) (by decide +kernel)
theorem ws_Q_sumAndFirst : Cond.static y_Q_sumAndFirst ∈ GW := gw_in 352 (by decide +kernel) (by decide +kernel)
set_option maxRecDepth 100000 in
theorem wc_Q_sumAndFirst : Cond.code y_Q_sumAndFirst b_Q_sumAndFirst 1 (some .int) ∈ GW := gw_in 353 (rfl) (by decide +kernel)
theorem ml_S_33 : Cond.methodLink R_S 33 y_Q_exponent ∈ GW := gw_in 354 (by decide +kernel) (by decide +kernel)
theorem ml_S_40 : Cond.methodLink R_S 40 y_F_sumWithProduct ∈ GW := gw_in 355 (by decide +kernel) (by decide +kernel)
theorem wi_F_sumWithProduct : Cond.instanceMethod y_F_sumWithProduct ∈ GW := gw_in 356 (by decide +kernel) (by decide +kernel)
theorem wl_F_sumWithProduct : Cond.selects R_F y_F_sumWithProduct y_F_sumWithProduct ∈ GW := gw_in 357 (by decide +kernel) (by decide +kernel)
set_option maxRecDepth 100000 in
theorem wc_F_sumWithProduct : Cond.code y_F_sumWithProduct b_F_sumWithProduct 4 (some .int) ∈ GW := gw_in 358 (rfl) (by decide +kernel)
theorem ml_S_49 : Cond.methodLink R_S 49 y_Jm_max ∈ GW := gw_in 359 (by decide +kernel) (by decide +kernel)
theorem ml_H_81 : Cond.methodLink R_H 81 y_S_moveTo ∈ GW := gw_in 360 (by decide +kernel) (by decide +kernel)
theorem wi_S_moveTo : Cond.instanceMethod y_S_moveTo ∈ GW := gw_in 361 (by decide +kernel) (by decide +kernel)
theorem wl_S_moveTo : Cond.selects R_S y_S_moveTo y_S_moveTo ∈ GW := gw_in 362 (by decide +kernel) (by decide +kernel)
set_option maxRecDepth 100000 in
theorem wc_S_moveTo : Cond.code y_S_moveTo b_S_moveTo 3 none ∈ GW := gw_in 363 (rfl) (by decide +kernel)
theorem ml_S_74 : Cond.methodLink R_S 74 y_P_clear ∈ GW := gw_in 364 (by decide +kernel) (by decide +kernel)
theorem ml_S_87 : Cond.methodLink R_S 87 y_P_append ∈ GW := gw_in 365 (by decide +kernel) (by decide +kernel)
theorem ml_S_94 : Cond.methodLink R_S 94 y_S_clear ∈ GW := gw_in 366 (by decide +kernel) (by decide +kernel)
theorem wi_S_clear : Cond.instanceMethod y_S_clear ∈ GW := gw_in 367 (by decide +kernel) (by decide +kernel)
theorem wl_S_clear : Cond.selects R_S y_S_clear y_S_clear ∈ GW := gw_in 368 (by decide +kernel) (by decide +kernel)
set_option maxRecDepth 100000 in
theorem wc_S_clear : Cond.code y_S_clear b_S_clear 1 none ∈ GW := gw_in 369 (rfl) (by decide +kernel)
theorem ml_S_95 : Cond.methodLink R_S 95 y_Ja_fill ∈ GW := gw_in 370 (by decide +kernel) (by decide +kernel)
theorem ws_Ja_fill : Cond.static y_Ja_fill ∈ GW := gw_in 371 (by decide +kernel) (by decide +kernel)
set_option maxRecDepth 100000 in
theorem wc_Ja_fill : Cond.code y_Ja_fill b_Ja_fill 5 none ∈ GW := gw_in 372 (rfl) (by decide +kernel)
theorem ml_Ja_13 : Cond.methodLink R_Ja 13 y_Ja_rangeCheck ∈ GW := gw_in 373 (by decide +kernel) (by decide +kernel)
theorem ws_Ja_rangeCheck : Cond.static y_Ja_rangeCheck ∈ GW := gw_in 374 (by decide +kernel) (by decide +kernel)
set_option maxRecDepth 100000 in
theorem wc_Ja_rangeCheck : Cond.code y_Ja_rangeCheck b_Ja_rangeCheck 3 none ∈ GW := gw_in 375 (rfl) (by decide +kernel)
theorem ml_L_96 : Cond.methodLink R_L 96 y_L_multiply ∈ GW := gw_in 376 (by decide +kernel) (by decide +kernel)
theorem ws_L_multiply : Cond.static y_L_multiply ∈ GW := gw_in 377 (by decide +kernel) (by decide +kernel)
theorem ml_L_24 : Cond.methodLink R_L 24 y_H_multiply ∈ GW := gw_in 379 (by decide +kernel) (by decide +kernel)
theorem wi_H_multiply : Cond.instanceMethod y_H_multiply ∈ GW := gw_in 380 (by decide +kernel) (by decide +kernel)
theorem wl_H_multiply : Cond.selects R_H y_H_multiply y_H_multiply ∈ GW := gw_in 381 (by decide +kernel) (by decide +kernel)
set_option maxRecDepth 100000 in
theorem wc_H_multiply : Cond.code y_H_multiply b_H_multiply 7 (some .boolean) ∈ GW := gw_in 382 (rfl) (by decide +kernel)
theorem ml_H_88 : Cond.methodLink R_H 88 y_H_refuse ∈ GW := gw_in 383 (by decide +kernel) (by decide +kernel)
theorem wi_H_refuse : Cond.instanceMethod y_H_refuse ∈ GW := gw_in 385 (by decide +kernel) (by decide +kernel)
set_option maxRecDepth 100000 in
theorem wc_H_refuse : Cond.code y_H_refuse b_H_refuse 1 (some .boolean) ∈ GW := gw_in 386 (rfl) (by decide +kernel)
theorem ml_H_92 : Cond.methodLink R_H 92 y_S_addProduct ∈ GW := gw_in 387 (by decide +kernel) (by decide +kernel)
theorem wi_S_addProduct : Cond.instanceMethod y_S_addProduct ∈ GW := gw_in 388 (by decide +kernel) (by decide +kernel)
theorem wl_S_addProduct : Cond.selects R_S y_S_addProduct y_S_addProduct ∈ GW := gw_in 389 (by decide +kernel) (by decide +kernel)
set_option maxRecDepth 100000 in
theorem wc_S_addProduct : Cond.code y_S_addProduct b_S_addProduct 4 none ∈ GW := gw_in 390 (rfl) (by decide +kernel)
theorem ml_S_67 : Cond.methodLink R_S 67 y_S_addMultiple ∈ GW := gw_in 391 (by decide +kernel) (by decide +kernel)
theorem ml_L_100 : Cond.methodLink R_L 100 y_L_power ∈ GW := gw_in 392 (by decide +kernel) (by decide +kernel)
theorem ws_L_power : Cond.static y_L_power ∈ GW := gw_in 393 (by decide +kernel) (by decide +kernel)
theorem ml_L_28 : Cond.methodLink R_L 28 y_H_power ∈ GW := gw_in 395 (by decide +kernel) (by decide +kernel)
theorem wi_H_power : Cond.instanceMethod y_H_power ∈ GW := gw_in 396 (by decide +kernel) (by decide +kernel)
theorem wl_H_power : Cond.selects R_H y_H_power y_H_power ∈ GW := gw_in 397 (by decide +kernel) (by decide +kernel)
set_option maxRecDepth 100000 in
theorem wc_H_power : Cond.code y_H_power b_H_power 6 (some .boolean) ∈ GW := gw_in 398 (rfl) (by decide +kernel)
theorem ml_H_99 : Cond.methodLink R_H 99 y_H_exchangeSpare ∈ GW := gw_in 399 (by decide +kernel) (by decide +kernel)
theorem wi_H_exchangeSpare : Cond.instanceMethod y_H_exchangeSpare ∈ GW := gw_in 401 (by decide +kernel) (by decide +kernel)
set_option maxRecDepth 100000 in
theorem wc_H_exchangeSpare : Cond.code y_H_exchangeSpare b_H_exchangeSpare 3 none ∈ GW := gw_in 402 (rfl) (by decide +kernel)
theorem ml_L_103 : Cond.methodLink R_L 103 y_L_divide ∈ GW := gw_in 403 (by decide +kernel) (by decide +kernel)
theorem ws_L_divide : Cond.static y_L_divide ∈ GW := gw_in 404 (by decide +kernel) (by decide +kernel)
theorem ml_L_31 : Cond.methodLink R_L 31 y_H_divide ∈ GW := gw_in 406 (by decide +kernel) (by decide +kernel)
theorem wi_H_divide : Cond.instanceMethod y_H_divide ∈ GW := gw_in 407 (by decide +kernel) (by decide +kernel)
theorem wl_H_divide : Cond.selects R_H y_H_divide y_H_divide ∈ GW := gw_in 408 (by decide +kernel) (by decide +kernel)
set_option maxRecDepth 100000 in
theorem wc_H_divide : Cond.code y_H_divide b_H_divide 6 none ∈ GW := gw_in 409 (rfl) (by decide +kernel)
theorem ml_H_105 : Cond.methodLink R_H 105 y_S_divideBy ∈ GW := gw_in 410 (by decide +kernel) (by decide +kernel)
theorem wi_S_divideBy : Cond.instanceMethod y_S_divideBy ∈ GW := gw_in 411 (by decide +kernel) (by decide +kernel)
theorem wl_S_divideBy : Cond.selects R_S y_S_divideBy y_S_divideBy ∈ GW := gw_in 412 (by decide +kernel) (by decide +kernel)
set_option maxRecDepth 100000 in
theorem wc_S_divideBy : Cond.code y_S_divideBy b_S_divideBy 8 none ∈ GW := gw_in 413 (rfl) (by decide +kernel)
theorem ml_S_77 : Cond.methodLink R_S 77 y_F_inverse ∈ GW := gw_in 414 (by decide +kernel) (by decide +kernel)
theorem wi_F_inverse : Cond.instanceMethod y_F_inverse ∈ GW := gw_in 415 (by decide +kernel) (by decide +kernel)
theorem wl_F_inverse : Cond.selects R_F y_F_inverse y_F_inverse ∈ GW := gw_in 416 (by decide +kernel) (by decide +kernel)
set_option maxRecDepth 100000 in
theorem wc_F_inverse : Cond.code y_F_inverse b_F_inverse 5 (some .int) ∈ GW := gw_in 417 (rfl) (by decide +kernel)
theorem ml_F_31 : Cond.methodLink R_F 31 y_F_product ∈ GW := gw_in 418 (by decide +kernel) (by decide +kernel)
theorem wi_F_product : Cond.instanceMethod y_F_product ∈ GW := gw_in 419 (by decide +kernel) (by decide +kernel)
theorem wl_F_product : Cond.selects R_F y_F_product y_F_product ∈ GW := gw_in 420 (by decide +kernel) (by decide +kernel)
set_option maxRecDepth 100000 in
theorem wc_F_product : Cond.code y_F_product b_F_product 3 (some .int) ∈ GW := gw_in 421 (rfl) (by decide +kernel)
theorem ml_S_80 : Cond.methodLink R_S 80 y_Q_isMultiple ∈ GW := gw_in 422 (by decide +kernel) (by decide +kernel)
theorem ws_Q_isMultiple : Cond.static y_Q_isMultiple ∈ GW := gw_in 423 (by decide +kernel) (by decide +kernel)
set_option maxRecDepth 100000 in
theorem wc_Q_isMultiple : Cond.code y_Q_isMultiple b_Q_isMultiple 2 (some .boolean) ∈ GW := gw_in 424 (rfl) (by decide +kernel)
theorem ml_Q_10 : Cond.methodLink R_Q 10 y_Q_exponent ∈ GW := gw_in 425 (by decide +kernel) (by decide +kernel)
theorem ml_S_84 : Cond.methodLink R_S 84 y_F_product ∈ GW := gw_in 426 (by decide +kernel) (by decide +kernel)
theorem ml_S_91 : Cond.methodLink R_S 91 y_F_negative ∈ GW := gw_in 427 (by decide +kernel) (by decide +kernel)
theorem wi_F_negative : Cond.instanceMethod y_F_negative ∈ GW := gw_in 428 (by decide +kernel) (by decide +kernel)
theorem wl_F_negative : Cond.selects R_F y_F_negative y_F_negative ∈ GW := gw_in 429 (by decide +kernel) (by decide +kernel)
set_option maxRecDepth 100000 in
theorem wc_F_negative : Cond.code y_F_negative b_F_negative 2 (some .int) ∈ GW := gw_in 430 (rfl) (by decide +kernel)
theorem ml_H_108 : Cond.methodLink R_H 108 y_S_clear ∈ GW := gw_in 431 (by decide +kernel) (by decide +kernel)
theorem ml_L_107 : Cond.methodLink R_L 107 y_L_derive ∈ GW := gw_in 432 (by decide +kernel) (by decide +kernel)
theorem ws_L_derive : Cond.static y_L_derive ∈ GW := gw_in 433 (by decide +kernel) (by decide +kernel)
theorem ml_L_35 : Cond.methodLink R_L 35 y_H_derive ∈ GW := gw_in 435 (by decide +kernel) (by decide +kernel)
theorem wi_H_derive : Cond.instanceMethod y_H_derive ∈ GW := gw_in 436 (by decide +kernel) (by decide +kernel)
theorem wl_H_derive : Cond.selects R_H y_H_derive y_H_derive ∈ GW := gw_in 437 (by decide +kernel) (by decide +kernel)
set_option maxRecDepth 100000 in
theorem wc_H_derive : Cond.code y_H_derive b_H_derive 8 none ∈ GW := gw_in 438 (rfl) (by decide +kernel)
theorem ml_H_117 : Cond.methodLink R_H 117 y_Q_exponent ∈ GW := gw_in 439 (by decide +kernel) (by decide +kernel)
theorem ml_H_124 : Cond.methodLink R_H 124 y_F_product ∈ GW := gw_in 440 (by decide +kernel) (by decide +kernel)
theorem ml_L_111 : Cond.methodLink R_L 111 y_L_put ∈ GW := gw_in 441 (by decide +kernel) (by decide +kernel)
theorem ws_L_put : Cond.static y_L_put ∈ GW := gw_in 442 (by decide +kernel) (by decide +kernel)
theorem ml_L_39 : Cond.methodLink R_L 39 y_H_put ∈ GW := gw_in 444 (by decide +kernel) (by decide +kernel)
theorem wi_H_put : Cond.instanceMethod y_H_put ∈ GW := gw_in 445 (by decide +kernel) (by decide +kernel)
theorem wl_H_put : Cond.selects R_H y_H_put y_H_put ∈ GW := gw_in 446 (by decide +kernel) (by decide +kernel)
set_option maxRecDepth 100000 in
theorem wc_H_put : Cond.code y_H_put b_H_put 10 (some .boolean) ∈ GW := gw_in 447 (rfl) (by decide +kernel)
theorem ml_H_127 : Cond.methodLink R_H 127 y_S_addCoefficientOf ∈ GW := gw_in 448 (by decide +kernel) (by decide +kernel)
theorem wi_S_addCoefficientOf : Cond.instanceMethod y_S_addCoefficientOf ∈ GW := gw_in 449 (by decide +kernel) (by decide +kernel)
theorem wl_S_addCoefficientOf : Cond.selects R_S y_S_addCoefficientOf y_S_addCoefficientOf ∈ GW := gw_in 450 (by decide +kernel) (by decide +kernel)
set_option maxRecDepth 100000 in
theorem wc_S_addCoefficientOf : Cond.code y_S_addCoefficientOf b_S_addCoefficientOf 6 none ∈ GW := gw_in 451 (rfl) (by decide +kernel)
theorem ml_S_71 : Cond.methodLink R_S 71 y_Q_without ∈ GW := gw_in 452 (by decide +kernel) (by decide +kernel)
theorem ws_Q_without : Cond.static y_Q_without ∈ GW := gw_in 453 (by decide +kernel) (by decide +kernel)
set_option maxRecDepth 100000 in
theorem wc_Q_without : Cond.code y_Q_without b_Q_without 2 (some .int) ∈ GW := gw_in 454 (rfl) (by decide +kernel)
theorem ml_Q_14 : Cond.methodLink R_Q 14 y_Q_ofVariable ∈ GW := gw_in 455 (by decide +kernel) (by decide +kernel)
theorem ml_L_115 : Cond.methodLink R_L 115 y_L_resultant ∈ GW := gw_in 456 (by decide +kernel) (by decide +kernel)
theorem ws_L_resultant : Cond.static y_L_resultant ∈ GW := gw_in 457 (by decide +kernel) (by decide +kernel)
theorem ml_L_43 : Cond.methodLink R_L 43 y_H_resultant ∈ GW := gw_in 459 (by decide +kernel) (by decide +kernel)
theorem wi_H_resultant : Cond.instanceMethod y_H_resultant ∈ GW := gw_in 460 (by decide +kernel) (by decide +kernel)
theorem wl_H_resultant : Cond.selects R_H y_H_resultant y_H_resultant ∈ GW := gw_in 461 (by decide +kernel) (by decide +kernel)
set_option maxRecDepth 100000 in
theorem wc_H_resultant : Cond.code y_H_resultant b_H_resultant 12 (some .boolean) ∈ GW := gw_in 462 (rfl) (by decide +kernel)
theorem ml_H_130 : Cond.methodLink R_H 130 y_Ji_bitCount ∈ GW := gw_in 463 (by decide +kernel) (by decide +kernel)
theorem ws_Ji_bitCount : Cond.static y_Ji_bitCount ∈ GW := gw_in 464 (by decide +kernel) (by decide +kernel)
set_option maxRecDepth 100000 in
theorem wc_Ji_bitCount : Cond.code y_Ji_bitCount b_Ji_bitCount 1 (some .int) ∈ GW := gw_in 465 (rfl) (by decide +kernel)
theorem kc_Ji_265 : Cond.constant R_Ji 265 1431655765 ∈ GW := gw_in 466 (by decide +kernel) (by decide +kernel)
theorem kc_Ji_266 : Cond.constant R_Ji 266 858993459 ∈ GW := gw_in 467 (by decide +kernel) (by decide +kernel)
theorem kc_Ji_267 : Cond.constant R_Ji 267 252645135 ∈ GW := gw_in 468 (by decide +kernel) (by decide +kernel)
theorem ml_H_135 : Cond.methodLink R_H 135 y_H_addExpansion ∈ GW := gw_in 469 (by decide +kernel) (by decide +kernel)
theorem wi_H_addExpansion : Cond.instanceMethod y_H_addExpansion ∈ GW := gw_in 471 (by decide +kernel) (by decide +kernel)
set_option maxRecDepth 100000 in
theorem wc_H_addExpansion : Cond.code y_H_addExpansion b_H_addExpansion 11 none ∈ GW := gw_in 472 (rfl) (by decide +kernel)
theorem ml_H_182 : Cond.methodLink R_H 182 y_F_negative ∈ GW := gw_in 473 (by decide +kernel) (by decide +kernel)
theorem ml_H_185 : Cond.methodLink R_H 185 y_Q_without ∈ GW := gw_in 474 (by decide +kernel) (by decide +kernel)
theorem ml_L_118 : Cond.methodLink R_L 118 y_L_value ∈ GW := gw_in 475 (by decide +kernel) (by decide +kernel)
theorem ws_L_value : Cond.static y_L_value ∈ GW := gw_in 476 (by decide +kernel) (by decide +kernel)
theorem ml_L_46 : Cond.methodLink R_L 46 y_H_value ∈ GW := gw_in 478 (by decide +kernel) (by decide +kernel)
theorem wi_H_value : Cond.instanceMethod y_H_value ∈ GW := gw_in 479 (by decide +kernel) (by decide +kernel)
theorem wl_H_value : Cond.selects R_H y_H_value y_H_value ∈ GW := gw_in 480 (by decide +kernel) (by decide +kernel)
set_option maxRecDepth 100000 in
theorem wc_H_value : Cond.code y_H_value b_H_value 8 (some .int) ∈ GW := gw_in 481 (rfl) (by decide +kernel)
theorem ml_H_139 : Cond.methodLink R_H 139 y_T_fillRow ∈ GW := gw_in 482 (by decide +kernel) (by decide +kernel)
theorem wi_T_fillRow : Cond.instanceMethod y_T_fillRow ∈ GW := gw_in 483 (by decide +kernel) (by decide +kernel)
theorem wl_T_fillRow : Cond.selects R_T y_T_fillRow y_T_fillRow ∈ GW := gw_in 484 (by decide +kernel) (by decide +kernel)
set_option maxRecDepth 100000 in
theorem wc_T_fillRow : Cond.code y_T_fillRow b_T_fillRow 4 none ∈ GW := gw_in 485 (rfl) (by decide +kernel)
theorem ml_T_22 : Cond.methodLink R_T 22 y_F_product ∈ GW := gw_in 486 (by decide +kernel) (by decide +kernel)
theorem ml_H_142 : Cond.methodLink R_H 142 y_T_at ∈ GW := gw_in 487 (by decide +kernel) (by decide +kernel)
theorem wi_T_at : Cond.instanceMethod y_T_at ∈ GW := gw_in 488 (by decide +kernel) (by decide +kernel)
theorem wl_T_at : Cond.selects R_T y_T_at y_T_at ∈ GW := gw_in 489 (by decide +kernel) (by decide +kernel)
set_option maxRecDepth 100000 in
theorem wc_T_at : Cond.code y_T_at b_T_at 4 (some .int) ∈ GW := gw_in 490 (rfl) (by decide +kernel)
theorem ml_T_28 : Cond.methodLink R_T 28 y_Q_exponent ∈ GW := gw_in 491 (by decide +kernel) (by decide +kernel)
theorem ml_H_145 : Cond.methodLink R_H 145 y_F_sumWithProduct ∈ GW := gw_in 492 (by decide +kernel) (by decide +kernel)
theorem ml_L_121 : Cond.methodLink R_L 121 y_L_terms ∈ GW := gw_in 493 (by decide +kernel) (by decide +kernel)
theorem ws_L_terms : Cond.static y_L_terms ∈ GW := gw_in 494 (by decide +kernel) (by decide +kernel)
theorem ml_L_50 : Cond.methodLink R_L 50 y_H_terms ∈ GW := gw_in 496 (by decide +kernel) (by decide +kernel)
theorem wi_H_terms : Cond.instanceMethod y_H_terms ∈ GW := gw_in 497 (by decide +kernel) (by decide +kernel)
theorem wl_H_terms : Cond.selects R_H y_H_terms y_H_terms ∈ GW := gw_in 498 (by decide +kernel) (by decide +kernel)
set_option maxRecDepth 100000 in
theorem wc_H_terms : Cond.code y_H_terms b_H_terms 2 (some .int) ∈ GW := gw_in 499 (rfl) (by decide +kernel)
theorem ml_L_125 : Cond.methodLink R_L 125 y_L_term ∈ GW := gw_in 500 (by decide +kernel) (by decide +kernel)
theorem ws_L_term : Cond.static y_L_term ∈ GW := gw_in 501 (by decide +kernel) (by decide +kernel)
theorem ml_L_54 : Cond.methodLink R_L 54 y_H_term ∈ GW := gw_in 503 (by decide +kernel) (by decide +kernel)
theorem wi_H_term : Cond.instanceMethod y_H_term ∈ GW := gw_in 504 (by decide +kernel) (by decide +kernel)
theorem wl_H_term : Cond.selects R_H y_H_term y_H_term ∈ GW := gw_in 505 (by decide +kernel) (by decide +kernel)
set_option maxRecDepth 100000 in
theorem wc_H_term : Cond.code y_H_term b_H_term 5 (some .int) ∈ GW := gw_in 506 (rfl) (by decide +kernel)
theorem ml_L_128 : Cond.methodLink R_L 128 y_L_coefficient ∈ GW := gw_in 507 (by decide +kernel) (by decide +kernel)
theorem ws_L_coefficient : Cond.static y_L_coefficient ∈ GW := gw_in 508 (by decide +kernel) (by decide +kernel)
theorem ml_L_58 : Cond.methodLink R_L 58 y_H_coefficient ∈ GW := gw_in 510 (by decide +kernel) (by decide +kernel)
theorem wi_H_coefficient : Cond.instanceMethod y_H_coefficient ∈ GW := gw_in 511 (by decide +kernel) (by decide +kernel)
theorem wl_H_coefficient : Cond.selects R_H y_H_coefficient y_H_coefficient ∈ GW := gw_in 512 (by decide +kernel) (by decide +kernel)
set_option maxRecDepth 100000 in
theorem wc_H_coefficient : Cond.code y_H_coefficient b_H_coefficient 5 (some .int) ∈ GW := gw_in 513 (rfl) (by decide +kernel)
theorem ml_H_152 : Cond.methodLink R_H 152 y_Q_exists ∈ GW := gw_in 514 (by decide +kernel) (by decide +kernel)
theorem ws_Q_exists : Cond.static y_Q_exists ∈ GW := gw_in 515 (by decide +kernel) (by decide +kernel)
set_option maxRecDepth 100000 in
theorem wc_Q_exists : Cond.code y_Q_exists b_Q_exists 3 (some .boolean) ∈ GW := gw_in 516 (rfl) (by decide +kernel)
theorem ml_H_156 : Cond.methodLink R_H 156 y_Q_of ∈ GW := gw_in 517 (by decide +kernel) (by decide +kernel)
theorem ml_H_159 : Cond.methodLink R_H 159 y_P_coefficientOf ∈ GW := gw_in 518 (by decide +kernel) (by decide +kernel)
theorem wi_P_coefficientOf : Cond.instanceMethod y_P_coefficientOf ∈ GW := gw_in 519 (by decide +kernel) (by decide +kernel)
theorem wl_P_coefficientOf : Cond.selects R_P y_P_coefficientOf y_P_coefficientOf ∈ GW := gw_in 520 (by decide +kernel) (by decide +kernel)
set_option maxRecDepth 100000 in
theorem wc_P_coefficientOf : Cond.code y_P_coefficientOf b_P_coefficientOf 3 (some .int) ∈ GW := gw_in 521 (rfl) (by decide +kernel)
theorem ml_L_131 : Cond.methodLink R_L 131 y_L_degree ∈ GW := gw_in 522 (by decide +kernel) (by decide +kernel)
theorem ws_L_degree : Cond.static y_L_degree ∈ GW := gw_in 523 (by decide +kernel) (by decide +kernel)
theorem ml_L_61 : Cond.methodLink R_L 61 y_H_degree ∈ GW := gw_in 525 (by decide +kernel) (by decide +kernel)
theorem wi_H_degree : Cond.instanceMethod y_H_degree ∈ GW := gw_in 526 (by decide +kernel) (by decide +kernel)
theorem wl_H_degree : Cond.selects R_H y_H_degree y_H_degree ∈ GW := gw_in 527 (by decide +kernel) (by decide +kernel)
set_option maxRecDepth 100000 in
theorem wc_H_degree : Cond.code y_H_degree b_H_degree 3 (some .int) ∈ GW := gw_in 528 (rfl) (by decide +kernel)
theorem ml_L_135 : Cond.methodLink R_L 135 y_L_isSame ∈ GW := gw_in 529 (by decide +kernel) (by decide +kernel)
theorem ws_L_isSame : Cond.static y_L_isSame ∈ GW := gw_in 530 (by decide +kernel) (by decide +kernel)
theorem ml_L_65 : Cond.methodLink R_L 65 y_H_isSame ∈ GW := gw_in 532 (by decide +kernel) (by decide +kernel)
theorem wi_H_isSame : Cond.instanceMethod y_H_isSame ∈ GW := gw_in 533 (by decide +kernel) (by decide +kernel)
theorem wl_H_isSame : Cond.selects R_H y_H_isSame y_H_isSame ∈ GW := gw_in 534 (by decide +kernel) (by decide +kernel)
set_option maxRecDepth 100000 in
theorem wc_H_isSame : Cond.code y_H_isSame b_H_isSame 3 (some .boolean) ∈ GW := gw_in 535 (rfl) (by decide +kernel)
theorem ml_H_162 : Cond.methodLink R_H 162 y_P_matches ∈ GW := gw_in 536 (by decide +kernel) (by decide +kernel)
theorem wi_P_matches : Cond.instanceMethod y_P_matches ∈ GW := gw_in 537 (by decide +kernel) (by decide +kernel)
theorem wl_P_matches : Cond.selects R_P y_P_matches y_P_matches ∈ GW := gw_in 538 (by decide +kernel) (by decide +kernel)
set_option maxRecDepth 100000 in
theorem wc_P_matches : Cond.code y_P_matches b_P_matches 3 (some .boolean) ∈ GW := gw_in 539 (rfl) (by decide +kernel)
theorem cl_L_78 : Cond.classLink R_L 78 "PolynomialHeapModel" ∈ GW := gw_in 540 (by decide +kernel) (by decide +kernel)
theorem is_R : Cond.instantiable R_R 14 ∈ GW := gw_in 541 (by decide +kernel) (by decide +kernel)
theorem ml_L_80 : Cond.methodLink R_L 80 y_R_init ∈ GW := gw_in 542 (by decide +kernel) (by decide +kernel)
theorem wi_R_init : Cond.instanceMethod y_R_init ∈ GW := gw_in 543 (by decide +kernel) (by decide +kernel)
set_option maxRecDepth 100000 in
theorem wc_R_init : Cond.code y_R_init b_R_init 7 none ∈ GW := gw_in 544 (rfl) (by decide +kernel)
theorem ml_R_1 : Cond.methodLink R_R 1 y_Jo_init ∈ GW := gw_in 545 (by decide +kernel) (by decide +kernel)
theorem kc_R_13 : Cond.constant R_R 13 50653 ∈ GW := gw_in 546 (by decide +kernel) (by decide +kernel)
theorem kc_R_17 : Cond.constant R_R 17 109668 ∈ GW := gw_in 547 (by decide +kernel) (by decide +kernel)
theorem kc_R_42 : Cond.constant R_R 42 43264 ∈ GW := gw_in 548 (by decide +kernel) (by decide +kernel)
theorem kc_R_46 : Cond.constant R_R 46 46337 ∈ GW := gw_in 549 (by decide +kernel) (by decide +kernel)
theorem ml_R_47 : Cond.methodLink R_R 47 y_R_isPrime ∈ GW := gw_in 550 (by decide +kernel) (by decide +kernel)
theorem ws_R_isPrime : Cond.static y_R_isPrime ∈ GW := gw_in 551 (by decide +kernel) (by decide +kernel)
set_option maxRecDepth 100000 in
theorem wc_R_isPrime : Cond.code y_R_isPrime b_R_isPrime 3 (some .boolean) ∈ GW := gw_in 552 (rfl) (by decide +kernel)
theorem fl_R_55 : Cond.fieldLink R_R 55 "PolynomialHeapModel" "thrown" "I" ∈ GW := gw_in 553 (by decide +kernel) (by decide +kernel)
theorem fl_R_51 : Cond.fieldLink R_R 51 "PolynomialHeapModel" "prime" "I" ∈ GW := gw_in 554 (by decide +kernel) (by decide +kernel)
theorem fl_R_82 : Cond.fieldLink R_R 82 "PolynomialHeapModel" "refused" "I" ∈ GW := gw_in 555 (by decide +kernel) (by decide +kernel)
theorem fl_R_7 : Cond.fieldLink R_R 7 "PolynomialHeapModel" "exponents" "[I" ∈ GW := gw_in 556 (by decide +kernel) (by decide +kernel)
theorem fl_R_14 : Cond.fieldLink R_R 14 "PolynomialHeapModel" "places" "[I" ∈ GW := gw_in 557 (by decide +kernel) (by decide +kernel)
theorem fl_R_18 : Cond.fieldLink R_R 18 "PolynomialHeapModel" "rows" "[I" ∈ GW := gw_in 558 (by decide +kernel) (by decide +kernel)
theorem fl_R_21 : Cond.fieldLink R_R 21 "PolynomialHeapModel" "one" "[I" ∈ GW := gw_in 559 (by decide +kernel) (by decide +kernel)
theorem fl_R_24 : Cond.fieldLink R_R 24 "PolynomialHeapModel" "two" "[I" ∈ GW := gw_in 560 (by decide +kernel) (by decide +kernel)
theorem fl_R_27 : Cond.fieldLink R_R 27 "PolynomialHeapModel" "out" "[I" ∈ GW := gw_in 561 (by decide +kernel) (by decide +kernel)
theorem fl_R_30 : Cond.fieldLink R_R 30 "PolynomialHeapModel" "listed" "[I" ∈ GW := gw_in 562 (by decide +kernel) (by decide +kernel)
theorem fl_R_33 : Cond.fieldLink R_R 33 "PolynomialHeapModel" "now" "[I" ∈ GW := gw_in 563 (by decide +kernel) (by decide +kernel)
theorem fl_R_36 : Cond.fieldLink R_R 36 "PolynomialHeapModel" "some" "[I" ∈ GW := gw_in 564 (by decide +kernel) (by decide +kernel)
theorem fl_R_39 : Cond.fieldLink R_R 39 "PolynomialHeapModel" "entries" "[I" ∈ GW := gw_in 565 (by decide +kernel) (by decide +kernel)
theorem fl_R_43 : Cond.fieldLink R_R 43 "PolynomialHeapModel" "sums" "[I" ∈ GW := gw_in 566 (by decide +kernel) (by decide +kernel)
theorem ml_L_85 : Cond.methodLink R_L 85 y_R_thrown ∈ GW := gw_in 596 (by decide +kernel) (by decide +kernel)
theorem wi_R_thrown : Cond.instanceMethod y_R_thrown ∈ GW := gw_in 597 (by decide +kernel) (by decide +kernel)
theorem wl_R_thrown : Cond.selects R_R y_R_thrown y_R_thrown ∈ GW := gw_in 598 (by decide +kernel) (by decide +kernel)
set_option maxRecDepth 100000 in
theorem wc_R_thrown : Cond.code y_R_thrown b_R_thrown 1 (some .int) ∈ GW := gw_in 599 (rfl) (by decide +kernel)
theorem ml_L_84 : Cond.methodLink R_L 84 y_R_constant ∈ GW := gw_in 600 (by decide +kernel) (by decide +kernel)
theorem wi_R_constant : Cond.instanceMethod y_R_constant ∈ GW := gw_in 601 (by decide +kernel) (by decide +kernel)
theorem wl_R_constant : Cond.selects R_R y_R_constant y_R_constant ∈ GW := gw_in 602 (by decide +kernel) (by decide +kernel)
set_option maxRecDepth 100000 in
theorem wc_R_constant : Cond.code y_R_constant b_R_constant 3 none ∈ GW := gw_in 603 (rfl) (by decide +kernel)
theorem ml_R_85 : Cond.methodLink R_R 85 y_R_isRegister ∈ GW := gw_in 604 (by decide +kernel) (by decide +kernel)
theorem ws_R_isRegister : Cond.static y_R_isRegister ∈ GW := gw_in 605 (by decide +kernel) (by decide +kernel)
set_option maxRecDepth 100000 in
theorem wc_R_isRegister : Cond.code y_R_isRegister b_R_isRegister 1 (some .boolean) ∈ GW := gw_in 606 (rfl) (by decide +kernel)
theorem ml_R_88 : Cond.methodLink R_R 88 y_R_fails ∈ GW := gw_in 607 (by decide +kernel) (by decide +kernel)
theorem wi_R_fails : Cond.instanceMethod y_R_fails ∈ GW := gw_in 609 (by decide +kernel) (by decide +kernel)
set_option maxRecDepth 100000 in
theorem wc_R_fails : Cond.code y_R_fails b_R_fails 3 (some .boolean) ∈ GW := gw_in 610 (rfl) (by decide +kernel)
theorem ml_R_70 : Cond.methodLink R_R 70 y_R_clear ∈ GW := gw_in 611 (by decide +kernel) (by decide +kernel)
theorem ws_R_clear : Cond.static y_R_clear ∈ GW := gw_in 612 (by decide +kernel) (by decide +kernel)
set_option maxRecDepth 100000 in
theorem wc_R_clear : Cond.code y_R_clear b_R_clear 2 none ∈ GW := gw_in 613 (rfl) (by decide +kernel)
theorem ml_R_66 : Cond.methodLink R_R 66 y_R_reduced ∈ GW := gw_in 614 (by decide +kernel) (by decide +kernel)
theorem wi_R_reduced : Cond.instanceMethod y_R_reduced ∈ GW := gw_in 616 (by decide +kernel) (by decide +kernel)
set_option maxRecDepth 100000 in
theorem wc_R_reduced : Cond.code y_R_reduced b_R_reduced 5 (some .int) ∈ GW := gw_in 617 (rfl) (by decide +kernel)
theorem ml_R_92 : Cond.methodLink R_R 92 y_R_keep ∈ GW := gw_in 618 (by decide +kernel) (by decide +kernel)
theorem wi_R_keep : Cond.instanceMethod y_R_keep ∈ GW := gw_in 620 (by decide +kernel) (by decide +kernel)
set_option maxRecDepth 100000 in
theorem wc_R_keep : Cond.code y_R_keep b_R_keep 4 none ∈ GW := gw_in 621 (rfl) (by decide +kernel)
theorem ml_L_91 : Cond.methodLink R_L 91 y_R_variable ∈ GW := gw_in 622 (by decide +kernel) (by decide +kernel)
theorem wi_R_variable : Cond.instanceMethod y_R_variable ∈ GW := gw_in 623 (by decide +kernel) (by decide +kernel)
theorem wl_R_variable : Cond.selects R_R y_R_variable y_R_variable ∈ GW := gw_in 624 (by decide +kernel) (by decide +kernel)
set_option maxRecDepth 100000 in
theorem wc_R_variable : Cond.code y_R_variable b_R_variable 3 none ∈ GW := gw_in 625 (rfl) (by decide +kernel)
theorem ml_R_96 : Cond.methodLink R_R 96 y_R_isVariable ∈ GW := gw_in 626 (by decide +kernel) (by decide +kernel)
theorem ws_R_isVariable : Cond.static y_R_isVariable ∈ GW := gw_in 627 (by decide +kernel) (by decide +kernel)
set_option maxRecDepth 100000 in
theorem wc_R_isVariable : Cond.code y_R_isVariable b_R_isVariable 1 (some .boolean) ∈ GW := gw_in 628 (rfl) (by decide +kernel)
theorem ml_R_62 : Cond.methodLink R_R 62 y_R_place ∈ GW := gw_in 629 (by decide +kernel) (by decide +kernel)
theorem wi_R_place : Cond.instanceMethod y_R_place ∈ GW := gw_in 631 (by decide +kernel) (by decide +kernel)
set_option maxRecDepth 100000 in
theorem wc_R_place : Cond.code y_R_place b_R_place 4 (some .int) ∈ GW := gw_in 632 (rfl) (by decide +kernel)
theorem ml_L_95 : Cond.methodLink R_L 95 y_R_add ∈ GW := gw_in 633 (by decide +kernel) (by decide +kernel)
theorem wi_R_add : Cond.instanceMethod y_R_add ∈ GW := gw_in 634 (by decide +kernel) (by decide +kernel)
theorem wl_R_add : Cond.selects R_R y_R_add y_R_add ∈ GW := gw_in 635 (by decide +kernel) (by decide +kernel)
set_option maxRecDepth 100000 in
theorem wc_R_add : Cond.code y_R_add b_R_add 8 none ∈ GW := gw_in 636 (rfl) (by decide +kernel)
theorem ml_R_99 : Cond.methodLink R_R 99 y_R_load ∈ GW := gw_in 637 (by decide +kernel) (by decide +kernel)
theorem wi_R_load : Cond.instanceMethod y_R_load ∈ GW := gw_in 639 (by decide +kernel) (by decide +kernel)
set_option maxRecDepth 100000 in
theorem wc_R_load : Cond.code y_R_load b_R_load 4 none ∈ GW := gw_in 640 (rfl) (by decide +kernel)
theorem ml_L_99 : Cond.methodLink R_L 99 y_R_multiply ∈ GW := gw_in 641 (by decide +kernel) (by decide +kernel)
theorem wi_R_multiply : Cond.instanceMethod y_R_multiply ∈ GW := gw_in 642 (by decide +kernel) (by decide +kernel)
theorem wl_R_multiply : Cond.selects R_R y_R_multiply y_R_multiply ∈ GW := gw_in 643 (by decide +kernel) (by decide +kernel)
set_option maxRecDepth 100000 in
theorem wc_R_multiply : Cond.code y_R_multiply b_R_multiply 6 (some .boolean) ∈ GW := gw_in 644 (rfl) (by decide +kernel)
theorem ml_R_102 : Cond.methodLink R_R 102 y_R_degreeOf ∈ GW := gw_in 645 (by decide +kernel) (by decide +kernel)
theorem wi_R_degreeOf : Cond.instanceMethod y_R_degreeOf ∈ GW := gw_in 647 (by decide +kernel) (by decide +kernel)
set_option maxRecDepth 100000 in
theorem wc_R_degreeOf : Cond.code y_R_degreeOf b_R_degreeOf 5 (some .int) ∈ GW := gw_in 648 (rfl) (by decide +kernel)
theorem ml_R_58 : Cond.methodLink R_R 58 y_R_exponent ∈ GW := gw_in 649 (by decide +kernel) (by decide +kernel)
theorem wi_R_exponent : Cond.instanceMethod y_R_exponent ∈ GW := gw_in 651 (by decide +kernel) (by decide +kernel)
set_option maxRecDepth 100000 in
theorem wc_R_exponent : Cond.code y_R_exponent b_R_exponent 3 (some .int) ∈ GW := gw_in 652 (rfl) (by decide +kernel)
theorem ml_R_106 : Cond.methodLink R_R 106 y_R_refuses ∈ GW := gw_in 653 (by decide +kernel) (by decide +kernel)
theorem wi_R_refuses : Cond.instanceMethod y_R_refuses ∈ GW := gw_in 655 (by decide +kernel) (by decide +kernel)
set_option maxRecDepth 100000 in
theorem wc_R_refuses : Cond.code y_R_refuses b_R_refuses 2 (some .boolean) ∈ GW := gw_in 656 (rfl) (by decide +kernel)
theorem ml_R_110 : Cond.methodLink R_R 110 y_R_times ∈ GW := gw_in 657 (by decide +kernel) (by decide +kernel)
theorem wi_R_times : Cond.instanceMethod y_R_times ∈ GW := gw_in 659 (by decide +kernel) (by decide +kernel)
set_option maxRecDepth 100000 in
theorem wc_R_times : Cond.code y_R_times b_R_times 3 none ∈ GW := gw_in 660 (rfl) (by decide +kernel)
theorem ml_R_74 : Cond.methodLink R_R 74 y_R_gather ∈ GW := gw_in 661 (by decide +kernel) (by decide +kernel)
theorem wi_R_gather : Cond.instanceMethod y_R_gather ∈ GW := gw_in 663 (by decide +kernel) (by decide +kernel)
set_option maxRecDepth 100000 in
theorem wc_R_gather : Cond.code y_R_gather b_R_gather 15 none ∈ GW := gw_in 664 (rfl) (by decide +kernel)
theorem ml_R_78 : Cond.methodLink R_R 78 y_R_copy ∈ GW := gw_in 665 (by decide +kernel) (by decide +kernel)
theorem ws_R_copy : Cond.static y_R_copy ∈ GW := gw_in 666 (by decide +kernel) (by decide +kernel)
set_option maxRecDepth 100000 in
theorem wc_R_copy : Cond.code y_R_copy b_R_copy 3 none ∈ GW := gw_in 667 (rfl) (by decide +kernel)
theorem ml_L_102 : Cond.methodLink R_L 102 y_R_power ∈ GW := gw_in 668 (by decide +kernel) (by decide +kernel)
theorem wi_R_power : Cond.instanceMethod y_R_power ∈ GW := gw_in 669 (by decide +kernel) (by decide +kernel)
theorem wl_R_power : Cond.selects R_R y_R_power y_R_power ∈ GW := gw_in 670 (by decide +kernel) (by decide +kernel)
set_option maxRecDepth 100000 in
theorem wc_R_power : Cond.code y_R_power b_R_power 7 (some .boolean) ∈ GW := gw_in 671 (rfl) (by decide +kernel)
theorem ml_L_106 : Cond.methodLink R_L 106 y_R_divide ∈ GW := gw_in 672 (by decide +kernel) (by decide +kernel)
theorem wi_R_divide : Cond.instanceMethod y_R_divide ∈ GW := gw_in 673 (by decide +kernel) (by decide +kernel)
theorem wl_R_divide : Cond.selects R_R y_R_divide y_R_divide ∈ GW := gw_in 674 (by decide +kernel) (by decide +kernel)
set_option maxRecDepth 100000 in
theorem wc_R_divide : Cond.code y_R_divide b_R_divide 14 none ∈ GW := gw_in 675 (rfl) (by decide +kernel)
theorem ml_R_113 : Cond.methodLink R_R 113 y_R_isZero ∈ GW := gw_in 676 (by decide +kernel) (by decide +kernel)
theorem ws_R_isZero : Cond.static y_R_isZero ∈ GW := gw_in 677 (by decide +kernel) (by decide +kernel)
set_option maxRecDepth 100000 in
theorem wc_R_isZero : Cond.code y_R_isZero b_R_isZero 3 (some .boolean) ∈ GW := gw_in 678 (rfl) (by decide +kernel)
theorem ml_R_117 : Cond.methodLink R_R 117 y_R_inverse ∈ GW := gw_in 679 (by decide +kernel) (by decide +kernel)
theorem wi_R_inverse : Cond.instanceMethod y_R_inverse ∈ GW := gw_in 681 (by decide +kernel) (by decide +kernel)
set_option maxRecDepth 100000 in
theorem wc_R_inverse : Cond.code y_R_inverse b_R_inverse 5 (some .int) ∈ GW := gw_in 682 (rfl) (by decide +kernel)
theorem ml_L_110 : Cond.methodLink R_L 110 y_R_derive ∈ GW := gw_in 683 (by decide +kernel) (by decide +kernel)
theorem wi_R_derive : Cond.instanceMethod y_R_derive ∈ GW := gw_in 684 (by decide +kernel) (by decide +kernel)
theorem wl_R_derive : Cond.selects R_R y_R_derive y_R_derive ∈ GW := gw_in 685 (by decide +kernel) (by decide +kernel)
set_option maxRecDepth 100000 in
theorem wc_R_derive : Cond.code y_R_derive b_R_derive 7 none ∈ GW := gw_in 686 (rfl) (by decide +kernel)
theorem ml_L_114 : Cond.methodLink R_L 114 y_R_put ∈ GW := gw_in 687 (by decide +kernel) (by decide +kernel)
theorem wi_R_put : Cond.instanceMethod y_R_put ∈ GW := gw_in 688 (by decide +kernel) (by decide +kernel)
theorem wl_R_put : Cond.selects R_R y_R_put y_R_put ∈ GW := gw_in 689 (by decide +kernel) (by decide +kernel)
set_option maxRecDepth 100000 in
theorem wc_R_put : Cond.code y_R_put b_R_put 10 (some .boolean) ∈ GW := gw_in 690 (rfl) (by decide +kernel)
theorem ml_R_121 : Cond.methodLink R_R 121 y_R_part ∈ GW := gw_in 691 (by decide +kernel) (by decide +kernel)
theorem wi_R_part : Cond.instanceMethod y_R_part ∈ GW := gw_in 693 (by decide +kernel) (by decide +kernel)
set_option maxRecDepth 100000 in
theorem wc_R_part : Cond.code y_R_part b_R_part 5 none ∈ GW := gw_in 694 (rfl) (by decide +kernel)
theorem ml_L_117 : Cond.methodLink R_L 117 y_R_resultant ∈ GW := gw_in 695 (by decide +kernel) (by decide +kernel)
theorem wi_R_resultant : Cond.instanceMethod y_R_resultant ∈ GW := gw_in 696 (by decide +kernel) (by decide +kernel)
theorem wl_R_resultant : Cond.selects R_R y_R_resultant y_R_resultant ∈ GW := gw_in 697 (by decide +kernel) (by decide +kernel)
set_option maxRecDepth 100000 in
theorem wc_R_resultant : Cond.code y_R_resultant b_R_resultant 15 (some .boolean) ∈ GW := gw_in 698 (rfl) (by decide +kernel)
theorem ml_R_125 : Cond.methodLink R_R 125 y_R_entry ∈ GW := gw_in 699 (by decide +kernel) (by decide +kernel)
theorem wi_R_entry : Cond.instanceMethod y_R_entry ∈ GW := gw_in 701 (by decide +kernel) (by decide +kernel)
set_option maxRecDepth 100000 in
theorem wc_R_entry : Cond.code y_R_entry b_R_entry 6 none ∈ GW := gw_in 702 (rfl) (by decide +kernel)
theorem ml_R_129 : Cond.methodLink R_R 129 y_R_determinant ∈ GW := gw_in 703 (by decide +kernel) (by decide +kernel)
theorem wi_R_determinant : Cond.instanceMethod y_R_determinant ∈ GW := gw_in 705 (by decide +kernel) (by decide +kernel)
set_option maxRecDepth 100000 in
theorem wc_R_determinant : Cond.code y_R_determinant b_R_determinant 6 none ∈ GW := gw_in 706 (rfl) (by decide +kernel)
theorem ml_R_133 : Cond.methodLink R_R 133 y_R_bits ∈ GW := gw_in 707 (by decide +kernel) (by decide +kernel)
theorem ws_R_bits : Cond.static y_R_bits ∈ GW := gw_in 708 (by decide +kernel) (by decide +kernel)
set_option maxRecDepth 100000 in
theorem wc_R_bits : Cond.code y_R_bits b_R_bits 3 (some .int) ∈ GW := gw_in 709 (rfl) (by decide +kernel)
theorem ml_R_136 : Cond.methodLink R_R 136 y_R_cross ∈ GW := gw_in 710 (by decide +kernel) (by decide +kernel)
theorem wi_R_cross : Cond.instanceMethod y_R_cross ∈ GW := gw_in 712 (by decide +kernel) (by decide +kernel)
set_option maxRecDepth 100000 in
theorem wc_R_cross : Cond.code y_R_cross b_R_cross 10 none ∈ GW := gw_in 713 (rfl) (by decide +kernel)
theorem ml_L_120 : Cond.methodLink R_L 120 y_R_value ∈ GW := gw_in 714 (by decide +kernel) (by decide +kernel)
theorem wi_R_value : Cond.instanceMethod y_R_value ∈ GW := gw_in 715 (by decide +kernel) (by decide +kernel)
theorem wl_R_value : Cond.selects R_R y_R_value y_R_value ∈ GW := gw_in 716 (by decide +kernel) (by decide +kernel)
set_option maxRecDepth 100000 in
theorem wc_R_value : Cond.code y_R_value b_R_value 11 (some .int) ∈ GW := gw_in 717 (rfl) (by decide +kernel)
theorem ml_L_124 : Cond.methodLink R_L 124 y_R_terms ∈ GW := gw_in 718 (by decide +kernel) (by decide +kernel)
theorem wi_R_terms : Cond.instanceMethod y_R_terms ∈ GW := gw_in 719 (by decide +kernel) (by decide +kernel)
theorem wl_R_terms : Cond.selects R_R y_R_terms y_R_terms ∈ GW := gw_in 720 (by decide +kernel) (by decide +kernel)
set_option maxRecDepth 100000 in
theorem wc_R_terms : Cond.code y_R_terms b_R_terms 2 (some .int) ∈ GW := gw_in 721 (rfl) (by decide +kernel)
theorem ml_R_140 : Cond.methodLink R_R 140 y_R_counted ∈ GW := gw_in 722 (by decide +kernel) (by decide +kernel)
theorem wi_R_counted : Cond.instanceMethod y_R_counted ∈ GW := gw_in 724 (by decide +kernel) (by decide +kernel)
set_option maxRecDepth 100000 in
theorem wc_R_counted : Cond.code y_R_counted b_R_counted 4 (some .int) ∈ GW := gw_in 725 (rfl) (by decide +kernel)
theorem ml_L_127 : Cond.methodLink R_L 127 y_R_term ∈ GW := gw_in 726 (by decide +kernel) (by decide +kernel)
theorem wi_R_term : Cond.instanceMethod y_R_term ∈ GW := gw_in 727 (by decide +kernel) (by decide +kernel)
theorem wl_R_term : Cond.selects R_R y_R_term y_R_term ∈ GW := gw_in 728 (by decide +kernel) (by decide +kernel)
set_option maxRecDepth 100000 in
theorem wc_R_term : Cond.code y_R_term b_R_term 7 (some .int) ∈ GW := gw_in 729 (rfl) (by decide +kernel)
theorem ml_L_130 : Cond.methodLink R_L 130 y_R_coefficient ∈ GW := gw_in 730 (by decide +kernel) (by decide +kernel)
theorem wi_R_coefficient : Cond.instanceMethod y_R_coefficient ∈ GW := gw_in 731 (by decide +kernel) (by decide +kernel)
theorem wl_R_coefficient : Cond.selects R_R y_R_coefficient y_R_coefficient ∈ GW := gw_in 732 (by decide +kernel) (by decide +kernel)
set_option maxRecDepth 100000 in
theorem wc_R_coefficient : Cond.code y_R_coefficient b_R_coefficient 6 (some .int) ∈ GW := gw_in 733 (rfl) (by decide +kernel)
theorem kl_R_143 : Cond.constantLong R_R 143 36 ∈ GW := gw_in 734 (by decide +kernel) (by decide +kernel)
theorem ml_L_134 : Cond.methodLink R_L 134 y_R_degree ∈ GW := gw_in 735 (by decide +kernel) (by decide +kernel)
theorem wi_R_degree : Cond.instanceMethod y_R_degree ∈ GW := gw_in 736 (by decide +kernel) (by decide +kernel)
theorem wl_R_degree : Cond.selects R_R y_R_degree y_R_degree ∈ GW := gw_in 737 (by decide +kernel) (by decide +kernel)
set_option maxRecDepth 100000 in
theorem wc_R_degree : Cond.code y_R_degree b_R_degree 4 (some .int) ∈ GW := gw_in 738 (rfl) (by decide +kernel)
theorem ml_L_137 : Cond.methodLink R_L 137 y_R_isSame ∈ GW := gw_in 739 (by decide +kernel) (by decide +kernel)
theorem wi_R_isSame : Cond.instanceMethod y_R_isSame ∈ GW := gw_in 740 (by decide +kernel) (by decide +kernel)
theorem wl_R_isSame : Cond.selects R_R y_R_isSame y_R_isSame ∈ GW := gw_in 741 (by decide +kernel) (by decide +kernel)
set_option maxRecDepth 100000 in
theorem wc_R_isSame : Cond.code y_R_isSame b_R_isSame 5 (some .boolean) ∈ GW := gw_in 742 (rfl) (by decide +kernel)
theorem ml_L_141 : Cond.methodLink R_L 141 y_R_count ∈ GW := gw_in 743 (by decide +kernel) (by decide +kernel)
theorem wi_R_count : Cond.instanceMethod y_R_count ∈ GW := gw_in 744 (by decide +kernel) (by decide +kernel)
theorem wl_R_count : Cond.selects R_R y_R_count y_R_count ∈ GW := gw_in 745 (by decide +kernel) (by decide +kernel)
set_option maxRecDepth 100000 in
theorem wc_R_count : Cond.code y_R_count b_R_count 5 (some .int) ∈ GW := gw_in 746 (rfl) (by decide +kernel)
theorem ac_long : Cond.arrayClass .long ∈ GW := gw_in 747 (by decide +kernel) (by decide +kernel)
theorem in_F : ∀ w ∈ u_ws R_F T_F 1, w ∈ GW := by
  intro w hw
  have h1 : (u_ws R_F T_F 1).all (fun w => decide (w ∈ lw_tbl) && goodWord w) = true := by decide +kernel
  have h2 := List.all_eq_true.mp h1 w hw
  rw [Bool.and_eq_true, decide_eq_true_eq] at h2
  exact List.mem_filter.mpr h2
theorem in_P : ∀ w ∈ u_ws R_P T_P 3, w ∈ GW := by
  intro w hw
  have h1 : (u_ws R_P T_P 3).all (fun w => decide (w ∈ lw_tbl) && goodWord w) = true := by decide +kernel
  have h2 := List.all_eq_true.mp h1 w hw
  rw [Bool.and_eq_true, decide_eq_true_eq] at h2
  exact List.mem_filter.mpr h2
theorem in_T : ∀ w ∈ u_ws R_T T_T 2, w ∈ GW := by
  intro w hw
  have h1 : (u_ws R_T T_T 2).all (fun w => decide (w ∈ lw_tbl) && goodWord w) = true := by decide +kernel
  have h2 := List.all_eq_true.mp h1 w hw
  rw [Bool.and_eq_true, decide_eq_true_eq] at h2
  exact List.mem_filter.mpr h2
theorem in_S : ∀ w ∈ u_ws R_S T_S 5, w ∈ GW := by
  intro w hw
  have h1 : (u_ws R_S T_S 5).all (fun w => decide (w ∈ lw_tbl) && goodWord w) = true := by decide +kernel
  have h2 := List.all_eq_true.mp h1 w hw
  rw [Bool.and_eq_true, decide_eq_true_eq] at h2
  exact List.mem_filter.mpr h2
theorem in_H : ∀ w ∈ u_ws R_H T_H 7, w ∈ GW := by
  intro w hw
  have h1 : (u_ws R_H T_H 7).all (fun w => decide (w ∈ lw_tbl) && goodWord w) = true := by decide +kernel
  have h2 := List.all_eq_true.mp h1 w hw
  rw [Bool.and_eq_true, decide_eq_true_eq] at h2
  exact List.mem_filter.mpr h2
theorem in_R : ∀ w ∈ u_ws R_R T_R 14, w ∈ GW := by
  intro w hw
  have h1 : (u_ws R_R T_R 14).all (fun w => decide (w ∈ lw_tbl) && goodWord w) = true := by decide +kernel
  have h2 := List.all_eq_true.mp h1 w hw
  rw [Bool.and_eq_true, decide_eq_true_eq] at h2
  exact List.mem_filter.mpr h2
abbrev md (y2 : MethodName) (n : Nat) : Prop := y2.cls ≠ "java/lang/invoke/MethodHandle" ∧ y2.cls ≠ "java/lang/invoke/VarHandle" ∧ (parseMethodDescriptor y2.desc).map (fun d => d.parameters.length) = some n
theorem md_H_init : md y_H_init 1 := by decide +kernel
theorem md_Jo_init : md y_Jo_init 0 := by decide +kernel
theorem md_F_init : md y_F_init 1 := by decide +kernel
theorem md_F_leastPrime : md y_F_leastPrime 1 := by decide +kernel
theorem md_Jm_max : md y_Jm_max 2 := by decide +kernel
theorem md_F_isPrime : md y_F_isPrime 1 := by decide +kernel
theorem md_S_init : md y_S_init 1 := by decide +kernel
theorem md_Q_of : md y_Q_of 3 := by decide +kernel
theorem md_T_init : md y_T_init 1 := by decide +kernel
theorem md_P_init : md y_P_init 0 := by decide +kernel
theorem md_H_count : md y_H_count 1 := by decide +kernel
theorem md_H_allTerms : md y_H_allTerms 0 := by decide +kernel
theorem md_H_zeroRegisters : md y_H_zeroRegisters 0 := by decide +kernel
theorem md_P_isZero : md y_P_isZero 0 := by decide +kernel
theorem md_H_greatestDegree : md y_H_greatestDegree 0 := by decide +kernel
theorem md_P_degreeIn : md y_P_degreeIn 1 := by decide +kernel
theorem md_Q_exponent : md y_Q_exponent 2 := by decide +kernel
theorem md_L_cell : md y_L_cell 2 := by decide +kernel
theorem md_L_constant : md y_L_constant 3 := by decide +kernel
theorem md_H_constant : md y_H_constant 2 := by decide +kernel
theorem md_H_checkRegister : md y_H_checkRegister 1 := by decide +kernel
theorem md_F_reduced : md y_F_reduced 1 := by decide +kernel
theorem md_Jm_floorMod : md y_Jm_floorMod 2 := by decide +kernel
theorem md_P_becomeNumber : md y_P_becomeNumber 1 := by decide +kernel
theorem md_P_clear : md y_P_clear 0 := by decide +kernel
theorem md_P_append : md y_P_append 2 := by decide +kernel
theorem md_Ja_copyOf : md y_Ja_copyOf 2 := by decide +kernel
theorem md_Jm_min : md y_Jm_min 2 := by decide +kernel
theorem md_L_variable : md y_L_variable 3 := by decide +kernel
theorem md_H_variable : md y_H_variable 2 := by decide +kernel
theorem md_H_checkVariable : md y_H_checkVariable 1 := by decide +kernel
theorem md_Q_ofVariable : md y_Q_ofVariable 1 := by decide +kernel
theorem md_L_add : md y_L_add 5 := by decide +kernel
theorem md_H_add : md y_H_add 4 := by decide +kernel
theorem md_H_checkRegisters : md y_H_checkRegisters 3 := by decide +kernel
theorem md_S_addMultiple : md y_S_addMultiple 3 := by decide +kernel
theorem md_S_addTerm : md y_S_addTerm 3 := by decide +kernel
theorem md_S_rankOf : md y_S_rankOf 1 := by decide +kernel
theorem md_Q_sumAndFirst : md y_Q_sumAndFirst 1 := by decide +kernel
theorem md_F_sumWithProduct : md y_F_sumWithProduct 3 := by decide +kernel
theorem md_S_moveTo : md y_S_moveTo 1 := by decide +kernel
theorem md_S_clear : md y_S_clear 0 := by decide +kernel
theorem md_Ja_fill : md y_Ja_fill 4 := by decide +kernel
theorem md_Ja_rangeCheck : md y_Ja_rangeCheck 3 := by decide +kernel
theorem md_L_multiply : md y_L_multiply 5 := by decide +kernel
theorem md_H_multiply : md y_H_multiply 3 := by decide +kernel
theorem md_H_refuse : md y_H_refuse 0 := by decide +kernel
theorem md_S_addProduct : md y_S_addProduct 2 := by decide +kernel
theorem md_L_power : md y_L_power 5 := by decide +kernel
theorem md_H_power : md y_H_power 3 := by decide +kernel
theorem md_H_exchangeSpare : md y_H_exchangeSpare 1 := by decide +kernel
theorem md_L_divide : md y_L_divide 5 := by decide +kernel
theorem md_H_divide : md y_H_divide 4 := by decide +kernel
theorem md_S_divideBy : md y_S_divideBy 2 := by decide +kernel
theorem md_F_inverse : md y_F_inverse 1 := by decide +kernel
theorem md_F_product : md y_F_product 2 := by decide +kernel
theorem md_Q_isMultiple : md y_Q_isMultiple 2 := by decide +kernel
theorem md_F_negative : md y_F_negative 1 := by decide +kernel
theorem md_L_derive : md y_L_derive 4 := by decide +kernel
theorem md_H_derive : md y_H_derive 3 := by decide +kernel
theorem md_L_put : md y_L_put 6 := by decide +kernel
theorem md_H_put : md y_H_put 4 := by decide +kernel
theorem md_S_addCoefficientOf : md y_S_addCoefficientOf 3 := by decide +kernel
theorem md_Q_without : md y_Q_without 2 := by decide +kernel
theorem md_L_resultant : md y_L_resultant 6 := by decide +kernel
theorem md_H_resultant : md y_H_resultant 4 := by decide +kernel
theorem md_Ji_bitCount : md y_Ji_bitCount 1 := by decide +kernel
theorem md_H_addExpansion : md y_H_addExpansion 4 := by decide +kernel
theorem md_L_value : md y_L_value 6 := by decide +kernel
theorem md_H_value : md y_H_value 4 := by decide +kernel
theorem md_T_fillRow : md y_T_fillRow 2 := by decide +kernel
theorem md_T_at : md y_T_at 1 := by decide +kernel
theorem md_L_terms : md y_L_terms 3 := by decide +kernel
theorem md_H_terms : md y_H_terms 1 := by decide +kernel
theorem md_L_term : md y_L_term 5 := by decide +kernel
theorem md_H_term : md y_H_term 3 := by decide +kernel
theorem md_L_coefficient : md y_L_coefficient 6 := by decide +kernel
theorem md_H_coefficient : md y_H_coefficient 4 := by decide +kernel
theorem md_Q_exists : md y_Q_exists 3 := by decide +kernel
theorem md_P_coefficientOf : md y_P_coefficientOf 1 := by decide +kernel
theorem md_L_degree : md y_L_degree 4 := by decide +kernel
theorem md_H_degree : md y_H_degree 2 := by decide +kernel
theorem md_L_isSame : md y_L_isSame 4 := by decide +kernel
theorem md_H_isSame : md y_H_isSame 2 := by decide +kernel
theorem md_P_matches : md y_P_matches 1 := by decide +kernel
theorem md_R_init : md y_R_init 1 := by decide +kernel
theorem md_R_isPrime : md y_R_isPrime 1 := by decide +kernel
theorem md_R_thrown : md y_R_thrown 0 := by decide +kernel
theorem md_R_constant : md y_R_constant 2 := by decide +kernel
theorem md_R_isRegister : md y_R_isRegister 1 := by decide +kernel
theorem md_R_fails : md y_R_fails 2 := by decide +kernel
theorem md_R_clear : md y_R_clear 1 := by decide +kernel
theorem md_R_reduced : md y_R_reduced 1 := by decide +kernel
theorem md_R_keep : md y_R_keep 2 := by decide +kernel
theorem md_R_variable : md y_R_variable 2 := by decide +kernel
theorem md_R_isVariable : md y_R_isVariable 1 := by decide +kernel
theorem md_R_place : md y_R_place 3 := by decide +kernel
theorem md_R_add : md y_R_add 4 := by decide +kernel
theorem md_R_load : md y_R_load 2 := by decide +kernel
theorem md_R_multiply : md y_R_multiply 3 := by decide +kernel
theorem md_R_degreeOf : md y_R_degreeOf 2 := by decide +kernel
theorem md_R_exponent : md y_R_exponent 2 := by decide +kernel
theorem md_R_refuses : md y_R_refuses 1 := by decide +kernel
theorem md_R_times : md y_R_times 2 := by decide +kernel
theorem md_R_gather : md y_R_gather 7 := by decide +kernel
theorem md_R_copy : md y_R_copy 2 := by decide +kernel
theorem md_R_power : md y_R_power 3 := by decide +kernel
theorem md_R_divide : md y_R_divide 4 := by decide +kernel
theorem md_R_isZero : md y_R_isZero 1 := by decide +kernel
theorem md_R_inverse : md y_R_inverse 1 := by decide +kernel
theorem md_R_derive : md y_R_derive 3 := by decide +kernel
theorem md_R_put : md y_R_put 4 := by decide +kernel
theorem md_R_part : md y_R_part 3 := by decide +kernel
theorem md_R_resultant : md y_R_resultant 4 := by decide +kernel
theorem md_R_entry : md y_R_entry 4 := by decide +kernel
theorem md_R_determinant : md y_R_determinant 1 := by decide +kernel
theorem md_R_bits : md y_R_bits 1 := by decide +kernel
theorem md_R_cross : md y_R_cross 4 := by decide +kernel
theorem md_R_value : md y_R_value 4 := by decide +kernel
theorem md_R_terms : md y_R_terms 1 := by decide +kernel
theorem md_R_counted : md y_R_counted 1 := by decide +kernel
theorem md_R_term : md y_R_term 3 := by decide +kernel
theorem md_R_coefficient : md y_R_coefficient 4 := by decide +kernel
theorem md_R_degree : md y_R_degree 2 := by decide +kernel
theorem md_R_isSame : md y_R_isSame 2 := by decide +kernel
theorem md_R_count : md y_R_count 1 := by decide +kernel
theorem md_L_law : md y_L_law 1 := by decide +kernel
