theorem w_0 : (Jvm.Cond.initialized "SealedWireLaw") ∈ wG := in_t1 0 rfl rfl
theorem w_1 : (Jvm.Cond.initialized "SealedWire") ∈ wG := in_t1 1 rfl rfl
theorem w_2 : (Jvm.Cond.initialized "SealedWire$Bytes") ∈ wG := in_t1 2 rfl rfl
theorem w_3 : (Jvm.Cond.initialized "SealedWire$Sealer") ∈ wG := in_t1 3 rfl rfl
theorem w_4 : (Jvm.Cond.initialized "SealedWire$Stream") ∈ wG := in_t1 4 rfl rfl
theorem w_5 : (Jvm.Cond.initialized "SealedWire$Poly") ∈ wG := in_t1 5 rfl rfl
theorem w_6 : (Jvm.Cond.initialized "SealedWire$Wire") ∈ wG := in_t1 6 rfl rfl
theorem w_7 : (Jvm.Cond.initialized "SealedWire$Store") ∈ wG := in_t1 7 rfl rfl
theorem w_8 : (Jvm.Cond.initialized "SealedWire$Request") ∈ wG := in_t1 8 rfl rfl
theorem w_9 : (Jvm.Cond.initialized "SealedWire$Side") ∈ wG := in_t1 9 rfl rfl
theorem w_10 : (Jvm.Cond.initialized "SealedWire$Hash") ∈ wG := in_t1 10 rfl rfl
theorem w_11 : (Jvm.Cond.initialized "SealedWire$Direction") ∈ wG := in_t1 11 rfl rfl
theorem w_12 : (Jvm.Cond.initialized "SealedWireModel") ∈ wG := in_t1 12 rfl rfl
theorem w_13 : (Jvm.Cond.initialized "java/lang/System") ∈ wG := in_t1 13 rfl rfl
theorem w_14 : (Jvm.Cond.initialized "java/lang/Integer") ∈ wG := in_t1 14 rfl rfl
theorem w_15 : (Jvm.Cond.classLink "SealedWireLaw" (7 : Nat) "SealedWire") ∈ wG := in_t1 15 rfl rfl
theorem w_16 : (Jvm.Cond.instantiable "SealedWire" (17 : Nat)) ∈ wG := in_t1 16 rfl rfl
theorem w_17 : (Jvm.Cond.methodLink "SealedWireLaw" (15 : Nat) ({ cls := "SealedWire", name := "<init>", desc := "(I)V" } : Jvm.MethodName)) ∈ wG := in_t1 17 rfl rfl
theorem w_18 : (Jvm.Cond.instanceMethod ({ cls := "SealedWire", name := "<init>", desc := "(I)V" } : Jvm.MethodName)) ∈ wG := in_t1 18 rfl rfl
theorem w_19 : (Jvm.Cond.code ({ cls := "SealedWire", name := "<init>", desc := "(I)V" } : Jvm.MethodName) prog_1_method_1_code (2 : Nat) (Option.none : Option Jvm.ClassFile.FieldType)) ∈ wG := in_t1 19 rfl rfl
theorem w_20 : (Jvm.Cond.methodLink "SealedWire" (3 : Nat) ({ cls := "java/lang/Object", name := "<init>", desc := "()V" } : Jvm.MethodName)) ∈ wG := in_t1 20 rfl rfl
theorem w_21 : (Jvm.Cond.instanceMethod ({ cls := "java/lang/Object", name := "<init>", desc := "()V" } : Jvm.MethodName)) ∈ wG := in_t1 21 rfl rfl
theorem w_22 : (Jvm.Cond.code ({ cls := "java/lang/Object", name := "<init>", desc := "()V" } : Jvm.MethodName) object_method_1_code (1 : Nat) (Option.none : Option Jvm.ClassFile.FieldType)) ∈ wG := in_t1 22 rfl rfl
theorem w_23 : (Jvm.Cond.classLink "SealedWire" (9 : Nat) "SealedWire$Bytes") ∈ wG := in_t1 23 rfl rfl
theorem w_24 : (Jvm.Cond.instantiable "SealedWire$Bytes" (2 : Nat)) ∈ wG := in_t1 24 rfl rfl
theorem w_25 : (Jvm.Cond.methodLink "SealedWire" (11 : Nat) ({ cls := "SealedWire$Bytes", name := "<init>", desc := "(I)V" } : Jvm.MethodName)) ∈ wG := in_t1 25 rfl rfl
theorem w_26 : (Jvm.Cond.instanceMethod ({ cls := "SealedWire$Bytes", name := "<init>", desc := "(I)V" } : Jvm.MethodName)) ∈ wG := in_t1 26 rfl rfl
theorem w_27 : (Jvm.Cond.code ({ cls := "SealedWire$Bytes", name := "<init>", desc := "(I)V" } : Jvm.MethodName) prog_2_method_1_code (2 : Nat) (Option.none : Option Jvm.ClassFile.FieldType)) ∈ wG := in_t1 27 rfl rfl
theorem w_28 : (Jvm.Cond.methodLink "SealedWire$Bytes" (3 : Nat) ({ cls := "java/lang/Object", name := "<init>", desc := "()V" } : Jvm.MethodName)) ∈ wG := in_t1 28 rfl rfl
theorem w_29 : (Jvm.Cond.fieldLink "SealedWire$Bytes" (9 : Nat) "SealedWire$Bytes" "cells" "[I") ∈ wG := in_t1 29 rfl rfl
theorem w_30 : (Jvm.Cond.fieldLink "SealedWire$Bytes" (15 : Nat) "SealedWire$Bytes" "size" "I") ∈ wG := in_t1 30 rfl rfl
theorem w_36 : (Jvm.Cond.arrayClass Jvm.ClassFile.FieldType.int) ∈ wG := in_t1 36 rfl rfl
theorem w_37 : (Jvm.Cond.classLink "SealedWire" (24 : Nat) "SealedWire$Sealer") ∈ wG := in_t1 37 rfl rfl
theorem w_38 : (Jvm.Cond.instantiable "SealedWire$Sealer" (3 : Nat)) ∈ wG := in_t1 38 rfl rfl
theorem w_40 : (Jvm.Cond.instanceMethod ({ cls := "SealedWire$Sealer", name := "<init>", desc := "()V" } : Jvm.MethodName)) ∈ wG := in_t1 40 rfl rfl
theorem w_41 : (Jvm.Cond.code ({ cls := "SealedWire$Sealer", name := "<init>", desc := "()V" } : Jvm.MethodName) prog_7_method_1_code (1 : Nat) (Option.none : Option Jvm.ClassFile.FieldType)) ∈ wG := in_t1 41 rfl rfl
theorem w_42 : (Jvm.Cond.methodLink "SealedWire$Sealer" (3 : Nat) ({ cls := "java/lang/Object", name := "<init>", desc := "()V" } : Jvm.MethodName)) ∈ wG := in_t1 42 rfl rfl
theorem w_43 : (Jvm.Cond.classLink "SealedWire$Sealer" (9 : Nat) "SealedWire$Stream") ∈ wG := in_t1 43 rfl rfl
theorem w_44 : (Jvm.Cond.instantiable "SealedWire$Stream" (2 : Nat)) ∈ wG := in_t1 44 rfl rfl
theorem w_46 : (Jvm.Cond.instanceMethod ({ cls := "SealedWire$Stream", name := "<init>", desc := "()V" } : Jvm.MethodName)) ∈ wG := in_t1 46 rfl rfl
theorem w_47 : (Jvm.Cond.code ({ cls := "SealedWire$Stream", name := "<init>", desc := "()V" } : Jvm.MethodName) prog_10_method_1_code (1 : Nat) (Option.none : Option Jvm.ClassFile.FieldType)) ∈ wG := in_t1 47 rfl rfl
theorem w_48 : (Jvm.Cond.methodLink "SealedWire$Stream" (1 : Nat) ({ cls := "java/lang/Object", name := "<init>", desc := "()V" } : Jvm.MethodName)) ∈ wG := in_t1 48 rfl rfl
theorem w_49 : (Jvm.Cond.fieldLink "SealedWire$Stream" (7 : Nat) "SealedWire$Stream" "start" "[I") ∈ wG := in_t1 49 rfl rfl
theorem w_50 : (Jvm.Cond.fieldLink "SealedWire$Stream" (13 : Nat) "SealedWire$Stream" "words" "[I") ∈ wG := in_t1 50 rfl rfl
theorem w_56 : (Jvm.Cond.classLink "SealedWire$Sealer" (18 : Nat) "SealedWire$Poly") ∈ wG := in_t1 56 rfl rfl
theorem w_57 : (Jvm.Cond.instantiable "SealedWire$Poly" (5 : Nat)) ∈ wG := in_t1 57 rfl rfl
theorem w_59 : (Jvm.Cond.instanceMethod ({ cls := "SealedWire$Poly", name := "<init>", desc := "()V" } : Jvm.MethodName)) ∈ wG := in_t1 59 rfl rfl
theorem w_60 : (Jvm.Cond.code ({ cls := "SealedWire$Poly", name := "<init>", desc := "()V" } : Jvm.MethodName) prog_5_method_1_code (1 : Nat) (Option.none : Option Jvm.ClassFile.FieldType)) ∈ wG := in_t1 60 rfl rfl
theorem w_61 : (Jvm.Cond.methodLink "SealedWire$Poly" (3 : Nat) ({ cls := "java/lang/Object", name := "<init>", desc := "()V" } : Jvm.MethodName)) ∈ wG := in_t1 61 rfl rfl
theorem w_62 : (Jvm.Cond.classLink "SealedWire$Poly" (25 : Nat) "SealedWire$Bytes") ∈ wG := in_t1 62 rfl rfl
theorem w_63 : (Jvm.Cond.methodLink "SealedWire$Poly" (27 : Nat) ({ cls := "SealedWire$Bytes", name := "<init>", desc := "(I)V" } : Jvm.MethodName)) ∈ wG := in_t1 63 rfl rfl
theorem w_64 : (Jvm.Cond.fieldLink "SealedWire$Poly" (11 : Nat) "SealedWire$Poly" "factor" "[J") ∈ wG := in_t1 64 rfl rfl
theorem w_65 : (Jvm.Cond.fieldLink "SealedWire$Poly" (15 : Nat) "SealedWire$Poly" "sum" "[J") ∈ wG := in_t1 65 rfl rfl
theorem w_66 : (Jvm.Cond.fieldLink "SealedWire$Poly" (18 : Nat) "SealedWire$Poly" "other" "[J") ∈ wG := in_t1 66 rfl rfl
theorem w_67 : (Jvm.Cond.fieldLink "SealedWire$Poly" (21 : Nat) "SealedWire$Poly" "words" "[I") ∈ wG := in_t1 67 rfl rfl
theorem w_68 : (Jvm.Cond.fieldLink "SealedWire$Poly" (30 : Nat) "SealedWire$Poly" "text" "LSealedWire$Bytes;") ∈ wG := in_t1 68 rfl rfl
theorem w_80 : (Jvm.Cond.arrayClass Jvm.ClassFile.FieldType.long) ∈ wG := in_t1 80 rfl rfl
theorem w_81 : (Jvm.Cond.classLink "SealedWire$Sealer" (25 : Nat) "SealedWire$Bytes") ∈ wG := in_t1 81 rfl rfl
theorem w_82 : (Jvm.Cond.methodLink "SealedWire$Sealer" (27 : Nat) ({ cls := "SealedWire$Bytes", name := "<init>", desc := "(I)V" } : Jvm.MethodName)) ∈ wG := in_t1 82 rfl rfl
theorem w_83 : (Jvm.Cond.fieldLink "SealedWire$Sealer" (12 : Nat) "SealedWire$Sealer" "stream" "LSealedWire$Stream;") ∈ wG := in_t1 83 rfl rfl
theorem w_84 : (Jvm.Cond.fieldLink "SealedWire$Sealer" (21 : Nat) "SealedWire$Sealer" "poly" "LSealedWire$Poly;") ∈ wG := in_t1 84 rfl rfl
theorem w_85 : (Jvm.Cond.fieldLink "SealedWire$Sealer" (30 : Nat) "SealedWire$Sealer" "tag" "LSealedWire$Bytes;") ∈ wG := in_t1 85 rfl rfl
theorem w_93 : (Jvm.Cond.classLink "SealedWire" (31 : Nat) "SealedWire$Wire") ∈ wG := in_t1 93 rfl rfl
theorem w_94 : (Jvm.Cond.instantiable "SealedWire$Wire" (2 : Nat)) ∈ wG := in_t1 94 rfl rfl
theorem w_95 : (Jvm.Cond.methodLink "SealedWire" (33 : Nat) ({ cls := "SealedWire$Wire", name := "<init>", desc := "()V" } : Jvm.MethodName)) ∈ wG := in_t1 95 rfl rfl
theorem w_96 : (Jvm.Cond.instanceMethod ({ cls := "SealedWire$Wire", name := "<init>", desc := "()V" } : Jvm.MethodName)) ∈ wG := in_t1 96 rfl rfl
theorem w_97 : (Jvm.Cond.code ({ cls := "SealedWire$Wire", name := "<init>", desc := "()V" } : Jvm.MethodName) prog_11_method_1_code (2 : Nat) (Option.none : Option Jvm.ClassFile.FieldType)) ∈ wG := in_t1 97 rfl rfl
theorem w_98 : (Jvm.Cond.methodLink "SealedWire$Wire" (3 : Nat) ({ cls := "java/lang/Object", name := "<init>", desc := "()V" } : Jvm.MethodName)) ∈ wG := in_t1 98 rfl rfl
theorem w_99 : (Jvm.Cond.classLink "SealedWire$Wire" (11 : Nat) "SealedWire$Bytes") ∈ wG := in_t1 99 rfl rfl
theorem w_101 : (Jvm.Cond.methodLink "SealedWire$Wire" (17 : Nat) ({ cls := "SealedWire$Bytes", name := "<init>", desc := "(I)V" } : Jvm.MethodName)) ∈ wG := in_t1 101 rfl rfl
theorem w_102 : (Jvm.Cond.fieldLink "SealedWire$Wire" (13 : Nat) "SealedWire$Wire" "records" "[LSealedWire$Bytes;") ∈ wG := in_t1 102 rfl rfl
theorem w_103 : (Jvm.Cond.fieldLink "SealedWire$Wire" (20 : Nat) "SealedWire$Wire" "size" "I") ∈ wG := in_t1 103 rfl rfl
theorem w_109 : (Jvm.Cond.classLink "SealedWire" (41 : Nat) "SealedWire$Store") ∈ wG := in_t1 109 rfl rfl
theorem w_110 : (Jvm.Cond.instantiable "SealedWire$Store" (3 : Nat)) ∈ wG := in_t1 110 rfl rfl
theorem w_111 : (Jvm.Cond.methodLink "SealedWire" (43 : Nat) ({ cls := "SealedWire$Store", name := "<init>", desc := "()V" } : Jvm.MethodName)) ∈ wG := in_t1 111 rfl rfl
theorem w_112 : (Jvm.Cond.instanceMethod ({ cls := "SealedWire$Store", name := "<init>", desc := "()V" } : Jvm.MethodName)) ∈ wG := in_t1 112 rfl rfl
theorem w_113 : (Jvm.Cond.code ({ cls := "SealedWire$Store", name := "<init>", desc := "()V" } : Jvm.MethodName) prog_9_method_1_code (2 : Nat) (Option.none : Option Jvm.ClassFile.FieldType)) ∈ wG := in_t1 113 rfl rfl
theorem w_114 : (Jvm.Cond.methodLink "SealedWire$Store" (3 : Nat) ({ cls := "java/lang/Object", name := "<init>", desc := "()V" } : Jvm.MethodName)) ∈ wG := in_t1 114 rfl rfl
theorem w_115 : (Jvm.Cond.classLink "SealedWire$Store" (11 : Nat) "SealedWire$Bytes") ∈ wG := in_t1 115 rfl rfl
theorem w_116 : (Jvm.Cond.methodLink "SealedWire$Store" (20 : Nat) ({ cls := "SealedWire$Bytes", name := "<init>", desc := "(I)V" } : Jvm.MethodName)) ∈ wG := in_t1 116 rfl rfl
theorem w_117 : (Jvm.Cond.fieldLink "SealedWire$Store" (13 : Nat) "SealedWire$Store" "names" "[LSealedWire$Bytes;") ∈ wG := in_t1 117 rfl rfl
theorem w_118 : (Jvm.Cond.fieldLink "SealedWire$Store" (17 : Nat) "SealedWire$Store" "values" "[LSealedWire$Bytes;") ∈ wG := in_t1 118 rfl rfl
theorem w_119 : (Jvm.Cond.fieldLink "SealedWire$Store" (23 : Nat) "SealedWire$Store" "size" "I") ∈ wG := in_t1 119 rfl rfl
theorem w_127 : (Jvm.Cond.classLink "SealedWire" (48 : Nat) "SealedWire$Request") ∈ wG := in_t1 127 rfl rfl
theorem w_128 : (Jvm.Cond.instantiable "SealedWire$Request" (3 : Nat)) ∈ wG := in_t1 128 rfl rfl
theorem w_130 : (Jvm.Cond.instanceMethod ({ cls := "SealedWire$Request", name := "<init>", desc := "()V" } : Jvm.MethodName)) ∈ wG := in_t1 130 rfl rfl
theorem w_131 : (Jvm.Cond.code ({ cls := "SealedWire$Request", name := "<init>", desc := "()V" } : Jvm.MethodName) prog_6_method_1_code (1 : Nat) (Option.none : Option Jvm.ClassFile.FieldType)) ∈ wG := in_t1 131 rfl rfl
theorem w_132 : (Jvm.Cond.methodLink "SealedWire$Request" (3 : Nat) ({ cls := "java/lang/Object", name := "<init>", desc := "()V" } : Jvm.MethodName)) ∈ wG := in_t1 132 rfl rfl
theorem w_133 : (Jvm.Cond.classLink "SealedWire$Request" (9 : Nat) "SealedWire$Bytes") ∈ wG := in_t1 133 rfl rfl
theorem w_134 : (Jvm.Cond.methodLink "SealedWire$Request" (11 : Nat) ({ cls := "SealedWire$Bytes", name := "<init>", desc := "(I)V" } : Jvm.MethodName)) ∈ wG := in_t1 134 rfl rfl
theorem w_135 : (Jvm.Cond.fieldLink "SealedWire$Request" (14 : Nat) "SealedWire$Request" "target" "LSealedWire$Bytes;") ∈ wG := in_t1 135 rfl rfl
theorem w_136 : (Jvm.Cond.fieldLink "SealedWire$Request" (20 : Nat) "SealedWire$Request" "data" "LSealedWire$Bytes;") ∈ wG := in_t1 136 rfl rfl
theorem w_137 : (Jvm.Cond.fieldLink "SealedWire$Request" (27 : Nat) "SealedWire$Request" "op" "I") ∈ wG := in_t1 137 rfl rfl
theorem w_145 : (Jvm.Cond.classLink "SealedWire" (70 : Nat) "SealedWire$Side") ∈ wG := in_t1 145 rfl rfl
theorem w_146 : (Jvm.Cond.instantiable "SealedWire$Side" (13 : Nat)) ∈ wG := in_t1 146 rfl rfl
theorem w_147 : (Jvm.Cond.methodLink "SealedWire" (72 : Nat) ({ cls := "SealedWire$Side", name := "<init>", desc := "(II)V" } : Jvm.MethodName)) ∈ wG := in_t1 147 rfl rfl
theorem w_148 : (Jvm.Cond.instanceMethod ({ cls := "SealedWire$Side", name := "<init>", desc := "(II)V" } : Jvm.MethodName)) ∈ wG := in_t1 148 rfl rfl
theorem w_149 : (Jvm.Cond.code ({ cls := "SealedWire$Side", name := "<init>", desc := "(II)V" } : Jvm.MethodName) prog_8_method_1_code (4 : Nat) (Option.none : Option Jvm.ClassFile.FieldType)) ∈ wG := in_t1 149 rfl rfl
theorem w_150 : (Jvm.Cond.methodLink "SealedWire$Side" (3 : Nat) ({ cls := "java/lang/Object", name := "<init>", desc := "()V" } : Jvm.MethodName)) ∈ wG := in_t1 150 rfl rfl
theorem w_151 : (Jvm.Cond.classLink "SealedWire$Side" (9 : Nat) "SealedWire$Hash") ∈ wG := in_t1 151 rfl rfl
theorem w_152 : (Jvm.Cond.instantiable "SealedWire$Hash" (4 : Nat)) ∈ wG := in_t1 152 rfl rfl
theorem w_154 : (Jvm.Cond.instanceMethod ({ cls := "SealedWire$Hash", name := "<init>", desc := "()V" } : Jvm.MethodName)) ∈ wG := in_t1 154 rfl rfl
theorem w_155 : (Jvm.Cond.code ({ cls := "SealedWire$Hash", name := "<init>", desc := "()V" } : Jvm.MethodName) prog_4_method_1_code (1 : Nat) (Option.none : Option Jvm.ClassFile.FieldType)) ∈ wG := in_t1 155 rfl rfl
theorem w_156 : (Jvm.Cond.methodLink "SealedWire$Hash" (3 : Nat) ({ cls := "java/lang/Object", name := "<init>", desc := "()V" } : Jvm.MethodName)) ∈ wG := in_t1 156 rfl rfl
theorem w_157 : (Jvm.Cond.classLink "SealedWire$Hash" (18 : Nat) "SealedWire$Bytes") ∈ wG := in_t1 157 rfl rfl
theorem w_158 : (Jvm.Cond.methodLink "SealedWire$Hash" (20 : Nat) ({ cls := "SealedWire$Bytes", name := "<init>", desc := "(I)V" } : Jvm.MethodName)) ∈ wG := in_t1 158 rfl rfl
theorem w_159 : (Jvm.Cond.fieldLink "SealedWire$Hash" (9 : Nat) "SealedWire$Hash" "sum" "[I") ∈ wG := in_t1 159 rfl rfl
theorem w_160 : (Jvm.Cond.fieldLink "SealedWire$Hash" (15 : Nat) "SealedWire$Hash" "words" "[I") ∈ wG := in_t1 160 rfl rfl
theorem w_161 : (Jvm.Cond.fieldLink "SealedWire$Hash" (23 : Nat) "SealedWire$Hash" "message" "LSealedWire$Bytes;") ∈ wG := in_t1 161 rfl rfl
theorem w_162 : (Jvm.Cond.fieldLink "SealedWire$Hash" (27 : Nat) "SealedWire$Hash" "inner" "LSealedWire$Bytes;") ∈ wG := in_t1 162 rfl rfl
theorem w_172 : (Jvm.Cond.classLink "SealedWire$Side" (18 : Nat) "SealedWire$Bytes") ∈ wG := in_t1 172 rfl rfl
theorem w_173 : (Jvm.Cond.classLink "SealedWire$Side" (24 : Nat) "SealedWire$Direction") ∈ wG := in_t1 173 rfl rfl
theorem w_174 : (Jvm.Cond.instantiable "SealedWire$Direction" (5 : Nat)) ∈ wG := in_t1 174 rfl rfl
theorem w_175 : (Jvm.Cond.methodLink "SealedWire$Side" (26 : Nat) ({ cls := "SealedWire$Direction", name := "<init>", desc := "(I)V" } : Jvm.MethodName)) ∈ wG := in_t1 175 rfl rfl
theorem w_176 : (Jvm.Cond.instanceMethod ({ cls := "SealedWire$Direction", name := "<init>", desc := "(I)V" } : Jvm.MethodName)) ∈ wG := in_t1 176 rfl rfl
theorem w_177 : (Jvm.Cond.code ({ cls := "SealedWire$Direction", name := "<init>", desc := "(I)V" } : Jvm.MethodName) prog_3_method_1_code (2 : Nat) (Option.none : Option Jvm.ClassFile.FieldType)) ∈ wG := in_t1 177 rfl rfl
theorem w_178 : (Jvm.Cond.methodLink "SealedWire$Direction" (3 : Nat) ({ cls := "java/lang/Object", name := "<init>", desc := "()V" } : Jvm.MethodName)) ∈ wG := in_t1 178 rfl rfl
theorem w_179 : (Jvm.Cond.classLink "SealedWire$Direction" (9 : Nat) "SealedWire$Bytes") ∈ wG := in_t1 179 rfl rfl
theorem w_180 : (Jvm.Cond.methodLink "SealedWire$Direction" (11 : Nat) ({ cls := "SealedWire$Bytes", name := "<init>", desc := "(I)V" } : Jvm.MethodName)) ∈ wG := in_t1 180 rfl rfl
theorem w_181 : (Jvm.Cond.fieldLink "SealedWire$Direction" (23 : Nat) "SealedWire$Direction" "index" "I") ∈ wG := in_t1 181 rfl rfl
theorem w_182 : (Jvm.Cond.fieldLink "SealedWire$Direction" (14 : Nat) "SealedWire$Direction" "current" "LSealedWire$Bytes;") ∈ wG := in_t1 182 rfl rfl
theorem w_183 : (Jvm.Cond.fieldLink "SealedWire$Direction" (20 : Nat) "SealedWire$Direction" "text" "LSealedWire$Bytes;") ∈ wG := in_t1 183 rfl rfl
theorem w_184 : (Jvm.Cond.fieldLink "SealedWire$Direction" (27 : Nat) "SealedWire$Direction" "number" "I") ∈ wG := in_t1 184 rfl rfl
theorem w_185 : (Jvm.Cond.fieldLink "SealedWire$Direction" (30 : Nat) "SealedWire$Direction" "generation" "I") ∈ wG := in_t1 185 rfl rfl
theorem w_197 : (Jvm.Cond.methodLink "SealedWire$Side" (36 : Nat) ({ cls := "SealedWire$Bytes", name := "<init>", desc := "(I)V" } : Jvm.MethodName)) ∈ wG := in_t1 197 rfl rfl
theorem w_198 : (Jvm.Cond.fieldLink "SealedWire$Side" (57 : Nat) "SealedWire$Side" "index" "I") ∈ wG := in_t1 198 rfl rfl
theorem w_199 : (Jvm.Cond.fieldLink "SealedWire$Side" (60 : Nat) "SealedWire$Side" "seed" "I") ∈ wG := in_t1 199 rfl rfl
theorem w_200 : (Jvm.Cond.fieldLink "SealedWire$Side" (12 : Nat) "SealedWire$Side" "hash" "LSealedWire$Hash;") ∈ wG := in_t1 200 rfl rfl
theorem w_201 : (Jvm.Cond.fieldLink "SealedWire$Side" (20 : Nat) "SealedWire$Side" "keys" "[LSealedWire$Bytes;") ∈ wG := in_t1 201 rfl rfl
theorem w_202 : (Jvm.Cond.fieldLink "SealedWire$Side" (29 : Nat) "SealedWire$Side" "up" "LSealedWire$Direction;") ∈ wG := in_t1 202 rfl rfl
theorem w_203 : (Jvm.Cond.fieldLink "SealedWire$Side" (33 : Nat) "SealedWire$Side" "down" "LSealedWire$Direction;") ∈ wG := in_t1 203 rfl rfl
theorem w_204 : (Jvm.Cond.fieldLink "SealedWire$Side" (37 : Nat) "SealedWire$Side" "greeting" "LSealedWire$Bytes;") ∈ wG := in_t1 204 rfl rfl
theorem w_205 : (Jvm.Cond.fieldLink "SealedWire$Side" (41 : Nat) "SealedWire$Side" "agreed" "LSealedWire$Bytes;") ∈ wG := in_t1 205 rfl rfl
theorem w_206 : (Jvm.Cond.fieldLink "SealedWire$Side" (44 : Nat) "SealedWire$Side" "secret" "LSealedWire$Bytes;") ∈ wG := in_t1 206 rfl rfl
theorem w_207 : (Jvm.Cond.fieldLink "SealedWire$Side" (47 : Nat) "SealedWire$Side" "finishing" "LSealedWire$Bytes;") ∈ wG := in_t1 207 rfl rfl
theorem w_208 : (Jvm.Cond.fieldLink "SealedWire$Side" (50 : Nat) "SealedWire$Side" "text" "LSealedWire$Bytes;") ∈ wG := in_t1 208 rfl rfl
theorem w_209 : (Jvm.Cond.fieldLink "SealedWire$Side" (53 : Nat) "SealedWire$Side" "state" "I") ∈ wG := in_t1 209 rfl rfl
theorem w_210 : (Jvm.Cond.fieldLink "SealedWire$Side" (81 : Nat) "SealedWire$Side" "randoms" "I") ∈ wG := in_t1 210 rfl rfl
theorem w_238 : (Jvm.Cond.methodLink "SealedWire" (82 : Nat) ({ cls := "SealedWire$Bytes", name := "put", desc := "(I)V" } : Jvm.MethodName)) ∈ wG := in_t1 238 rfl rfl
theorem w_239 : (Jvm.Cond.instanceMethod ({ cls := "SealedWire$Bytes", name := "put", desc := "(I)V" } : Jvm.MethodName)) ∈ wG := in_t1 239 rfl rfl
theorem w_240 : (Jvm.Cond.selects "SealedWire$Bytes" ({ cls := "SealedWire$Bytes", name := "put", desc := "(I)V" } : Jvm.MethodName) ({ cls := "SealedWire$Bytes", name := "put", desc := "(I)V" } : Jvm.MethodName)) ∈ wG := in_t2 0 rfl rfl
theorem w_241 : (Jvm.Cond.code ({ cls := "SealedWire$Bytes", name := "put", desc := "(I)V" } : Jvm.MethodName) prog_2_method_8_code (2 : Nat) (Option.none : Option Jvm.ClassFile.FieldType)) ∈ wG := in_t2 1 rfl rfl
theorem w_242 : (Jvm.Cond.fieldLink "SealedWire" (14 : Nat) "SealedWire" "tape" "LSealedWire$Bytes;") ∈ wG := in_t2 2 rfl rfl
theorem w_243 : (Jvm.Cond.fieldLink "SealedWire" (18 : Nat) "SealedWire" "out" "LSealedWire$Bytes;") ∈ wG := in_t2 3 rfl rfl
theorem w_244 : (Jvm.Cond.fieldLink "SealedWire" (21 : Nat) "SealedWire" "nameInUse" "LSealedWire$Bytes;") ∈ wG := in_t2 4 rfl rfl
theorem w_245 : (Jvm.Cond.fieldLink "SealedWire" (27 : Nat) "SealedWire" "sealer" "LSealedWire$Sealer;") ∈ wG := in_t2 5 rfl rfl
theorem w_246 : (Jvm.Cond.fieldLink "SealedWire" (75 : Nat) "SealedWire" "client" "LSealedWire$Side;") ∈ wG := in_t2 6 rfl rfl
theorem w_247 : (Jvm.Cond.fieldLink "SealedWire" (79 : Nat) "SealedWire" "server" "LSealedWire$Side;") ∈ wG := in_t2 7 rfl rfl
theorem w_248 : (Jvm.Cond.fieldLink "SealedWire" (34 : Nat) "SealedWire" "toServer" "LSealedWire$Wire;") ∈ wG := in_t2 8 rfl rfl
theorem w_249 : (Jvm.Cond.fieldLink "SealedWire" (38 : Nat) "SealedWire" "toClient" "LSealedWire$Wire;") ∈ wG := in_t2 9 rfl rfl
theorem w_250 : (Jvm.Cond.fieldLink "SealedWire" (44 : Nat) "SealedWire" "store" "LSealedWire$Store;") ∈ wG := in_t2 10 rfl rfl
theorem w_251 : (Jvm.Cond.fieldLink "SealedWire" (51 : Nat) "SealedWire" "asked" "LSealedWire$Request;") ∈ wG := in_t2 11 rfl rfl
theorem w_252 : (Jvm.Cond.fieldLink "SealedWire" (55 : Nat) "SealedWire" "latest" "LSealedWire$Bytes;") ∈ wG := in_t2 12 rfl rfl
theorem w_253 : (Jvm.Cond.fieldLink "SealedWire" (58 : Nat) "SealedWire" "plain" "LSealedWire$Bytes;") ∈ wG := in_t2 13 rfl rfl
theorem w_254 : (Jvm.Cond.fieldLink "SealedWire" (61 : Nat) "SealedWire" "random" "LSealedWire$Bytes;") ∈ wG := in_t2 14 rfl rfl
theorem w_255 : (Jvm.Cond.fieldLink "SealedWire" (64 : Nat) "SealedWire" "bodies" "LSealedWire$Bytes;") ∈ wG := in_t2 15 rfl rfl
theorem w_256 : (Jvm.Cond.fieldLink "SealedWire" (67 : Nat) "SealedWire" "proof" "LSealedWire$Bytes;") ∈ wG := in_t2 16 rfl rfl
theorem w_257 : (Jvm.Cond.fieldLink "SealedWire" (253 : Nat) "SealedWire" "requestsAnswered" "I") ∈ wG := in_t2 17 rfl rfl
theorem w_258 : (Jvm.Cond.fieldLink "SealedWire" (257 : Nat) "SealedWire" "answersGot" "I") ∈ wG := in_t2 18 rfl rfl
theorem w_294 : (Jvm.Cond.methodLink "SealedWireLaw" (21 : Nat) ({ cls := "SealedWire", name := "feed", desc := "(IIIII)I" } : Jvm.MethodName)) ∈ wG := in_t2 54 rfl rfl
theorem w_295 : (Jvm.Cond.instanceMethod ({ cls := "SealedWire", name := "feed", desc := "(IIIII)I" } : Jvm.MethodName)) ∈ wG := in_t2 55 rfl rfl
theorem w_296 : (Jvm.Cond.selects "SealedWire" ({ cls := "SealedWire", name := "feed", desc := "(IIIII)I" } : Jvm.MethodName) ({ cls := "SealedWire", name := "feed", desc := "(IIIII)I" } : Jvm.MethodName)) ∈ wG := in_t2 56 rfl rfl
theorem w_297 : (Jvm.Cond.code ({ cls := "SealedWire", name := "feed", desc := "(IIIII)I" } : Jvm.MethodName) prog_1_method_2_code (6 : Nat) (Option.some Jvm.ClassFile.FieldType.int)) ∈ wG := in_t2 57 rfl rfl
theorem w_298 : (Jvm.Cond.methodLink "SealedWire" (85 : Nat) ({ cls := "SealedWire$Bytes", name := "size", desc := "()I" } : Jvm.MethodName)) ∈ wG := in_t2 58 rfl rfl
theorem w_299 : (Jvm.Cond.instanceMethod ({ cls := "SealedWire$Bytes", name := "size", desc := "()I" } : Jvm.MethodName)) ∈ wG := in_t2 59 rfl rfl
theorem w_300 : (Jvm.Cond.selects "SealedWire$Bytes" ({ cls := "SealedWire$Bytes", name := "size", desc := "()I" } : Jvm.MethodName) ({ cls := "SealedWire$Bytes", name := "size", desc := "()I" } : Jvm.MethodName)) ∈ wG := in_t2 60 rfl rfl
theorem w_301 : (Jvm.Cond.code ({ cls := "SealedWire$Bytes", name := "size", desc := "()I" } : Jvm.MethodName) prog_2_method_2_code (1 : Nat) (Option.some Jvm.ClassFile.FieldType.int)) ∈ wG := in_t2 61 rfl rfl
theorem w_302 : (Jvm.Cond.methodLink "SealedWire" (89 : Nat) ({ cls := "SealedWire$Bytes", name := "putNumber", desc := "(I)V" } : Jvm.MethodName)) ∈ wG := in_t2 62 rfl rfl
theorem w_303 : (Jvm.Cond.instanceMethod ({ cls := "SealedWire$Bytes", name := "putNumber", desc := "(I)V" } : Jvm.MethodName)) ∈ wG := in_t2 63 rfl rfl
theorem w_304 : (Jvm.Cond.selects "SealedWire$Bytes" ({ cls := "SealedWire$Bytes", name := "putNumber", desc := "(I)V" } : Jvm.MethodName) ({ cls := "SealedWire$Bytes", name := "putNumber", desc := "(I)V" } : Jvm.MethodName)) ∈ wG := in_t2 64 rfl rfl
theorem w_305 : (Jvm.Cond.code ({ cls := "SealedWire$Bytes", name := "putNumber", desc := "(I)V" } : Jvm.MethodName) prog_2_method_9_code (2 : Nat) (Option.none : Option Jvm.ClassFile.FieldType)) ∈ wG := in_t2 65 rfl rfl
theorem w_306 : (Jvm.Cond.methodLink "SealedWire$Bytes" (19 : Nat) ({ cls := "SealedWire$Bytes", name := "put", desc := "(I)V" } : Jvm.MethodName)) ∈ wG := in_t2 66 rfl rfl
theorem w_307 : (Jvm.Cond.methodLink "SealedWireLaw" (26 : Nat) ({ cls := "SealedWire", name := "end", desc := "(I)I" } : Jvm.MethodName)) ∈ wG := in_t2 67 rfl rfl
theorem w_308 : (Jvm.Cond.instanceMethod ({ cls := "SealedWire", name := "end", desc := "(I)I" } : Jvm.MethodName)) ∈ wG := in_t2 68 rfl rfl
theorem w_309 : (Jvm.Cond.selects "SealedWire" ({ cls := "SealedWire", name := "end", desc := "(I)I" } : Jvm.MethodName) ({ cls := "SealedWire", name := "end", desc := "(I)I" } : Jvm.MethodName)) ∈ wG := in_t2 69 rfl rfl
theorem w_310 : (Jvm.Cond.code ({ cls := "SealedWire", name := "end", desc := "(I)I" } : Jvm.MethodName) prog_1_method_3_code (2 : Nat) (Option.some Jvm.ClassFile.FieldType.int)) ∈ wG := in_t2 70 rfl rfl
theorem w_311 : (Jvm.Cond.methodLink "SealedWire" (92 : Nat) ({ cls := "SealedWire$Bytes", name := "cut", desc := "(I)V" } : Jvm.MethodName)) ∈ wG := in_t2 71 rfl rfl
theorem w_312 : (Jvm.Cond.instanceMethod ({ cls := "SealedWire$Bytes", name := "cut", desc := "(I)V" } : Jvm.MethodName)) ∈ wG := in_t2 72 rfl rfl
theorem w_313 : (Jvm.Cond.selects "SealedWire$Bytes" ({ cls := "SealedWire$Bytes", name := "cut", desc := "(I)V" } : Jvm.MethodName) ({ cls := "SealedWire$Bytes", name := "cut", desc := "(I)V" } : Jvm.MethodName)) ∈ wG := in_t2 73 rfl rfl
theorem w_314 : (Jvm.Cond.code ({ cls := "SealedWire$Bytes", name := "cut", desc := "(I)V" } : Jvm.MethodName) prog_2_method_7_code (2 : Nat) (Option.none : Option Jvm.ClassFile.FieldType)) ∈ wG := in_t2 74 rfl rfl
theorem w_315 : (Jvm.Cond.methodLink "SealedWireLaw" (31 : Nat) ({ cls := "SealedWire", name := "octet", desc := "(I)I" } : Jvm.MethodName)) ∈ wG := in_t2 75 rfl rfl
theorem w_316 : (Jvm.Cond.instanceMethod ({ cls := "SealedWire", name := "octet", desc := "(I)I" } : Jvm.MethodName)) ∈ wG := in_t2 76 rfl rfl
theorem w_317 : (Jvm.Cond.selects "SealedWire" ({ cls := "SealedWire", name := "octet", desc := "(I)I" } : Jvm.MethodName) ({ cls := "SealedWire", name := "octet", desc := "(I)I" } : Jvm.MethodName)) ∈ wG := in_t2 77 rfl rfl
theorem w_318 : (Jvm.Cond.code ({ cls := "SealedWire", name := "octet", desc := "(I)I" } : Jvm.MethodName) prog_1_method_4_code (2 : Nat) (Option.some Jvm.ClassFile.FieldType.int)) ∈ wG := in_t2 78 rfl rfl
theorem w_319 : (Jvm.Cond.methodLink "SealedWire" (95 : Nat) ({ cls := "SealedWire", name := "byteOrSize", desc := "(LSealedWire$Bytes;I)I" } : Jvm.MethodName)) ∈ wG := in_t2 79 rfl rfl
theorem w_320 : (Jvm.Cond.static ({ cls := "SealedWire", name := "byteOrSize", desc := "(LSealedWire$Bytes;I)I" } : Jvm.MethodName)) ∈ wG := in_t2 80 rfl rfl
theorem w_321 : (Jvm.Cond.code ({ cls := "SealedWire", name := "byteOrSize", desc := "(LSealedWire$Bytes;I)I" } : Jvm.MethodName) prog_1_method_29_code (2 : Nat) (Option.some Jvm.ClassFile.FieldType.int)) ∈ wG := in_t2 81 rfl rfl
theorem w_322 : (Jvm.Cond.methodLink "SealedWire" (212 : Nat) ({ cls := "SealedWire$Bytes", name := "has", desc := "(I)Z" } : Jvm.MethodName)) ∈ wG := in_t2 82 rfl rfl
theorem w_323 : (Jvm.Cond.instanceMethod ({ cls := "SealedWire$Bytes", name := "has", desc := "(I)Z" } : Jvm.MethodName)) ∈ wG := in_t2 83 rfl rfl
theorem w_324 : (Jvm.Cond.selects "SealedWire$Bytes" ({ cls := "SealedWire$Bytes", name := "has", desc := "(I)Z" } : Jvm.MethodName) ({ cls := "SealedWire$Bytes", name := "has", desc := "(I)Z" } : Jvm.MethodName)) ∈ wG := in_t2 84 rfl rfl
theorem w_325 : (Jvm.Cond.code ({ cls := "SealedWire$Bytes", name := "has", desc := "(I)Z" } : Jvm.MethodName) prog_2_method_3_code (2 : Nat) (Option.some Jvm.ClassFile.FieldType.boolean)) ∈ wG := in_t2 85 rfl rfl
theorem w_326 : (Jvm.Cond.methodLink "SealedWire" (190 : Nat) ({ cls := "SealedWire$Bytes", name := "at", desc := "(I)I" } : Jvm.MethodName)) ∈ wG := in_t2 86 rfl rfl
theorem w_327 : (Jvm.Cond.instanceMethod ({ cls := "SealedWire$Bytes", name := "at", desc := "(I)I" } : Jvm.MethodName)) ∈ wG := in_t2 87 rfl rfl
theorem w_328 : (Jvm.Cond.selects "SealedWire$Bytes" ({ cls := "SealedWire$Bytes", name := "at", desc := "(I)I" } : Jvm.MethodName) ({ cls := "SealedWire$Bytes", name := "at", desc := "(I)I" } : Jvm.MethodName)) ∈ wG := in_t2 88 rfl rfl
theorem w_329 : (Jvm.Cond.code ({ cls := "SealedWire$Bytes", name := "at", desc := "(I)I" } : Jvm.MethodName) prog_2_method_4_code (2 : Nat) (Option.some Jvm.ClassFile.FieldType.int)) ∈ wG := in_t2 89 rfl rfl
theorem w_330 : (Jvm.Cond.methodLink "SealedWireLaw" (35 : Nat) ({ cls := "SealedWire", name := "key", desc := "(II)I" } : Jvm.MethodName)) ∈ wG := in_t2 90 rfl rfl
theorem w_331 : (Jvm.Cond.instanceMethod ({ cls := "SealedWire", name := "key", desc := "(II)I" } : Jvm.MethodName)) ∈ wG := in_t2 91 rfl rfl
theorem w_332 : (Jvm.Cond.selects "SealedWire" ({ cls := "SealedWire", name := "key", desc := "(II)I" } : Jvm.MethodName) ({ cls := "SealedWire", name := "key", desc := "(II)I" } : Jvm.MethodName)) ∈ wG := in_t2 92 rfl rfl
theorem w_333 : (Jvm.Cond.code ({ cls := "SealedWire", name := "key", desc := "(II)I" } : Jvm.MethodName) prog_1_method_5_code (4 : Nat) (Option.some Jvm.ClassFile.FieldType.int)) ∈ wG := in_t2 93 rfl rfl
theorem w_334 : (Jvm.Cond.methodLink "SealedWire" (99 : Nat) ({ cls := "SealedWire", name := "isSide", desc := "(I)Z" } : Jvm.MethodName)) ∈ wG := in_t2 94 rfl rfl
theorem w_335 : (Jvm.Cond.static ({ cls := "SealedWire", name := "isSide", desc := "(I)Z" } : Jvm.MethodName)) ∈ wG := in_t2 95 rfl rfl
theorem w_336 : (Jvm.Cond.code ({ cls := "SealedWire", name := "isSide", desc := "(I)Z" } : Jvm.MethodName) prog_1_method_24_code (1 : Nat) (Option.some Jvm.ClassFile.FieldType.boolean)) ∈ wG := in_t2 96 rfl rfl
theorem w_337 : (Jvm.Cond.methodLink "SealedWire" (103 : Nat) ({ cls := "SealedWire$Side", name := "isKeyNumber", desc := "(I)Z" } : Jvm.MethodName)) ∈ wG := in_t2 97 rfl rfl
theorem w_338 : (Jvm.Cond.static ({ cls := "SealedWire$Side", name := "isKeyNumber", desc := "(I)Z" } : Jvm.MethodName)) ∈ wG := in_t2 98 rfl rfl
theorem w_339 : (Jvm.Cond.code ({ cls := "SealedWire$Side", name := "isKeyNumber", desc := "(I)Z" } : Jvm.MethodName) prog_8_method_3_code (1 : Nat) (Option.some Jvm.ClassFile.FieldType.boolean)) ∈ wG := in_t2 99 rfl rfl
theorem w_340 : (Jvm.Cond.methodLink "SealedWire" (106 : Nat) ({ cls := "SealedWire", name := "sideOf", desc := "(I)LSealedWire$Side;" } : Jvm.MethodName)) ∈ wG := in_t2 100 rfl rfl
theorem w_342 : (Jvm.Cond.instanceMethod ({ cls := "SealedWire", name := "sideOf", desc := "(I)LSealedWire$Side;" } : Jvm.MethodName)) ∈ wG := in_t2 102 rfl rfl
theorem w_343 : (Jvm.Cond.code ({ cls := "SealedWire", name := "sideOf", desc := "(I)LSealedWire$Side;" } : Jvm.MethodName) prog_1_method_26_code (2 : Nat) (Option.some (Jvm.ClassFile.FieldType.object "SealedWire$Side"))) ∈ wG := in_t2 103 rfl rfl
theorem w_344 : (Jvm.Cond.methodLink "SealedWire" (110 : Nat) ({ cls := "SealedWire$Side", name := "setKey", desc := "(ILSealedWire$Bytes;)V" } : Jvm.MethodName)) ∈ wG := in_t2 104 rfl rfl
theorem w_345 : (Jvm.Cond.instanceMethod ({ cls := "SealedWire$Side", name := "setKey", desc := "(ILSealedWire$Bytes;)V" } : Jvm.MethodName)) ∈ wG := in_t2 105 rfl rfl
theorem w_346 : (Jvm.Cond.selects "SealedWire$Side" ({ cls := "SealedWire$Side", name := "setKey", desc := "(ILSealedWire$Bytes;)V" } : Jvm.MethodName) ({ cls := "SealedWire$Side", name := "setKey", desc := "(ILSealedWire$Bytes;)V" } : Jvm.MethodName)) ∈ wG := in_t2 106 rfl rfl
theorem w_347 : (Jvm.Cond.code ({ cls := "SealedWire$Side", name := "setKey", desc := "(ILSealedWire$Bytes;)V" } : Jvm.MethodName) prog_8_method_5_code (3 : Nat) (Option.none : Option Jvm.ClassFile.FieldType)) ∈ wG := in_t2 107 rfl rfl
theorem w_348 : (Jvm.Cond.methodLink "SealedWire$Side" (63 : Nat) ({ cls := "SealedWire$Side", name := "isKeyNumber", desc := "(I)Z" } : Jvm.MethodName)) ∈ wG := in_t2 108 rfl rfl
theorem w_349 : (Jvm.Cond.methodLink "SealedWire$Side" (71 : Nat) ({ cls := "SealedWire$Hash", name := "digest", desc := "(LSealedWire$Bytes;LSealedWire$Bytes;)V" } : Jvm.MethodName)) ∈ wG := in_t2 109 rfl rfl
theorem w_350 : (Jvm.Cond.instanceMethod ({ cls := "SealedWire$Hash", name := "digest", desc := "(LSealedWire$Bytes;LSealedWire$Bytes;)V" } : Jvm.MethodName)) ∈ wG := in_t2 110 rfl rfl
theorem w_351 : (Jvm.Cond.selects "SealedWire$Hash" ({ cls := "SealedWire$Hash", name := "digest", desc := "(LSealedWire$Bytes;LSealedWire$Bytes;)V" } : Jvm.MethodName) ({ cls := "SealedWire$Hash", name := "digest", desc := "(LSealedWire$Bytes;LSealedWire$Bytes;)V" } : Jvm.MethodName)) ∈ wG := in_t2 111 rfl rfl
theorem w_352 : (Jvm.Cond.code ({ cls := "SealedWire$Hash", name := "digest", desc := "(LSealedWire$Bytes;LSealedWire$Bytes;)V" } : Jvm.MethodName) prog_4_method_2_code (3 : Nat) (Option.none : Option Jvm.ClassFile.FieldType)) ∈ wG := in_t2 112 rfl rfl
theorem w_353 : (Jvm.Cond.methodLink "SealedWire$Hash" (30 : Nat) ({ cls := "SealedWire$Bytes", name := "become", desc := "(LSealedWire$Bytes;)V" } : Jvm.MethodName)) ∈ wG := in_t2 113 rfl rfl
theorem w_354 : (Jvm.Cond.instanceMethod ({ cls := "SealedWire$Bytes", name := "become", desc := "(LSealedWire$Bytes;)V" } : Jvm.MethodName)) ∈ wG := in_t2 114 rfl rfl
theorem w_355 : (Jvm.Cond.selects "SealedWire$Bytes" ({ cls := "SealedWire$Bytes", name := "become", desc := "(LSealedWire$Bytes;)V" } : Jvm.MethodName) ({ cls := "SealedWire$Bytes", name := "become", desc := "(LSealedWire$Bytes;)V" } : Jvm.MethodName)) ∈ wG := in_t2 115 rfl rfl
theorem w_356 : (Jvm.Cond.code ({ cls := "SealedWire$Bytes", name := "become", desc := "(LSealedWire$Bytes;)V" } : Jvm.MethodName) prog_2_method_13_code (2 : Nat) (Option.none : Option Jvm.ClassFile.FieldType)) ∈ wG := in_t2 116 rfl rfl
theorem w_357 : (Jvm.Cond.methodLink "SealedWire$Bytes" (29 : Nat) ({ cls := "SealedWire$Bytes", name := "putPart", desc := "(LSealedWire$Bytes;II)V" } : Jvm.MethodName)) ∈ wG := in_t2 117 rfl rfl
theorem w_358 : (Jvm.Cond.instanceMethod ({ cls := "SealedWire$Bytes", name := "putPart", desc := "(LSealedWire$Bytes;II)V" } : Jvm.MethodName)) ∈ wG := in_t2 118 rfl rfl
theorem w_359 : (Jvm.Cond.selects "SealedWire$Bytes" ({ cls := "SealedWire$Bytes", name := "putPart", desc := "(LSealedWire$Bytes;II)V" } : Jvm.MethodName) ({ cls := "SealedWire$Bytes", name := "putPart", desc := "(LSealedWire$Bytes;II)V" } : Jvm.MethodName)) ∈ wG := in_t2 119 rfl rfl
theorem w_360 : (Jvm.Cond.code ({ cls := "SealedWire$Bytes", name := "putPart", desc := "(LSealedWire$Bytes;II)V" } : Jvm.MethodName) prog_2_method_11_code (4 : Nat) (Option.none : Option Jvm.ClassFile.FieldType)) ∈ wG := in_t2 120 rfl rfl
theorem w_361 : (Jvm.Cond.methodLink "SealedWire$Bytes" (23 : Nat) ({ cls := "java/lang/System", name := "arraycopy", desc := "(Ljava/lang/Object;ILjava/lang/Object;II)V" } : Jvm.MethodName)) ∈ wG := in_t2 121 rfl rfl
theorem w_362 : (Jvm.Cond.static ({ cls := "java/lang/System", name := "arraycopy", desc := "(Ljava/lang/Object;ILjava/lang/Object;II)V" } : Jvm.MethodName)) ∈ wG := in_t2 122 rfl rfl
theorem w_363 : (Jvm.Cond.native ({ cls := "java/lang/System", name := "arraycopy", desc := "(Ljava/lang/Object;ILjava/lang/Object;II)V" } : Jvm.MethodName)) ∈ wG := in_t2 123 rfl rfl
theorem w_364 : (Jvm.Cond.methodLink "SealedWire$Hash" (34 : Nat) ({ cls := "SealedWire$Hash", name := "finish", desc := "(LSealedWire$Bytes;)V" } : Jvm.MethodName)) ∈ wG := in_t2 124 rfl rfl
theorem w_366 : (Jvm.Cond.instanceMethod ({ cls := "SealedWire$Hash", name := "finish", desc := "(LSealedWire$Bytes;)V" } : Jvm.MethodName)) ∈ wG := in_t2 126 rfl rfl
theorem w_367 : (Jvm.Cond.code ({ cls := "SealedWire$Hash", name := "finish", desc := "(LSealedWire$Bytes;)V" } : Jvm.MethodName) prog_4_method_5_code (5 : Nat) (Option.none : Option Jvm.ClassFile.FieldType)) ∈ wG := in_t2 127 rfl rfl
theorem w_368 : (Jvm.Cond.methodLink "SealedWire$Hash" (54 : Nat) ({ cls := "SealedWire$Bytes", name := "size", desc := "()I" } : Jvm.MethodName)) ∈ wG := in_t2 128 rfl rfl
theorem w_369 : (Jvm.Cond.methodLink "SealedWire$Hash" (51 : Nat) ({ cls := "SealedWire$Bytes", name := "put", desc := "(I)V" } : Jvm.MethodName)) ∈ wG := in_t2 129 rfl rfl
theorem w_370 : (Jvm.Cond.methodLink "SealedWire$Hash" (58 : Nat) ({ cls := "SealedWire$Bytes", name := "putNumber", desc := "(I)V" } : Jvm.MethodName)) ∈ wG := in_t2 130 rfl rfl
theorem w_371 : (Jvm.Cond.fieldLink "SealedWire$Hash" (61 : Nat) "SealedWire$Hash" "START" "[I") ∈ wG := in_t2 131 rfl rfl
theorem w_373 : (Jvm.Cond.methodLink "SealedWire$Hash" (64 : Nat) ({ cls := "java/lang/System", name := "arraycopy", desc := "(Ljava/lang/Object;ILjava/lang/Object;II)V" } : Jvm.MethodName)) ∈ wG := in_t2 133 rfl rfl
theorem w_374 : (Jvm.Cond.methodLink "SealedWire$Hash" (70 : Nat) ({ cls := "SealedWire$Hash", name := "spread", desc := "(I)V" } : Jvm.MethodName)) ∈ wG := in_t2 134 rfl rfl
theorem w_376 : (Jvm.Cond.instanceMethod ({ cls := "SealedWire$Hash", name := "spread", desc := "(I)V" } : Jvm.MethodName)) ∈ wG := in_t2 136 rfl rfl
theorem w_377 : (Jvm.Cond.code ({ cls := "SealedWire$Hash", name := "spread", desc := "(I)V" } : Jvm.MethodName) prog_4_method_6_code (7 : Nat) (Option.none : Option Jvm.ClassFile.FieldType)) ∈ wG := in_t2 137 rfl rfl
theorem w_378 : (Jvm.Cond.methodLink "SealedWire$Hash" (76 : Nat) ({ cls := "SealedWire$Bytes", name := "numberAt", desc := "(I)I" } : Jvm.MethodName)) ∈ wG := in_t2 138 rfl rfl
theorem w_379 : (Jvm.Cond.instanceMethod ({ cls := "SealedWire$Bytes", name := "numberAt", desc := "(I)I" } : Jvm.MethodName)) ∈ wG := in_t2 139 rfl rfl
theorem w_380 : (Jvm.Cond.selects "SealedWire$Bytes" ({ cls := "SealedWire$Bytes", name := "numberAt", desc := "(I)I" } : Jvm.MethodName) ({ cls := "SealedWire$Bytes", name := "numberAt", desc := "(I)I" } : Jvm.MethodName)) ∈ wG := in_t2 140 rfl rfl
theorem w_381 : (Jvm.Cond.code ({ cls := "SealedWire$Bytes", name := "numberAt", desc := "(I)I" } : Jvm.MethodName) prog_2_method_5_code (2 : Nat) (Option.some Jvm.ClassFile.FieldType.int)) ∈ wG := in_t2 141 rfl rfl
theorem w_382 : (Jvm.Cond.methodLink "SealedWire$Hash" (79 : Nat) ({ cls := "java/lang/Integer", name := "rotateRight", desc := "(II)I" } : Jvm.MethodName)) ∈ wG := in_t2 142 rfl rfl
theorem w_383 : (Jvm.Cond.static ({ cls := "java/lang/Integer", name := "rotateRight", desc := "(II)I" } : Jvm.MethodName)) ∈ wG := in_t2 143 rfl rfl
theorem w_384 : (Jvm.Cond.code ({ cls := "java/lang/Integer", name := "rotateRight", desc := "(II)I" } : Jvm.MethodName) prog_14_method_51_code (2 : Nat) (Option.some Jvm.ClassFile.FieldType.int)) ∈ wG := in_t2 144 rfl rfl
theorem w_385 : (Jvm.Cond.methodLink "SealedWire$Hash" (73 : Nat) ({ cls := "SealedWire$Hash", name := "mix", desc := "()V" } : Jvm.MethodName)) ∈ wG := in_t2 145 rfl rfl
theorem w_387 : (Jvm.Cond.instanceMethod ({ cls := "SealedWire$Hash", name := "mix", desc := "()V" } : Jvm.MethodName)) ∈ wG := in_t2 147 rfl rfl
theorem w_388 : (Jvm.Cond.code ({ cls := "SealedWire$Hash", name := "mix", desc := "()V" } : Jvm.MethodName) prog_4_method_7_code (14 : Nat) (Option.none : Option Jvm.ClassFile.FieldType)) ∈ wG := in_t2 148 rfl rfl
theorem w_389 : (Jvm.Cond.fieldLink "SealedWire$Hash" (85 : Nat) "SealedWire$Hash" "ROUNDS" "[I") ∈ wG := in_t2 149 rfl rfl
theorem w_391 : (Jvm.Cond.methodLink "SealedWire$Hash" (44 : Nat) ({ cls := "SealedWire$Bytes", name := "clear", desc := "()V" } : Jvm.MethodName)) ∈ wG := in_t2 151 rfl rfl
theorem w_392 : (Jvm.Cond.instanceMethod ({ cls := "SealedWire$Bytes", name := "clear", desc := "()V" } : Jvm.MethodName)) ∈ wG := in_t2 152 rfl rfl
theorem w_393 : (Jvm.Cond.selects "SealedWire$Bytes" ({ cls := "SealedWire$Bytes", name := "clear", desc := "()V" } : Jvm.MethodName) ({ cls := "SealedWire$Bytes", name := "clear", desc := "()V" } : Jvm.MethodName)) ∈ wG := in_t2 153 rfl rfl
theorem w_394 : (Jvm.Cond.code ({ cls := "SealedWire$Bytes", name := "clear", desc := "()V" } : Jvm.MethodName) prog_2_method_6_code (1 : Nat) (Option.none : Option Jvm.ClassFile.FieldType)) ∈ wG := in_t2 154 rfl rfl
theorem w_395 : (Jvm.Cond.methodLink "SealedWire" (114 : Nat) ({ cls := "SealedWire$Bytes", name := "clear", desc := "()V" } : Jvm.MethodName)) ∈ wG := in_t2 155 rfl rfl
theorem w_396 : (Jvm.Cond.methodLink "SealedWireLaw" (40 : Nat) ({ cls := "SealedWire", name := "forget", desc := "(II)I" } : Jvm.MethodName)) ∈ wG := in_t2 156 rfl rfl
theorem w_397 : (Jvm.Cond.instanceMethod ({ cls := "SealedWire", name := "forget", desc := "(II)I" } : Jvm.MethodName)) ∈ wG := in_t2 157 rfl rfl
theorem w_398 : (Jvm.Cond.selects "SealedWire" ({ cls := "SealedWire", name := "forget", desc := "(II)I" } : Jvm.MethodName) ({ cls := "SealedWire", name := "forget", desc := "(II)I" } : Jvm.MethodName)) ∈ wG := in_t2 158 rfl rfl
theorem w_399 : (Jvm.Cond.code ({ cls := "SealedWire", name := "forget", desc := "(II)I" } : Jvm.MethodName) prog_1_method_6_code (3 : Nat) (Option.some Jvm.ClassFile.FieldType.int)) ∈ wG := in_t2 159 rfl rfl
theorem w_400 : (Jvm.Cond.methodLink "SealedWire" (117 : Nat) ({ cls := "SealedWire$Side", name := "hasKey", desc := "(I)Z" } : Jvm.MethodName)) ∈ wG := in_t2 160 rfl rfl
theorem w_401 : (Jvm.Cond.instanceMethod ({ cls := "SealedWire$Side", name := "hasKey", desc := "(I)Z" } : Jvm.MethodName)) ∈ wG := in_t2 161 rfl rfl
theorem w_402 : (Jvm.Cond.selects "SealedWire$Side" ({ cls := "SealedWire$Side", name := "hasKey", desc := "(I)Z" } : Jvm.MethodName) ({ cls := "SealedWire$Side", name := "hasKey", desc := "(I)Z" } : Jvm.MethodName)) ∈ wG := in_t2 162 rfl rfl
theorem w_403 : (Jvm.Cond.code ({ cls := "SealedWire$Side", name := "hasKey", desc := "(I)Z" } : Jvm.MethodName) prog_8_method_4_code (2 : Nat) (Option.some Jvm.ClassFile.FieldType.boolean)) ∈ wG := in_t2 163 rfl rfl
theorem w_404 : (Jvm.Cond.methodLink "SealedWire$Side" (67 : Nat) ({ cls := "SealedWire$Bytes", name := "size", desc := "()I" } : Jvm.MethodName)) ∈ wG := in_t2 164 rfl rfl
theorem w_405 : (Jvm.Cond.methodLink "SealedWire" (120 : Nat) ({ cls := "SealedWire$Side", name := "loseKey", desc := "(I)V" } : Jvm.MethodName)) ∈ wG := in_t2 165 rfl rfl
theorem w_406 : (Jvm.Cond.instanceMethod ({ cls := "SealedWire$Side", name := "loseKey", desc := "(I)V" } : Jvm.MethodName)) ∈ wG := in_t2 166 rfl rfl
theorem w_407 : (Jvm.Cond.selects "SealedWire$Side" ({ cls := "SealedWire$Side", name := "loseKey", desc := "(I)V" } : Jvm.MethodName) ({ cls := "SealedWire$Side", name := "loseKey", desc := "(I)V" } : Jvm.MethodName)) ∈ wG := in_t2 167 rfl rfl
theorem w_408 : (Jvm.Cond.code ({ cls := "SealedWire$Side", name := "loseKey", desc := "(I)V" } : Jvm.MethodName) prog_8_method_6_code (2 : Nat) (Option.none : Option Jvm.ClassFile.FieldType)) ∈ wG := in_t2 168 rfl rfl
theorem w_409 : (Jvm.Cond.methodLink "SealedWire$Side" (75 : Nat) ({ cls := "SealedWire$Bytes", name := "clear", desc := "()V" } : Jvm.MethodName)) ∈ wG := in_t2 169 rfl rfl
theorem w_410 : (Jvm.Cond.methodLink "SealedWireLaw" (44 : Nat) ({ cls := "SealedWire", name := "greet", desc := "(I)I" } : Jvm.MethodName)) ∈ wG := in_t2 170 rfl rfl
theorem w_411 : (Jvm.Cond.instanceMethod ({ cls := "SealedWire", name := "greet", desc := "(I)I" } : Jvm.MethodName)) ∈ wG := in_t2 171 rfl rfl
theorem w_412 : (Jvm.Cond.selects "SealedWire" ({ cls := "SealedWire", name := "greet", desc := "(I)I" } : Jvm.MethodName) ({ cls := "SealedWire", name := "greet", desc := "(I)I" } : Jvm.MethodName)) ∈ wG := in_t2 172 rfl rfl
theorem w_413 : (Jvm.Cond.code ({ cls := "SealedWire", name := "greet", desc := "(I)I" } : Jvm.MethodName) prog_1_method_7_code (3 : Nat) (Option.some Jvm.ClassFile.FieldType.int)) ∈ wG := in_t2 173 rfl rfl
theorem w_414 : (Jvm.Cond.methodLink "SealedWire" (123 : Nat) ({ cls := "SealedWire$Side", name := "is", desc := "(I)Z" } : Jvm.MethodName)) ∈ wG := in_t2 174 rfl rfl
theorem w_415 : (Jvm.Cond.instanceMethod ({ cls := "SealedWire$Side", name := "is", desc := "(I)Z" } : Jvm.MethodName)) ∈ wG := in_t2 175 rfl rfl
theorem w_416 : (Jvm.Cond.selects "SealedWire$Side" ({ cls := "SealedWire$Side", name := "is", desc := "(I)Z" } : Jvm.MethodName) ({ cls := "SealedWire$Side", name := "is", desc := "(I)Z" } : Jvm.MethodName)) ∈ wG := in_t2 176 rfl rfl
theorem w_417 : (Jvm.Cond.code ({ cls := "SealedWire$Side", name := "is", desc := "(I)Z" } : Jvm.MethodName) prog_8_method_10_code (2 : Nat) (Option.some Jvm.ClassFile.FieldType.boolean)) ∈ wG := in_t2 177 rfl rfl
theorem w_418 : (Jvm.Cond.methodLink "SealedWire" (126 : Nat) ({ cls := "SealedWire$Wire", name := "isFull", desc := "()Z" } : Jvm.MethodName)) ∈ wG := in_t2 178 rfl rfl
theorem w_419 : (Jvm.Cond.instanceMethod ({ cls := "SealedWire$Wire", name := "isFull", desc := "()Z" } : Jvm.MethodName)) ∈ wG := in_t2 179 rfl rfl
theorem w_420 : (Jvm.Cond.selects "SealedWire$Wire" ({ cls := "SealedWire$Wire", name := "isFull", desc := "()Z" } : Jvm.MethodName) ({ cls := "SealedWire$Wire", name := "isFull", desc := "()Z" } : Jvm.MethodName)) ∈ wG := in_t2 180 rfl rfl
theorem w_421 : (Jvm.Cond.code ({ cls := "SealedWire$Wire", name := "isFull", desc := "()Z" } : Jvm.MethodName) prog_11_method_4_code (1 : Nat) (Option.some Jvm.ClassFile.FieldType.boolean)) ∈ wG := in_t2 181 rfl rfl
theorem w_422 : (Jvm.Cond.methodLink "SealedWire" (130 : Nat) ({ cls := "SealedWire$Side", name := "makeRandom", desc := "(LSealedWire$Bytes;)V" } : Jvm.MethodName)) ∈ wG := in_t2 182 rfl rfl
theorem w_423 : (Jvm.Cond.instanceMethod ({ cls := "SealedWire$Side", name := "makeRandom", desc := "(LSealedWire$Bytes;)V" } : Jvm.MethodName)) ∈ wG := in_t2 183 rfl rfl
theorem w_424 : (Jvm.Cond.selects "SealedWire$Side" ({ cls := "SealedWire$Side", name := "makeRandom", desc := "(LSealedWire$Bytes;)V" } : Jvm.MethodName) ({ cls := "SealedWire$Side", name := "makeRandom", desc := "(LSealedWire$Bytes;)V" } : Jvm.MethodName)) ∈ wG := in_t2 184 rfl rfl
theorem w_425 : (Jvm.Cond.code ({ cls := "SealedWire$Side", name := "makeRandom", desc := "(LSealedWire$Bytes;)V" } : Jvm.MethodName) prog_8_method_14_code (2 : Nat) (Option.none : Option Jvm.ClassFile.FieldType)) ∈ wG := in_t2 185 rfl rfl
theorem w_426 : (Jvm.Cond.methodLink "SealedWire$Side" (84 : Nat) ({ cls := "SealedWire$Bytes", name := "put", desc := "(I)V" } : Jvm.MethodName)) ∈ wG := in_t2 186 rfl rfl
theorem w_427 : (Jvm.Cond.methodLink "SealedWire$Side" (87 : Nat) ({ cls := "SealedWire$Bytes", name := "putNumber", desc := "(I)V" } : Jvm.MethodName)) ∈ wG := in_t2 187 rfl rfl
theorem w_428 : (Jvm.Cond.methodLink "SealedWire" (134 : Nat) ({ cls := "SealedWire$Side", name := "keepGreeting", desc := "(LSealedWire$Bytes;I)V" } : Jvm.MethodName)) ∈ wG := in_t2 188 rfl rfl
theorem w_429 : (Jvm.Cond.instanceMethod ({ cls := "SealedWire$Side", name := "keepGreeting", desc := "(LSealedWire$Bytes;I)V" } : Jvm.MethodName)) ∈ wG := in_t2 189 rfl rfl
theorem w_430 : (Jvm.Cond.selects "SealedWire$Side" ({ cls := "SealedWire$Side", name := "keepGreeting", desc := "(LSealedWire$Bytes;I)V" } : Jvm.MethodName) ({ cls := "SealedWire$Side", name := "keepGreeting", desc := "(LSealedWire$Bytes;I)V" } : Jvm.MethodName)) ∈ wG := in_t2 190 rfl rfl
theorem w_431 : (Jvm.Cond.code ({ cls := "SealedWire$Side", name := "keepGreeting", desc := "(LSealedWire$Bytes;I)V" } : Jvm.MethodName) prog_8_method_15_code (3 : Nat) (Option.none : Option Jvm.ClassFile.FieldType)) ∈ wG := in_t2 191 rfl rfl
theorem w_432 : (Jvm.Cond.methodLink "SealedWire$Side" (90 : Nat) ({ cls := "SealedWire$Bytes", name := "become", desc := "(LSealedWire$Bytes;)V" } : Jvm.MethodName)) ∈ wG := in_t2 192 rfl rfl
theorem w_433 : (Jvm.Cond.methodLink "SealedWire" (138 : Nat) ({ cls := "SealedWire$Wire", name := "draft", desc := "()LSealedWire$Bytes;" } : Jvm.MethodName)) ∈ wG := in_t2 193 rfl rfl
theorem w_434 : (Jvm.Cond.instanceMethod ({ cls := "SealedWire$Wire", name := "draft", desc := "()LSealedWire$Bytes;" } : Jvm.MethodName)) ∈ wG := in_t2 194 rfl rfl
theorem w_435 : (Jvm.Cond.selects "SealedWire$Wire" ({ cls := "SealedWire$Wire", name := "draft", desc := "()LSealedWire$Bytes;" } : Jvm.MethodName) ({ cls := "SealedWire$Wire", name := "draft", desc := "()LSealedWire$Bytes;" } : Jvm.MethodName)) ∈ wG := in_t2 195 rfl rfl
theorem w_436 : (Jvm.Cond.code ({ cls := "SealedWire$Wire", name := "draft", desc := "()LSealedWire$Bytes;" } : Jvm.MethodName) prog_11_method_6_code (1 : Nat) (Option.some (Jvm.ClassFile.FieldType.object "SealedWire$Bytes"))) ∈ wG := in_t2 196 rfl rfl
theorem w_437 : (Jvm.Cond.methodLink "SealedWire$Wire" (28 : Nat) ({ cls := "SealedWire$Bytes", name := "clear", desc := "()V" } : Jvm.MethodName)) ∈ wG := in_t2 197 rfl rfl
theorem w_438 : (Jvm.Cond.methodLink "SealedWire" (142 : Nat) ({ cls := "SealedWire$Bytes", name := "putHead", desc := "(II)V" } : Jvm.MethodName)) ∈ wG := in_t2 198 rfl rfl
theorem w_439 : (Jvm.Cond.instanceMethod ({ cls := "SealedWire$Bytes", name := "putHead", desc := "(II)V" } : Jvm.MethodName)) ∈ wG := in_t2 199 rfl rfl
theorem w_440 : (Jvm.Cond.selects "SealedWire$Bytes" ({ cls := "SealedWire$Bytes", name := "putHead", desc := "(II)V" } : Jvm.MethodName) ({ cls := "SealedWire$Bytes", name := "putHead", desc := "(II)V" } : Jvm.MethodName)) ∈ wG := in_t2 200 rfl rfl
theorem w_441 : (Jvm.Cond.code ({ cls := "SealedWire$Bytes", name := "putHead", desc := "(II)V" } : Jvm.MethodName) prog_2_method_10_code (3 : Nat) (Option.none : Option Jvm.ClassFile.FieldType)) ∈ wG := in_t2 201 rfl rfl
theorem w_442 : (Jvm.Cond.methodLink "SealedWire" (145 : Nat) ({ cls := "SealedWire$Side", name := "greeting", desc := "()LSealedWire$Bytes;" } : Jvm.MethodName)) ∈ wG := in_t2 202 rfl rfl
theorem w_443 : (Jvm.Cond.instanceMethod ({ cls := "SealedWire$Side", name := "greeting", desc := "()LSealedWire$Bytes;" } : Jvm.MethodName)) ∈ wG := in_t2 203 rfl rfl
theorem w_444 : (Jvm.Cond.selects "SealedWire$Side" ({ cls := "SealedWire$Side", name := "greeting", desc := "()LSealedWire$Bytes;" } : Jvm.MethodName) ({ cls := "SealedWire$Side", name := "greeting", desc := "()LSealedWire$Bytes;" } : Jvm.MethodName)) ∈ wG := in_t2 204 rfl rfl
theorem w_445 : (Jvm.Cond.code ({ cls := "SealedWire$Side", name := "greeting", desc := "()LSealedWire$Bytes;" } : Jvm.MethodName) prog_8_method_16_code (1 : Nat) (Option.some (Jvm.ClassFile.FieldType.object "SealedWire$Bytes"))) ∈ wG := in_t2 205 rfl rfl
theorem w_446 : (Jvm.Cond.methodLink "SealedWire" (148 : Nat) ({ cls := "SealedWire$Bytes", name := "putAll", desc := "(LSealedWire$Bytes;)V" } : Jvm.MethodName)) ∈ wG := in_t2 206 rfl rfl
theorem w_447 : (Jvm.Cond.instanceMethod ({ cls := "SealedWire$Bytes", name := "putAll", desc := "(LSealedWire$Bytes;)V" } : Jvm.MethodName)) ∈ wG := in_t2 207 rfl rfl
theorem w_448 : (Jvm.Cond.selects "SealedWire$Bytes" ({ cls := "SealedWire$Bytes", name := "putAll", desc := "(LSealedWire$Bytes;)V" } : Jvm.MethodName) ({ cls := "SealedWire$Bytes", name := "putAll", desc := "(LSealedWire$Bytes;)V" } : Jvm.MethodName)) ∈ wG := in_t2 208 rfl rfl
theorem w_449 : (Jvm.Cond.code ({ cls := "SealedWire$Bytes", name := "putAll", desc := "(LSealedWire$Bytes;)V" } : Jvm.MethodName) prog_2_method_12_code (2 : Nat) (Option.none : Option Jvm.ClassFile.FieldType)) ∈ wG := in_t2 209 rfl rfl
theorem w_450 : (Jvm.Cond.methodLink "SealedWire" (151 : Nat) ({ cls := "SealedWire$Wire", name := "send", desc := "()V" } : Jvm.MethodName)) ∈ wG := in_t2 210 rfl rfl
theorem w_451 : (Jvm.Cond.instanceMethod ({ cls := "SealedWire$Wire", name := "send", desc := "()V" } : Jvm.MethodName)) ∈ wG := in_t2 211 rfl rfl
theorem w_452 : (Jvm.Cond.selects "SealedWire$Wire" ({ cls := "SealedWire$Wire", name := "send", desc := "()V" } : Jvm.MethodName) ({ cls := "SealedWire$Wire", name := "send", desc := "()V" } : Jvm.MethodName)) ∈ wG := in_t2 212 rfl rfl
theorem w_453 : (Jvm.Cond.code ({ cls := "SealedWire$Wire", name := "send", desc := "()V" } : Jvm.MethodName) prog_11_method_7_code (1 : Nat) (Option.none : Option Jvm.ClassFile.FieldType)) ∈ wG := in_t2 213 rfl rfl
theorem w_454 : (Jvm.Cond.methodLink "SealedWire" (154 : Nat) ({ cls := "SealedWire$Side", name := "become", desc := "(I)V" } : Jvm.MethodName)) ∈ wG := in_t2 214 rfl rfl
theorem w_455 : (Jvm.Cond.instanceMethod ({ cls := "SealedWire$Side", name := "become", desc := "(I)V" } : Jvm.MethodName)) ∈ wG := in_t2 215 rfl rfl
theorem w_456 : (Jvm.Cond.selects "SealedWire$Side" ({ cls := "SealedWire$Side", name := "become", desc := "(I)V" } : Jvm.MethodName) ({ cls := "SealedWire$Side", name := "become", desc := "(I)V" } : Jvm.MethodName)) ∈ wG := in_t2 216 rfl rfl
theorem w_457 : (Jvm.Cond.code ({ cls := "SealedWire$Side", name := "become", desc := "(I)V" } : Jvm.MethodName) prog_8_method_12_code (2 : Nat) (Option.none : Option Jvm.ClassFile.FieldType)) ∈ wG := in_t2 217 rfl rfl
theorem w_458 : (Jvm.Cond.methodLink "SealedWireLaw" (48 : Nat) ({ cls := "SealedWire", name := "idle", desc := "(I)I" } : Jvm.MethodName)) ∈ wG := in_t2 218 rfl rfl
theorem w_459 : (Jvm.Cond.instanceMethod ({ cls := "SealedWire", name := "idle", desc := "(I)I" } : Jvm.MethodName)) ∈ wG := in_t2 219 rfl rfl
theorem w_460 : (Jvm.Cond.selects "SealedWire" ({ cls := "SealedWire", name := "idle", desc := "(I)I" } : Jvm.MethodName) ({ cls := "SealedWire", name := "idle", desc := "(I)I" } : Jvm.MethodName)) ∈ wG := in_t2 220 rfl rfl
theorem w_461 : (Jvm.Cond.code ({ cls := "SealedWire", name := "idle", desc := "(I)I" } : Jvm.MethodName) prog_1_method_8_code (2 : Nat) (Option.some Jvm.ClassFile.FieldType.int)) ∈ wG := in_t2 221 rfl rfl
theorem w_462 : (Jvm.Cond.methodLink "SealedWireLaw" (52 : Nat) ({ cls := "SealedWire", name := "name", desc := "()I" } : Jvm.MethodName)) ∈ wG := in_t2 222 rfl rfl
theorem w_463 : (Jvm.Cond.instanceMethod ({ cls := "SealedWire", name := "name", desc := "()I" } : Jvm.MethodName)) ∈ wG := in_t2 223 rfl rfl
theorem w_464 : (Jvm.Cond.selects "SealedWire" ({ cls := "SealedWire", name := "name", desc := "()I" } : Jvm.MethodName) ({ cls := "SealedWire", name := "name", desc := "()I" } : Jvm.MethodName)) ∈ wG := in_t2 224 rfl rfl
theorem w_465 : (Jvm.Cond.code ({ cls := "SealedWire", name := "name", desc := "()I" } : Jvm.MethodName) prog_1_method_9_code (2 : Nat) (Option.some Jvm.ClassFile.FieldType.int)) ∈ wG := in_t2 225 rfl rfl
theorem w_466 : (Jvm.Cond.methodLink "SealedWire" (157 : Nat) ({ cls := "SealedWire$Bytes", name := "become", desc := "(LSealedWire$Bytes;)V" } : Jvm.MethodName)) ∈ wG := in_t2 226 rfl rfl
theorem w_467 : (Jvm.Cond.methodLink "SealedWireLaw" (57 : Nat) ({ cls := "SealedWire", name := "request", desc := "(I)I" } : Jvm.MethodName)) ∈ wG := in_t2 227 rfl rfl
theorem w_468 : (Jvm.Cond.instanceMethod ({ cls := "SealedWire", name := "request", desc := "(I)I" } : Jvm.MethodName)) ∈ wG := in_t2 228 rfl rfl
theorem w_469 : (Jvm.Cond.selects "SealedWire" ({ cls := "SealedWire", name := "request", desc := "(I)I" } : Jvm.MethodName) ({ cls := "SealedWire", name := "request", desc := "(I)I" } : Jvm.MethodName)) ∈ wG := in_t2 229 rfl rfl
theorem w_470 : (Jvm.Cond.code ({ cls := "SealedWire", name := "request", desc := "(I)I" } : Jvm.MethodName) prog_1_method_10_code (3 : Nat) (Option.some Jvm.ClassFile.FieldType.int)) ∈ wG := in_t2 230 rfl rfl
theorem w_471 : (Jvm.Cond.methodLink "SealedWire" (159 : Nat) ({ cls := "SealedWire", name := "sendRequest", desc := "(I)I" } : Jvm.MethodName)) ∈ wG := in_t2 231 rfl rfl
theorem w_473 : (Jvm.Cond.instanceMethod ({ cls := "SealedWire", name := "sendRequest", desc := "(I)I" } : Jvm.MethodName)) ∈ wG := in_t2 233 rfl rfl
theorem w_474 : (Jvm.Cond.code ({ cls := "SealedWire", name := "sendRequest", desc := "(I)I" } : Jvm.MethodName) prog_1_method_31_code (2 : Nat) (Option.some Jvm.ClassFile.FieldType.int)) ∈ wG := in_t2 234 rfl rfl
theorem w_475 : (Jvm.Cond.methodLink "SealedWire" (260 : Nat) ({ cls := "SealedWire$Request", name := "isOp", desc := "(I)Z" } : Jvm.MethodName)) ∈ wG := in_t2 235 rfl rfl
theorem w_476 : (Jvm.Cond.static ({ cls := "SealedWire$Request", name := "isOp", desc := "(I)Z" } : Jvm.MethodName)) ∈ wG := in_t2 236 rfl rfl
theorem w_477 : (Jvm.Cond.code ({ cls := "SealedWire$Request", name := "isOp", desc := "(I)Z" } : Jvm.MethodName) prog_6_method_2_code (1 : Nat) (Option.some Jvm.ClassFile.FieldType.boolean)) ∈ wG := in_t2 237 rfl rfl
theorem w_478 : (Jvm.Cond.methodLink "SealedWire" (263 : Nat) ({ cls := "SealedWire$Request", name := "mostBytes", desc := "(I)I" } : Jvm.MethodName)) ∈ wG := in_t2 238 rfl rfl
theorem w_479 : (Jvm.Cond.static ({ cls := "SealedWire$Request", name := "mostBytes", desc := "(I)I" } : Jvm.MethodName)) ∈ wG := in_t2 239 rfl rfl
theorem w_480 : (Jvm.Cond.code ({ cls := "SealedWire$Request", name := "mostBytes", desc := "(I)I" } : Jvm.MethodName) prog_6_method_3_code (1 : Nat) (Option.some Jvm.ClassFile.FieldType.int)) ∈ wG := in_t3 0 rfl rfl
theorem w_481 : (Jvm.Cond.methodLink "SealedWire" (234 : Nat) ({ cls := "SealedWire$Side", name := "direction", desc := "(I)LSealedWire$Direction;" } : Jvm.MethodName)) ∈ wG := in_t3 1 rfl rfl
theorem w_482 : (Jvm.Cond.instanceMethod ({ cls := "SealedWire$Side", name := "direction", desc := "(I)LSealedWire$Direction;" } : Jvm.MethodName)) ∈ wG := in_t3 2 rfl rfl
theorem w_483 : (Jvm.Cond.selects "SealedWire$Side" ({ cls := "SealedWire$Side", name := "direction", desc := "(I)LSealedWire$Direction;" } : Jvm.MethodName) ({ cls := "SealedWire$Side", name := "direction", desc := "(I)LSealedWire$Direction;" } : Jvm.MethodName)) ∈ wG := in_t3 3 rfl rfl
theorem w_484 : (Jvm.Cond.code ({ cls := "SealedWire$Side", name := "direction", desc := "(I)LSealedWire$Direction;" } : Jvm.MethodName) prog_8_method_13_code (2 : Nat) (Option.some (Jvm.ClassFile.FieldType.object "SealedWire$Direction"))) ∈ wG := in_t3 4 rfl rfl
theorem w_485 : (Jvm.Cond.methodLink "SealedWire" (266 : Nat) ({ cls := "SealedWire$Sealer", name := "seal", desc := "(LSealedWire$Direction;LSealedWire$Bytes;LSealedWire$Wire;)V" } : Jvm.MethodName)) ∈ wG := in_t3 5 rfl rfl
theorem w_486 : (Jvm.Cond.instanceMethod ({ cls := "SealedWire$Sealer", name := "seal", desc := "(LSealedWire$Direction;LSealedWire$Bytes;LSealedWire$Wire;)V" } : Jvm.MethodName)) ∈ wG := in_t3 6 rfl rfl
theorem w_487 : (Jvm.Cond.selects "SealedWire$Sealer" ({ cls := "SealedWire$Sealer", name := "seal", desc := "(LSealedWire$Direction;LSealedWire$Bytes;LSealedWire$Wire;)V" } : Jvm.MethodName) ({ cls := "SealedWire$Sealer", name := "seal", desc := "(LSealedWire$Direction;LSealedWire$Bytes;LSealedWire$Wire;)V" } : Jvm.MethodName)) ∈ wG := in_t3 7 rfl rfl
theorem w_488 : (Jvm.Cond.code ({ cls := "SealedWire$Sealer", name := "seal", desc := "(LSealedWire$Direction;LSealedWire$Bytes;LSealedWire$Wire;)V" } : Jvm.MethodName) prog_7_method_2_code (5 : Nat) (Option.none : Option Jvm.ClassFile.FieldType)) ∈ wG := in_t3 8 rfl rfl
theorem w_489 : (Jvm.Cond.methodLink "SealedWire$Sealer" (34 : Nat) ({ cls := "SealedWire$Wire", name := "draft", desc := "()LSealedWire$Bytes;" } : Jvm.MethodName)) ∈ wG := in_t3 9 rfl rfl
theorem w_490 : (Jvm.Cond.methodLink "SealedWire$Sealer" (40 : Nat) ({ cls := "SealedWire$Bytes", name := "size", desc := "()I" } : Jvm.MethodName)) ∈ wG := in_t3 10 rfl rfl
theorem w_491 : (Jvm.Cond.methodLink "SealedWire$Sealer" (44 : Nat) ({ cls := "SealedWire$Bytes", name := "putHead", desc := "(II)V" } : Jvm.MethodName)) ∈ wG := in_t3 11 rfl rfl
theorem w_492 : (Jvm.Cond.methodLink "SealedWire$Sealer" (48 : Nat) ({ cls := "SealedWire$Direction", name := "sealingKey", desc := "()LSealedWire$Bytes;" } : Jvm.MethodName)) ∈ wG := in_t3 12 rfl rfl
theorem w_493 : (Jvm.Cond.instanceMethod ({ cls := "SealedWire$Direction", name := "sealingKey", desc := "()LSealedWire$Bytes;" } : Jvm.MethodName)) ∈ wG := in_t3 13 rfl rfl
theorem w_494 : (Jvm.Cond.selects "SealedWire$Direction" ({ cls := "SealedWire$Direction", name := "sealingKey", desc := "()LSealedWire$Bytes;" } : Jvm.MethodName) ({ cls := "SealedWire$Direction", name := "sealingKey", desc := "()LSealedWire$Bytes;" } : Jvm.MethodName)) ∈ wG := in_t3 14 rfl rfl
theorem w_495 : (Jvm.Cond.code ({ cls := "SealedWire$Direction", name := "sealingKey", desc := "()LSealedWire$Bytes;" } : Jvm.MethodName) prog_3_method_2_code (1 : Nat) (Option.some (Jvm.ClassFile.FieldType.object "SealedWire$Bytes"))) ∈ wG := in_t3 15 rfl rfl
theorem w_496 : (Jvm.Cond.methodLink "SealedWire$Sealer" (53 : Nat) ({ cls := "SealedWire$Direction", name := "number", desc := "()I" } : Jvm.MethodName)) ∈ wG := in_t3 16 rfl rfl
theorem w_497 : (Jvm.Cond.instanceMethod ({ cls := "SealedWire$Direction", name := "number", desc := "()I" } : Jvm.MethodName)) ∈ wG := in_t3 17 rfl rfl
theorem w_498 : (Jvm.Cond.selects "SealedWire$Direction" ({ cls := "SealedWire$Direction", name := "number", desc := "()I" } : Jvm.MethodName) ({ cls := "SealedWire$Direction", name := "number", desc := "()I" } : Jvm.MethodName)) ∈ wG := in_t3 18 rfl rfl
theorem w_499 : (Jvm.Cond.code ({ cls := "SealedWire$Direction", name := "number", desc := "()I" } : Jvm.MethodName) prog_3_method_3_code (1 : Nat) (Option.some Jvm.ClassFile.FieldType.int)) ∈ wG := in_t3 19 rfl rfl
theorem w_500 : (Jvm.Cond.methodLink "SealedWire$Sealer" (56 : Nat) ({ cls := "SealedWire$Stream", name := "begin", desc := "(LSealedWire$Bytes;I)V" } : Jvm.MethodName)) ∈ wG := in_t3 20 rfl rfl
theorem w_501 : (Jvm.Cond.instanceMethod ({ cls := "SealedWire$Stream", name := "begin", desc := "(LSealedWire$Bytes;I)V" } : Jvm.MethodName)) ∈ wG := in_t3 21 rfl rfl
theorem w_502 : (Jvm.Cond.selects "SealedWire$Stream" ({ cls := "SealedWire$Stream", name := "begin", desc := "(LSealedWire$Bytes;I)V" } : Jvm.MethodName) ({ cls := "SealedWire$Stream", name := "begin", desc := "(LSealedWire$Bytes;I)V" } : Jvm.MethodName)) ∈ wG := in_t3 22 rfl rfl
theorem w_503 : (Jvm.Cond.code ({ cls := "SealedWire$Stream", name := "begin", desc := "(LSealedWire$Bytes;I)V" } : Jvm.MethodName) prog_10_method_2_code (5 : Nat) (Option.none : Option Jvm.ClassFile.FieldType)) ∈ wG := in_t3 23 rfl rfl
theorem w_504 : (Jvm.Cond.fieldLink "SealedWire$Stream" (16 : Nat) "SealedWire$Stream" "CONSTANTS" "[I") ∈ wG := in_t3 24 rfl rfl
theorem w_506 : (Jvm.Cond.methodLink "SealedWire$Stream" (19 : Nat) ({ cls := "java/lang/System", name := "arraycopy", desc := "(Ljava/lang/Object;ILjava/lang/Object;II)V" } : Jvm.MethodName)) ∈ wG := in_t3 26 rfl rfl
theorem w_507 : (Jvm.Cond.methodLink "SealedWire$Stream" (25 : Nat) ({ cls := "SealedWire$Bytes", name := "at", desc := "(I)I" } : Jvm.MethodName)) ∈ wG := in_t3 27 rfl rfl
theorem w_508 : (Jvm.Cond.methodLink "SealedWire$Stream" (31 : Nat) ({ cls := "java/lang/Integer", name := "reverseBytes", desc := "(I)I" } : Jvm.MethodName)) ∈ wG := in_t3 28 rfl rfl
theorem w_509 : (Jvm.Cond.static ({ cls := "java/lang/Integer", name := "reverseBytes", desc := "(I)I" } : Jvm.MethodName)) ∈ wG := in_t3 29 rfl rfl
theorem w_510 : (Jvm.Cond.code ({ cls := "java/lang/Integer", name := "reverseBytes", desc := "(I)I" } : Jvm.MethodName) prog_14_method_57_code (1 : Nat) (Option.some Jvm.ClassFile.FieldType.int)) ∈ wG := in_t3 30 rfl rfl
theorem w_511 : (Jvm.Cond.constant "java/lang/Integer" (274 : Nat) (65280 : Int32)) ∈ wG := in_t3 31 rfl rfl
theorem w_512 : (Jvm.Cond.methodLink "SealedWire$Sealer" (60 : Nat) ({ cls := "SealedWire$Sealer", name := "cover", desc := "(LSealedWire$Bytes;IILSealedWire$Bytes;)V" } : Jvm.MethodName)) ∈ wG := in_t3 32 rfl rfl
theorem w_514 : (Jvm.Cond.instanceMethod ({ cls := "SealedWire$Sealer", name := "cover", desc := "(LSealedWire$Bytes;IILSealedWire$Bytes;)V" } : Jvm.MethodName)) ∈ wG := in_t3 34 rfl rfl
theorem w_515 : (Jvm.Cond.code ({ cls := "SealedWire$Sealer", name := "cover", desc := "(LSealedWire$Bytes;IILSealedWire$Bytes;)V" } : Jvm.MethodName) prog_7_method_4_code (7 : Nat) (Option.none : Option Jvm.ClassFile.FieldType)) ∈ wG := in_t3 35 rfl rfl
theorem w_516 : (Jvm.Cond.methodLink "SealedWire$Sealer" (64 : Nat) ({ cls := "SealedWire$Stream", name := "make", desc := "(I)V" } : Jvm.MethodName)) ∈ wG := in_t3 36 rfl rfl
theorem w_517 : (Jvm.Cond.instanceMethod ({ cls := "SealedWire$Stream", name := "make", desc := "(I)V" } : Jvm.MethodName)) ∈ wG := in_t3 37 rfl rfl
theorem w_518 : (Jvm.Cond.selects "SealedWire$Stream" ({ cls := "SealedWire$Stream", name := "make", desc := "(I)V" } : Jvm.MethodName) ({ cls := "SealedWire$Stream", name := "make", desc := "(I)V" } : Jvm.MethodName)) ∈ wG := in_t3 38 rfl rfl
theorem w_519 : (Jvm.Cond.code ({ cls := "SealedWire$Stream", name := "make", desc := "(I)V" } : Jvm.MethodName) prog_10_method_3_code (6 : Nat) (Option.none : Option Jvm.ClassFile.FieldType)) ∈ wG := in_t3 39 rfl rfl
theorem w_520 : (Jvm.Cond.methodLink "SealedWire$Stream" (36 : Nat) ({ cls := "SealedWire$Stream", name := "quarter", desc := "(IIII)V" } : Jvm.MethodName)) ∈ wG := in_t3 40 rfl rfl
theorem w_522 : (Jvm.Cond.instanceMethod ({ cls := "SealedWire$Stream", name := "quarter", desc := "(IIII)V" } : Jvm.MethodName)) ∈ wG := in_t3 42 rfl rfl
theorem w_523 : (Jvm.Cond.code ({ cls := "SealedWire$Stream", name := "quarter", desc := "(IIII)V" } : Jvm.MethodName) prog_10_method_4_code (9 : Nat) (Option.none : Option Jvm.ClassFile.FieldType)) ∈ wG := in_t3 43 rfl rfl
theorem w_524 : (Jvm.Cond.methodLink "SealedWire$Stream" (40 : Nat) ({ cls := "java/lang/Integer", name := "rotateLeft", desc := "(II)I" } : Jvm.MethodName)) ∈ wG := in_t3 44 rfl rfl
theorem w_525 : (Jvm.Cond.static ({ cls := "java/lang/Integer", name := "rotateLeft", desc := "(II)I" } : Jvm.MethodName)) ∈ wG := in_t3 45 rfl rfl
theorem w_526 : (Jvm.Cond.code ({ cls := "java/lang/Integer", name := "rotateLeft", desc := "(II)I" } : Jvm.MethodName) prog_14_method_50_code (2 : Nat) (Option.some Jvm.ClassFile.FieldType.int)) ∈ wG := in_t3 46 rfl rfl
theorem w_527 : (Jvm.Cond.methodLink "SealedWire$Sealer" (88 : Nat) ({ cls := "SealedWire$Bytes", name := "at", desc := "(I)I" } : Jvm.MethodName)) ∈ wG := in_t3 47 rfl rfl
theorem w_528 : (Jvm.Cond.methodLink "SealedWire$Sealer" (92 : Nat) ({ cls := "SealedWire$Stream", name := "byteAt", desc := "(I)I" } : Jvm.MethodName)) ∈ wG := in_t3 48 rfl rfl
theorem w_529 : (Jvm.Cond.instanceMethod ({ cls := "SealedWire$Stream", name := "byteAt", desc := "(I)I" } : Jvm.MethodName)) ∈ wG := in_t3 49 rfl rfl
theorem w_530 : (Jvm.Cond.selects "SealedWire$Stream" ({ cls := "SealedWire$Stream", name := "byteAt", desc := "(I)I" } : Jvm.MethodName) ({ cls := "SealedWire$Stream", name := "byteAt", desc := "(I)I" } : Jvm.MethodName)) ∈ wG := in_t3 50 rfl rfl
theorem w_531 : (Jvm.Cond.code ({ cls := "SealedWire$Stream", name := "byteAt", desc := "(I)I" } : Jvm.MethodName) prog_10_method_6_code (2 : Nat) (Option.some Jvm.ClassFile.FieldType.int)) ∈ wG := in_t3 51 rfl rfl
theorem w_532 : (Jvm.Cond.methodLink "SealedWire$Sealer" (95 : Nat) ({ cls := "SealedWire$Bytes", name := "put", desc := "(I)V" } : Jvm.MethodName)) ∈ wG := in_t3 52 rfl rfl
theorem w_533 : (Jvm.Cond.methodLink "SealedWire$Sealer" (67 : Nat) ({ cls := "SealedWire$Poly", name := "makeTag", desc := "(LSealedWire$Stream;LSealedWire$Bytes;ILSealedWire$Bytes;)V" } : Jvm.MethodName)) ∈ wG := in_t3 53 rfl rfl
theorem w_534 : (Jvm.Cond.instanceMethod ({ cls := "SealedWire$Poly", name := "makeTag", desc := "(LSealedWire$Stream;LSealedWire$Bytes;ILSealedWire$Bytes;)V" } : Jvm.MethodName)) ∈ wG := in_t3 54 rfl rfl
theorem w_535 : (Jvm.Cond.selects "SealedWire$Poly" ({ cls := "SealedWire$Poly", name := "makeTag", desc := "(LSealedWire$Stream;LSealedWire$Bytes;ILSealedWire$Bytes;)V" } : Jvm.MethodName) ({ cls := "SealedWire$Poly", name := "makeTag", desc := "(LSealedWire$Stream;LSealedWire$Bytes;ILSealedWire$Bytes;)V" } : Jvm.MethodName)) ∈ wG := in_t3 55 rfl rfl
theorem w_536 : (Jvm.Cond.code ({ cls := "SealedWire$Poly", name := "makeTag", desc := "(LSealedWire$Stream;LSealedWire$Bytes;ILSealedWire$Bytes;)V" } : Jvm.MethodName) prog_5_method_2_code (6 : Nat) (Option.none : Option Jvm.ClassFile.FieldType)) ∈ wG := in_t3 56 rfl rfl
theorem w_537 : (Jvm.Cond.methodLink "SealedWire$Poly" (34 : Nat) ({ cls := "SealedWire$Poly", name := "layText", desc := "(LSealedWire$Bytes;I)V" } : Jvm.MethodName)) ∈ wG := in_t3 57 rfl rfl
theorem w_539 : (Jvm.Cond.instanceMethod ({ cls := "SealedWire$Poly", name := "layText", desc := "(LSealedWire$Bytes;I)V" } : Jvm.MethodName)) ∈ wG := in_t3 59 rfl rfl
theorem w_540 : (Jvm.Cond.code ({ cls := "SealedWire$Poly", name := "layText", desc := "(LSealedWire$Bytes;I)V" } : Jvm.MethodName) prog_5_method_3_code (3 : Nat) (Option.none : Option Jvm.ClassFile.FieldType)) ∈ wG := in_t3 60 rfl rfl
theorem w_541 : (Jvm.Cond.methodLink "SealedWire$Poly" (53 : Nat) ({ cls := "SealedWire$Bytes", name := "clear", desc := "()V" } : Jvm.MethodName)) ∈ wG := in_t3 61 rfl rfl
theorem w_542 : (Jvm.Cond.methodLink "SealedWire$Poly" (56 : Nat) ({ cls := "SealedWire$Bytes", name := "putPart", desc := "(LSealedWire$Bytes;II)V" } : Jvm.MethodName)) ∈ wG := in_t3 62 rfl rfl
theorem w_543 : (Jvm.Cond.methodLink "SealedWire$Poly" (60 : Nat) ({ cls := "SealedWire$Poly", name := "fillBlock", desc := "()V" } : Jvm.MethodName)) ∈ wG := in_t3 63 rfl rfl
theorem w_545 : (Jvm.Cond.instanceMethod ({ cls := "SealedWire$Poly", name := "fillBlock", desc := "()V" } : Jvm.MethodName)) ∈ wG := in_t3 65 rfl rfl
theorem w_546 : (Jvm.Cond.code ({ cls := "SealedWire$Poly", name := "fillBlock", desc := "()V" } : Jvm.MethodName) prog_5_method_4_code (3 : Nat) (Option.none : Option Jvm.ClassFile.FieldType)) ∈ wG := in_t3 66 rfl rfl
