theorem w_1084 : (Jvm.Cond.methodLink "SealedWireLaw" (47 : Nat) ({ cls := "SealedWireModel", name := "greet", desc := "(I)I" } : Jvm.MethodName)) ∈ wG := in_t5 124 rfl rfl
theorem w_1085 : (Jvm.Cond.instanceMethod ({ cls := "SealedWireModel", name := "greet", desc := "(I)I" } : Jvm.MethodName)) ∈ wG := in_t5 125 rfl rfl
theorem w_1086 : (Jvm.Cond.selects "SealedWireModel" ({ cls := "SealedWireModel", name := "greet", desc := "(I)I" } : Jvm.MethodName) ({ cls := "SealedWireModel", name := "greet", desc := "(I)I" } : Jvm.MethodName)) ∈ wG := in_t5 126 rfl rfl
theorem w_1087 : (Jvm.Cond.code ({ cls := "SealedWireModel", name := "greet", desc := "(I)I" } : Jvm.MethodName) prog_13_method_32_code (4 : Nat) (Option.some Jvm.ClassFile.FieldType.int)) ∈ wG := in_t5 127 rfl rfl
theorem w_1088 : (Jvm.Cond.methodLink "SealedWireModel" (237 : Nat) ({ cls := "SealedWireModel", name := "full", desc := "(I)Z" } : Jvm.MethodName)) ∈ wG := in_t5 128 rfl rfl
theorem w_1090 : (Jvm.Cond.instanceMethod ({ cls := "SealedWireModel", name := "full", desc := "(I)Z" } : Jvm.MethodName)) ∈ wG := in_t5 130 rfl rfl
theorem w_1091 : (Jvm.Cond.code ({ cls := "SealedWireModel", name := "full", desc := "(I)Z" } : Jvm.MethodName) prog_13_method_28_code (2 : Nat) (Option.some Jvm.ClassFile.FieldType.boolean)) ∈ wG := in_t5 131 rfl rfl
theorem w_1092 : (Jvm.Cond.methodLink "SealedWireModel" (240 : Nat) ({ cls := "SealedWireModel", name := "randomTo", desc := "(I[BI)V" } : Jvm.MethodName)) ∈ wG := in_t5 132 rfl rfl
theorem w_1094 : (Jvm.Cond.instanceMethod ({ cls := "SealedWireModel", name := "randomTo", desc := "(I[BI)V" } : Jvm.MethodName)) ∈ wG := in_t5 134 rfl rfl
theorem w_1095 : (Jvm.Cond.code ({ cls := "SealedWireModel", name := "randomTo", desc := "(I[BI)V" } : Jvm.MethodName) prog_13_method_31_code (4 : Nat) (Option.none : Option Jvm.ClassFile.FieldType)) ∈ wG := in_t5 135 rfl rfl
theorem w_1096 : (Jvm.Cond.methodLink "SealedWireModel" (234 : Nat) ({ cls := "SealedWireModel", name := "word", desc := "(I)V" } : Jvm.MethodName)) ∈ wG := in_t5 136 rfl rfl
theorem w_1098 : (Jvm.Cond.instanceMethod ({ cls := "SealedWireModel", name := "word", desc := "(I)V" } : Jvm.MethodName)) ∈ wG := in_t5 138 rfl rfl
theorem w_1099 : (Jvm.Cond.code ({ cls := "SealedWireModel", name := "word", desc := "(I)V" } : Jvm.MethodName) prog_13_method_3_code (3 : Nat) (Option.none : Option Jvm.ClassFile.FieldType)) ∈ wG := in_t5 139 rfl rfl
theorem w_1100 : (Jvm.Cond.methodLink "SealedWireModel" (244 : Nat) ({ cls := "SealedWireModel", name := "send", desc := "(III)I" } : Jvm.MethodName)) ∈ wG := in_t5 140 rfl rfl
theorem w_1102 : (Jvm.Cond.instanceMethod ({ cls := "SealedWireModel", name := "send", desc := "(III)I" } : Jvm.MethodName)) ∈ wG := in_t5 142 rfl rfl
theorem w_1103 : (Jvm.Cond.code ({ cls := "SealedWireModel", name := "send", desc := "(III)I" } : Jvm.MethodName) prog_13_method_29_code (6 : Nat) (Option.some Jvm.ClassFile.FieldType.int)) ∈ wG := in_t5 143 rfl rfl
theorem w_1104 : (Jvm.Cond.methodLink "SealedWireModel" (231 : Nat) ({ cls := "SealedWireModel", name := "at", desc := "(II)I" } : Jvm.MethodName)) ∈ wG := in_t5 144 rfl rfl
theorem w_1106 : (Jvm.Cond.instanceMethod ({ cls := "SealedWireModel", name := "at", desc := "(II)I" } : Jvm.MethodName)) ∈ wG := in_t5 146 rfl rfl
theorem w_1107 : (Jvm.Cond.code ({ cls := "SealedWireModel", name := "at", desc := "(II)I" } : Jvm.MethodName) prog_13_method_27_code (3 : Nat) (Option.some Jvm.ClassFile.FieldType.int)) ∈ wG := in_t5 147 rfl rfl
theorem w_1108 : (Jvm.Cond.methodLink "SealedWireLaw" (51 : Nat) ({ cls := "SealedWireModel", name := "idle", desc := "(I)I" } : Jvm.MethodName)) ∈ wG := in_t5 148 rfl rfl
theorem w_1109 : (Jvm.Cond.instanceMethod ({ cls := "SealedWireModel", name := "idle", desc := "(I)I" } : Jvm.MethodName)) ∈ wG := in_t5 149 rfl rfl
theorem w_1110 : (Jvm.Cond.selects "SealedWireModel" ({ cls := "SealedWireModel", name := "idle", desc := "(I)I" } : Jvm.MethodName) ({ cls := "SealedWireModel", name := "idle", desc := "(I)I" } : Jvm.MethodName)) ∈ wG := in_t5 150 rfl rfl
theorem w_1111 : (Jvm.Cond.code ({ cls := "SealedWireModel", name := "idle", desc := "(I)I" } : Jvm.MethodName) prog_13_method_33_code (2 : Nat) (Option.some Jvm.ClassFile.FieldType.int)) ∈ wG := in_t5 151 rfl rfl
theorem w_1112 : (Jvm.Cond.methodLink "SealedWireLaw" (56 : Nat) ({ cls := "SealedWireModel", name := "name", desc := "()I" } : Jvm.MethodName)) ∈ wG := in_t5 152 rfl rfl
theorem w_1113 : (Jvm.Cond.instanceMethod ({ cls := "SealedWireModel", name := "name", desc := "()I" } : Jvm.MethodName)) ∈ wG := in_t5 153 rfl rfl
theorem w_1114 : (Jvm.Cond.selects "SealedWireModel" ({ cls := "SealedWireModel", name := "name", desc := "()I" } : Jvm.MethodName) ({ cls := "SealedWireModel", name := "name", desc := "()I" } : Jvm.MethodName)) ∈ wG := in_t5 154 rfl rfl
theorem w_1115 : (Jvm.Cond.code ({ cls := "SealedWireModel", name := "name", desc := "()I" } : Jvm.MethodName) prog_13_method_34_code (3 : Nat) (Option.some Jvm.ClassFile.FieldType.int)) ∈ wG := in_t5 155 rfl rfl
theorem w_1116 : (Jvm.Cond.methodLink "SealedWireLaw" (60 : Nat) ({ cls := "SealedWireModel", name := "request", desc := "(I)I" } : Jvm.MethodName)) ∈ wG := in_t5 156 rfl rfl
theorem w_1117 : (Jvm.Cond.instanceMethod ({ cls := "SealedWireModel", name := "request", desc := "(I)I" } : Jvm.MethodName)) ∈ wG := in_t5 157 rfl rfl
theorem w_1118 : (Jvm.Cond.selects "SealedWireModel" ({ cls := "SealedWireModel", name := "request", desc := "(I)I" } : Jvm.MethodName) ({ cls := "SealedWireModel", name := "request", desc := "(I)I" } : Jvm.MethodName)) ∈ wG := in_t5 158 rfl rfl
theorem w_1119 : (Jvm.Cond.code ({ cls := "SealedWireModel", name := "request", desc := "(I)I" } : Jvm.MethodName) prog_13_method_37_code (4 : Nat) (Option.some Jvm.ClassFile.FieldType.int)) ∈ wG := in_t5 159 rfl rfl
theorem w_1120 : (Jvm.Cond.methodLink "SealedWireModel" (258 : Nat) ({ cls := "SealedWireModel", name := "say", desc := "(I)V" } : Jvm.MethodName)) ∈ wG := in_t5 160 rfl rfl
theorem w_1122 : (Jvm.Cond.instanceMethod ({ cls := "SealedWireModel", name := "say", desc := "(I)V" } : Jvm.MethodName)) ∈ wG := in_t5 162 rfl rfl
theorem w_1123 : (Jvm.Cond.code ({ cls := "SealedWireModel", name := "say", desc := "(I)V" } : Jvm.MethodName) prog_13_method_35_code (2 : Nat) (Option.none : Option Jvm.ClassFile.FieldType)) ∈ wG := in_t5 163 rfl rfl
theorem w_1124 : (Jvm.Cond.methodLink "SealedWireModel" (261 : Nat) ({ cls := "SealedWireModel", name := "sendSealed", desc := "(I)V" } : Jvm.MethodName)) ∈ wG := in_t5 164 rfl rfl
theorem w_1126 : (Jvm.Cond.instanceMethod ({ cls := "SealedWireModel", name := "sendSealed", desc := "(I)V" } : Jvm.MethodName)) ∈ wG := in_t5 166 rfl rfl
theorem w_1127 : (Jvm.Cond.code ({ cls := "SealedWireModel", name := "sendSealed", desc := "(I)V" } : Jvm.MethodName) prog_13_method_36_code (5 : Nat) (Option.none : Option Jvm.ClassFile.FieldType)) ∈ wG := in_t5 167 rfl rfl
theorem w_1128 : (Jvm.Cond.methodLink "SealedWireModel" (251 : Nat) ({ cls := "SealedWireModel", name := "cover", desc := "([BIII)V" } : Jvm.MethodName)) ∈ wG := in_t5 168 rfl rfl
theorem w_1130 : (Jvm.Cond.instanceMethod ({ cls := "SealedWireModel", name := "cover", desc := "([BIII)V" } : Jvm.MethodName)) ∈ wG := in_t5 170 rfl rfl
theorem w_1131 : (Jvm.Cond.code ({ cls := "SealedWireModel", name := "cover", desc := "([BIII)V" } : Jvm.MethodName) prog_13_method_19_code (6 : Nat) (Option.none : Option Jvm.ClassFile.FieldType)) ∈ wG := in_t5 171 rfl rfl
theorem w_1132 : (Jvm.Cond.methodLink "SealedWireModel" (212 : Nat) ({ cls := "SealedWireModel", name := "block", desc := "(II)V" } : Jvm.MethodName)) ∈ wG := in_t5 172 rfl rfl
theorem w_1134 : (Jvm.Cond.instanceMethod ({ cls := "SealedWireModel", name := "block", desc := "(II)V" } : Jvm.MethodName)) ∈ wG := in_t5 174 rfl rfl
theorem w_1135 : (Jvm.Cond.code ({ cls := "SealedWireModel", name := "block", desc := "(II)V" } : Jvm.MethodName) prog_13_method_14_code (6 : Nat) (Option.none : Option Jvm.ClassFile.FieldType)) ∈ wG := in_t5 175 rfl rfl
theorem w_1136 : (Jvm.Cond.constant "SealedWireModel" (190 : Nat) (1634760805 : Int32)) ∈ wG := in_t5 176 rfl rfl
theorem w_1137 : (Jvm.Cond.constant "SealedWireModel" (191 : Nat) (857760878 : Int32)) ∈ wG := in_t5 177 rfl rfl
theorem w_1138 : (Jvm.Cond.constant "SealedWireModel" (192 : Nat) (2036477234 : Int32)) ∈ wG := in_t5 178 rfl rfl
theorem w_1139 : (Jvm.Cond.constant "SealedWireModel" (193 : Nat) (1797285236 : Int32)) ∈ wG := in_t5 179 rfl rfl
theorem w_1140 : (Jvm.Cond.methodLink "SealedWireModel" (194 : Nat) ({ cls := "SealedWireModel", name := "low", desc := "([BI)I" } : Jvm.MethodName)) ∈ wG := in_t5 180 rfl rfl
theorem w_1141 : (Jvm.Cond.static ({ cls := "SealedWireModel", name := "low", desc := "([BI)I" } : Jvm.MethodName)) ∈ wG := in_t5 181 rfl rfl
theorem w_1142 : (Jvm.Cond.code ({ cls := "SealedWireModel", name := "low", desc := "([BI)I" } : Jvm.MethodName) prog_13_method_10_code (2 : Nat) (Option.some Jvm.ClassFile.FieldType.int)) ∈ wG := in_t5 182 rfl rfl
theorem w_1143 : (Jvm.Cond.methodLink "SealedWireModel" (198 : Nat) ({ cls := "SealedWireModel", name := "swapped", desc := "(I)I" } : Jvm.MethodName)) ∈ wG := in_t5 183 rfl rfl
theorem w_1144 : (Jvm.Cond.static ({ cls := "SealedWireModel", name := "swapped", desc := "(I)I" } : Jvm.MethodName)) ∈ wG := in_t5 184 rfl rfl
theorem w_1145 : (Jvm.Cond.code ({ cls := "SealedWireModel", name := "swapped", desc := "(I)I" } : Jvm.MethodName) prog_13_method_13_code (1 : Nat) (Option.some Jvm.ClassFile.FieldType.int)) ∈ wG := in_t5 185 rfl rfl
theorem w_1146 : (Jvm.Cond.constant "SealedWireModel" (189 : Nat) (65280 : Int32)) ∈ wG := in_t5 186 rfl rfl
theorem w_1147 : (Jvm.Cond.methodLink "SealedWireModel" (202 : Nat) ({ cls := "SealedWireModel", name := "mix", desc := "(IIII)V" } : Jvm.MethodName)) ∈ wG := in_t5 187 rfl rfl
theorem w_1149 : (Jvm.Cond.instanceMethod ({ cls := "SealedWireModel", name := "mix", desc := "(IIII)V" } : Jvm.MethodName)) ∈ wG := in_t5 189 rfl rfl
theorem w_1150 : (Jvm.Cond.code ({ cls := "SealedWireModel", name := "mix", desc := "(IIII)V" } : Jvm.MethodName) prog_13_method_11_code (5 : Nat) (Option.none : Option Jvm.ClassFile.FieldType)) ∈ wG := in_t5 190 rfl rfl
theorem w_1151 : (Jvm.Cond.methodLink "SealedWireModel" (185 : Nat) ({ cls := "SealedWireModel", name := "turned", desc := "(II)I" } : Jvm.MethodName)) ∈ wG := in_t5 191 rfl rfl
theorem w_1152 : (Jvm.Cond.static ({ cls := "SealedWireModel", name := "turned", desc := "(II)I" } : Jvm.MethodName)) ∈ wG := in_t5 192 rfl rfl
theorem w_1153 : (Jvm.Cond.code ({ cls := "SealedWireModel", name := "turned", desc := "(II)I" } : Jvm.MethodName) prog_13_method_12_code (2 : Nat) (Option.some Jvm.ClassFile.FieldType.int)) ∈ wG := in_t5 193 rfl rfl
theorem w_1154 : (Jvm.Cond.methodLink "SealedWireModel" (255 : Nat) ({ cls := "SealedWireModel", name := "tagRecord", desc := "([BIII)V" } : Jvm.MethodName)) ∈ wG := in_t5 194 rfl rfl
theorem w_1156 : (Jvm.Cond.instanceMethod ({ cls := "SealedWireModel", name := "tagRecord", desc := "([BIII)V" } : Jvm.MethodName)) ∈ wG := in_t5 196 rfl rfl
theorem w_1157 : (Jvm.Cond.code ({ cls := "SealedWireModel", name := "tagRecord", desc := "([BIII)V" } : Jvm.MethodName) prog_13_method_18_code (7 : Nat) (Option.none : Option Jvm.ClassFile.FieldType)) ∈ wG := in_t5 197 rfl rfl
theorem w_1158 : (Jvm.Cond.methodLink "SealedWireModel" (215 : Nat) ({ cls := "SealedWireModel", name := "tagOf", desc := "(I)V" } : Jvm.MethodName)) ∈ wG := in_t5 198 rfl rfl
theorem w_1160 : (Jvm.Cond.instanceMethod ({ cls := "SealedWireModel", name := "tagOf", desc := "(I)V" } : Jvm.MethodName)) ∈ wG := in_t5 200 rfl rfl
theorem w_1161 : (Jvm.Cond.code ({ cls := "SealedWireModel", name := "tagOf", desc := "(I)V" } : Jvm.MethodName) prog_13_method_17_code (5 : Nat) (Option.none : Option Jvm.ClassFile.FieldType)) ∈ wG := in_t5 201 rfl rfl
theorem w_1162 : (Jvm.Cond.methodLink "SealedWireModel" (209 : Nat) ({ cls := "SealedWireModel", name := "settle", desc := "()V" } : Jvm.MethodName)) ∈ wG := in_t5 202 rfl rfl
theorem w_1164 : (Jvm.Cond.instanceMethod ({ cls := "SealedWireModel", name := "settle", desc := "()V" } : Jvm.MethodName)) ∈ wG := in_t5 204 rfl rfl
theorem w_1165 : (Jvm.Cond.code ({ cls := "SealedWireModel", name := "settle", desc := "()V" } : Jvm.MethodName) prog_13_method_16_code (3 : Nat) (Option.none : Option Jvm.ClassFile.FieldType)) ∈ wG := in_t5 205 rfl rfl
theorem w_1166 : (Jvm.Cond.methodLink "SealedWireModel" (206 : Nat) ({ cls := "SealedWireModel", name := "carry", desc := "()V" } : Jvm.MethodName)) ∈ wG := in_t5 206 rfl rfl
theorem w_1168 : (Jvm.Cond.instanceMethod ({ cls := "SealedWireModel", name := "carry", desc := "()V" } : Jvm.MethodName)) ∈ wG := in_t5 208 rfl rfl
theorem w_1169 : (Jvm.Cond.code ({ cls := "SealedWireModel", name := "carry", desc := "()V" } : Jvm.MethodName) prog_13_method_15_code (2 : Nat) (Option.none : Option Jvm.ClassFile.FieldType)) ∈ wG := in_t5 209 rfl rfl
theorem w_1170 : (Jvm.Cond.methodLink "SealedWireLaw" (64 : Nat) ({ cls := "SealedWireModel", name := "renew", desc := "(I)I" } : Jvm.MethodName)) ∈ wG := in_t5 210 rfl rfl
theorem w_1171 : (Jvm.Cond.instanceMethod ({ cls := "SealedWireModel", name := "renew", desc := "(I)I" } : Jvm.MethodName)) ∈ wG := in_t5 211 rfl rfl
theorem w_1172 : (Jvm.Cond.selects "SealedWireModel" ({ cls := "SealedWireModel", name := "renew", desc := "(I)I" } : Jvm.MethodName) ({ cls := "SealedWireModel", name := "renew", desc := "(I)I" } : Jvm.MethodName)) ∈ wG := in_t5 212 rfl rfl
theorem w_1173 : (Jvm.Cond.code ({ cls := "SealedWireModel", name := "renew", desc := "(I)I" } : Jvm.MethodName) prog_13_method_40_code (3 : Nat) (Option.some Jvm.ClassFile.FieldType.int)) ∈ wG := in_t5 213 rfl rfl
theorem w_1174 : (Jvm.Cond.methodLink "SealedWireModel" (267 : Nat) ({ cls := "SealedWireModel", name := "kind", desc := "(II)I" } : Jvm.MethodName)) ∈ wG := in_t5 214 rfl rfl
theorem w_1176 : (Jvm.Cond.instanceMethod ({ cls := "SealedWireModel", name := "kind", desc := "(II)I" } : Jvm.MethodName)) ∈ wG := in_t5 216 rfl rfl
theorem w_1177 : (Jvm.Cond.code ({ cls := "SealedWireModel", name := "kind", desc := "(II)I" } : Jvm.MethodName) prog_13_method_39_code (3 : Nat) (Option.some Jvm.ClassFile.FieldType.int)) ∈ wG := in_t5 217 rfl rfl
theorem w_1178 : (Jvm.Cond.methodLink "SealedWireModel" (270 : Nat) ({ cls := "SealedWireModel", name := "next", desc := "(II)V" } : Jvm.MethodName)) ∈ wG := in_t5 218 rfl rfl
theorem w_1180 : (Jvm.Cond.instanceMethod ({ cls := "SealedWireModel", name := "next", desc := "(II)V" } : Jvm.MethodName)) ∈ wG := in_t5 220 rfl rfl
theorem w_1181 : (Jvm.Cond.code ({ cls := "SealedWireModel", name := "next", desc := "(II)V" } : Jvm.MethodName) prog_13_method_38_code (4 : Nat) (Option.none : Option Jvm.ClassFile.FieldType)) ∈ wG := in_t5 221 rfl rfl
theorem w_1182 : (Jvm.Cond.methodLink "SealedWireModel" (264 : Nat) ({ cls := "SealedWireModel", name := "macTo", desc := "([BI)V" } : Jvm.MethodName)) ∈ wG := in_t5 222 rfl rfl
theorem w_1184 : (Jvm.Cond.instanceMethod ({ cls := "SealedWireModel", name := "macTo", desc := "([BI)V" } : Jvm.MethodName)) ∈ wG := in_t5 224 rfl rfl
theorem w_1185 : (Jvm.Cond.code ({ cls := "SealedWireModel", name := "macTo", desc := "([BI)V" } : Jvm.MethodName) prog_13_method_8_code (4 : Nat) (Option.none : Option Jvm.ClassFile.FieldType)) ∈ wG := in_t5 225 rfl rfl
theorem w_1186 : (Jvm.Cond.methodLink "SealedWireLaw" (68 : Nat) ({ cls := "SealedWireModel", name := "close", desc := "(I)I" } : Jvm.MethodName)) ∈ wG := in_t5 226 rfl rfl
theorem w_1187 : (Jvm.Cond.instanceMethod ({ cls := "SealedWireModel", name := "close", desc := "(I)I" } : Jvm.MethodName)) ∈ wG := in_t5 227 rfl rfl
theorem w_1188 : (Jvm.Cond.selects "SealedWireModel" ({ cls := "SealedWireModel", name := "close", desc := "(I)I" } : Jvm.MethodName) ({ cls := "SealedWireModel", name := "close", desc := "(I)I" } : Jvm.MethodName)) ∈ wG := in_t5 228 rfl rfl
theorem w_1189 : (Jvm.Cond.code ({ cls := "SealedWireModel", name := "close", desc := "(I)I" } : Jvm.MethodName) prog_13_method_41_code (3 : Nat) (Option.some Jvm.ClassFile.FieldType.int)) ∈ wG := in_t5 229 rfl rfl
theorem w_1190 : (Jvm.Cond.methodLink "SealedWireLaw" (72 : Nat) ({ cls := "SealedWireModel", name := "receive", desc := "(I)I" } : Jvm.MethodName)) ∈ wG := in_t5 230 rfl rfl
theorem w_1191 : (Jvm.Cond.instanceMethod ({ cls := "SealedWireModel", name := "receive", desc := "(I)I" } : Jvm.MethodName)) ∈ wG := in_t5 231 rfl rfl
theorem w_1192 : (Jvm.Cond.selects "SealedWireModel" ({ cls := "SealedWireModel", name := "receive", desc := "(I)I" } : Jvm.MethodName) ({ cls := "SealedWireModel", name := "receive", desc := "(I)I" } : Jvm.MethodName)) ∈ wG := in_t5 232 rfl rfl
theorem w_1193 : (Jvm.Cond.code ({ cls := "SealedWireModel", name := "receive", desc := "(I)I" } : Jvm.MethodName) prog_13_method_54_code (6 : Nat) (Option.some Jvm.ClassFile.FieldType.int)) ∈ wG := in_t5 233 rfl rfl
theorem w_1194 : (Jvm.Cond.methodLink "SealedWireModel" (324 : Nat) ({ cls := "SealedWireModel", name := "handle", desc := "(III)I" } : Jvm.MethodName)) ∈ wG := in_t5 234 rfl rfl
theorem w_1196 : (Jvm.Cond.instanceMethod ({ cls := "SealedWireModel", name := "handle", desc := "(III)I" } : Jvm.MethodName)) ∈ wG := in_t5 236 rfl rfl
theorem w_1197 : (Jvm.Cond.code ({ cls := "SealedWireModel", name := "handle", desc := "(III)I" } : Jvm.MethodName) prog_13_method_53_code (5 : Nat) (Option.some Jvm.ClassFile.FieldType.int)) ∈ wG := in_t5 237 rfl rfl
theorem w_1198 : (Jvm.Cond.methodLink "SealedWireModel" (316 : Nat) ({ cls := "SealedWireModel", name := "greeted", desc := "(II)I" } : Jvm.MethodName)) ∈ wG := in_t5 238 rfl rfl
theorem w_1200 : (Jvm.Cond.instanceMethod ({ cls := "SealedWireModel", name := "greeted", desc := "(II)I" } : Jvm.MethodName)) ∈ wG := in_t6 0 rfl rfl
theorem w_1201 : (Jvm.Cond.code ({ cls := "SealedWireModel", name := "greeted", desc := "(II)I" } : Jvm.MethodName) prog_13_method_44_code (6 : Nat) (Option.some Jvm.ClassFile.FieldType.int)) ∈ wG := in_t6 1 rfl rfl
theorem w_1202 : (Jvm.Cond.methodLink "SealedWireModel" (276 : Nat) ({ cls := "SealedWireModel", name := "prove", desc := "(I[BII[BI)V" } : Jvm.MethodName)) ∈ wG := in_t6 2 rfl rfl
theorem w_1204 : (Jvm.Cond.instanceMethod ({ cls := "SealedWireModel", name := "prove", desc := "(I[BII[BI)V" } : Jvm.MethodName)) ∈ wG := in_t6 4 rfl rfl
theorem w_1205 : (Jvm.Cond.code ({ cls := "SealedWireModel", name := "prove", desc := "(I[BII[BI)V" } : Jvm.MethodName) prog_13_method_42_code (8 : Nat) (Option.none : Option Jvm.ClassFile.FieldType)) ∈ wG := in_t6 5 rfl rfl
theorem w_1206 : (Jvm.Cond.methodLink "SealedWireModel" (319 : Nat) ({ cls := "SealedWireModel", name := "answered", desc := "(II)I" } : Jvm.MethodName)) ∈ wG := in_t6 6 rfl rfl
theorem w_1208 : (Jvm.Cond.instanceMethod ({ cls := "SealedWireModel", name := "answered", desc := "(II)I" } : Jvm.MethodName)) ∈ wG := in_t6 8 rfl rfl
theorem w_1209 : (Jvm.Cond.code ({ cls := "SealedWireModel", name := "answered", desc := "(II)I" } : Jvm.MethodName) prog_13_method_45_code (7 : Nat) (Option.some Jvm.ClassFile.FieldType.int)) ∈ wG := in_t6 9 rfl rfl
theorem w_1210 : (Jvm.Cond.methodLink "SealedWireModel" (280 : Nat) ({ cls := "SealedWireModel", name := "same", desc := "([BI[BI)Z" } : Jvm.MethodName)) ∈ wG := in_t6 10 rfl rfl
theorem w_1211 : (Jvm.Cond.static ({ cls := "SealedWireModel", name := "same", desc := "([BI[BI)Z" } : Jvm.MethodName)) ∈ wG := in_t6 11 rfl rfl
theorem w_1212 : (Jvm.Cond.code ({ cls := "SealedWireModel", name := "same", desc := "([BI[BI)Z" } : Jvm.MethodName) prog_13_method_9_code (5 : Nat) (Option.some Jvm.ClassFile.FieldType.boolean)) ∈ wG := in_t6 12 rfl rfl
theorem w_1213 : (Jvm.Cond.methodLink "SealedWireModel" (284 : Nat) ({ cls := "SealedWireModel", name := "opens", desc := "(I[B)V" } : Jvm.MethodName)) ∈ wG := in_t6 13 rfl rfl
theorem w_1215 : (Jvm.Cond.instanceMethod ({ cls := "SealedWireModel", name := "opens", desc := "(I[B)V" } : Jvm.MethodName)) ∈ wG := in_t6 15 rfl rfl
theorem w_1216 : (Jvm.Cond.code ({ cls := "SealedWireModel", name := "opens", desc := "(I[B)V" } : Jvm.MethodName) prog_13_method_43_code (6 : Nat) (Option.none : Option Jvm.ClassFile.FieldType)) ∈ wG := in_t6 16 rfl rfl
theorem w_1217 : (Jvm.Cond.methodLink "SealedWireModel" (321 : Nat) ({ cls := "SealedWireModel", name := "sealed", desc := "(III)I" } : Jvm.MethodName)) ∈ wG := in_t6 17 rfl rfl
theorem w_1219 : (Jvm.Cond.instanceMethod ({ cls := "SealedWireModel", name := "sealed", desc := "(III)I" } : Jvm.MethodName)) ∈ wG := in_t6 19 rfl rfl
theorem w_1220 : (Jvm.Cond.code ({ cls := "SealedWireModel", name := "sealed", desc := "(III)I" } : Jvm.MethodName) prog_13_method_52_code (8 : Nat) (Option.some Jvm.ClassFile.FieldType.int)) ∈ wG := in_t6 20 rfl rfl
theorem w_1221 : (Jvm.Cond.methodLink "SealedWireModel" (301 : Nat) ({ cls := "SealedWireModel", name := "opened", desc := "(III)I" } : Jvm.MethodName)) ∈ wG := in_t6 21 rfl rfl
theorem w_1223 : (Jvm.Cond.instanceMethod ({ cls := "SealedWireModel", name := "opened", desc := "(III)I" } : Jvm.MethodName)) ∈ wG := in_t6 23 rfl rfl
theorem w_1224 : (Jvm.Cond.code ({ cls := "SealedWireModel", name := "opened", desc := "(III)I" } : Jvm.MethodName) prog_13_method_49_code (6 : Nat) (Option.some Jvm.ClassFile.FieldType.int)) ∈ wG := in_t6 24 rfl rfl
theorem w_1225 : (Jvm.Cond.methodLink "SealedWireModel" (304 : Nat) ({ cls := "SealedWireModel", name := "isRequest", desc := "(I)Z" } : Jvm.MethodName)) ∈ wG := in_t6 25 rfl rfl
theorem w_1227 : (Jvm.Cond.instanceMethod ({ cls := "SealedWireModel", name := "isRequest", desc := "(I)Z" } : Jvm.MethodName)) ∈ wG := in_t6 27 rfl rfl
theorem w_1228 : (Jvm.Cond.code ({ cls := "SealedWireModel", name := "isRequest", desc := "(I)Z" } : Jvm.MethodName) prog_13_method_50_code (3 : Nat) (Option.some Jvm.ClassFile.FieldType.boolean)) ∈ wG := in_t6 28 rfl rfl
theorem w_1229 : (Jvm.Cond.methodLink "SealedWireModel" (307 : Nat) ({ cls := "SealedWireModel", name := "isAnswer", desc := "(I)Z" } : Jvm.MethodName)) ∈ wG := in_t6 29 rfl rfl
theorem w_1231 : (Jvm.Cond.instanceMethod ({ cls := "SealedWireModel", name := "isAnswer", desc := "(I)Z" } : Jvm.MethodName)) ∈ wG := in_t6 31 rfl rfl
theorem w_1232 : (Jvm.Cond.code ({ cls := "SealedWireModel", name := "isAnswer", desc := "(I)Z" } : Jvm.MethodName) prog_13_method_51_code (2 : Nat) (Option.some Jvm.ClassFile.FieldType.boolean)) ∈ wG := in_t6 32 rfl rfl
theorem w_1233 : (Jvm.Cond.methodLink "SealedWireModel" (310 : Nat) ({ cls := "SealedWireModel", name := "work", desc := "(I)V" } : Jvm.MethodName)) ∈ wG := in_t6 33 rfl rfl
theorem w_1235 : (Jvm.Cond.instanceMethod ({ cls := "SealedWireModel", name := "work", desc := "(I)V" } : Jvm.MethodName)) ∈ wG := in_t6 35 rfl rfl
theorem w_1236 : (Jvm.Cond.code ({ cls := "SealedWireModel", name := "work", desc := "(I)V" } : Jvm.MethodName) prog_13_method_48_code (10 : Nat) (Option.none : Option Jvm.ClassFile.FieldType)) ∈ wG := in_t6 36 rfl rfl
theorem w_1237 : (Jvm.Cond.methodLink "SealedWireModel" (291 : Nat) ({ cls := "SealedWireModel", name := "place", desc := "([BII)I" } : Jvm.MethodName)) ∈ wG := in_t6 37 rfl rfl
theorem w_1239 : (Jvm.Cond.instanceMethod ({ cls := "SealedWireModel", name := "place", desc := "([BII)I" } : Jvm.MethodName)) ∈ wG := in_t6 39 rfl rfl
theorem w_1240 : (Jvm.Cond.code ({ cls := "SealedWireModel", name := "place", desc := "([BII)I" } : Jvm.MethodName) prog_13_method_46_code (7 : Nat) (Option.some Jvm.ClassFile.FieldType.int)) ∈ wG := in_t6 40 rfl rfl
theorem w_1241 : (Jvm.Cond.methodLink "SealedWireModel" (295 : Nat) ({ cls := "SealedWireModel", name := "remove", desc := "(I)V" } : Jvm.MethodName)) ∈ wG := in_t6 41 rfl rfl
theorem w_1243 : (Jvm.Cond.instanceMethod ({ cls := "SealedWireModel", name := "remove", desc := "(I)V" } : Jvm.MethodName)) ∈ wG := in_t6 43 rfl rfl
theorem w_1244 : (Jvm.Cond.code ({ cls := "SealedWireModel", name := "remove", desc := "(I)V" } : Jvm.MethodName) prog_13_method_47_code (3 : Nat) (Option.none : Option Jvm.ClassFile.FieldType)) ∈ wG := in_t6 44 rfl rfl
theorem w_1245 : (Jvm.Cond.methodLink "SealedWireModel" (327 : Nat) ({ cls := "SealedWireModel", name := "take", desc := "(II)V" } : Jvm.MethodName)) ∈ wG := in_t6 45 rfl rfl
theorem w_1247 : (Jvm.Cond.instanceMethod ({ cls := "SealedWireModel", name := "take", desc := "(II)V" } : Jvm.MethodName)) ∈ wG := in_t6 47 rfl rfl
theorem w_1248 : (Jvm.Cond.code ({ cls := "SealedWireModel", name := "take", desc := "(II)V" } : Jvm.MethodName) prog_13_method_30_code (5 : Nat) (Option.none : Option Jvm.ClassFile.FieldType)) ∈ wG := in_t6 48 rfl rfl
theorem w_1249 : (Jvm.Cond.methodLink "SealedWireLaw" (77 : Nat) ({ cls := "SealedWireModel", name := "wire", desc := "(III)I" } : Jvm.MethodName)) ∈ wG := in_t6 49 rfl rfl
theorem w_1250 : (Jvm.Cond.instanceMethod ({ cls := "SealedWireModel", name := "wire", desc := "(III)I" } : Jvm.MethodName)) ∈ wG := in_t6 50 rfl rfl
theorem w_1251 : (Jvm.Cond.selects "SealedWireModel" ({ cls := "SealedWireModel", name := "wire", desc := "(III)I" } : Jvm.MethodName) ({ cls := "SealedWireModel", name := "wire", desc := "(III)I" } : Jvm.MethodName)) ∈ wG := in_t6 51 rfl rfl
theorem w_1252 : (Jvm.Cond.code ({ cls := "SealedWireModel", name := "wire", desc := "(III)I" } : Jvm.MethodName) prog_13_method_56_code (5 : Nat) (Option.some Jvm.ClassFile.FieldType.int)) ∈ wG := in_t6 52 rfl rfl
theorem w_1253 : (Jvm.Cond.methodLink "SealedWireModel" (330 : Nat) ({ cls := "SealedWireModel", name := "is", desc := "(II)Z" } : Jvm.MethodName)) ∈ wG := in_t6 53 rfl rfl
theorem w_1255 : (Jvm.Cond.instanceMethod ({ cls := "SealedWireModel", name := "is", desc := "(II)Z" } : Jvm.MethodName)) ∈ wG := in_t6 55 rfl rfl
theorem w_1256 : (Jvm.Cond.code ({ cls := "SealedWireModel", name := "is", desc := "(II)Z" } : Jvm.MethodName) prog_13_method_55_code (3 : Nat) (Option.some Jvm.ClassFile.FieldType.boolean)) ∈ wG := in_t6 56 rfl rfl
theorem w_1257 : (Jvm.Cond.methodLink "SealedWireLaw" (82 : Nat) ({ cls := "SealedWireModel", name := "flip", desc := "(IIII)I" } : Jvm.MethodName)) ∈ wG := in_t6 57 rfl rfl
theorem w_1258 : (Jvm.Cond.instanceMethod ({ cls := "SealedWireModel", name := "flip", desc := "(IIII)I" } : Jvm.MethodName)) ∈ wG := in_t6 58 rfl rfl
theorem w_1259 : (Jvm.Cond.selects "SealedWireModel" ({ cls := "SealedWireModel", name := "flip", desc := "(IIII)I" } : Jvm.MethodName) ({ cls := "SealedWireModel", name := "flip", desc := "(IIII)I" } : Jvm.MethodName)) ∈ wG := in_t6 59 rfl rfl
theorem w_1260 : (Jvm.Cond.code ({ cls := "SealedWireModel", name := "flip", desc := "(IIII)I" } : Jvm.MethodName) prog_13_method_57_code (5 : Nat) (Option.some Jvm.ClassFile.FieldType.int)) ∈ wG := in_t6 60 rfl rfl
theorem w_1261 : (Jvm.Cond.methodLink "SealedWireLaw" (86 : Nat) ({ cls := "SealedWireModel", name := "drop", desc := "(II)I" } : Jvm.MethodName)) ∈ wG := in_t6 61 rfl rfl
theorem w_1262 : (Jvm.Cond.instanceMethod ({ cls := "SealedWireModel", name := "drop", desc := "(II)I" } : Jvm.MethodName)) ∈ wG := in_t6 62 rfl rfl
theorem w_1263 : (Jvm.Cond.selects "SealedWireModel" ({ cls := "SealedWireModel", name := "drop", desc := "(II)I" } : Jvm.MethodName) ({ cls := "SealedWireModel", name := "drop", desc := "(II)I" } : Jvm.MethodName)) ∈ wG := in_t6 63 rfl rfl
theorem w_1264 : (Jvm.Cond.code ({ cls := "SealedWireModel", name := "drop", desc := "(II)I" } : Jvm.MethodName) prog_13_method_58_code (3 : Nat) (Option.some Jvm.ClassFile.FieldType.int)) ∈ wG := in_t6 64 rfl rfl
theorem w_1265 : (Jvm.Cond.methodLink "SealedWireLaw" (90 : Nat) ({ cls := "SealedWireModel", name := "copy", desc := "(III)I" } : Jvm.MethodName)) ∈ wG := in_t6 65 rfl rfl
theorem w_1266 : (Jvm.Cond.instanceMethod ({ cls := "SealedWireModel", name := "copy", desc := "(III)I" } : Jvm.MethodName)) ∈ wG := in_t6 66 rfl rfl
theorem w_1267 : (Jvm.Cond.selects "SealedWireModel" ({ cls := "SealedWireModel", name := "copy", desc := "(III)I" } : Jvm.MethodName) ({ cls := "SealedWireModel", name := "copy", desc := "(III)I" } : Jvm.MethodName)) ∈ wG := in_t6 67 rfl rfl
theorem w_1268 : (Jvm.Cond.code ({ cls := "SealedWireModel", name := "copy", desc := "(III)I" } : Jvm.MethodName) prog_13_method_60_code (4 : Nat) (Option.some Jvm.ClassFile.FieldType.int)) ∈ wG := in_t6 68 rfl rfl
theorem w_1269 : (Jvm.Cond.methodLink "SealedWireModel" (334 : Nat) ({ cls := "SealedWireModel", name := "last", desc := "(I[BII)I" } : Jvm.MethodName)) ∈ wG := in_t6 69 rfl rfl
theorem w_1271 : (Jvm.Cond.instanceMethod ({ cls := "SealedWireModel", name := "last", desc := "(I[BII)I" } : Jvm.MethodName)) ∈ wG := in_t6 71 rfl rfl
theorem w_1272 : (Jvm.Cond.code ({ cls := "SealedWireModel", name := "last", desc := "(I[BII)I" } : Jvm.MethodName) prog_13_method_59_code (7 : Nat) (Option.some Jvm.ClassFile.FieldType.int)) ∈ wG := in_t6 72 rfl rfl
theorem w_1273 : (Jvm.Cond.methodLink "SealedWireLaw" (94 : Nat) ({ cls := "SealedWireModel", name := "hurry", desc := "(II)I" } : Jvm.MethodName)) ∈ wG := in_t6 73 rfl rfl
theorem w_1274 : (Jvm.Cond.instanceMethod ({ cls := "SealedWireModel", name := "hurry", desc := "(II)I" } : Jvm.MethodName)) ∈ wG := in_t6 74 rfl rfl
theorem w_1275 : (Jvm.Cond.selects "SealedWireModel" ({ cls := "SealedWireModel", name := "hurry", desc := "(II)I" } : Jvm.MethodName) ({ cls := "SealedWireModel", name := "hurry", desc := "(II)I" } : Jvm.MethodName)) ∈ wG := in_t6 75 rfl rfl
theorem w_1276 : (Jvm.Cond.code ({ cls := "SealedWireModel", name := "hurry", desc := "(II)I" } : Jvm.MethodName) prog_13_method_61_code (6 : Nat) (Option.some Jvm.ClassFile.FieldType.int)) ∈ wG := in_t6 76 rfl rfl
theorem w_1277 : (Jvm.Cond.methodLink "SealedWireLaw" (98 : Nat) ({ cls := "SealedWireModel", name := "forge", desc := "(I)I" } : Jvm.MethodName)) ∈ wG := in_t6 77 rfl rfl
theorem w_1278 : (Jvm.Cond.instanceMethod ({ cls := "SealedWireModel", name := "forge", desc := "(I)I" } : Jvm.MethodName)) ∈ wG := in_t6 78 rfl rfl
theorem w_1279 : (Jvm.Cond.selects "SealedWireModel" ({ cls := "SealedWireModel", name := "forge", desc := "(I)I" } : Jvm.MethodName) ({ cls := "SealedWireModel", name := "forge", desc := "(I)I" } : Jvm.MethodName)) ∈ wG := in_t6 79 rfl rfl
theorem w_1280 : (Jvm.Cond.code ({ cls := "SealedWireModel", name := "forge", desc := "(I)I" } : Jvm.MethodName) prog_13_method_62_code (3 : Nat) (Option.some Jvm.ClassFile.FieldType.int)) ∈ wG := in_t6 80 rfl rfl
theorem w_1281 : (Jvm.Cond.methodLink "SealedWireLaw" (102 : Nat) ({ cls := "SealedWireModel", name := "answer", desc := "()I" } : Jvm.MethodName)) ∈ wG := in_t6 81 rfl rfl
theorem w_1282 : (Jvm.Cond.instanceMethod ({ cls := "SealedWireModel", name := "answer", desc := "()I" } : Jvm.MethodName)) ∈ wG := in_t6 82 rfl rfl
theorem w_1283 : (Jvm.Cond.selects "SealedWireModel" ({ cls := "SealedWireModel", name := "answer", desc := "()I" } : Jvm.MethodName) ({ cls := "SealedWireModel", name := "answer", desc := "()I" } : Jvm.MethodName)) ∈ wG := in_t6 83 rfl rfl
theorem w_1284 : (Jvm.Cond.code ({ cls := "SealedWireModel", name := "answer", desc := "()I" } : Jvm.MethodName) prog_13_method_63_code (2 : Nat) (Option.some Jvm.ClassFile.FieldType.int)) ∈ wG := in_t6 84 rfl rfl
theorem w_1285 : (Jvm.Cond.methodLink "SealedWireLaw" (106 : Nat) ({ cls := "SealedWireModel", name := "stored", desc := "()I" } : Jvm.MethodName)) ∈ wG := in_t6 85 rfl rfl
theorem w_1286 : (Jvm.Cond.instanceMethod ({ cls := "SealedWireModel", name := "stored", desc := "()I" } : Jvm.MethodName)) ∈ wG := in_t6 86 rfl rfl
theorem w_1287 : (Jvm.Cond.selects "SealedWireModel" ({ cls := "SealedWireModel", name := "stored", desc := "()I" } : Jvm.MethodName) ({ cls := "SealedWireModel", name := "stored", desc := "()I" } : Jvm.MethodName)) ∈ wG := in_t6 87 rfl rfl
theorem w_1288 : (Jvm.Cond.code ({ cls := "SealedWireModel", name := "stored", desc := "()I" } : Jvm.MethodName) prog_13_method_64_code (3 : Nat) (Option.some Jvm.ClassFile.FieldType.int)) ∈ wG := in_t6 88 rfl rfl
theorem w_1289 : (Jvm.Cond.methodLink "SealedWireLaw" (110 : Nat) ({ cls := "SealedWireModel", name := "look", desc := "(II)I" } : Jvm.MethodName)) ∈ wG := in_t6 89 rfl rfl
theorem w_1290 : (Jvm.Cond.instanceMethod ({ cls := "SealedWireModel", name := "look", desc := "(II)I" } : Jvm.MethodName)) ∈ wG := in_t6 90 rfl rfl
theorem w_1291 : (Jvm.Cond.selects "SealedWireModel" ({ cls := "SealedWireModel", name := "look", desc := "(II)I" } : Jvm.MethodName) ({ cls := "SealedWireModel", name := "look", desc := "(II)I" } : Jvm.MethodName)) ∈ wG := in_t6 91 rfl rfl
theorem w_1292 : (Jvm.Cond.code ({ cls := "SealedWireModel", name := "look", desc := "(II)I" } : Jvm.MethodName) prog_13_method_65_code (5 : Nat) (Option.some Jvm.ClassFile.FieldType.int)) ∈ wG := in_t6 92 rfl rfl
theorem w_1293 : (Jvm.Cond.methodLink "SealedWireLaw" (114 : Nat) ({ cls := "SealedWireModel", name := "count", desc := "(I)I" } : Jvm.MethodName)) ∈ wG := in_t6 93 rfl rfl
theorem w_1294 : (Jvm.Cond.instanceMethod ({ cls := "SealedWireModel", name := "count", desc := "(I)I" } : Jvm.MethodName)) ∈ wG := in_t6 94 rfl rfl
theorem w_1295 : (Jvm.Cond.selects "SealedWireModel" ({ cls := "SealedWireModel", name := "count", desc := "(I)I" } : Jvm.MethodName) ({ cls := "SealedWireModel", name := "count", desc := "(I)I" } : Jvm.MethodName)) ∈ wG := in_t6 95 rfl rfl
theorem w_1296 : (Jvm.Cond.code ({ cls := "SealedWireModel", name := "count", desc := "(I)I" } : Jvm.MethodName) prog_13_method_66_code (2 : Nat) (Option.some Jvm.ClassFile.FieldType.int)) ∈ wG := in_t6 96 rfl rfl
