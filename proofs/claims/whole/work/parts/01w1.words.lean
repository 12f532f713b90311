theorem w_547 : (Jvm.Cond.methodLink "SealedWire$Poly" (42 : Nat) ({ cls := "SealedWire$Bytes", name := "size", desc := "()I" } : Jvm.MethodName)) ∈ wG := in_t3 67 rfl rfl
theorem w_548 : (Jvm.Cond.methodLink "SealedWire$Poly" (72 : Nat) ({ cls := "SealedWire$Bytes", name := "put", desc := "(I)V" } : Jvm.MethodName)) ∈ wG := in_t3 68 rfl rfl
theorem w_549 : (Jvm.Cond.methodLink "SealedWire$Poly" (63 : Nat) ({ cls := "java/lang/Integer", name := "reverseBytes", desc := "(I)I" } : Jvm.MethodName)) ∈ wG := in_t3 69 rfl rfl
theorem w_550 : (Jvm.Cond.methodLink "SealedWire$Poly" (69 : Nat) ({ cls := "SealedWire$Bytes", name := "putNumber", desc := "(I)V" } : Jvm.MethodName)) ∈ wG := in_t3 70 rfl rfl
theorem w_551 : (Jvm.Cond.methodLink "SealedWire$Poly" (38 : Nat) ({ cls := "SealedWire$Poly", name := "begin", desc := "(LSealedWire$Stream;)V" } : Jvm.MethodName)) ∈ wG := in_t3 71 rfl rfl
theorem w_553 : (Jvm.Cond.instanceMethod ({ cls := "SealedWire$Poly", name := "begin", desc := "(LSealedWire$Stream;)V" } : Jvm.MethodName)) ∈ wG := in_t3 73 rfl rfl
theorem w_554 : (Jvm.Cond.code ({ cls := "SealedWire$Poly", name := "begin", desc := "(LSealedWire$Stream;)V" } : Jvm.MethodName) prog_5_method_5_code (3 : Nat) (Option.none : Option Jvm.ClassFile.FieldType)) ∈ wG := in_t3 74 rfl rfl
theorem w_555 : (Jvm.Cond.methodLink "SealedWire$Poly" (75 : Nat) ({ cls := "SealedWire$Stream", name := "word", desc := "(I)I" } : Jvm.MethodName)) ∈ wG := in_t3 75 rfl rfl
theorem w_556 : (Jvm.Cond.instanceMethod ({ cls := "SealedWire$Stream", name := "word", desc := "(I)I" } : Jvm.MethodName)) ∈ wG := in_t3 76 rfl rfl
theorem w_557 : (Jvm.Cond.selects "SealedWire$Stream" ({ cls := "SealedWire$Stream", name := "word", desc := "(I)I" } : Jvm.MethodName) ({ cls := "SealedWire$Stream", name := "word", desc := "(I)I" } : Jvm.MethodName)) ∈ wG := in_t3 77 rfl rfl
theorem w_558 : (Jvm.Cond.code ({ cls := "SealedWire$Stream", name := "word", desc := "(I)I" } : Jvm.MethodName) prog_10_method_5_code (2 : Nat) (Option.some Jvm.ClassFile.FieldType.int)) ∈ wG := in_t3 78 rfl rfl
theorem w_559 : (Jvm.Cond.constant "SealedWire$Poly" (80 : Nat) (268435455 : Int32)) ∈ wG := in_t3 79 rfl rfl
theorem w_560 : (Jvm.Cond.constant "SealedWire$Poly" (81 : Nat) (268435452 : Int32)) ∈ wG := in_t3 80 rfl rfl
theorem w_561 : (Jvm.Cond.methodLink "SealedWire$Poly" (82 : Nat) ({ cls := "SealedWire$Poly", name := "limbOfWords", desc := "(I)J" } : Jvm.MethodName)) ∈ wG := in_t3 81 rfl rfl
theorem w_563 : (Jvm.Cond.instanceMethod ({ cls := "SealedWire$Poly", name := "limbOfWords", desc := "(I)J" } : Jvm.MethodName)) ∈ wG := in_t3 83 rfl rfl
theorem w_564 : (Jvm.Cond.code ({ cls := "SealedWire$Poly", name := "limbOfWords", desc := "(I)J" } : Jvm.MethodName) prog_5_method_7_code (6 : Nat) (Option.some Jvm.ClassFile.FieldType.long)) ∈ wG := in_t3 84 rfl rfl
theorem w_565 : (Jvm.Cond.constantLong "SealedWire$Poly" (102 : Nat) (67108863 : Int64)) ∈ wG := in_t3 85 rfl rfl
theorem w_566 : (Jvm.Cond.constantLong "SealedWire$Poly" (104 : Nat) (4294967295 : Int64)) ∈ wG := in_t3 86 rfl rfl
theorem w_567 : (Jvm.Cond.methodLink "SealedWire$Poly" (46 : Nat) ({ cls := "SealedWire$Poly", name := "takeBlock", desc := "(I)V" } : Jvm.MethodName)) ∈ wG := in_t3 87 rfl rfl
theorem w_569 : (Jvm.Cond.instanceMethod ({ cls := "SealedWire$Poly", name := "takeBlock", desc := "(I)V" } : Jvm.MethodName)) ∈ wG := in_t3 89 rfl rfl
theorem w_570 : (Jvm.Cond.code ({ cls := "SealedWire$Poly", name := "takeBlock", desc := "(I)V" } : Jvm.MethodName) prog_5_method_6_code (4 : Nat) (Option.none : Option Jvm.ClassFile.FieldType)) ∈ wG := in_t3 90 rfl rfl
theorem w_571 : (Jvm.Cond.methodLink "SealedWire$Poly" (86 : Nat) ({ cls := "SealedWire$Bytes", name := "numberAt", desc := "(I)I" } : Jvm.MethodName)) ∈ wG := in_t3 91 rfl rfl
theorem w_572 : (Jvm.Cond.constantLong "SealedWire$Poly" (89 : Nat) (16777216 : Int64)) ∈ wG := in_t3 92 rfl rfl
theorem w_573 : (Jvm.Cond.constantLong "SealedWire$Poly" (91 : Nat) (5 : Int64)) ∈ wG := in_t3 93 rfl rfl
theorem w_574 : (Jvm.Cond.methodLink "SealedWire$Poly" (93 : Nat) ({ cls := "java/lang/System", name := "arraycopy", desc := "(Ljava/lang/Object;ILjava/lang/Object;II)V" } : Jvm.MethodName)) ∈ wG := in_t3 94 rfl rfl
theorem w_575 : (Jvm.Cond.methodLink "SealedWire$Poly" (99 : Nat) ({ cls := "SealedWire$Poly", name := "reduce", desc := "()V" } : Jvm.MethodName)) ∈ wG := in_t3 95 rfl rfl
theorem w_577 : (Jvm.Cond.instanceMethod ({ cls := "SealedWire$Poly", name := "reduce", desc := "()V" } : Jvm.MethodName)) ∈ wG := in_t3 97 rfl rfl
theorem w_578 : (Jvm.Cond.code ({ cls := "SealedWire$Poly", name := "reduce", desc := "()V" } : Jvm.MethodName) prog_5_method_8_code (3 : Nat) (Option.none : Option Jvm.ClassFile.FieldType)) ∈ wG := in_t3 98 rfl rfl
theorem w_579 : (Jvm.Cond.methodLink "SealedWire$Poly" (106 : Nat) ({ cls := "SealedWire$Poly", name := "carry", desc := "([J)J" } : Jvm.MethodName)) ∈ wG := in_t3 99 rfl rfl
theorem w_580 : (Jvm.Cond.static ({ cls := "SealedWire$Poly", name := "carry", desc := "([J)J" } : Jvm.MethodName)) ∈ wG := in_t3 100 rfl rfl
theorem w_581 : (Jvm.Cond.code ({ cls := "SealedWire$Poly", name := "carry", desc := "([J)J" } : Jvm.MethodName) prog_5_method_9_code (4 : Nat) (Option.some Jvm.ClassFile.FieldType.long)) ∈ wG := in_t3 101 rfl rfl
theorem w_582 : (Jvm.Cond.methodLink "SealedWire$Poly" (49 : Nat) ({ cls := "SealedWire$Poly", name := "finish", desc := "(LSealedWire$Stream;LSealedWire$Bytes;)V" } : Jvm.MethodName)) ∈ wG := in_t3 102 rfl rfl
theorem w_584 : (Jvm.Cond.instanceMethod ({ cls := "SealedWire$Poly", name := "finish", desc := "(LSealedWire$Stream;LSealedWire$Bytes;)V" } : Jvm.MethodName)) ∈ wG := in_t3 104 rfl rfl
theorem w_585 : (Jvm.Cond.code ({ cls := "SealedWire$Poly", name := "finish", desc := "(LSealedWire$Stream;LSealedWire$Bytes;)V" } : Jvm.MethodName) prog_5_method_10_code (8 : Nat) (Option.none : Option Jvm.ClassFile.FieldType)) ∈ wG := in_t3 105 rfl rfl
theorem w_586 : (Jvm.Cond.methodLink "SealedWire$Sealer" (71 : Nat) ({ cls := "SealedWire$Bytes", name := "putAll", desc := "(LSealedWire$Bytes;)V" } : Jvm.MethodName)) ∈ wG := in_t3 106 rfl rfl
theorem w_587 : (Jvm.Cond.methodLink "SealedWire$Sealer" (75 : Nat) ({ cls := "SealedWire$Wire", name := "send", desc := "()V" } : Jvm.MethodName)) ∈ wG := in_t3 107 rfl rfl
theorem w_588 : (Jvm.Cond.methodLink "SealedWire$Sealer" (78 : Nat) ({ cls := "SealedWire$Direction", name := "step", desc := "()V" } : Jvm.MethodName)) ∈ wG := in_t3 108 rfl rfl
theorem w_589 : (Jvm.Cond.instanceMethod ({ cls := "SealedWire$Direction", name := "step", desc := "()V" } : Jvm.MethodName)) ∈ wG := in_t3 109 rfl rfl
theorem w_590 : (Jvm.Cond.selects "SealedWire$Direction" ({ cls := "SealedWire$Direction", name := "step", desc := "()V" } : Jvm.MethodName) ({ cls := "SealedWire$Direction", name := "step", desc := "()V" } : Jvm.MethodName)) ∈ wG := in_t3 110 rfl rfl
theorem w_591 : (Jvm.Cond.code ({ cls := "SealedWire$Direction", name := "step", desc := "()V" } : Jvm.MethodName) prog_3_method_5_code (1 : Nat) (Option.none : Option Jvm.ClassFile.FieldType)) ∈ wG := in_t3 111 rfl rfl
theorem w_592 : (Jvm.Cond.methodLink "SealedWireLaw" (61 : Nat) ({ cls := "SealedWire", name := "renew", desc := "(I)I" } : Jvm.MethodName)) ∈ wG := in_t3 112 rfl rfl
theorem w_593 : (Jvm.Cond.instanceMethod ({ cls := "SealedWire", name := "renew", desc := "(I)I" } : Jvm.MethodName)) ∈ wG := in_t3 113 rfl rfl
theorem w_594 : (Jvm.Cond.selects "SealedWire" ({ cls := "SealedWire", name := "renew", desc := "(I)I" } : Jvm.MethodName) ({ cls := "SealedWire", name := "renew", desc := "(I)I" } : Jvm.MethodName)) ∈ wG := in_t3 114 rfl rfl
theorem w_595 : (Jvm.Cond.code ({ cls := "SealedWire", name := "renew", desc := "(I)I" } : Jvm.MethodName) prog_1_method_11_code (3 : Nat) (Option.some Jvm.ClassFile.FieldType.int)) ∈ wG := in_t3 115 rfl rfl
theorem w_596 : (Jvm.Cond.methodLink "SealedWire" (163 : Nat) ({ cls := "SealedWire", name := "sendBare", desc := "(II)I" } : Jvm.MethodName)) ∈ wG := in_t3 116 rfl rfl
theorem w_598 : (Jvm.Cond.instanceMethod ({ cls := "SealedWire", name := "sendBare", desc := "(II)I" } : Jvm.MethodName)) ∈ wG := in_t3 118 rfl rfl
theorem w_599 : (Jvm.Cond.code ({ cls := "SealedWire", name := "sendBare", desc := "(II)I" } : Jvm.MethodName) prog_1_method_32_code (5 : Nat) (Option.some Jvm.ClassFile.FieldType.int)) ∈ wG := in_t3 119 rfl rfl
theorem w_600 : (Jvm.Cond.methodLink "SealedWire" (173 : Nat) ({ cls := "SealedWire", name := "wireOf", desc := "(I)LSealedWire$Wire;" } : Jvm.MethodName)) ∈ wG := in_t3 120 rfl rfl
theorem w_602 : (Jvm.Cond.instanceMethod ({ cls := "SealedWire", name := "wireOf", desc := "(I)LSealedWire$Wire;" } : Jvm.MethodName)) ∈ wG := in_t3 122 rfl rfl
theorem w_603 : (Jvm.Cond.code ({ cls := "SealedWire", name := "wireOf", desc := "(I)LSealedWire$Wire;" } : Jvm.MethodName) prog_1_method_27_code (2 : Nat) (Option.some (Jvm.ClassFile.FieldType.object "SealedWire$Wire"))) ∈ wG := in_t3 123 rfl rfl
theorem w_604 : (Jvm.Cond.methodLink "SealedWire" (167 : Nat) ({ cls := "SealedWire$Side", name := "makeKeyAnew", desc := "(I)V" } : Jvm.MethodName)) ∈ wG := in_t3 124 rfl rfl
theorem w_605 : (Jvm.Cond.instanceMethod ({ cls := "SealedWire$Side", name := "makeKeyAnew", desc := "(I)V" } : Jvm.MethodName)) ∈ wG := in_t3 125 rfl rfl
theorem w_606 : (Jvm.Cond.selects "SealedWire$Side" ({ cls := "SealedWire$Side", name := "makeKeyAnew", desc := "(I)V" } : Jvm.MethodName) ({ cls := "SealedWire$Side", name := "makeKeyAnew", desc := "(I)V" } : Jvm.MethodName)) ∈ wG := in_t3 126 rfl rfl
theorem w_607 : (Jvm.Cond.code ({ cls := "SealedWire$Side", name := "makeKeyAnew", desc := "(I)V" } : Jvm.MethodName) prog_8_method_20_code (3 : Nat) (Option.none : Option Jvm.ClassFile.FieldType)) ∈ wG := in_t3 127 rfl rfl
theorem w_608 : (Jvm.Cond.methodLink "SealedWire$Side" (105 : Nat) ({ cls := "SealedWire$Side", name := "direction", desc := "(I)LSealedWire$Direction;" } : Jvm.MethodName)) ∈ wG := in_t3 128 rfl rfl
theorem w_609 : (Jvm.Cond.methodLink "SealedWire$Side" (109 : Nat) ({ cls := "SealedWire$Direction", name := "sealingKey", desc := "()LSealedWire$Bytes;" } : Jvm.MethodName)) ∈ wG := in_t3 129 rfl rfl
theorem w_610 : (Jvm.Cond.methodLink "SealedWire$Side" (113 : Nat) ({ cls := "SealedWire$Direction", name := "generation", desc := "()I" } : Jvm.MethodName)) ∈ wG := in_t3 130 rfl rfl
theorem w_611 : (Jvm.Cond.instanceMethod ({ cls := "SealedWire$Direction", name := "generation", desc := "()I" } : Jvm.MethodName)) ∈ wG := in_t3 131 rfl rfl
theorem w_612 : (Jvm.Cond.selects "SealedWire$Direction" ({ cls := "SealedWire$Direction", name := "generation", desc := "()I" } : Jvm.MethodName) ({ cls := "SealedWire$Direction", name := "generation", desc := "()I" } : Jvm.MethodName)) ∈ wG := in_t3 132 rfl rfl
theorem w_613 : (Jvm.Cond.code ({ cls := "SealedWire$Direction", name := "generation", desc := "()I" } : Jvm.MethodName) prog_3_method_4_code (1 : Nat) (Option.some Jvm.ClassFile.FieldType.int)) ∈ wG := in_t3 133 rfl rfl
theorem w_614 : (Jvm.Cond.methodLink "SealedWire$Side" (101 : Nat) ({ cls := "SealedWire$Direction", name := "makeKey", desc := "(LSealedWire$Hash;LSealedWire$Bytes;I)V" } : Jvm.MethodName)) ∈ wG := in_t3 134 rfl rfl
theorem w_615 : (Jvm.Cond.instanceMethod ({ cls := "SealedWire$Direction", name := "makeKey", desc := "(LSealedWire$Hash;LSealedWire$Bytes;I)V" } : Jvm.MethodName)) ∈ wG := in_t3 135 rfl rfl
theorem w_616 : (Jvm.Cond.selects "SealedWire$Direction" ({ cls := "SealedWire$Direction", name := "makeKey", desc := "(LSealedWire$Hash;LSealedWire$Bytes;I)V" } : Jvm.MethodName) ({ cls := "SealedWire$Direction", name := "makeKey", desc := "(LSealedWire$Hash;LSealedWire$Bytes;I)V" } : Jvm.MethodName)) ∈ wG := in_t3 136 rfl rfl
theorem w_617 : (Jvm.Cond.code ({ cls := "SealedWire$Direction", name := "makeKey", desc := "(LSealedWire$Hash;LSealedWire$Bytes;I)V" } : Jvm.MethodName) prog_3_method_6_code (4 : Nat) (Option.none : Option Jvm.ClassFile.FieldType)) ∈ wG := in_t3 137 rfl rfl
theorem w_618 : (Jvm.Cond.methodLink "SealedWire$Direction" (33 : Nat) ({ cls := "SealedWire$Bytes", name := "clear", desc := "()V" } : Jvm.MethodName)) ∈ wG := in_t3 138 rfl rfl
theorem w_619 : (Jvm.Cond.methodLink "SealedWire$Direction" (36 : Nat) ({ cls := "SealedWire$Bytes", name := "put", desc := "(I)V" } : Jvm.MethodName)) ∈ wG := in_t3 139 rfl rfl
theorem w_620 : (Jvm.Cond.methodLink "SealedWire$Direction" (39 : Nat) ({ cls := "SealedWire$Hash", name := "mac", desc := "(LSealedWire$Bytes;LSealedWire$Bytes;LSealedWire$Bytes;)V" } : Jvm.MethodName)) ∈ wG := in_t3 140 rfl rfl
theorem w_621 : (Jvm.Cond.instanceMethod ({ cls := "SealedWire$Hash", name := "mac", desc := "(LSealedWire$Bytes;LSealedWire$Bytes;LSealedWire$Bytes;)V" } : Jvm.MethodName)) ∈ wG := in_t3 141 rfl rfl
theorem w_622 : (Jvm.Cond.selects "SealedWire$Hash" ({ cls := "SealedWire$Hash", name := "mac", desc := "(LSealedWire$Bytes;LSealedWire$Bytes;LSealedWire$Bytes;)V" } : Jvm.MethodName) ({ cls := "SealedWire$Hash", name := "mac", desc := "(LSealedWire$Bytes;LSealedWire$Bytes;LSealedWire$Bytes;)V" } : Jvm.MethodName)) ∈ wG := in_t3 142 rfl rfl
theorem w_623 : (Jvm.Cond.code ({ cls := "SealedWire$Hash", name := "mac", desc := "(LSealedWire$Bytes;LSealedWire$Bytes;LSealedWire$Bytes;)V" } : Jvm.MethodName) prog_4_method_3_code (4 : Nat) (Option.none : Option Jvm.ClassFile.FieldType)) ∈ wG := in_t3 143 rfl rfl
theorem w_624 : (Jvm.Cond.methodLink "SealedWire$Hash" (37 : Nat) ({ cls := "SealedWire$Hash", name := "layKey", desc := "(LSealedWire$Bytes;I)V" } : Jvm.MethodName)) ∈ wG := in_t3 144 rfl rfl
theorem w_626 : (Jvm.Cond.instanceMethod ({ cls := "SealedWire$Hash", name := "layKey", desc := "(LSealedWire$Bytes;I)V" } : Jvm.MethodName)) ∈ wG := in_t3 146 rfl rfl
theorem w_627 : (Jvm.Cond.code ({ cls := "SealedWire$Hash", name := "layKey", desc := "(LSealedWire$Bytes;I)V" } : Jvm.MethodName) prog_4_method_4_code (4 : Nat) (Option.none : Option Jvm.ClassFile.FieldType)) ∈ wG := in_t3 147 rfl rfl
theorem w_628 : (Jvm.Cond.methodLink "SealedWire$Hash" (47 : Nat) ({ cls := "SealedWire$Bytes", name := "at", desc := "(I)I" } : Jvm.MethodName)) ∈ wG := in_t3 148 rfl rfl
theorem w_629 : (Jvm.Cond.methodLink "SealedWire$Hash" (41 : Nat) ({ cls := "SealedWire$Bytes", name := "putAll", desc := "(LSealedWire$Bytes;)V" } : Jvm.MethodName)) ∈ wG := in_t3 149 rfl rfl
theorem w_630 : (Jvm.Cond.methodLink "SealedWireLaw" (65 : Nat) ({ cls := "SealedWire", name := "close", desc := "(I)I" } : Jvm.MethodName)) ∈ wG := in_t3 150 rfl rfl
theorem w_631 : (Jvm.Cond.instanceMethod ({ cls := "SealedWire", name := "close", desc := "(I)I" } : Jvm.MethodName)) ∈ wG := in_t3 151 rfl rfl
theorem w_632 : (Jvm.Cond.selects "SealedWire" ({ cls := "SealedWire", name := "close", desc := "(I)I" } : Jvm.MethodName) ({ cls := "SealedWire", name := "close", desc := "(I)I" } : Jvm.MethodName)) ∈ wG := in_t3 152 rfl rfl
theorem w_633 : (Jvm.Cond.code ({ cls := "SealedWire", name := "close", desc := "(I)I" } : Jvm.MethodName) prog_1_method_12_code (3 : Nat) (Option.some Jvm.ClassFile.FieldType.int)) ∈ wG := in_t3 153 rfl rfl
theorem w_634 : (Jvm.Cond.methodLink "SealedWireLaw" (69 : Nat) ({ cls := "SealedWire", name := "receive", desc := "(I)I" } : Jvm.MethodName)) ∈ wG := in_t3 154 rfl rfl
theorem w_635 : (Jvm.Cond.instanceMethod ({ cls := "SealedWire", name := "receive", desc := "(I)I" } : Jvm.MethodName)) ∈ wG := in_t3 155 rfl rfl
theorem w_636 : (Jvm.Cond.selects "SealedWire" ({ cls := "SealedWire", name := "receive", desc := "(I)I" } : Jvm.MethodName) ({ cls := "SealedWire", name := "receive", desc := "(I)I" } : Jvm.MethodName)) ∈ wG := in_t3 156 rfl rfl
theorem w_637 : (Jvm.Cond.code ({ cls := "SealedWire", name := "receive", desc := "(I)I" } : Jvm.MethodName) prog_1_method_13_code (6 : Nat) (Option.some Jvm.ClassFile.FieldType.int)) ∈ wG := in_t3 157 rfl rfl
theorem w_638 : (Jvm.Cond.methodLink "SealedWire" (170 : Nat) ({ cls := "SealedWire", name := "isWire", desc := "(I)Z" } : Jvm.MethodName)) ∈ wG := in_t3 158 rfl rfl
theorem w_639 : (Jvm.Cond.static ({ cls := "SealedWire", name := "isWire", desc := "(I)Z" } : Jvm.MethodName)) ∈ wG := in_t3 159 rfl rfl
theorem w_640 : (Jvm.Cond.code ({ cls := "SealedWire", name := "isWire", desc := "(I)Z" } : Jvm.MethodName) prog_1_method_25_code (1 : Nat) (Option.some Jvm.ClassFile.FieldType.boolean)) ∈ wG := in_t3 160 rfl rfl
theorem w_641 : (Jvm.Cond.methodLink "SealedWire" (177 : Nat) ({ cls := "SealedWire$Wire", name := "has", desc := "(I)Z" } : Jvm.MethodName)) ∈ wG := in_t3 161 rfl rfl
theorem w_642 : (Jvm.Cond.instanceMethod ({ cls := "SealedWire$Wire", name := "has", desc := "(I)Z" } : Jvm.MethodName)) ∈ wG := in_t3 162 rfl rfl
theorem w_643 : (Jvm.Cond.selects "SealedWire$Wire" ({ cls := "SealedWire$Wire", name := "has", desc := "(I)Z" } : Jvm.MethodName) ({ cls := "SealedWire$Wire", name := "has", desc := "(I)Z" } : Jvm.MethodName)) ∈ wG := in_t3 163 rfl rfl
theorem w_644 : (Jvm.Cond.code ({ cls := "SealedWire$Wire", name := "has", desc := "(I)Z" } : Jvm.MethodName) prog_11_method_3_code (2 : Nat) (Option.some Jvm.ClassFile.FieldType.boolean)) ∈ wG := in_t3 164 rfl rfl
theorem w_645 : (Jvm.Cond.methodLink "SealedWire" (180 : Nat) ({ cls := "SealedWire$Wire", name := "at", desc := "(I)LSealedWire$Bytes;" } : Jvm.MethodName)) ∈ wG := in_t3 165 rfl rfl
theorem w_646 : (Jvm.Cond.instanceMethod ({ cls := "SealedWire$Wire", name := "at", desc := "(I)LSealedWire$Bytes;" } : Jvm.MethodName)) ∈ wG := in_t3 166 rfl rfl
theorem w_647 : (Jvm.Cond.selects "SealedWire$Wire" ({ cls := "SealedWire$Wire", name := "at", desc := "(I)LSealedWire$Bytes;" } : Jvm.MethodName) ({ cls := "SealedWire$Wire", name := "at", desc := "(I)LSealedWire$Bytes;" } : Jvm.MethodName)) ∈ wG := in_t3 167 rfl rfl
theorem w_648 : (Jvm.Cond.code ({ cls := "SealedWire$Wire", name := "at", desc := "(I)LSealedWire$Bytes;" } : Jvm.MethodName) prog_11_method_5_code (2 : Nat) (Option.some (Jvm.ClassFile.FieldType.object "SealedWire$Bytes"))) ∈ wG := in_t3 168 rfl rfl
theorem w_649 : (Jvm.Cond.methodLink "SealedWire$Wire" (24 : Nat) ({ cls := "SealedWire$Wire", name := "has", desc := "(I)Z" } : Jvm.MethodName)) ∈ wG := in_t3 169 rfl rfl
theorem w_650 : (Jvm.Cond.methodLink "SealedWire" (184 : Nat) ({ cls := "SealedWire$Side", name := "listens", desc := "()Z" } : Jvm.MethodName)) ∈ wG := in_t3 170 rfl rfl
theorem w_651 : (Jvm.Cond.instanceMethod ({ cls := "SealedWire$Side", name := "listens", desc := "()Z" } : Jvm.MethodName)) ∈ wG := in_t3 171 rfl rfl
theorem w_652 : (Jvm.Cond.selects "SealedWire$Side" ({ cls := "SealedWire$Side", name := "listens", desc := "()Z" } : Jvm.MethodName) ({ cls := "SealedWire$Side", name := "listens", desc := "()Z" } : Jvm.MethodName)) ∈ wG := in_t3 172 rfl rfl
theorem w_653 : (Jvm.Cond.code ({ cls := "SealedWire$Side", name := "listens", desc := "()Z" } : Jvm.MethodName) prog_8_method_11_code (1 : Nat) (Option.some Jvm.ClassFile.FieldType.boolean)) ∈ wG := in_t3 173 rfl rfl
theorem w_654 : (Jvm.Cond.methodLink "SealedWire" (187 : Nat) ({ cls := "SealedWire$Bytes", name := "tellsItsLength", desc := "()Z" } : Jvm.MethodName)) ∈ wG := in_t3 174 rfl rfl
theorem w_655 : (Jvm.Cond.instanceMethod ({ cls := "SealedWire$Bytes", name := "tellsItsLength", desc := "()Z" } : Jvm.MethodName)) ∈ wG := in_t3 175 rfl rfl
theorem w_656 : (Jvm.Cond.selects "SealedWire$Bytes" ({ cls := "SealedWire$Bytes", name := "tellsItsLength", desc := "()Z" } : Jvm.MethodName) ({ cls := "SealedWire$Bytes", name := "tellsItsLength", desc := "()Z" } : Jvm.MethodName)) ∈ wG := in_t3 176 rfl rfl
theorem w_657 : (Jvm.Cond.code ({ cls := "SealedWire$Bytes", name := "tellsItsLength", desc := "()Z" } : Jvm.MethodName) prog_2_method_15_code (1 : Nat) (Option.some Jvm.ClassFile.FieldType.boolean)) ∈ wG := in_t3 177 rfl rfl
theorem w_658 : (Jvm.Cond.methodLink "SealedWire$Bytes" (37 : Nat) ({ cls := "SealedWire$Bytes", name := "at", desc := "(I)I" } : Jvm.MethodName)) ∈ wG := in_t3 178 rfl rfl
theorem w_659 : (Jvm.Cond.methodLink "SealedWire" (192 : Nat) ({ cls := "SealedWire", name := "takeGreeting", desc := "(LSealedWire$Side;LSealedWire$Bytes;)I" } : Jvm.MethodName)) ∈ wG := in_t3 179 rfl rfl
theorem w_661 : (Jvm.Cond.instanceMethod ({ cls := "SealedWire", name := "takeGreeting", desc := "(LSealedWire$Side;LSealedWire$Bytes;)I" } : Jvm.MethodName)) ∈ wG := in_t3 181 rfl rfl
theorem w_662 : (Jvm.Cond.code ({ cls := "SealedWire", name := "takeGreeting", desc := "(LSealedWire$Side;LSealedWire$Bytes;)I" } : Jvm.MethodName) prog_1_method_33_code (5 : Nat) (Option.some Jvm.ClassFile.FieldType.int)) ∈ wG := in_t3 182 rfl rfl
theorem w_663 : (Jvm.Cond.methodLink "SealedWire" (270 : Nat) ({ cls := "SealedWire$Side", name := "isServer", desc := "()Z" } : Jvm.MethodName)) ∈ wG := in_t3 183 rfl rfl
theorem w_664 : (Jvm.Cond.instanceMethod ({ cls := "SealedWire$Side", name := "isServer", desc := "()Z" } : Jvm.MethodName)) ∈ wG := in_t3 184 rfl rfl
theorem w_665 : (Jvm.Cond.selects "SealedWire$Side" ({ cls := "SealedWire$Side", name := "isServer", desc := "()Z" } : Jvm.MethodName) ({ cls := "SealedWire$Side", name := "isServer", desc := "()Z" } : Jvm.MethodName)) ∈ wG := in_t3 185 rfl rfl
theorem w_666 : (Jvm.Cond.code ({ cls := "SealedWire$Side", name := "isServer", desc := "()Z" } : Jvm.MethodName) prog_8_method_2_code (1 : Nat) (Option.some Jvm.ClassFile.FieldType.boolean)) ∈ wG := in_t3 186 rfl rfl
theorem w_667 : (Jvm.Cond.methodLink "SealedWire" (273 : Nat) ({ cls := "SealedWire$Bytes", name := "putPart", desc := "(LSealedWire$Bytes;II)V" } : Jvm.MethodName)) ∈ wG := in_t3 187 rfl rfl
theorem w_668 : (Jvm.Cond.methodLink "SealedWire" (277 : Nat) ({ cls := "SealedWire$Side", name := "agree", desc := "(ILSealedWire$Bytes;)V" } : Jvm.MethodName)) ∈ wG := in_t3 188 rfl rfl
theorem w_669 : (Jvm.Cond.instanceMethod ({ cls := "SealedWire$Side", name := "agree", desc := "(ILSealedWire$Bytes;)V" } : Jvm.MethodName)) ∈ wG := in_t3 189 rfl rfl
theorem w_670 : (Jvm.Cond.selects "SealedWire$Side" ({ cls := "SealedWire$Side", name := "agree", desc := "(ILSealedWire$Bytes;)V" } : Jvm.MethodName) ({ cls := "SealedWire$Side", name := "agree", desc := "(ILSealedWire$Bytes;)V" } : Jvm.MethodName)) ∈ wG := in_t3 190 rfl rfl
theorem w_671 : (Jvm.Cond.code ({ cls := "SealedWire$Side", name := "agree", desc := "(ILSealedWire$Bytes;)V" } : Jvm.MethodName) prog_8_method_17_code (3 : Nat) (Option.none : Option Jvm.ClassFile.FieldType)) ∈ wG := in_t3 191 rfl rfl
theorem w_672 : (Jvm.Cond.methodLink "SealedWire$Side" (94 : Nat) ({ cls := "SealedWire$Hash", name := "mac", desc := "(LSealedWire$Bytes;LSealedWire$Bytes;LSealedWire$Bytes;)V" } : Jvm.MethodName)) ∈ wG := in_t3 192 rfl rfl
theorem w_673 : (Jvm.Cond.methodLink "SealedWire" (280 : Nat) ({ cls := "SealedWire$Side", name := "prove", desc := "(ILSealedWire$Bytes;)V" } : Jvm.MethodName)) ∈ wG := in_t3 193 rfl rfl
theorem w_674 : (Jvm.Cond.instanceMethod ({ cls := "SealedWire$Side", name := "prove", desc := "(ILSealedWire$Bytes;)V" } : Jvm.MethodName)) ∈ wG := in_t3 194 rfl rfl
theorem w_675 : (Jvm.Cond.selects "SealedWire$Side" ({ cls := "SealedWire$Side", name := "prove", desc := "(ILSealedWire$Bytes;)V" } : Jvm.MethodName) ({ cls := "SealedWire$Side", name := "prove", desc := "(ILSealedWire$Bytes;)V" } : Jvm.MethodName)) ∈ wG := in_t3 195 rfl rfl
theorem w_676 : (Jvm.Cond.code ({ cls := "SealedWire$Side", name := "prove", desc := "(ILSealedWire$Bytes;)V" } : Jvm.MethodName) prog_8_method_18_code (3 : Nat) (Option.none : Option Jvm.ClassFile.FieldType)) ∈ wG := in_t3 196 rfl rfl
theorem w_677 : (Jvm.Cond.methodLink "SealedWire$Side" (98 : Nat) ({ cls := "SealedWire$Bytes", name := "putAll", desc := "(LSealedWire$Bytes;)V" } : Jvm.MethodName)) ∈ wG := in_t3 197 rfl rfl
theorem w_678 : (Jvm.Cond.methodLink "SealedWire" (196 : Nat) ({ cls := "SealedWire", name := "takeReply", desc := "(LSealedWire$Side;LSealedWire$Bytes;)I" } : Jvm.MethodName)) ∈ wG := in_t3 198 rfl rfl
theorem w_680 : (Jvm.Cond.instanceMethod ({ cls := "SealedWire", name := "takeReply", desc := "(LSealedWire$Side;LSealedWire$Bytes;)I" } : Jvm.MethodName)) ∈ wG := in_t3 200 rfl rfl
theorem w_681 : (Jvm.Cond.code ({ cls := "SealedWire", name := "takeReply", desc := "(LSealedWire$Side;LSealedWire$Bytes;)I" } : Jvm.MethodName) prog_1_method_34_code (5 : Nat) (Option.some Jvm.ClassFile.FieldType.int)) ∈ wG := in_t3 201 rfl rfl
theorem w_682 : (Jvm.Cond.methodLink "SealedWire" (283 : Nat) ({ cls := "SealedWire$Bytes", name := "holdsAt", desc := "(ILSealedWire$Bytes;)Z" } : Jvm.MethodName)) ∈ wG := in_t3 202 rfl rfl
theorem w_683 : (Jvm.Cond.instanceMethod ({ cls := "SealedWire$Bytes", name := "holdsAt", desc := "(ILSealedWire$Bytes;)Z" } : Jvm.MethodName)) ∈ wG := in_t3 203 rfl rfl
theorem w_684 : (Jvm.Cond.selects "SealedWire$Bytes" ({ cls := "SealedWire$Bytes", name := "holdsAt", desc := "(ILSealedWire$Bytes;)Z" } : Jvm.MethodName) ({ cls := "SealedWire$Bytes", name := "holdsAt", desc := "(ILSealedWire$Bytes;)Z" } : Jvm.MethodName)) ∈ wG := in_t3 204 rfl rfl
theorem w_685 : (Jvm.Cond.code ({ cls := "SealedWire$Bytes", name := "holdsAt", desc := "(ILSealedWire$Bytes;)Z" } : Jvm.MethodName) prog_2_method_16_code (5 : Nat) (Option.some Jvm.ClassFile.FieldType.boolean)) ∈ wG := in_t3 205 rfl rfl
theorem w_686 : (Jvm.Cond.methodLink "SealedWire" (287 : Nat) ({ cls := "SealedWire$Side", name := "open", desc := "()V" } : Jvm.MethodName)) ∈ wG := in_t3 206 rfl rfl
theorem w_687 : (Jvm.Cond.instanceMethod ({ cls := "SealedWire$Side", name := "open", desc := "()V" } : Jvm.MethodName)) ∈ wG := in_t3 207 rfl rfl
theorem w_688 : (Jvm.Cond.selects "SealedWire$Side" ({ cls := "SealedWire$Side", name := "open", desc := "()V" } : Jvm.MethodName) ({ cls := "SealedWire$Side", name := "open", desc := "()V" } : Jvm.MethodName)) ∈ wG := in_t3 208 rfl rfl
theorem w_689 : (Jvm.Cond.code ({ cls := "SealedWire$Side", name := "open", desc := "()V" } : Jvm.MethodName) prog_8_method_19_code (1 : Nat) (Option.none : Option Jvm.ClassFile.FieldType)) ∈ wG := in_t3 209 rfl rfl
theorem w_690 : (Jvm.Cond.methodLink "SealedWire" (199 : Nat) ({ cls := "SealedWire", name := "takeProof", desc := "(LSealedWire$Side;LSealedWire$Bytes;)I" } : Jvm.MethodName)) ∈ wG := in_t3 210 rfl rfl
theorem w_692 : (Jvm.Cond.instanceMethod ({ cls := "SealedWire", name := "takeProof", desc := "(LSealedWire$Side;LSealedWire$Bytes;)I" } : Jvm.MethodName)) ∈ wG := in_t3 212 rfl rfl
theorem w_693 : (Jvm.Cond.code ({ cls := "SealedWire", name := "takeProof", desc := "(LSealedWire$Side;LSealedWire$Bytes;)I" } : Jvm.MethodName) prog_1_method_35_code (3 : Nat) (Option.some Jvm.ClassFile.FieldType.int)) ∈ wG := in_t3 213 rfl rfl
theorem w_694 : (Jvm.Cond.methodLink "SealedWire" (202 : Nat) ({ cls := "SealedWire", name := "takeSealed", desc := "(LSealedWire$Side;LSealedWire$Bytes;)I" } : Jvm.MethodName)) ∈ wG := in_t3 214 rfl rfl
theorem w_696 : (Jvm.Cond.instanceMethod ({ cls := "SealedWire", name := "takeSealed", desc := "(LSealedWire$Side;LSealedWire$Bytes;)I" } : Jvm.MethodName)) ∈ wG := in_t3 216 rfl rfl
theorem w_697 : (Jvm.Cond.code ({ cls := "SealedWire", name := "takeSealed", desc := "(LSealedWire$Side;LSealedWire$Bytes;)I" } : Jvm.MethodName) prog_1_method_36_code (6 : Nat) (Option.some Jvm.ClassFile.FieldType.int)) ∈ wG := in_t3 217 rfl rfl
theorem w_698 : (Jvm.Cond.methodLink "SealedWire" (290 : Nat) ({ cls := "SealedWire$Sealer", name := "unseal", desc := "(LSealedWire$Direction;LSealedWire$Bytes;LSealedWire$Bytes;)Z" } : Jvm.MethodName)) ∈ wG := in_t3 218 rfl rfl
theorem w_699 : (Jvm.Cond.instanceMethod ({ cls := "SealedWire$Sealer", name := "unseal", desc := "(LSealedWire$Direction;LSealedWire$Bytes;LSealedWire$Bytes;)Z" } : Jvm.MethodName)) ∈ wG := in_t3 219 rfl rfl
theorem w_700 : (Jvm.Cond.selects "SealedWire$Sealer" ({ cls := "SealedWire$Sealer", name := "unseal", desc := "(LSealedWire$Direction;LSealedWire$Bytes;LSealedWire$Bytes;)Z" } : Jvm.MethodName) ({ cls := "SealedWire$Sealer", name := "unseal", desc := "(LSealedWire$Direction;LSealedWire$Bytes;LSealedWire$Bytes;)Z" } : Jvm.MethodName)) ∈ wG := in_t3 220 rfl rfl
theorem w_701 : (Jvm.Cond.code ({ cls := "SealedWire$Sealer", name := "unseal", desc := "(LSealedWire$Direction;LSealedWire$Bytes;LSealedWire$Bytes;)Z" } : Jvm.MethodName) prog_7_method_3_code (5 : Nat) (Option.some Jvm.ClassFile.FieldType.boolean)) ∈ wG := in_t3 221 rfl rfl
theorem w_702 : (Jvm.Cond.methodLink "SealedWire$Sealer" (81 : Nat) ({ cls := "SealedWire$Bytes", name := "holdsAt", desc := "(ILSealedWire$Bytes;)Z" } : Jvm.MethodName)) ∈ wG := in_t3 222 rfl rfl
theorem w_703 : (Jvm.Cond.methodLink "SealedWire$Sealer" (85 : Nat) ({ cls := "SealedWire$Bytes", name := "clear", desc := "()V" } : Jvm.MethodName)) ∈ wG := in_t3 223 rfl rfl
theorem w_704 : (Jvm.Cond.methodLink "SealedWire" (294 : Nat) ({ cls := "SealedWire", name := "takeRequest", desc := "(LSealedWire$Direction;)I" } : Jvm.MethodName)) ∈ wG := in_t3 224 rfl rfl
theorem w_706 : (Jvm.Cond.instanceMethod ({ cls := "SealedWire", name := "takeRequest", desc := "(LSealedWire$Direction;)I" } : Jvm.MethodName)) ∈ wG := in_t3 226 rfl rfl
theorem w_707 : (Jvm.Cond.code ({ cls := "SealedWire", name := "takeRequest", desc := "(LSealedWire$Direction;)I" } : Jvm.MethodName) prog_1_method_37_code (2 : Nat) (Option.some Jvm.ClassFile.FieldType.int)) ∈ wG := in_t3 227 rfl rfl
theorem w_708 : (Jvm.Cond.methodLink "SealedWire" (301 : Nat) ({ cls := "SealedWire$Request", name := "readFrom", desc := "(LSealedWire$Bytes;)Z" } : Jvm.MethodName)) ∈ wG := in_t3 228 rfl rfl
theorem w_709 : (Jvm.Cond.instanceMethod ({ cls := "SealedWire$Request", name := "readFrom", desc := "(LSealedWire$Bytes;)Z" } : Jvm.MethodName)) ∈ wG := in_t3 229 rfl rfl
theorem w_710 : (Jvm.Cond.selects "SealedWire$Request" ({ cls := "SealedWire$Request", name := "readFrom", desc := "(LSealedWire$Bytes;)Z" } : Jvm.MethodName) ({ cls := "SealedWire$Request", name := "readFrom", desc := "(LSealedWire$Bytes;)Z" } : Jvm.MethodName)) ∈ wG := in_t3 230 rfl rfl
theorem w_711 : (Jvm.Cond.code ({ cls := "SealedWire$Request", name := "readFrom", desc := "(LSealedWire$Bytes;)Z" } : Jvm.MethodName) prog_6_method_4_code (4 : Nat) (Option.some Jvm.ClassFile.FieldType.boolean)) ∈ wG := in_t3 231 rfl rfl
theorem w_712 : (Jvm.Cond.methodLink "SealedWire$Request" (23 : Nat) ({ cls := "SealedWire$Bytes", name := "at", desc := "(I)I" } : Jvm.MethodName)) ∈ wG := in_t3 232 rfl rfl
theorem w_713 : (Jvm.Cond.methodLink "SealedWire$Request" (31 : Nat) ({ cls := "SealedWire$Bytes", name := "size", desc := "()I" } : Jvm.MethodName)) ∈ wG := in_t3 233 rfl rfl
theorem w_714 : (Jvm.Cond.methodLink "SealedWire$Request" (35 : Nat) ({ cls := "SealedWire$Request", name := "isOp", desc := "(I)Z" } : Jvm.MethodName)) ∈ wG := in_t3 234 rfl rfl
theorem w_715 : (Jvm.Cond.methodLink "SealedWire$Request" (39 : Nat) ({ cls := "SealedWire$Request", name := "mostBytes", desc := "(I)I" } : Jvm.MethodName)) ∈ wG := in_t3 235 rfl rfl
theorem w_716 : (Jvm.Cond.methodLink "SealedWire$Request" (42 : Nat) ({ cls := "SealedWire$Bytes", name := "clear", desc := "()V" } : Jvm.MethodName)) ∈ wG := in_t3 236 rfl rfl
theorem w_717 : (Jvm.Cond.methodLink "SealedWire$Request" (45 : Nat) ({ cls := "SealedWire$Bytes", name := "putPart", desc := "(LSealedWire$Bytes;II)V" } : Jvm.MethodName)) ∈ wG := in_t3 237 rfl rfl
theorem w_718 : (Jvm.Cond.methodLink "SealedWire" (305 : Nat) ({ cls := "SealedWire$Direction", name := "step", desc := "()V" } : Jvm.MethodName)) ∈ wG := in_t3 238 rfl rfl
theorem w_719 : (Jvm.Cond.methodLink "SealedWire" (308 : Nat) ({ cls := "SealedWire$Store", name := "serve", desc := "(LSealedWire$Request;LSealedWire$Bytes;)V" } : Jvm.MethodName)) ∈ wG := in_t3 239 rfl rfl
theorem w_720 : (Jvm.Cond.instanceMethod ({ cls := "SealedWire$Store", name := "serve", desc := "(LSealedWire$Request;LSealedWire$Bytes;)V" } : Jvm.MethodName)) ∈ wG := in_t4 0 rfl rfl
theorem w_721 : (Jvm.Cond.selects "SealedWire$Store" ({ cls := "SealedWire$Store", name := "serve", desc := "(LSealedWire$Request;LSealedWire$Bytes;)V" } : Jvm.MethodName) ({ cls := "SealedWire$Store", name := "serve", desc := "(LSealedWire$Request;LSealedWire$Bytes;)V" } : Jvm.MethodName)) ∈ wG := in_t4 1 rfl rfl
theorem w_722 : (Jvm.Cond.code ({ cls := "SealedWire$Store", name := "serve", desc := "(LSealedWire$Request;LSealedWire$Bytes;)V" } : Jvm.MethodName) prog_9_method_5_code (4 : Nat) (Option.none : Option Jvm.ClassFile.FieldType)) ∈ wG := in_t4 2 rfl rfl
theorem w_723 : (Jvm.Cond.methodLink "SealedWire$Store" (31 : Nat) ({ cls := "SealedWire$Request", name := "target", desc := "()LSealedWire$Bytes;" } : Jvm.MethodName)) ∈ wG := in_t4 3 rfl rfl
theorem w_724 : (Jvm.Cond.instanceMethod ({ cls := "SealedWire$Request", name := "target", desc := "()LSealedWire$Bytes;" } : Jvm.MethodName)) ∈ wG := in_t4 4 rfl rfl
theorem w_725 : (Jvm.Cond.selects "SealedWire$Request" ({ cls := "SealedWire$Request", name := "target", desc := "()LSealedWire$Bytes;" } : Jvm.MethodName) ({ cls := "SealedWire$Request", name := "target", desc := "()LSealedWire$Bytes;" } : Jvm.MethodName)) ∈ wG := in_t4 5 rfl rfl
theorem w_726 : (Jvm.Cond.code ({ cls := "SealedWire$Request", name := "target", desc := "()LSealedWire$Bytes;" } : Jvm.MethodName) prog_6_method_6_code (1 : Nat) (Option.some (Jvm.ClassFile.FieldType.object "SealedWire$Bytes"))) ∈ wG := in_t4 6 rfl rfl
theorem w_727 : (Jvm.Cond.methodLink "SealedWire$Store" (37 : Nat) ({ cls := "SealedWire$Store", name := "find", desc := "(LSealedWire$Bytes;)I" } : Jvm.MethodName)) ∈ wG := in_t4 7 rfl rfl
theorem w_728 : (Jvm.Cond.instanceMethod ({ cls := "SealedWire$Store", name := "find", desc := "(LSealedWire$Bytes;)I" } : Jvm.MethodName)) ∈ wG := in_t4 8 rfl rfl
theorem w_729 : (Jvm.Cond.selects "SealedWire$Store" ({ cls := "SealedWire$Store", name := "find", desc := "(LSealedWire$Bytes;)I" } : Jvm.MethodName) ({ cls := "SealedWire$Store", name := "find", desc := "(LSealedWire$Bytes;)I" } : Jvm.MethodName)) ∈ wG := in_t4 9 rfl rfl
theorem w_730 : (Jvm.Cond.code ({ cls := "SealedWire$Store", name := "find", desc := "(LSealedWire$Bytes;)I" } : Jvm.MethodName) prog_9_method_3_code (3 : Nat) (Option.some Jvm.ClassFile.FieldType.int)) ∈ wG := in_t4 10 rfl rfl
theorem w_731 : (Jvm.Cond.methodLink "SealedWire$Store" (27 : Nat) ({ cls := "SealedWire$Bytes", name := "same", desc := "(LSealedWire$Bytes;)Z" } : Jvm.MethodName)) ∈ wG := in_t4 11 rfl rfl
theorem w_732 : (Jvm.Cond.instanceMethod ({ cls := "SealedWire$Bytes", name := "same", desc := "(LSealedWire$Bytes;)Z" } : Jvm.MethodName)) ∈ wG := in_t4 12 rfl rfl
theorem w_733 : (Jvm.Cond.selects "SealedWire$Bytes" ({ cls := "SealedWire$Bytes", name := "same", desc := "(LSealedWire$Bytes;)Z" } : Jvm.MethodName) ({ cls := "SealedWire$Bytes", name := "same", desc := "(LSealedWire$Bytes;)Z" } : Jvm.MethodName)) ∈ wG := in_t4 13 rfl rfl
theorem w_734 : (Jvm.Cond.code ({ cls := "SealedWire$Bytes", name := "same", desc := "(LSealedWire$Bytes;)Z" } : Jvm.MethodName) prog_2_method_17_code (2 : Nat) (Option.some Jvm.ClassFile.FieldType.boolean)) ∈ wG := in_t4 14 rfl rfl
theorem w_735 : (Jvm.Cond.methodLink "SealedWire$Bytes" (41 : Nat) ({ cls := "SealedWire$Bytes", name := "holdsAt", desc := "(ILSealedWire$Bytes;)Z" } : Jvm.MethodName)) ∈ wG := in_t4 15 rfl rfl
theorem w_736 : (Jvm.Cond.methodLink "SealedWire$Store" (41 : Nat) ({ cls := "SealedWire$Request", name := "op", desc := "()I" } : Jvm.MethodName)) ∈ wG := in_t4 16 rfl rfl
theorem w_737 : (Jvm.Cond.instanceMethod ({ cls := "SealedWire$Request", name := "op", desc := "()I" } : Jvm.MethodName)) ∈ wG := in_t4 17 rfl rfl
theorem w_738 : (Jvm.Cond.selects "SealedWire$Request" ({ cls := "SealedWire$Request", name := "op", desc := "()I" } : Jvm.MethodName) ({ cls := "SealedWire$Request", name := "op", desc := "()I" } : Jvm.MethodName)) ∈ wG := in_t4 18 rfl rfl
theorem w_739 : (Jvm.Cond.code ({ cls := "SealedWire$Request", name := "op", desc := "()I" } : Jvm.MethodName) prog_6_method_5_code (1 : Nat) (Option.some Jvm.ClassFile.FieldType.int)) ∈ wG := in_t4 19 rfl rfl
theorem w_740 : (Jvm.Cond.methodLink "SealedWire$Store" (45 : Nat) ({ cls := "SealedWire$Bytes", name := "put", desc := "(I)V" } : Jvm.MethodName)) ∈ wG := in_t4 20 rfl rfl
theorem w_741 : (Jvm.Cond.methodLink "SealedWire$Store" (48 : Nat) ({ cls := "SealedWire$Bytes", name := "putAll", desc := "(LSealedWire$Bytes;)V" } : Jvm.MethodName)) ∈ wG := in_t4 21 rfl rfl
theorem w_742 : (Jvm.Cond.methodLink "SealedWire$Store" (52 : Nat) ({ cls := "SealedWire$Store", name := "add", desc := "(LSealedWire$Request;)I" } : Jvm.MethodName)) ∈ wG := in_t4 22 rfl rfl
theorem w_744 : (Jvm.Cond.instanceMethod ({ cls := "SealedWire$Store", name := "add", desc := "(LSealedWire$Request;)I" } : Jvm.MethodName)) ∈ wG := in_t4 24 rfl rfl
theorem w_745 : (Jvm.Cond.code ({ cls := "SealedWire$Store", name := "add", desc := "(LSealedWire$Request;)I" } : Jvm.MethodName) prog_9_method_6_code (2 : Nat) (Option.some Jvm.ClassFile.FieldType.int)) ∈ wG := in_t4 25 rfl rfl
theorem w_746 : (Jvm.Cond.methodLink "SealedWire$Store" (70 : Nat) ({ cls := "SealedWire$Bytes", name := "become", desc := "(LSealedWire$Bytes;)V" } : Jvm.MethodName)) ∈ wG := in_t4 26 rfl rfl
theorem w_747 : (Jvm.Cond.methodLink "SealedWire$Store" (56 : Nat) ({ cls := "SealedWire$Request", name := "data", desc := "()LSealedWire$Bytes;" } : Jvm.MethodName)) ∈ wG := in_t4 27 rfl rfl
theorem w_748 : (Jvm.Cond.instanceMethod ({ cls := "SealedWire$Request", name := "data", desc := "()LSealedWire$Bytes;" } : Jvm.MethodName)) ∈ wG := in_t4 28 rfl rfl
theorem w_749 : (Jvm.Cond.selects "SealedWire$Request" ({ cls := "SealedWire$Request", name := "data", desc := "()LSealedWire$Bytes;" } : Jvm.MethodName) ({ cls := "SealedWire$Request", name := "data", desc := "()LSealedWire$Bytes;" } : Jvm.MethodName)) ∈ wG := in_t4 29 rfl rfl
theorem w_750 : (Jvm.Cond.code ({ cls := "SealedWire$Request", name := "data", desc := "()LSealedWire$Bytes;" } : Jvm.MethodName) prog_6_method_7_code (1 : Nat) (Option.some (Jvm.ClassFile.FieldType.object "SealedWire$Bytes"))) ∈ wG := in_t4 30 rfl rfl
theorem w_751 : (Jvm.Cond.methodLink "SealedWire$Store" (59 : Nat) ({ cls := "SealedWire$Store", name := "replace", desc := "(ILSealedWire$Bytes;)I" } : Jvm.MethodName)) ∈ wG := in_t4 31 rfl rfl
theorem w_753 : (Jvm.Cond.instanceMethod ({ cls := "SealedWire$Store", name := "replace", desc := "(ILSealedWire$Bytes;)I" } : Jvm.MethodName)) ∈ wG := in_t4 33 rfl rfl
theorem w_754 : (Jvm.Cond.code ({ cls := "SealedWire$Store", name := "replace", desc := "(ILSealedWire$Bytes;)I" } : Jvm.MethodName) prog_9_method_7_code (3 : Nat) (Option.some Jvm.ClassFile.FieldType.int)) ∈ wG := in_t4 34 rfl rfl
theorem w_755 : (Jvm.Cond.methodLink "SealedWire$Store" (63 : Nat) ({ cls := "SealedWire$Store", name := "removeAt", desc := "(I)I" } : Jvm.MethodName)) ∈ wG := in_t4 35 rfl rfl
theorem w_757 : (Jvm.Cond.instanceMethod ({ cls := "SealedWire$Store", name := "removeAt", desc := "(I)I" } : Jvm.MethodName)) ∈ wG := in_t4 37 rfl rfl
theorem w_758 : (Jvm.Cond.code ({ cls := "SealedWire$Store", name := "removeAt", desc := "(I)I" } : Jvm.MethodName) prog_9_method_9_code (4 : Nat) (Option.some Jvm.ClassFile.FieldType.int)) ∈ wG := in_t4 38 rfl rfl
theorem w_759 : (Jvm.Cond.methodLink "SealedWire$Store" (67 : Nat) ({ cls := "SealedWire$Store", name := "lengthen", desc := "(ILSealedWire$Bytes;)I" } : Jvm.MethodName)) ∈ wG := in_t4 39 rfl rfl
theorem w_761 : (Jvm.Cond.instanceMethod ({ cls := "SealedWire$Store", name := "lengthen", desc := "(ILSealedWire$Bytes;)I" } : Jvm.MethodName)) ∈ wG := in_t4 41 rfl rfl
theorem w_762 : (Jvm.Cond.code ({ cls := "SealedWire$Store", name := "lengthen", desc := "(ILSealedWire$Bytes;)I" } : Jvm.MethodName) prog_9_method_8_code (3 : Nat) (Option.some Jvm.ClassFile.FieldType.int)) ∈ wG := in_t4 42 rfl rfl
theorem w_763 : (Jvm.Cond.methodLink "SealedWire$Store" (73 : Nat) ({ cls := "SealedWire$Bytes", name := "size", desc := "()I" } : Jvm.MethodName)) ∈ wG := in_t4 43 rfl rfl
theorem w_764 : (Jvm.Cond.methodLink "SealedWire" (298 : Nat) ({ cls := "SealedWire", name := "takeAnswer", desc := "(LSealedWire$Direction;)I" } : Jvm.MethodName)) ∈ wG := in_t4 44 rfl rfl
theorem w_766 : (Jvm.Cond.instanceMethod ({ cls := "SealedWire", name := "takeAnswer", desc := "(LSealedWire$Direction;)I" } : Jvm.MethodName)) ∈ wG := in_t4 46 rfl rfl
theorem w_767 : (Jvm.Cond.code ({ cls := "SealedWire", name := "takeAnswer", desc := "(LSealedWire$Direction;)I" } : Jvm.MethodName) prog_1_method_38_code (4 : Nat) (Option.some Jvm.ClassFile.FieldType.int)) ∈ wG := in_t4 47 rfl rfl
theorem w_768 : (Jvm.Cond.methodLink "SealedWire" (205 : Nat) ({ cls := "SealedWire$Wire", name := "remove", desc := "(I)V" } : Jvm.MethodName)) ∈ wG := in_t4 48 rfl rfl
theorem w_769 : (Jvm.Cond.instanceMethod ({ cls := "SealedWire$Wire", name := "remove", desc := "(I)V" } : Jvm.MethodName)) ∈ wG := in_t4 49 rfl rfl
theorem w_770 : (Jvm.Cond.selects "SealedWire$Wire" ({ cls := "SealedWire$Wire", name := "remove", desc := "(I)V" } : Jvm.MethodName) ({ cls := "SealedWire$Wire", name := "remove", desc := "(I)V" } : Jvm.MethodName)) ∈ wG := in_t4 50 rfl rfl
theorem w_771 : (Jvm.Cond.code ({ cls := "SealedWire$Wire", name := "remove", desc := "(I)V" } : Jvm.MethodName) prog_11_method_8_code (4 : Nat) (Option.none : Option Jvm.ClassFile.FieldType)) ∈ wG := in_t4 51 rfl rfl
theorem w_772 : (Jvm.Cond.methodLink "SealedWireLaw" (73 : Nat) ({ cls := "SealedWire", name := "wire", desc := "(III)I" } : Jvm.MethodName)) ∈ wG := in_t4 52 rfl rfl
theorem w_773 : (Jvm.Cond.instanceMethod ({ cls := "SealedWire", name := "wire", desc := "(III)I" } : Jvm.MethodName)) ∈ wG := in_t4 53 rfl rfl
theorem w_774 : (Jvm.Cond.selects "SealedWire" ({ cls := "SealedWire", name := "wire", desc := "(III)I" } : Jvm.MethodName) ({ cls := "SealedWire", name := "wire", desc := "(III)I" } : Jvm.MethodName)) ∈ wG := in_t4 54 rfl rfl
theorem w_775 : (Jvm.Cond.code ({ cls := "SealedWire", name := "wire", desc := "(III)I" } : Jvm.MethodName) prog_1_method_14_code (4 : Nat) (Option.some Jvm.ClassFile.FieldType.int)) ∈ wG := in_t4 55 rfl rfl
theorem w_776 : (Jvm.Cond.methodLink "SealedWire" (208 : Nat) ({ cls := "SealedWire", name := "isRecord", desc := "(II)Z" } : Jvm.MethodName)) ∈ wG := in_t4 56 rfl rfl
theorem w_778 : (Jvm.Cond.instanceMethod ({ cls := "SealedWire", name := "isRecord", desc := "(II)Z" } : Jvm.MethodName)) ∈ wG := in_t4 58 rfl rfl
theorem w_779 : (Jvm.Cond.code ({ cls := "SealedWire", name := "isRecord", desc := "(II)Z" } : Jvm.MethodName) prog_1_method_28_code (3 : Nat) (Option.some Jvm.ClassFile.FieldType.boolean)) ∈ wG := in_t4 59 rfl rfl
theorem w_780 : (Jvm.Cond.methodLink "SealedWireLaw" (78 : Nat) ({ cls := "SealedWire", name := "flip", desc := "(IIII)I" } : Jvm.MethodName)) ∈ wG := in_t4 60 rfl rfl
theorem w_781 : (Jvm.Cond.instanceMethod ({ cls := "SealedWire", name := "flip", desc := "(IIII)I" } : Jvm.MethodName)) ∈ wG := in_t4 61 rfl rfl
theorem w_782 : (Jvm.Cond.selects "SealedWire" ({ cls := "SealedWire", name := "flip", desc := "(IIII)I" } : Jvm.MethodName) ({ cls := "SealedWire", name := "flip", desc := "(IIII)I" } : Jvm.MethodName)) ∈ wG := in_t4 62 rfl rfl
theorem w_783 : (Jvm.Cond.code ({ cls := "SealedWire", name := "flip", desc := "(IIII)I" } : Jvm.MethodName) prog_1_method_15_code (5 : Nat) (Option.some Jvm.ClassFile.FieldType.int)) ∈ wG := in_t4 63 rfl rfl
theorem w_784 : (Jvm.Cond.methodLink "SealedWire" (213 : Nat) ({ cls := "SealedWire$Bytes", name := "flipBits", desc := "(II)I" } : Jvm.MethodName)) ∈ wG := in_t4 64 rfl rfl
theorem w_785 : (Jvm.Cond.instanceMethod ({ cls := "SealedWire$Bytes", name := "flipBits", desc := "(II)I" } : Jvm.MethodName)) ∈ wG := in_t4 65 rfl rfl
theorem w_786 : (Jvm.Cond.selects "SealedWire$Bytes" ({ cls := "SealedWire$Bytes", name := "flipBits", desc := "(II)I" } : Jvm.MethodName) ({ cls := "SealedWire$Bytes", name := "flipBits", desc := "(II)I" } : Jvm.MethodName)) ∈ wG := in_t4 66 rfl rfl
theorem w_787 : (Jvm.Cond.code ({ cls := "SealedWire$Bytes", name := "flipBits", desc := "(II)I" } : Jvm.MethodName) prog_2_method_14_code (3 : Nat) (Option.some Jvm.ClassFile.FieldType.int)) ∈ wG := in_t4 67 rfl rfl
theorem w_788 : (Jvm.Cond.methodLink "SealedWire$Bytes" (33 : Nat) ({ cls := "SealedWire$Bytes", name := "has", desc := "(I)Z" } : Jvm.MethodName)) ∈ wG := in_t4 68 rfl rfl
theorem w_789 : (Jvm.Cond.methodLink "SealedWireLaw" (83 : Nat) ({ cls := "SealedWire", name := "drop", desc := "(II)I" } : Jvm.MethodName)) ∈ wG := in_t4 69 rfl rfl
theorem w_790 : (Jvm.Cond.instanceMethod ({ cls := "SealedWire", name := "drop", desc := "(II)I" } : Jvm.MethodName)) ∈ wG := in_t4 70 rfl rfl
theorem w_791 : (Jvm.Cond.selects "SealedWire" ({ cls := "SealedWire", name := "drop", desc := "(II)I" } : Jvm.MethodName) ({ cls := "SealedWire", name := "drop", desc := "(II)I" } : Jvm.MethodName)) ∈ wG := in_t4 71 rfl rfl
theorem w_792 : (Jvm.Cond.code ({ cls := "SealedWire", name := "drop", desc := "(II)I" } : Jvm.MethodName) prog_1_method_16_code (3 : Nat) (Option.some Jvm.ClassFile.FieldType.int)) ∈ wG := in_t4 72 rfl rfl
theorem w_793 : (Jvm.Cond.methodLink "SealedWire" (216 : Nat) ({ cls := "SealedWire$Wire", name := "size", desc := "()I" } : Jvm.MethodName)) ∈ wG := in_t4 73 rfl rfl
theorem w_794 : (Jvm.Cond.instanceMethod ({ cls := "SealedWire$Wire", name := "size", desc := "()I" } : Jvm.MethodName)) ∈ wG := in_t4 74 rfl rfl
theorem w_795 : (Jvm.Cond.selects "SealedWire$Wire" ({ cls := "SealedWire$Wire", name := "size", desc := "()I" } : Jvm.MethodName) ({ cls := "SealedWire$Wire", name := "size", desc := "()I" } : Jvm.MethodName)) ∈ wG := in_t4 75 rfl rfl
theorem w_796 : (Jvm.Cond.code ({ cls := "SealedWire$Wire", name := "size", desc := "()I" } : Jvm.MethodName) prog_11_method_2_code (1 : Nat) (Option.some Jvm.ClassFile.FieldType.int)) ∈ wG := in_t4 76 rfl rfl
theorem w_797 : (Jvm.Cond.methodLink "SealedWireLaw" (87 : Nat) ({ cls := "SealedWire", name := "copy", desc := "(III)I" } : Jvm.MethodName)) ∈ wG := in_t4 77 rfl rfl
theorem w_798 : (Jvm.Cond.instanceMethod ({ cls := "SealedWire", name := "copy", desc := "(III)I" } : Jvm.MethodName)) ∈ wG := in_t4 78 rfl rfl
theorem w_799 : (Jvm.Cond.selects "SealedWire" ({ cls := "SealedWire", name := "copy", desc := "(III)I" } : Jvm.MethodName) ({ cls := "SealedWire", name := "copy", desc := "(III)I" } : Jvm.MethodName)) ∈ wG := in_t4 79 rfl rfl
theorem w_800 : (Jvm.Cond.code ({ cls := "SealedWire", name := "copy", desc := "(III)I" } : Jvm.MethodName) prog_1_method_17_code (4 : Nat) (Option.some Jvm.ClassFile.FieldType.int)) ∈ wG := in_t4 80 rfl rfl
theorem w_801 : (Jvm.Cond.methodLink "SealedWire" (217 : Nat) ({ cls := "SealedWire", name := "sendWhole", desc := "(LSealedWire$Bytes;LSealedWire$Wire;)Z" } : Jvm.MethodName)) ∈ wG := in_t4 81 rfl rfl
theorem w_802 : (Jvm.Cond.static ({ cls := "SealedWire", name := "sendWhole", desc := "(LSealedWire$Bytes;LSealedWire$Wire;)Z" } : Jvm.MethodName)) ∈ wG := in_t4 82 rfl rfl
theorem w_803 : (Jvm.Cond.code ({ cls := "SealedWire", name := "sendWhole", desc := "(LSealedWire$Bytes;LSealedWire$Wire;)Z" } : Jvm.MethodName) prog_1_method_30_code (2 : Nat) (Option.some Jvm.ClassFile.FieldType.boolean)) ∈ wG := in_t4 83 rfl rfl
theorem w_804 : (Jvm.Cond.methodLink "SealedWireLaw" (91 : Nat) ({ cls := "SealedWire", name := "hurry", desc := "(II)I" } : Jvm.MethodName)) ∈ wG := in_t4 84 rfl rfl
theorem w_805 : (Jvm.Cond.instanceMethod ({ cls := "SealedWire", name := "hurry", desc := "(II)I" } : Jvm.MethodName)) ∈ wG := in_t4 85 rfl rfl
theorem w_806 : (Jvm.Cond.selects "SealedWire" ({ cls := "SealedWire", name := "hurry", desc := "(II)I" } : Jvm.MethodName) ({ cls := "SealedWire", name := "hurry", desc := "(II)I" } : Jvm.MethodName)) ∈ wG := in_t4 86 rfl rfl
theorem w_807 : (Jvm.Cond.code ({ cls := "SealedWire", name := "hurry", desc := "(II)I" } : Jvm.MethodName) prog_1_method_18_code (3 : Nat) (Option.some Jvm.ClassFile.FieldType.int)) ∈ wG := in_t4 87 rfl rfl
theorem w_808 : (Jvm.Cond.methodLink "SealedWire" (221 : Nat) ({ cls := "SealedWire$Wire", name := "bringFirst", desc := "(I)V" } : Jvm.MethodName)) ∈ wG := in_t4 88 rfl rfl
theorem w_809 : (Jvm.Cond.instanceMethod ({ cls := "SealedWire$Wire", name := "bringFirst", desc := "(I)V" } : Jvm.MethodName)) ∈ wG := in_t4 89 rfl rfl
theorem w_810 : (Jvm.Cond.selects "SealedWire$Wire" ({ cls := "SealedWire$Wire", name := "bringFirst", desc := "(I)V" } : Jvm.MethodName) ({ cls := "SealedWire$Wire", name := "bringFirst", desc := "(I)V" } : Jvm.MethodName)) ∈ wG := in_t4 90 rfl rfl
theorem w_811 : (Jvm.Cond.code ({ cls := "SealedWire$Wire", name := "bringFirst", desc := "(I)V" } : Jvm.MethodName) prog_11_method_9_code (4 : Nat) (Option.none : Option Jvm.ClassFile.FieldType)) ∈ wG := in_t4 91 rfl rfl
theorem w_812 : (Jvm.Cond.methodLink "SealedWireLaw" (95 : Nat) ({ cls := "SealedWire", name := "forge", desc := "(I)I" } : Jvm.MethodName)) ∈ wG := in_t4 92 rfl rfl
theorem w_813 : (Jvm.Cond.instanceMethod ({ cls := "SealedWire", name := "forge", desc := "(I)I" } : Jvm.MethodName)) ∈ wG := in_t4 93 rfl rfl
theorem w_814 : (Jvm.Cond.selects "SealedWire" ({ cls := "SealedWire", name := "forge", desc := "(I)I" } : Jvm.MethodName) ({ cls := "SealedWire", name := "forge", desc := "(I)I" } : Jvm.MethodName)) ∈ wG := in_t4 94 rfl rfl
theorem w_815 : (Jvm.Cond.code ({ cls := "SealedWire", name := "forge", desc := "(I)I" } : Jvm.MethodName) prog_1_method_19_code (4 : Nat) (Option.some Jvm.ClassFile.FieldType.int)) ∈ wG := in_t4 95 rfl rfl
theorem w_816 : (Jvm.Cond.methodLink "SealedWireLaw" (99 : Nat) ({ cls := "SealedWire", name := "answer", desc := "()I" } : Jvm.MethodName)) ∈ wG := in_t4 96 rfl rfl
theorem w_817 : (Jvm.Cond.instanceMethod ({ cls := "SealedWire", name := "answer", desc := "()I" } : Jvm.MethodName)) ∈ wG := in_t4 97 rfl rfl
theorem w_818 : (Jvm.Cond.selects "SealedWire" ({ cls := "SealedWire", name := "answer", desc := "()I" } : Jvm.MethodName) ({ cls := "SealedWire", name := "answer", desc := "()I" } : Jvm.MethodName)) ∈ wG := in_t4 98 rfl rfl
theorem w_819 : (Jvm.Cond.code ({ cls := "SealedWire", name := "answer", desc := "()I" } : Jvm.MethodName) prog_1_method_20_code (1 : Nat) (Option.some Jvm.ClassFile.FieldType.int)) ∈ wG := in_t4 99 rfl rfl
theorem w_820 : (Jvm.Cond.methodLink "SealedWireLaw" (103 : Nat) ({ cls := "SealedWire", name := "stored", desc := "()I" } : Jvm.MethodName)) ∈ wG := in_t4 100 rfl rfl
theorem w_821 : (Jvm.Cond.instanceMethod ({ cls := "SealedWire", name := "stored", desc := "()I" } : Jvm.MethodName)) ∈ wG := in_t4 101 rfl rfl
theorem w_822 : (Jvm.Cond.selects "SealedWire" ({ cls := "SealedWire", name := "stored", desc := "()I" } : Jvm.MethodName) ({ cls := "SealedWire", name := "stored", desc := "()I" } : Jvm.MethodName)) ∈ wG := in_t4 102 rfl rfl
theorem w_823 : (Jvm.Cond.code ({ cls := "SealedWire", name := "stored", desc := "()I" } : Jvm.MethodName) prog_1_method_21_code (2 : Nat) (Option.some Jvm.ClassFile.FieldType.int)) ∈ wG := in_t4 103 rfl rfl
theorem w_824 : (Jvm.Cond.methodLink "SealedWire" (224 : Nat) ({ cls := "SealedWire$Store", name := "find", desc := "(LSealedWire$Bytes;)I" } : Jvm.MethodName)) ∈ wG := in_t4 104 rfl rfl
theorem w_825 : (Jvm.Cond.methodLink "SealedWire" (228 : Nat) ({ cls := "SealedWire$Store", name := "valueAt", desc := "(I)LSealedWire$Bytes;" } : Jvm.MethodName)) ∈ wG := in_t4 105 rfl rfl
theorem w_826 : (Jvm.Cond.instanceMethod ({ cls := "SealedWire$Store", name := "valueAt", desc := "(I)LSealedWire$Bytes;" } : Jvm.MethodName)) ∈ wG := in_t4 106 rfl rfl
theorem w_827 : (Jvm.Cond.selects "SealedWire$Store" ({ cls := "SealedWire$Store", name := "valueAt", desc := "(I)LSealedWire$Bytes;" } : Jvm.MethodName) ({ cls := "SealedWire$Store", name := "valueAt", desc := "(I)LSealedWire$Bytes;" } : Jvm.MethodName)) ∈ wG := in_t4 107 rfl rfl
theorem w_828 : (Jvm.Cond.code ({ cls := "SealedWire$Store", name := "valueAt", desc := "(I)LSealedWire$Bytes;" } : Jvm.MethodName) prog_9_method_4_code (2 : Nat) (Option.some (Jvm.ClassFile.FieldType.object "SealedWire$Bytes"))) ∈ wG := in_t4 108 rfl rfl
theorem w_829 : (Jvm.Cond.methodLink "SealedWireLaw" (107 : Nat) ({ cls := "SealedWire", name := "look", desc := "(II)I" } : Jvm.MethodName)) ∈ wG := in_t4 109 rfl rfl
theorem w_830 : (Jvm.Cond.instanceMethod ({ cls := "SealedWire", name := "look", desc := "(II)I" } : Jvm.MethodName)) ∈ wG := in_t4 110 rfl rfl
theorem w_831 : (Jvm.Cond.selects "SealedWire" ({ cls := "SealedWire", name := "look", desc := "(II)I" } : Jvm.MethodName) ({ cls := "SealedWire", name := "look", desc := "(II)I" } : Jvm.MethodName)) ∈ wG := in_t4 111 rfl rfl
theorem w_832 : (Jvm.Cond.code ({ cls := "SealedWire", name := "look", desc := "(II)I" } : Jvm.MethodName) prog_1_method_22_code (5 : Nat) (Option.some Jvm.ClassFile.FieldType.int)) ∈ wG := in_t4 112 rfl rfl
theorem w_833 : (Jvm.Cond.methodLink "SealedWire" (231 : Nat) ({ cls := "SealedWire$Side", name := "state", desc := "()I" } : Jvm.MethodName)) ∈ wG := in_t4 113 rfl rfl
theorem w_834 : (Jvm.Cond.instanceMethod ({ cls := "SealedWire$Side", name := "state", desc := "()I" } : Jvm.MethodName)) ∈ wG := in_t4 114 rfl rfl
theorem w_835 : (Jvm.Cond.selects "SealedWire$Side" ({ cls := "SealedWire$Side", name := "state", desc := "()I" } : Jvm.MethodName) ({ cls := "SealedWire$Side", name := "state", desc := "()I" } : Jvm.MethodName)) ∈ wG := in_t4 115 rfl rfl
theorem w_836 : (Jvm.Cond.code ({ cls := "SealedWire$Side", name := "state", desc := "()I" } : Jvm.MethodName) prog_8_method_9_code (1 : Nat) (Option.some Jvm.ClassFile.FieldType.int)) ∈ wG := in_t4 116 rfl rfl
theorem w_837 : (Jvm.Cond.methodLink "SealedWire" (238 : Nat) ({ cls := "SealedWire$Direction", name := "number", desc := "()I" } : Jvm.MethodName)) ∈ wG := in_t4 117 rfl rfl
theorem w_838 : (Jvm.Cond.methodLink "SealedWire" (243 : Nat) ({ cls := "SealedWire$Direction", name := "generation", desc := "()I" } : Jvm.MethodName)) ∈ wG := in_t4 118 rfl rfl
theorem w_839 : (Jvm.Cond.methodLink "SealedWire" (246 : Nat) ({ cls := "SealedWire$Side", name := "keysHeld", desc := "()I" } : Jvm.MethodName)) ∈ wG := in_t4 119 rfl rfl
theorem w_840 : (Jvm.Cond.instanceMethod ({ cls := "SealedWire$Side", name := "keysHeld", desc := "()I" } : Jvm.MethodName)) ∈ wG := in_t4 120 rfl rfl
theorem w_841 : (Jvm.Cond.selects "SealedWire$Side" ({ cls := "SealedWire$Side", name := "keysHeld", desc := "()I" } : Jvm.MethodName) ({ cls := "SealedWire$Side", name := "keysHeld", desc := "()I" } : Jvm.MethodName)) ∈ wG := in_t4 121 rfl rfl
theorem w_842 : (Jvm.Cond.code ({ cls := "SealedWire$Side", name := "keysHeld", desc := "()I" } : Jvm.MethodName) prog_8_method_7_code (3 : Nat) (Option.some Jvm.ClassFile.FieldType.int)) ∈ wG := in_t4 122 rfl rfl
theorem w_843 : (Jvm.Cond.methodLink "SealedWire$Side" (78 : Nat) ({ cls := "SealedWire$Side", name := "hasKey", desc := "(I)Z" } : Jvm.MethodName)) ∈ wG := in_t4 123 rfl rfl
theorem w_844 : (Jvm.Cond.methodLink "SealedWire" (249 : Nat) ({ cls := "SealedWire$Side", name := "randomsMade", desc := "()I" } : Jvm.MethodName)) ∈ wG := in_t4 124 rfl rfl
theorem w_845 : (Jvm.Cond.instanceMethod ({ cls := "SealedWire$Side", name := "randomsMade", desc := "()I" } : Jvm.MethodName)) ∈ wG := in_t4 125 rfl rfl
theorem w_846 : (Jvm.Cond.selects "SealedWire$Side" ({ cls := "SealedWire$Side", name := "randomsMade", desc := "()I" } : Jvm.MethodName) ({ cls := "SealedWire$Side", name := "randomsMade", desc := "()I" } : Jvm.MethodName)) ∈ wG := in_t4 126 rfl rfl
theorem w_847 : (Jvm.Cond.code ({ cls := "SealedWire$Side", name := "randomsMade", desc := "()I" } : Jvm.MethodName) prog_8_method_8_code (1 : Nat) (Option.some Jvm.ClassFile.FieldType.int)) ∈ wG := in_t4 127 rfl rfl
theorem w_848 : (Jvm.Cond.methodLink "SealedWireLaw" (111 : Nat) ({ cls := "SealedWire", name := "count", desc := "(I)I" } : Jvm.MethodName)) ∈ wG := in_t4 128 rfl rfl
theorem w_849 : (Jvm.Cond.instanceMethod ({ cls := "SealedWire", name := "count", desc := "(I)I" } : Jvm.MethodName)) ∈ wG := in_t4 129 rfl rfl
theorem w_850 : (Jvm.Cond.selects "SealedWire" ({ cls := "SealedWire", name := "count", desc := "(I)I" } : Jvm.MethodName) ({ cls := "SealedWire", name := "count", desc := "(I)I" } : Jvm.MethodName)) ∈ wG := in_t4 130 rfl rfl
theorem w_851 : (Jvm.Cond.code ({ cls := "SealedWire", name := "count", desc := "(I)I" } : Jvm.MethodName) prog_1_method_23_code (2 : Nat) (Option.some Jvm.ClassFile.FieldType.int)) ∈ wG := in_t4 131 rfl rfl
theorem w_852 : (Jvm.Cond.methodLink "SealedWire" (252 : Nat) ({ cls := "SealedWire$Store", name := "size", desc := "()I" } : Jvm.MethodName)) ∈ wG := in_t4 132 rfl rfl
theorem w_853 : (Jvm.Cond.instanceMethod ({ cls := "SealedWire$Store", name := "size", desc := "()I" } : Jvm.MethodName)) ∈ wG := in_t4 133 rfl rfl
theorem w_854 : (Jvm.Cond.selects "SealedWire$Store" ({ cls := "SealedWire$Store", name := "size", desc := "()I" } : Jvm.MethodName) ({ cls := "SealedWire$Store", name := "size", desc := "()I" } : Jvm.MethodName)) ∈ wG := in_t4 134 rfl rfl
theorem w_855 : (Jvm.Cond.code ({ cls := "SealedWire$Store", name := "size", desc := "()I" } : Jvm.MethodName) prog_9_method_2_code (1 : Nat) (Option.some Jvm.ClassFile.FieldType.int)) ∈ wG := in_t4 135 rfl rfl
theorem w_856 : (Jvm.Cond.methodLink "SealedWireLaw" (9 : Nat) ({ cls := "SealedWireLaw", name := "cell", desc := "([II)I" } : Jvm.MethodName)) ∈ wG := in_t4 136 rfl rfl
theorem w_857 : (Jvm.Cond.static ({ cls := "SealedWireLaw", name := "cell", desc := "([II)I" } : Jvm.MethodName)) ∈ wG := in_t4 137 rfl rfl
theorem w_858 : (Jvm.Cond.code ({ cls := "SealedWireLaw", name := "cell", desc := "([II)I" } : Jvm.MethodName) method_2_code (2 : Nat) (Option.some Jvm.ClassFile.FieldType.int)) ∈ wG := in_t4 138 rfl rfl
theorem w_859 : (Jvm.Cond.classLink "SealedWireLaw" (18 : Nat) "SealedWireModel") ∈ wG := in_t4 139 rfl rfl
theorem w_860 : (Jvm.Cond.instantiable "SealedWireModel" (55 : Nat)) ∈ wG := in_t4 140 rfl rfl
theorem w_861 : (Jvm.Cond.methodLink "SealedWireLaw" (20 : Nat) ({ cls := "SealedWireModel", name := "<init>", desc := "(I)V" } : Jvm.MethodName)) ∈ wG := in_t4 141 rfl rfl
theorem w_862 : (Jvm.Cond.instanceMethod ({ cls := "SealedWireModel", name := "<init>", desc := "(I)V" } : Jvm.MethodName)) ∈ wG := in_t4 142 rfl rfl
theorem w_863 : (Jvm.Cond.code ({ cls := "SealedWireModel", name := "<init>", desc := "(I)V" } : Jvm.MethodName) prog_13_method_1_code (2 : Nat) (Option.none : Option Jvm.ClassFile.FieldType)) ∈ wG := in_t4 143 rfl rfl
theorem w_864 : (Jvm.Cond.methodLink "SealedWireModel" (1 : Nat) ({ cls := "java/lang/Object", name := "<init>", desc := "()V" } : Jvm.MethodName)) ∈ wG := in_t4 144 rfl rfl
theorem w_865 : (Jvm.Cond.fieldLink "SealedWireModel" (9 : Nat) "SealedWireModel" "tape" "[B") ∈ wG := in_t4 145 rfl rfl
theorem w_866 : (Jvm.Cond.fieldLink "SealedWireModel" (218 : Nat) "SealedWireModel" "tapeLength" "I") ∈ wG := in_t4 146 rfl rfl
theorem w_867 : (Jvm.Cond.fieldLink "SealedWireModel" (13 : Nat) "SealedWireModel" "out" "[B") ∈ wG := in_t4 147 rfl rfl
theorem w_868 : (Jvm.Cond.fieldLink "SealedWireModel" (224 : Nat) "SealedWireModel" "outCount" "I") ∈ wG := in_t4 148 rfl rfl
theorem w_869 : (Jvm.Cond.fieldLink "SealedWireModel" (149 : Nat) "SealedWireModel" "number" "I") ∈ wG := in_t4 149 rfl rfl
theorem w_870 : (Jvm.Cond.fieldLink "SealedWireModel" (16 : Nat) "SealedWireModel" "row" "[B") ∈ wG := in_t4 150 rfl rfl
theorem w_871 : (Jvm.Cond.fieldLink "SealedWireModel" (152 : Nat) "SealedWireModel" "rowCount" "I") ∈ wG := in_t4 151 rfl rfl
theorem w_872 : (Jvm.Cond.fieldLink "SealedWireModel" (19 : Nat) "SealedWireModel" "h" "[J") ∈ wG := in_t4 152 rfl rfl
theorem w_873 : (Jvm.Cond.fieldLink "SealedWireModel" (23 : Nat) "SealedWireModel" "w" "[J") ∈ wG := in_t4 153 rfl rfl
theorem w_874 : (Jvm.Cond.fieldLink "SealedWireModel" (26 : Nat) "SealedWireModel" "one" "[B") ∈ wG := in_t4 154 rfl rfl
theorem w_875 : (Jvm.Cond.fieldLink "SealedWireModel" (29 : Nat) "SealedWireModel" "macKey" "[B") ∈ wG := in_t4 155 rfl rfl
theorem w_876 : (Jvm.Cond.fieldLink "SealedWireModel" (32 : Nat) "SealedWireModel" "macText" "[B") ∈ wG := in_t4 156 rfl rfl
theorem w_877 : (Jvm.Cond.fieldLink "SealedWireModel" (175 : Nat) "SealedWireModel" "macCount" "I") ∈ wG := in_t4 157 rfl rfl
theorem w_878 : (Jvm.Cond.fieldLink "SealedWireModel" (35 : Nat) "SealedWireModel" "hasKey" "[Z") ∈ wG := in_t4 158 rfl rfl
theorem w_879 : (Jvm.Cond.fieldLink "SealedWireModel" (39 : Nat) "SealedWireModel" "keys" "[B") ∈ wG := in_t4 159 rfl rfl
theorem w_880 : (Jvm.Cond.fieldLink "SealedWireModel" (42 : Nat) "SealedWireModel" "state" "[I") ∈ wG := in_t4 160 rfl rfl
theorem w_881 : (Jvm.Cond.fieldLink "SealedWireModel" (46 : Nat) "SealedWireModel" "randoms" "[I") ∈ wG := in_t4 161 rfl rfl
theorem w_882 : (Jvm.Cond.fieldLink "SealedWireModel" (49 : Nat) "SealedWireModel" "hello" "[B") ∈ wG := in_t4 162 rfl rfl
theorem w_883 : (Jvm.Cond.fieldLink "SealedWireModel" (52 : Nat) "SealedWireModel" "due" "[B") ∈ wG := in_t4 163 rfl rfl
theorem w_884 : (Jvm.Cond.fieldLink "SealedWireModel" (55 : Nat) "SealedWireModel" "sealKey" "[B") ∈ wG := in_t4 164 rfl rfl
theorem w_885 : (Jvm.Cond.fieldLink "SealedWireModel" (58 : Nat) "SealedWireModel" "count" "[I") ∈ wG := in_t4 165 rfl rfl
theorem w_886 : (Jvm.Cond.fieldLink "SealedWireModel" (61 : Nat) "SealedWireModel" "generation" "[I") ∈ wG := in_t4 166 rfl rfl
theorem w_887 : (Jvm.Cond.fieldLink "SealedWireModel" (64 : Nat) "SealedWireModel" "record" "[B") ∈ wG := in_t4 167 rfl rfl
theorem w_888 : (Jvm.Cond.fieldLink "SealedWireModel" (67 : Nat) "SealedWireModel" "length" "[I") ∈ wG := in_t4 168 rfl rfl
theorem w_889 : (Jvm.Cond.fieldLink "SealedWireModel" (70 : Nat) "SealedWireModel" "records" "[I") ∈ wG := in_t4 169 rfl rfl
theorem w_890 : (Jvm.Cond.fieldLink "SealedWireModel" (73 : Nat) "SealedWireModel" "nameNow" "[B") ∈ wG := in_t4 170 rfl rfl
theorem w_891 : (Jvm.Cond.fieldLink "SealedWireModel" (76 : Nat) "SealedWireModel" "nameLength" "I") ∈ wG := in_t4 171 rfl rfl
theorem w_892 : (Jvm.Cond.fieldLink "SealedWireModel" (80 : Nat) "SealedWireModel" "names" "[B") ∈ wG := in_t4 172 rfl rfl
theorem w_893 : (Jvm.Cond.fieldLink "SealedWireModel" (83 : Nat) "SealedWireModel" "nameOf" "[I") ∈ wG := in_t4 173 rfl rfl
theorem w_894 : (Jvm.Cond.fieldLink "SealedWireModel" (86 : Nat) "SealedWireModel" "values" "[B") ∈ wG := in_t4 174 rfl rfl
theorem w_895 : (Jvm.Cond.fieldLink "SealedWireModel" (89 : Nat) "SealedWireModel" "valueOf" "[I") ∈ wG := in_t4 175 rfl rfl
theorem w_896 : (Jvm.Cond.fieldLink "SealedWireModel" (288 : Nat) "SealedWireModel" "stored" "I") ∈ wG := in_t4 176 rfl rfl
theorem w_897 : (Jvm.Cond.fieldLink "SealedWireModel" (92 : Nat) "SealedWireModel" "answer" "[B") ∈ wG := in_t4 177 rfl rfl
theorem w_898 : (Jvm.Cond.fieldLink "SealedWireModel" (273 : Nat) "SealedWireModel" "answerLength" "I") ∈ wG := in_t4 178 rfl rfl
theorem w_899 : (Jvm.Cond.fieldLink "SealedWireModel" (298 : Nat) "SealedWireModel" "answered" "I") ∈ wG := in_t4 179 rfl rfl
theorem w_900 : (Jvm.Cond.fieldLink "SealedWireModel" (313 : Nat) "SealedWireModel" "got" "I") ∈ wG := in_t4 180 rfl rfl
theorem w_901 : (Jvm.Cond.fieldLink "SealedWireModel" (95 : Nat) "SealedWireModel" "v" "[I") ∈ wG := in_t4 181 rfl rfl
theorem w_902 : (Jvm.Cond.fieldLink "SealedWireModel" (98 : Nat) "SealedWireModel" "begin" "[I") ∈ wG := in_t4 182 rfl rfl
theorem w_903 : (Jvm.Cond.fieldLink "SealedWireModel" (101 : Nat) "SealedWireModel" "stream" "[B") ∈ wG := in_t4 183 rfl rfl
theorem w_904 : (Jvm.Cond.fieldLink "SealedWireModel" (104 : Nat) "SealedWireModel" "sum" "[I") ∈ wG := in_t4 184 rfl rfl
theorem w_905 : (Jvm.Cond.fieldLink "SealedWireModel" (107 : Nat) "SealedWireModel" "product" "[I") ∈ wG := in_t4 185 rfl rfl
theorem w_906 : (Jvm.Cond.fieldLink "SealedWireModel" (110 : Nat) "SealedWireModel" "\x72" "[I") ∈ wG := in_t4 186 rfl rfl
theorem w_907 : (Jvm.Cond.fieldLink "SealedWireModel" (113 : Nat) "SealedWireModel" "text" "[B") ∈ wG := in_t4 187 rfl rfl
theorem w_908 : (Jvm.Cond.fieldLink "SealedWireModel" (116 : Nat) "SealedWireModel" "tag" "[B") ∈ wG := in_t4 188 rfl rfl
theorem w_909 : (Jvm.Cond.fieldLink "SealedWireModel" (119 : Nat) "SealedWireModel" "above" "[I") ∈ wG := in_t4 189 rfl rfl
theorem w_910 : (Jvm.Cond.fieldLink "SealedWireModel" (122 : Nat) "SealedWireModel" "plain" "[B") ∈ wG := in_t4 190 rfl rfl
theorem w_911 : (Jvm.Cond.fieldLink "SealedWireModel" (248 : Nat) "SealedWireModel" "plainCount" "I") ∈ wG := in_t4 191 rfl rfl
theorem w_912 : (Jvm.Cond.fieldLink "SealedWireModel" (125 : Nat) "SealedWireModel" "secret" "[B") ∈ wG := in_t4 192 rfl rfl
theorem w_913 : (Jvm.Cond.fieldLink "SealedWireModel" (128 : Nat) "SealedWireModel" "proof" "[B") ∈ wG := in_t4 193 rfl rfl
theorem w_914 : (Jvm.Cond.fieldLink "SealedWireModel" (131 : Nat) "SealedWireModel" "hello2" "[B") ∈ wG := in_t4 194 rfl rfl
theorem w_915 : (Jvm.Cond.fieldLink "SealedWireModel" (134 : Nat) "SealedWireModel" "serverSecret" "[B") ∈ wG := in_t4 195 rfl rfl
theorem w_916 : (Jvm.Cond.fieldLink "SealedWireModel" (137 : Nat) "SealedWireModel" "random" "[B") ∈ wG := in_t4 196 rfl rfl
theorem w_917 : (Jvm.Cond.fieldLink "SealedWireModel" (140 : Nat) "SealedWireModel" "keptHello" "[B") ∈ wG := in_t4 197 rfl rfl
theorem w_918 : (Jvm.Cond.fieldLink "SealedWireModel" (143 : Nat) "SealedWireModel" "check" "[B") ∈ wG := in_t4 198 rfl rfl
theorem w_919 : (Jvm.Cond.fieldLink "SealedWireModel" (146 : Nat) "SealedWireModel" "kept" "[B") ∈ wG := in_t4 199 rfl rfl
theorem w_1031 : (Jvm.Cond.arrayClass Jvm.ClassFile.FieldType.byte) ∈ wG := in_t5 71 rfl rfl
theorem w_1032 : (Jvm.Cond.arrayClass Jvm.ClassFile.FieldType.boolean) ∈ wG := in_t5 72 rfl rfl
theorem w_1033 : (Jvm.Cond.methodLink "SealedWireLaw" (25 : Nat) ({ cls := "SealedWireModel", name := "feed", desc := "(IIIII)I" } : Jvm.MethodName)) ∈ wG := in_t5 73 rfl rfl
theorem w_1034 : (Jvm.Cond.instanceMethod ({ cls := "SealedWireModel", name := "feed", desc := "(IIIII)I" } : Jvm.MethodName)) ∈ wG := in_t5 74 rfl rfl
theorem w_1035 : (Jvm.Cond.selects "SealedWireModel" ({ cls := "SealedWireModel", name := "feed", desc := "(IIIII)I" } : Jvm.MethodName) ({ cls := "SealedWireModel", name := "feed", desc := "(IIIII)I" } : Jvm.MethodName)) ∈ wG := in_t5 75 rfl rfl
theorem w_1036 : (Jvm.Cond.code ({ cls := "SealedWireModel", name := "feed", desc := "(IIIII)I" } : Jvm.MethodName) prog_13_method_21_code (6 : Nat) (Option.some Jvm.ClassFile.FieldType.int)) ∈ wG := in_t5 76 rfl rfl
theorem w_1037 : (Jvm.Cond.methodLink "SealedWireModel" (221 : Nat) ({ cls := "SealedWireModel", name := "put", desc := "(I)V" } : Jvm.MethodName)) ∈ wG := in_t5 77 rfl rfl
theorem w_1039 : (Jvm.Cond.instanceMethod ({ cls := "SealedWireModel", name := "put", desc := "(I)V" } : Jvm.MethodName)) ∈ wG := in_t5 79 rfl rfl
theorem w_1040 : (Jvm.Cond.code ({ cls := "SealedWireModel", name := "put", desc := "(I)V" } : Jvm.MethodName) prog_13_method_20_code (3 : Nat) (Option.none : Option Jvm.ClassFile.FieldType)) ∈ wG := in_t5 80 rfl rfl
theorem w_1041 : (Jvm.Cond.methodLink "SealedWireLaw" (30 : Nat) ({ cls := "SealedWireModel", name := "end", desc := "(I)I" } : Jvm.MethodName)) ∈ wG := in_t5 81 rfl rfl
theorem w_1042 : (Jvm.Cond.instanceMethod ({ cls := "SealedWireModel", name := "end", desc := "(I)I" } : Jvm.MethodName)) ∈ wG := in_t5 82 rfl rfl
theorem w_1043 : (Jvm.Cond.selects "SealedWireModel" ({ cls := "SealedWireModel", name := "end", desc := "(I)I" } : Jvm.MethodName) ({ cls := "SealedWireModel", name := "end", desc := "(I)I" } : Jvm.MethodName)) ∈ wG := in_t5 83 rfl rfl
theorem w_1044 : (Jvm.Cond.code ({ cls := "SealedWireModel", name := "end", desc := "(I)I" } : Jvm.MethodName) prog_13_method_22_code (2 : Nat) (Option.some Jvm.ClassFile.FieldType.int)) ∈ wG := in_t5 84 rfl rfl
theorem w_1045 : (Jvm.Cond.methodLink "SealedWireLaw" (34 : Nat) ({ cls := "SealedWireModel", name := "octet", desc := "(I)I" } : Jvm.MethodName)) ∈ wG := in_t5 85 rfl rfl
theorem w_1046 : (Jvm.Cond.instanceMethod ({ cls := "SealedWireModel", name := "octet", desc := "(I)I" } : Jvm.MethodName)) ∈ wG := in_t5 86 rfl rfl
theorem w_1047 : (Jvm.Cond.selects "SealedWireModel" ({ cls := "SealedWireModel", name := "octet", desc := "(I)I" } : Jvm.MethodName) ({ cls := "SealedWireModel", name := "octet", desc := "(I)I" } : Jvm.MethodName)) ∈ wG := in_t5 87 rfl rfl
theorem w_1048 : (Jvm.Cond.code ({ cls := "SealedWireModel", name := "octet", desc := "(I)I" } : Jvm.MethodName) prog_13_method_23_code (2 : Nat) (Option.some Jvm.ClassFile.FieldType.int)) ∈ wG := in_t5 88 rfl rfl
theorem w_1049 : (Jvm.Cond.methodLink "SealedWireLaw" (39 : Nat) ({ cls := "SealedWireModel", name := "key", desc := "(II)I" } : Jvm.MethodName)) ∈ wG := in_t5 89 rfl rfl
theorem w_1050 : (Jvm.Cond.instanceMethod ({ cls := "SealedWireModel", name := "key", desc := "(II)I" } : Jvm.MethodName)) ∈ wG := in_t5 90 rfl rfl
theorem w_1051 : (Jvm.Cond.selects "SealedWireModel" ({ cls := "SealedWireModel", name := "key", desc := "(II)I" } : Jvm.MethodName) ({ cls := "SealedWireModel", name := "key", desc := "(II)I" } : Jvm.MethodName)) ∈ wG := in_t5 91 rfl rfl
theorem w_1052 : (Jvm.Cond.code ({ cls := "SealedWireModel", name := "key", desc := "(II)I" } : Jvm.MethodName) prog_13_method_25_code (4 : Nat) (Option.some Jvm.ClassFile.FieldType.int)) ∈ wG := in_t5 92 rfl rfl
theorem w_1053 : (Jvm.Cond.methodLink "SealedWireModel" (227 : Nat) ({ cls := "SealedWireModel", name := "side", desc := "(I)Z" } : Jvm.MethodName)) ∈ wG := in_t5 93 rfl rfl
theorem w_1054 : (Jvm.Cond.static ({ cls := "SealedWireModel", name := "side", desc := "(I)Z" } : Jvm.MethodName)) ∈ wG := in_t5 94 rfl rfl
theorem w_1055 : (Jvm.Cond.code ({ cls := "SealedWireModel", name := "side", desc := "(I)Z" } : Jvm.MethodName) prog_13_method_24_code (1 : Nat) (Option.some Jvm.ClassFile.FieldType.boolean)) ∈ wG := in_t5 95 rfl rfl
theorem w_1056 : (Jvm.Cond.methodLink "SealedWireModel" (178 : Nat) ({ cls := "SealedWireModel", name := "add", desc := "([BII)V" } : Jvm.MethodName)) ∈ wG := in_t5 96 rfl rfl
theorem w_1058 : (Jvm.Cond.instanceMethod ({ cls := "SealedWireModel", name := "add", desc := "([BII)V" } : Jvm.MethodName)) ∈ wG := in_t5 98 rfl rfl
theorem w_1059 : (Jvm.Cond.code ({ cls := "SealedWireModel", name := "add", desc := "([BII)V" } : Jvm.MethodName) prog_13_method_4_code (5 : Nat) (Option.none : Option Jvm.ClassFile.FieldType)) ∈ wG := in_t5 99 rfl rfl
theorem w_1060 : (Jvm.Cond.methodLink "SealedWireModel" (155 : Nat) ({ cls := "SealedWireModel", name := "add", desc := "(I)V" } : Jvm.MethodName)) ∈ wG := in_t5 100 rfl rfl
theorem w_1062 : (Jvm.Cond.instanceMethod ({ cls := "SealedWireModel", name := "add", desc := "(I)V" } : Jvm.MethodName)) ∈ wG := in_t5 102 rfl rfl
theorem w_1063 : (Jvm.Cond.code ({ cls := "SealedWireModel", name := "add", desc := "(I)V" } : Jvm.MethodName) prog_13_method_2_code (2 : Nat) (Option.none : Option Jvm.ClassFile.FieldType)) ∈ wG := in_t5 103 rfl rfl
theorem w_1064 : (Jvm.Cond.methodLink "SealedWireModel" (181 : Nat) ({ cls := "SealedWireModel", name := "hashTo", desc := "([BI)V" } : Jvm.MethodName)) ∈ wG := in_t5 104 rfl rfl
theorem w_1066 : (Jvm.Cond.instanceMethod ({ cls := "SealedWireModel", name := "hashTo", desc := "([BI)V" } : Jvm.MethodName)) ∈ wG := in_t5 106 rfl rfl
theorem w_1067 : (Jvm.Cond.code ({ cls := "SealedWireModel", name := "hashTo", desc := "([BI)V" } : Jvm.MethodName) prog_13_method_7_code (5 : Nat) (Option.none : Option Jvm.ClassFile.FieldType)) ∈ wG := in_t5 107 rfl rfl
theorem w_1068 : (Jvm.Cond.fieldLink "SealedWireModel" (168 : Nat) "SealedWireModel" "BEGIN" "[I") ∈ wG := in_t5 108 rfl rfl
theorem w_1070 : (Jvm.Cond.constantLong "SealedWireModel" (159 : Nat) (4294967295 : Int64)) ∈ wG := in_t5 110 rfl rfl
theorem w_1071 : (Jvm.Cond.methodLink "SealedWireModel" (171 : Nat) ({ cls := "SealedWireModel", name := "block", desc := "(III)V" } : Jvm.MethodName)) ∈ wG := in_t5 111 rfl rfl
theorem w_1073 : (Jvm.Cond.instanceMethod ({ cls := "SealedWireModel", name := "block", desc := "(III)V" } : Jvm.MethodName)) ∈ wG := in_t5 113 rfl rfl
theorem w_1074 : (Jvm.Cond.code ({ cls := "SealedWireModel", name := "block", desc := "(III)V" } : Jvm.MethodName) prog_13_method_6_code (25 : Nat) (Option.none : Option Jvm.ClassFile.FieldType)) ∈ wG := in_t5 114 rfl rfl
theorem w_1075 : (Jvm.Cond.methodLink "SealedWireModel" (161 : Nat) ({ cls := "SealedWireModel", name := "turn", desc := "(JI)J" } : Jvm.MethodName)) ∈ wG := in_t5 115 rfl rfl
theorem w_1076 : (Jvm.Cond.static ({ cls := "SealedWireModel", name := "turn", desc := "(JI)J" } : Jvm.MethodName)) ∈ wG := in_t5 116 rfl rfl
theorem w_1077 : (Jvm.Cond.code ({ cls := "SealedWireModel", name := "turn", desc := "(JI)J" } : Jvm.MethodName) prog_13_method_5_code (3 : Nat) (Option.some Jvm.ClassFile.FieldType.long)) ∈ wG := in_t5 117 rfl rfl
theorem w_1078 : (Jvm.Cond.fieldLink "SealedWireModel" (165 : Nat) "SealedWireModel" "ROUND" "[I") ∈ wG := in_t5 118 rfl rfl
theorem w_1080 : (Jvm.Cond.methodLink "SealedWireLaw" (43 : Nat) ({ cls := "SealedWireModel", name := "forget", desc := "(II)I" } : Jvm.MethodName)) ∈ wG := in_t5 120 rfl rfl
theorem w_1081 : (Jvm.Cond.instanceMethod ({ cls := "SealedWireModel", name := "forget", desc := "(II)I" } : Jvm.MethodName)) ∈ wG := in_t5 121 rfl rfl
theorem w_1082 : (Jvm.Cond.selects "SealedWireModel" ({ cls := "SealedWireModel", name := "forget", desc := "(II)I" } : Jvm.MethodName) ({ cls := "SealedWireModel", name := "forget", desc := "(II)I" } : Jvm.MethodName)) ∈ wG := in_t5 122 rfl rfl
theorem w_1083 : (Jvm.Cond.code ({ cls := "SealedWireModel", name := "forget", desc := "(II)I" } : Jvm.MethodName) prog_13_method_26_code (3 : Nat) (Option.some Jvm.ClassFile.FieldType.int)) ∈ wG := in_t5 123 rfl rfl
