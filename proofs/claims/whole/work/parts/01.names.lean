-- ===== PART A: goes FIRST, ahead of the names: the tables' words, and 'selects' of the private methods out of them =====
/-- a private method of a class that the tables say can be made, by its rows of tables_1 -/
def lw_okq (q : MethodName × Nat) : Prop := (q.1.cls ≠ "java/lang/invoke/MethodHandle" ∧ q.1.cls ≠ "java/lang/invoke/VarHandle") ∧ Cond.instantiable q.1.cls q.2 ∈ tables_1 ∧ Cond.privateMethod q.1 ∈ tables_1 ∧ Cond.instanceMethod q.1 ∈ tables_1
theorem lw_p0 : lw_okq (⟨"SealedWire", "sideOf", "(I)LSealedWire$Side;"⟩, 17) := ⟨⟨by decide +kernel, by decide +kernel⟩, List.mem_of_getElem? (i := 16) (by decide +kernel), List.mem_of_getElem? (i := 341) (by decide +kernel), List.mem_of_getElem? (i := 342) (by decide +kernel)⟩
theorem lw_p1 : lw_okq (⟨"SealedWire$Hash", "finish", "(LSealedWire$Bytes;)V"⟩, 4) := ⟨⟨by decide +kernel, by decide +kernel⟩, List.mem_of_getElem? (i := 152) (by decide +kernel), List.mem_of_getElem? (i := 365) (by decide +kernel), List.mem_of_getElem? (i := 366) (by decide +kernel)⟩
theorem lw_p2 : lw_okq (⟨"SealedWire$Hash", "spread", "(I)V"⟩, 4) := ⟨⟨by decide +kernel, by decide +kernel⟩, List.mem_of_getElem? (i := 152) (by decide +kernel), List.mem_of_getElem? (i := 375) (by decide +kernel), List.mem_of_getElem? (i := 376) (by decide +kernel)⟩
theorem lw_p3 : lw_okq (⟨"SealedWire$Hash", "mix", "()V"⟩, 4) := ⟨⟨by decide +kernel, by decide +kernel⟩, List.mem_of_getElem? (i := 152) (by decide +kernel), List.mem_of_getElem? (i := 386) (by decide +kernel), List.mem_of_getElem? (i := 387) (by decide +kernel)⟩
theorem lw_p4 : lw_okq (⟨"SealedWire", "sendRequest", "(I)I"⟩, 17) := ⟨⟨by decide +kernel, by decide +kernel⟩, List.mem_of_getElem? (i := 16) (by decide +kernel), List.mem_of_getElem? (i := 472) (by decide +kernel), List.mem_of_getElem? (i := 473) (by decide +kernel)⟩
theorem lw_p5 : lw_okq (⟨"SealedWire$Sealer", "cover", "(LSealedWire$Bytes;IILSealedWire$Bytes;)V"⟩, 3) := ⟨⟨by decide +kernel, by decide +kernel⟩, List.mem_of_getElem? (i := 38) (by decide +kernel), List.mem_of_getElem? (i := 513) (by decide +kernel), List.mem_of_getElem? (i := 514) (by decide +kernel)⟩
theorem lw_p6 : lw_okq (⟨"SealedWire$Stream", "quarter", "(IIII)V"⟩, 2) := ⟨⟨by decide +kernel, by decide +kernel⟩, List.mem_of_getElem? (i := 44) (by decide +kernel), List.mem_of_getElem? (i := 521) (by decide +kernel), List.mem_of_getElem? (i := 522) (by decide +kernel)⟩
theorem lw_p7 : lw_okq (⟨"SealedWire$Poly", "layText", "(LSealedWire$Bytes;I)V"⟩, 5) := ⟨⟨by decide +kernel, by decide +kernel⟩, List.mem_of_getElem? (i := 57) (by decide +kernel), List.mem_of_getElem? (i := 538) (by decide +kernel), List.mem_of_getElem? (i := 539) (by decide +kernel)⟩
theorem lw_p8 : lw_okq (⟨"SealedWire$Poly", "fillBlock", "()V"⟩, 5) := ⟨⟨by decide +kernel, by decide +kernel⟩, List.mem_of_getElem? (i := 57) (by decide +kernel), List.mem_of_getElem? (i := 544) (by decide +kernel), List.mem_of_getElem? (i := 545) (by decide +kernel)⟩
theorem lw_p9 : lw_okq (⟨"SealedWire$Poly", "begin", "(LSealedWire$Stream;)V"⟩, 5) := ⟨⟨by decide +kernel, by decide +kernel⟩, List.mem_of_getElem? (i := 57) (by decide +kernel), List.mem_of_getElem? (i := 552) (by decide +kernel), List.mem_of_getElem? (i := 553) (by decide +kernel)⟩
theorem lw_p10 : lw_okq (⟨"SealedWire$Poly", "limbOfWords", "(I)J"⟩, 5) := ⟨⟨by decide +kernel, by decide +kernel⟩, List.mem_of_getElem? (i := 57) (by decide +kernel), List.mem_of_getElem? (i := 562) (by decide +kernel), List.mem_of_getElem? (i := 563) (by decide +kernel)⟩
theorem lw_p11 : lw_okq (⟨"SealedWire$Poly", "takeBlock", "(I)V"⟩, 5) := ⟨⟨by decide +kernel, by decide +kernel⟩, List.mem_of_getElem? (i := 57) (by decide +kernel), List.mem_of_getElem? (i := 568) (by decide +kernel), List.mem_of_getElem? (i := 569) (by decide +kernel)⟩
theorem lw_p12 : lw_okq (⟨"SealedWire$Poly", "reduce", "()V"⟩, 5) := ⟨⟨by decide +kernel, by decide +kernel⟩, List.mem_of_getElem? (i := 57) (by decide +kernel), List.mem_of_getElem? (i := 576) (by decide +kernel), List.mem_of_getElem? (i := 577) (by decide +kernel)⟩
theorem lw_p13 : lw_okq (⟨"SealedWire$Poly", "finish", "(LSealedWire$Stream;LSealedWire$Bytes;)V"⟩, 5) := ⟨⟨by decide +kernel, by decide +kernel⟩, List.mem_of_getElem? (i := 57) (by decide +kernel), List.mem_of_getElem? (i := 583) (by decide +kernel), List.mem_of_getElem? (i := 584) (by decide +kernel)⟩
theorem lw_p14 : lw_okq (⟨"SealedWire", "sendBare", "(II)I"⟩, 17) := ⟨⟨by decide +kernel, by decide +kernel⟩, List.mem_of_getElem? (i := 16) (by decide +kernel), List.mem_of_getElem? (i := 597) (by decide +kernel), List.mem_of_getElem? (i := 598) (by decide +kernel)⟩
theorem lw_p15 : lw_okq (⟨"SealedWire", "wireOf", "(I)LSealedWire$Wire;"⟩, 17) := ⟨⟨by decide +kernel, by decide +kernel⟩, List.mem_of_getElem? (i := 16) (by decide +kernel), List.mem_of_getElem? (i := 601) (by decide +kernel), List.mem_of_getElem? (i := 602) (by decide +kernel)⟩
def lw_privs_1 : List (MethodName × Nat) := [(⟨"SealedWire", "sideOf", "(I)LSealedWire$Side;"⟩, 17), (⟨"SealedWire$Hash", "finish", "(LSealedWire$Bytes;)V"⟩, 4), (⟨"SealedWire$Hash", "spread", "(I)V"⟩, 4), (⟨"SealedWire$Hash", "mix", "()V"⟩, 4), (⟨"SealedWire", "sendRequest", "(I)I"⟩, 17), (⟨"SealedWire$Sealer", "cover", "(LSealedWire$Bytes;IILSealedWire$Bytes;)V"⟩, 3), (⟨"SealedWire$Stream", "quarter", "(IIII)V"⟩, 2), (⟨"SealedWire$Poly", "layText", "(LSealedWire$Bytes;I)V"⟩, 5), (⟨"SealedWire$Poly", "fillBlock", "()V"⟩, 5), (⟨"SealedWire$Poly", "begin", "(LSealedWire$Stream;)V"⟩, 5), (⟨"SealedWire$Poly", "limbOfWords", "(I)J"⟩, 5), (⟨"SealedWire$Poly", "takeBlock", "(I)V"⟩, 5), (⟨"SealedWire$Poly", "reduce", "()V"⟩, 5), (⟨"SealedWire$Poly", "finish", "(LSealedWire$Stream;LSealedWire$Bytes;)V"⟩, 5), (⟨"SealedWire", "sendBare", "(II)I"⟩, 17), (⟨"SealedWire", "wireOf", "(I)LSealedWire$Wire;"⟩, 17)]
theorem lw_r1 : ∀ q ∈ lw_privs_1, lw_okq q := List.forall_mem_cons.mpr ⟨lw_p0, List.forall_mem_cons.mpr ⟨lw_p1, List.forall_mem_cons.mpr ⟨lw_p2, List.forall_mem_cons.mpr ⟨lw_p3, List.forall_mem_cons.mpr ⟨lw_p4, List.forall_mem_cons.mpr ⟨lw_p5, List.forall_mem_cons.mpr ⟨lw_p6, List.forall_mem_cons.mpr ⟨lw_p7, List.forall_mem_cons.mpr ⟨lw_p8, List.forall_mem_cons.mpr ⟨lw_p9, List.forall_mem_cons.mpr ⟨lw_p10, List.forall_mem_cons.mpr ⟨lw_p11, List.forall_mem_cons.mpr ⟨lw_p12, List.forall_mem_cons.mpr ⟨lw_p13, List.forall_mem_cons.mpr ⟨lw_p14, List.forall_mem_cons.mpr ⟨lw_p15, fun _ h => absurd h List.not_mem_nil⟩⟩⟩⟩⟩⟩⟩⟩⟩⟩⟩⟩⟩⟩⟩⟩
theorem lw_p16 : lw_okq (⟨"SealedWire$Hash", "layKey", "(LSealedWire$Bytes;I)V"⟩, 4) := ⟨⟨by decide +kernel, by decide +kernel⟩, List.mem_of_getElem? (i := 152) (by decide +kernel), List.mem_of_getElem? (i := 625) (by decide +kernel), List.mem_of_getElem? (i := 626) (by decide +kernel)⟩
theorem lw_p17 : lw_okq (⟨"SealedWire", "takeGreeting", "(LSealedWire$Side;LSealedWire$Bytes;)I"⟩, 17) := ⟨⟨by decide +kernel, by decide +kernel⟩, List.mem_of_getElem? (i := 16) (by decide +kernel), List.mem_of_getElem? (i := 660) (by decide +kernel), List.mem_of_getElem? (i := 661) (by decide +kernel)⟩
theorem lw_p18 : lw_okq (⟨"SealedWire", "takeReply", "(LSealedWire$Side;LSealedWire$Bytes;)I"⟩, 17) := ⟨⟨by decide +kernel, by decide +kernel⟩, List.mem_of_getElem? (i := 16) (by decide +kernel), List.mem_of_getElem? (i := 679) (by decide +kernel), List.mem_of_getElem? (i := 680) (by decide +kernel)⟩
theorem lw_p19 : lw_okq (⟨"SealedWire", "takeProof", "(LSealedWire$Side;LSealedWire$Bytes;)I"⟩, 17) := ⟨⟨by decide +kernel, by decide +kernel⟩, List.mem_of_getElem? (i := 16) (by decide +kernel), List.mem_of_getElem? (i := 691) (by decide +kernel), List.mem_of_getElem? (i := 692) (by decide +kernel)⟩
theorem lw_p20 : lw_okq (⟨"SealedWire", "takeSealed", "(LSealedWire$Side;LSealedWire$Bytes;)I"⟩, 17) := ⟨⟨by decide +kernel, by decide +kernel⟩, List.mem_of_getElem? (i := 16) (by decide +kernel), List.mem_of_getElem? (i := 695) (by decide +kernel), List.mem_of_getElem? (i := 696) (by decide +kernel)⟩
theorem lw_p21 : lw_okq (⟨"SealedWire", "takeRequest", "(LSealedWire$Direction;)I"⟩, 17) := ⟨⟨by decide +kernel, by decide +kernel⟩, List.mem_of_getElem? (i := 16) (by decide +kernel), List.mem_of_getElem? (i := 705) (by decide +kernel), List.mem_of_getElem? (i := 706) (by decide +kernel)⟩
theorem lw_p22 : lw_okq (⟨"SealedWire$Store", "add", "(LSealedWire$Request;)I"⟩, 3) := ⟨⟨by decide +kernel, by decide +kernel⟩, List.mem_of_getElem? (i := 110) (by decide +kernel), List.mem_of_getElem? (i := 743) (by decide +kernel), List.mem_of_getElem? (i := 744) (by decide +kernel)⟩
theorem lw_p23 : lw_okq (⟨"SealedWire$Store", "replace", "(ILSealedWire$Bytes;)I"⟩, 3) := ⟨⟨by decide +kernel, by decide +kernel⟩, List.mem_of_getElem? (i := 110) (by decide +kernel), List.mem_of_getElem? (i := 752) (by decide +kernel), List.mem_of_getElem? (i := 753) (by decide +kernel)⟩
theorem lw_p24 : lw_okq (⟨"SealedWire$Store", "removeAt", "(I)I"⟩, 3) := ⟨⟨by decide +kernel, by decide +kernel⟩, List.mem_of_getElem? (i := 110) (by decide +kernel), List.mem_of_getElem? (i := 756) (by decide +kernel), List.mem_of_getElem? (i := 757) (by decide +kernel)⟩
theorem lw_p25 : lw_okq (⟨"SealedWire$Store", "lengthen", "(ILSealedWire$Bytes;)I"⟩, 3) := ⟨⟨by decide +kernel, by decide +kernel⟩, List.mem_of_getElem? (i := 110) (by decide +kernel), List.mem_of_getElem? (i := 760) (by decide +kernel), List.mem_of_getElem? (i := 761) (by decide +kernel)⟩
theorem lw_p26 : lw_okq (⟨"SealedWire", "takeAnswer", "(LSealedWire$Direction;)I"⟩, 17) := ⟨⟨by decide +kernel, by decide +kernel⟩, List.mem_of_getElem? (i := 16) (by decide +kernel), List.mem_of_getElem? (i := 765) (by decide +kernel), List.mem_of_getElem? (i := 766) (by decide +kernel)⟩
theorem lw_p27 : lw_okq (⟨"SealedWire", "isRecord", "(II)Z"⟩, 17) := ⟨⟨by decide +kernel, by decide +kernel⟩, List.mem_of_getElem? (i := 16) (by decide +kernel), List.mem_of_getElem? (i := 777) (by decide +kernel), List.mem_of_getElem? (i := 778) (by decide +kernel)⟩
theorem lw_p28 : lw_okq (⟨"SealedWireModel", "put", "(I)V"⟩, 55) := ⟨⟨by decide +kernel, by decide +kernel⟩, List.mem_of_getElem? (i := 860) (by decide +kernel), List.mem_of_getElem? (i := 1038) (by decide +kernel), List.mem_of_getElem? (i := 1039) (by decide +kernel)⟩
theorem lw_p29 : lw_okq (⟨"SealedWireModel", "add", "([BII)V"⟩, 55) := ⟨⟨by decide +kernel, by decide +kernel⟩, List.mem_of_getElem? (i := 860) (by decide +kernel), List.mem_of_getElem? (i := 1057) (by decide +kernel), List.mem_of_getElem? (i := 1058) (by decide +kernel)⟩
theorem lw_p30 : lw_okq (⟨"SealedWireModel", "add", "(I)V"⟩, 55) := ⟨⟨by decide +kernel, by decide +kernel⟩, List.mem_of_getElem? (i := 860) (by decide +kernel), List.mem_of_getElem? (i := 1061) (by decide +kernel), List.mem_of_getElem? (i := 1062) (by decide +kernel)⟩
theorem lw_p31 : lw_okq (⟨"SealedWireModel", "hashTo", "([BI)V"⟩, 55) := ⟨⟨by decide +kernel, by decide +kernel⟩, List.mem_of_getElem? (i := 860) (by decide +kernel), List.mem_of_getElem? (i := 1065) (by decide +kernel), List.mem_of_getElem? (i := 1066) (by decide +kernel)⟩
def lw_privs_2 : List (MethodName × Nat) := [(⟨"SealedWire$Hash", "layKey", "(LSealedWire$Bytes;I)V"⟩, 4), (⟨"SealedWire", "takeGreeting", "(LSealedWire$Side;LSealedWire$Bytes;)I"⟩, 17), (⟨"SealedWire", "takeReply", "(LSealedWire$Side;LSealedWire$Bytes;)I"⟩, 17), (⟨"SealedWire", "takeProof", "(LSealedWire$Side;LSealedWire$Bytes;)I"⟩, 17), (⟨"SealedWire", "takeSealed", "(LSealedWire$Side;LSealedWire$Bytes;)I"⟩, 17), (⟨"SealedWire", "takeRequest", "(LSealedWire$Direction;)I"⟩, 17), (⟨"SealedWire$Store", "add", "(LSealedWire$Request;)I"⟩, 3), (⟨"SealedWire$Store", "replace", "(ILSealedWire$Bytes;)I"⟩, 3), (⟨"SealedWire$Store", "removeAt", "(I)I"⟩, 3), (⟨"SealedWire$Store", "lengthen", "(ILSealedWire$Bytes;)I"⟩, 3), (⟨"SealedWire", "takeAnswer", "(LSealedWire$Direction;)I"⟩, 17), (⟨"SealedWire", "isRecord", "(II)Z"⟩, 17), (⟨"SealedWireModel", "put", "(I)V"⟩, 55), (⟨"SealedWireModel", "add", "([BII)V"⟩, 55), (⟨"SealedWireModel", "add", "(I)V"⟩, 55), (⟨"SealedWireModel", "hashTo", "([BI)V"⟩, 55)]
theorem lw_r2 : ∀ q ∈ lw_privs_2, lw_okq q := List.forall_mem_cons.mpr ⟨lw_p16, List.forall_mem_cons.mpr ⟨lw_p17, List.forall_mem_cons.mpr ⟨lw_p18, List.forall_mem_cons.mpr ⟨lw_p19, List.forall_mem_cons.mpr ⟨lw_p20, List.forall_mem_cons.mpr ⟨lw_p21, List.forall_mem_cons.mpr ⟨lw_p22, List.forall_mem_cons.mpr ⟨lw_p23, List.forall_mem_cons.mpr ⟨lw_p24, List.forall_mem_cons.mpr ⟨lw_p25, List.forall_mem_cons.mpr ⟨lw_p26, List.forall_mem_cons.mpr ⟨lw_p27, List.forall_mem_cons.mpr ⟨lw_p28, List.forall_mem_cons.mpr ⟨lw_p29, List.forall_mem_cons.mpr ⟨lw_p30, List.forall_mem_cons.mpr ⟨lw_p31, fun _ h => absurd h List.not_mem_nil⟩⟩⟩⟩⟩⟩⟩⟩⟩⟩⟩⟩⟩⟩⟩⟩
theorem lw_p32 : lw_okq (⟨"SealedWireModel", "block", "(III)V"⟩, 55) := ⟨⟨by decide +kernel, by decide +kernel⟩, List.mem_of_getElem? (i := 860) (by decide +kernel), List.mem_of_getElem? (i := 1072) (by decide +kernel), List.mem_of_getElem? (i := 1073) (by decide +kernel)⟩
theorem lw_p33 : lw_okq (⟨"SealedWireModel", "full", "(I)Z"⟩, 55) := ⟨⟨by decide +kernel, by decide +kernel⟩, List.mem_of_getElem? (i := 860) (by decide +kernel), List.mem_of_getElem? (i := 1089) (by decide +kernel), List.mem_of_getElem? (i := 1090) (by decide +kernel)⟩
theorem lw_p34 : lw_okq (⟨"SealedWireModel", "randomTo", "(I[BI)V"⟩, 55) := ⟨⟨by decide +kernel, by decide +kernel⟩, List.mem_of_getElem? (i := 860) (by decide +kernel), List.mem_of_getElem? (i := 1093) (by decide +kernel), List.mem_of_getElem? (i := 1094) (by decide +kernel)⟩
theorem lw_p35 : lw_okq (⟨"SealedWireModel", "word", "(I)V"⟩, 55) := ⟨⟨by decide +kernel, by decide +kernel⟩, List.mem_of_getElem? (i := 860) (by decide +kernel), List.mem_of_getElem? (i := 1097) (by decide +kernel), List.mem_of_getElem? (i := 1098) (by decide +kernel)⟩
theorem lw_p36 : lw_okq (⟨"SealedWireModel", "send", "(III)I"⟩, 55) := ⟨⟨by decide +kernel, by decide +kernel⟩, List.mem_of_getElem? (i := 860) (by decide +kernel), List.mem_of_getElem? (i := 1101) (by decide +kernel), List.mem_of_getElem? (i := 1102) (by decide +kernel)⟩
theorem lw_p37 : lw_okq (⟨"SealedWireModel", "at", "(II)I"⟩, 55) := ⟨⟨by decide +kernel, by decide +kernel⟩, List.mem_of_getElem? (i := 860) (by decide +kernel), List.mem_of_getElem? (i := 1105) (by decide +kernel), List.mem_of_getElem? (i := 1106) (by decide +kernel)⟩
theorem lw_p38 : lw_okq (⟨"SealedWireModel", "say", "(I)V"⟩, 55) := ⟨⟨by decide +kernel, by decide +kernel⟩, List.mem_of_getElem? (i := 860) (by decide +kernel), List.mem_of_getElem? (i := 1121) (by decide +kernel), List.mem_of_getElem? (i := 1122) (by decide +kernel)⟩
theorem lw_p39 : lw_okq (⟨"SealedWireModel", "sendSealed", "(I)V"⟩, 55) := ⟨⟨by decide +kernel, by decide +kernel⟩, List.mem_of_getElem? (i := 860) (by decide +kernel), List.mem_of_getElem? (i := 1125) (by decide +kernel), List.mem_of_getElem? (i := 1126) (by decide +kernel)⟩
theorem lw_p40 : lw_okq (⟨"SealedWireModel", "cover", "([BIII)V"⟩, 55) := ⟨⟨by decide +kernel, by decide +kernel⟩, List.mem_of_getElem? (i := 860) (by decide +kernel), List.mem_of_getElem? (i := 1129) (by decide +kernel), List.mem_of_getElem? (i := 1130) (by decide +kernel)⟩
theorem lw_p41 : lw_okq (⟨"SealedWireModel", "block", "(II)V"⟩, 55) := ⟨⟨by decide +kernel, by decide +kernel⟩, List.mem_of_getElem? (i := 860) (by decide +kernel), List.mem_of_getElem? (i := 1133) (by decide +kernel), List.mem_of_getElem? (i := 1134) (by decide +kernel)⟩
theorem lw_p42 : lw_okq (⟨"SealedWireModel", "mix", "(IIII)V"⟩, 55) := ⟨⟨by decide +kernel, by decide +kernel⟩, List.mem_of_getElem? (i := 860) (by decide +kernel), List.mem_of_getElem? (i := 1148) (by decide +kernel), List.mem_of_getElem? (i := 1149) (by decide +kernel)⟩
theorem lw_p43 : lw_okq (⟨"SealedWireModel", "tagRecord", "([BIII)V"⟩, 55) := ⟨⟨by decide +kernel, by decide +kernel⟩, List.mem_of_getElem? (i := 860) (by decide +kernel), List.mem_of_getElem? (i := 1155) (by decide +kernel), List.mem_of_getElem? (i := 1156) (by decide +kernel)⟩
theorem lw_p44 : lw_okq (⟨"SealedWireModel", "tagOf", "(I)V"⟩, 55) := ⟨⟨by decide +kernel, by decide +kernel⟩, List.mem_of_getElem? (i := 860) (by decide +kernel), List.mem_of_getElem? (i := 1159) (by decide +kernel), List.mem_of_getElem? (i := 1160) (by decide +kernel)⟩
theorem lw_p45 : lw_okq (⟨"SealedWireModel", "settle", "()V"⟩, 55) := ⟨⟨by decide +kernel, by decide +kernel⟩, List.mem_of_getElem? (i := 860) (by decide +kernel), List.mem_of_getElem? (i := 1163) (by decide +kernel), List.mem_of_getElem? (i := 1164) (by decide +kernel)⟩
theorem lw_p46 : lw_okq (⟨"SealedWireModel", "carry", "()V"⟩, 55) := ⟨⟨by decide +kernel, by decide +kernel⟩, List.mem_of_getElem? (i := 860) (by decide +kernel), List.mem_of_getElem? (i := 1167) (by decide +kernel), List.mem_of_getElem? (i := 1168) (by decide +kernel)⟩
theorem lw_p47 : lw_okq (⟨"SealedWireModel", "kind", "(II)I"⟩, 55) := ⟨⟨by decide +kernel, by decide +kernel⟩, List.mem_of_getElem? (i := 860) (by decide +kernel), List.mem_of_getElem? (i := 1175) (by decide +kernel), List.mem_of_getElem? (i := 1176) (by decide +kernel)⟩
def lw_privs_3 : List (MethodName × Nat) := [(⟨"SealedWireModel", "block", "(III)V"⟩, 55), (⟨"SealedWireModel", "full", "(I)Z"⟩, 55), (⟨"SealedWireModel", "randomTo", "(I[BI)V"⟩, 55), (⟨"SealedWireModel", "word", "(I)V"⟩, 55), (⟨"SealedWireModel", "send", "(III)I"⟩, 55), (⟨"SealedWireModel", "at", "(II)I"⟩, 55), (⟨"SealedWireModel", "say", "(I)V"⟩, 55), (⟨"SealedWireModel", "sendSealed", "(I)V"⟩, 55), (⟨"SealedWireModel", "cover", "([BIII)V"⟩, 55), (⟨"SealedWireModel", "block", "(II)V"⟩, 55), (⟨"SealedWireModel", "mix", "(IIII)V"⟩, 55), (⟨"SealedWireModel", "tagRecord", "([BIII)V"⟩, 55), (⟨"SealedWireModel", "tagOf", "(I)V"⟩, 55), (⟨"SealedWireModel", "settle", "()V"⟩, 55), (⟨"SealedWireModel", "carry", "()V"⟩, 55), (⟨"SealedWireModel", "kind", "(II)I"⟩, 55)]
theorem lw_r3 : ∀ q ∈ lw_privs_3, lw_okq q := List.forall_mem_cons.mpr ⟨lw_p32, List.forall_mem_cons.mpr ⟨lw_p33, List.forall_mem_cons.mpr ⟨lw_p34, List.forall_mem_cons.mpr ⟨lw_p35, List.forall_mem_cons.mpr ⟨lw_p36, List.forall_mem_cons.mpr ⟨lw_p37, List.forall_mem_cons.mpr ⟨lw_p38, List.forall_mem_cons.mpr ⟨lw_p39, List.forall_mem_cons.mpr ⟨lw_p40, List.forall_mem_cons.mpr ⟨lw_p41, List.forall_mem_cons.mpr ⟨lw_p42, List.forall_mem_cons.mpr ⟨lw_p43, List.forall_mem_cons.mpr ⟨lw_p44, List.forall_mem_cons.mpr ⟨lw_p45, List.forall_mem_cons.mpr ⟨lw_p46, List.forall_mem_cons.mpr ⟨lw_p47, fun _ h => absurd h List.not_mem_nil⟩⟩⟩⟩⟩⟩⟩⟩⟩⟩⟩⟩⟩⟩⟩⟩
theorem lw_p48 : lw_okq (⟨"SealedWireModel", "next", "(II)V"⟩, 55) := ⟨⟨by decide +kernel, by decide +kernel⟩, List.mem_of_getElem? (i := 860) (by decide +kernel), List.mem_of_getElem? (i := 1179) (by decide +kernel), List.mem_of_getElem? (i := 1180) (by decide +kernel)⟩
theorem lw_p49 : lw_okq (⟨"SealedWireModel", "macTo", "([BI)V"⟩, 55) := ⟨⟨by decide +kernel, by decide +kernel⟩, List.mem_of_getElem? (i := 860) (by decide +kernel), List.mem_of_getElem? (i := 1183) (by decide +kernel), List.mem_of_getElem? (i := 1184) (by decide +kernel)⟩
theorem lw_p50 : lw_okq (⟨"SealedWireModel", "handle", "(III)I"⟩, 55) := ⟨⟨by decide +kernel, by decide +kernel⟩, List.mem_of_getElem? (i := 860) (by decide +kernel), List.mem_of_getElem? (i := 1195) (by decide +kernel), List.mem_of_getElem? (i := 1196) (by decide +kernel)⟩
theorem lw_p51 : lw_okq (⟨"SealedWireModel", "greeted", "(II)I"⟩, 55) := ⟨⟨by decide +kernel, by decide +kernel⟩, List.mem_of_getElem? (i := 860) (by decide +kernel), List.mem_of_getElem? (i := 1199) (by decide +kernel), List.mem_of_getElem? (i := 1200) (by decide +kernel)⟩
theorem lw_p52 : lw_okq (⟨"SealedWireModel", "prove", "(I[BII[BI)V"⟩, 55) := ⟨⟨by decide +kernel, by decide +kernel⟩, List.mem_of_getElem? (i := 860) (by decide +kernel), List.mem_of_getElem? (i := 1203) (by decide +kernel), List.mem_of_getElem? (i := 1204) (by decide +kernel)⟩
theorem lw_p53 : lw_okq (⟨"SealedWireModel", "answered", "(II)I"⟩, 55) := ⟨⟨by decide +kernel, by decide +kernel⟩, List.mem_of_getElem? (i := 860) (by decide +kernel), List.mem_of_getElem? (i := 1207) (by decide +kernel), List.mem_of_getElem? (i := 1208) (by decide +kernel)⟩
theorem lw_p54 : lw_okq (⟨"SealedWireModel", "opens", "(I[B)V"⟩, 55) := ⟨⟨by decide +kernel, by decide +kernel⟩, List.mem_of_getElem? (i := 860) (by decide +kernel), List.mem_of_getElem? (i := 1214) (by decide +kernel), List.mem_of_getElem? (i := 1215) (by decide +kernel)⟩
theorem lw_p55 : lw_okq (⟨"SealedWireModel", "sealed", "(III)I"⟩, 55) := ⟨⟨by decide +kernel, by decide +kernel⟩, List.mem_of_getElem? (i := 860) (by decide +kernel), List.mem_of_getElem? (i := 1218) (by decide +kernel), List.mem_of_getElem? (i := 1219) (by decide +kernel)⟩
theorem lw_p56 : lw_okq (⟨"SealedWireModel", "opened", "(III)I"⟩, 55) := ⟨⟨by decide +kernel, by decide +kernel⟩, List.mem_of_getElem? (i := 860) (by decide +kernel), List.mem_of_getElem? (i := 1222) (by decide +kernel), List.mem_of_getElem? (i := 1223) (by decide +kernel)⟩
theorem lw_p57 : lw_okq (⟨"SealedWireModel", "isRequest", "(I)Z"⟩, 55) := ⟨⟨by decide +kernel, by decide +kernel⟩, List.mem_of_getElem? (i := 860) (by decide +kernel), List.mem_of_getElem? (i := 1226) (by decide +kernel), List.mem_of_getElem? (i := 1227) (by decide +kernel)⟩
theorem lw_p58 : lw_okq (⟨"SealedWireModel", "isAnswer", "(I)Z"⟩, 55) := ⟨⟨by decide +kernel, by decide +kernel⟩, List.mem_of_getElem? (i := 860) (by decide +kernel), List.mem_of_getElem? (i := 1230) (by decide +kernel), List.mem_of_getElem? (i := 1231) (by decide +kernel)⟩
theorem lw_p59 : lw_okq (⟨"SealedWireModel", "work", "(I)V"⟩, 55) := ⟨⟨by decide +kernel, by decide +kernel⟩, List.mem_of_getElem? (i := 860) (by decide +kernel), List.mem_of_getElem? (i := 1234) (by decide +kernel), List.mem_of_getElem? (i := 1235) (by decide +kernel)⟩
theorem lw_p60 : lw_okq (⟨"SealedWireModel", "place", "([BII)I"⟩, 55) := ⟨⟨by decide +kernel, by decide +kernel⟩, List.mem_of_getElem? (i := 860) (by decide +kernel), List.mem_of_getElem? (i := 1238) (by decide +kernel), List.mem_of_getElem? (i := 1239) (by decide +kernel)⟩
theorem lw_p61 : lw_okq (⟨"SealedWireModel", "remove", "(I)V"⟩, 55) := ⟨⟨by decide +kernel, by decide +kernel⟩, List.mem_of_getElem? (i := 860) (by decide +kernel), List.mem_of_getElem? (i := 1242) (by decide +kernel), List.mem_of_getElem? (i := 1243) (by decide +kernel)⟩
theorem lw_p62 : lw_okq (⟨"SealedWireModel", "take", "(II)V"⟩, 55) := ⟨⟨by decide +kernel, by decide +kernel⟩, List.mem_of_getElem? (i := 860) (by decide +kernel), List.mem_of_getElem? (i := 1246) (by decide +kernel), List.mem_of_getElem? (i := 1247) (by decide +kernel)⟩
theorem lw_p63 : lw_okq (⟨"SealedWireModel", "is", "(II)Z"⟩, 55) := ⟨⟨by decide +kernel, by decide +kernel⟩, List.mem_of_getElem? (i := 860) (by decide +kernel), List.mem_of_getElem? (i := 1254) (by decide +kernel), List.mem_of_getElem? (i := 1255) (by decide +kernel)⟩
def lw_privs_4 : List (MethodName × Nat) := [(⟨"SealedWireModel", "next", "(II)V"⟩, 55), (⟨"SealedWireModel", "macTo", "([BI)V"⟩, 55), (⟨"SealedWireModel", "handle", "(III)I"⟩, 55), (⟨"SealedWireModel", "greeted", "(II)I"⟩, 55), (⟨"SealedWireModel", "prove", "(I[BII[BI)V"⟩, 55), (⟨"SealedWireModel", "answered", "(II)I"⟩, 55), (⟨"SealedWireModel", "opens", "(I[B)V"⟩, 55), (⟨"SealedWireModel", "sealed", "(III)I"⟩, 55), (⟨"SealedWireModel", "opened", "(III)I"⟩, 55), (⟨"SealedWireModel", "isRequest", "(I)Z"⟩, 55), (⟨"SealedWireModel", "isAnswer", "(I)Z"⟩, 55), (⟨"SealedWireModel", "work", "(I)V"⟩, 55), (⟨"SealedWireModel", "place", "([BII)I"⟩, 55), (⟨"SealedWireModel", "remove", "(I)V"⟩, 55), (⟨"SealedWireModel", "take", "(II)V"⟩, 55), (⟨"SealedWireModel", "is", "(II)Z"⟩, 55)]
theorem lw_r4 : ∀ q ∈ lw_privs_4, lw_okq q := List.forall_mem_cons.mpr ⟨lw_p48, List.forall_mem_cons.mpr ⟨lw_p49, List.forall_mem_cons.mpr ⟨lw_p50, List.forall_mem_cons.mpr ⟨lw_p51, List.forall_mem_cons.mpr ⟨lw_p52, List.forall_mem_cons.mpr ⟨lw_p53, List.forall_mem_cons.mpr ⟨lw_p54, List.forall_mem_cons.mpr ⟨lw_p55, List.forall_mem_cons.mpr ⟨lw_p56, List.forall_mem_cons.mpr ⟨lw_p57, List.forall_mem_cons.mpr ⟨lw_p58, List.forall_mem_cons.mpr ⟨lw_p59, List.forall_mem_cons.mpr ⟨lw_p60, List.forall_mem_cons.mpr ⟨lw_p61, List.forall_mem_cons.mpr ⟨lw_p62, List.forall_mem_cons.mpr ⟨lw_p63, fun _ h => absurd h List.not_mem_nil⟩⟩⟩⟩⟩⟩⟩⟩⟩⟩⟩⟩⟩⟩⟩⟩
theorem lw_p64 : lw_okq (⟨"SealedWireModel", "last", "(I[BII)I"⟩, 55) := ⟨⟨by decide +kernel, by decide +kernel⟩, List.mem_of_getElem? (i := 860) (by decide +kernel), List.mem_of_getElem? (i := 1270) (by decide +kernel), List.mem_of_getElem? (i := 1271) (by decide +kernel)⟩
def lw_privs_5 : List (MethodName × Nat) := [(⟨"SealedWireModel", "last", "(I[BII)I"⟩, 55)]
theorem lw_r5 : ∀ q ∈ lw_privs_5, lw_okq q := List.forall_mem_cons.mpr ⟨lw_p64, fun _ h => absurd h List.not_mem_nil⟩
def lw_privs : List (MethodName × Nat) := lw_privs_1 ++ (lw_privs_2 ++ (lw_privs_3 ++ (lw_privs_4 ++ (lw_privs_5))))
def lw_tbl : List Cond := k2_sels lw_privs ++ tables_1
theorem lw_privs_ok : ∀ q ∈ lw_privs, lw_okq q := by
  show ∀ q ∈ lw_privs_1 ++ (lw_privs_2 ++ (lw_privs_3 ++ (lw_privs_4 ++ (lw_privs_5)))), lw_okq q
  exact List.forall_mem_append.mpr ⟨lw_r1, List.forall_mem_append.mpr ⟨lw_r2, List.forall_mem_append.mpr ⟨lw_r3, List.forall_mem_append.mpr ⟨lw_r4, lw_r5⟩⟩⟩⟩
abbrev pJ : Type := MethodName × ByteArray × Nat × Option FieldType × Nat × Nat
/-! words that stay good: the list that every method has -/
def wG : List Cond := lw_tbl.filter goodWord
theorem wG_good : ∀ w ∈ wG, w ∈ lw_tbl ∧ goodWord w = true := fun _ h => List.mem_filter.mp h
theorem in_t {w : Cond} (i : Nat) (h : tables_1[i]? = some w) (hg : goodWord w = true) : w ∈ wG := List.mem_filter.mpr ⟨List.mem_append_right _ (List.mem_of_getElem? h), hg⟩
theorem in_t1 {w : Cond} (i : Nat) (h : tables_1_1[i]? = some w) (hg : goodWord w = true) : w ∈ wG := have h := List.mem_of_getElem? h; List.mem_filter.mpr ⟨List.mem_append_right _ (show w ∈ tables_1 from (List.mem_append_left _ h)), hg⟩
theorem in_t2 {w : Cond} (i : Nat) (h : tables_1_2[i]? = some w) (hg : goodWord w = true) : w ∈ wG := have h := List.mem_of_getElem? h; List.mem_filter.mpr ⟨List.mem_append_right _ (show w ∈ tables_1 from (List.mem_append_right _ (List.mem_append_left _ h))), hg⟩
theorem in_t3 {w : Cond} (i : Nat) (h : tables_1_3[i]? = some w) (hg : goodWord w = true) : w ∈ wG := have h := List.mem_of_getElem? h; List.mem_filter.mpr ⟨List.mem_append_right _ (show w ∈ tables_1 from (List.mem_append_right _ (List.mem_append_right _ (List.mem_append_left _ h)))), hg⟩
theorem in_t4 {w : Cond} (i : Nat) (h : tables_1_4[i]? = some w) (hg : goodWord w = true) : w ∈ wG := have h := List.mem_of_getElem? h; List.mem_filter.mpr ⟨List.mem_append_right _ (show w ∈ tables_1 from (List.mem_append_right _ (List.mem_append_right _ (List.mem_append_right _ (List.mem_append_left _ h))))), hg⟩
theorem in_t5 {w : Cond} (i : Nat) (h : tables_1_5[i]? = some w) (hg : goodWord w = true) : w ∈ wG := have h := List.mem_of_getElem? h; List.mem_filter.mpr ⟨List.mem_append_right _ (show w ∈ tables_1 from (List.mem_append_right _ (List.mem_append_right _ (List.mem_append_right _ (List.mem_append_right _ (List.mem_append_left _ h)))))), hg⟩
theorem in_t6 {w : Cond} (i : Nat) (h : tables_1_6[i]? = some w) (hg : goodWord w = true) : w ∈ wG := have h := List.mem_of_getElem? h; List.mem_filter.mpr ⟨List.mem_append_right _ (show w ∈ tables_1 from (List.mem_append_right _ (List.mem_append_right _ (List.mem_append_right _ (List.mem_append_right _ (List.mem_append_right _ h)))))), hg⟩
theorem in_p {y : MethodName} (i : Nat) {n : Nat} (h : lw_privs[i]? = some (y, n)) : Cond.selects y.cls y y ∈ wG := List.mem_filter.mpr ⟨List.mem_append_left _ (List.mem_map.mpr ⟨(y, n), List.mem_of_getElem? h, rfl⟩), rfl⟩
def R_0 : String := "SealedWire$Bytes"
def F_0 : u_T := fun k => match k with
  | 0 => ("SealedWire$Bytes", "cells", "[I", true)
  | _ => ("SealedWire$Bytes", "size", "I", false)
def ty_0 : Nat → FieldType := fun k => match k with
  | 0 => (.array .int)
  | _ => .int
def R_1 : String := "SealedWire$Direction"
def F_1 : u_T := fun k => match k with
  | 0 => ("SealedWire$Direction", "index", "I", true)
  | 1 => ("SealedWire$Direction", "current", "LSealedWire$Bytes;", true)
  | 2 => ("SealedWire$Direction", "text", "LSealedWire$Bytes;", true)
  | 3 => ("SealedWire$Direction", "number", "I", false)
  | _ => ("SealedWire$Direction", "generation", "I", false)
def ty_1 : Nat → FieldType := fun k => match k with
  | 0 => .int
  | 1 => (.object "SealedWire$Bytes")
  | 2 => (.object "SealedWire$Bytes")
  | 3 => .int
  | _ => .int
def R_2 : String := "SealedWire$Hash"
def F_2 : u_T := fun k => match k with
  | 0 => ("SealedWire$Hash", "sum", "[I", true)
  | 1 => ("SealedWire$Hash", "words", "[I", true)
  | 2 => ("SealedWire$Hash", "message", "LSealedWire$Bytes;", true)
  | _ => ("SealedWire$Hash", "inner", "LSealedWire$Bytes;", true)
def ty_2 : Nat → FieldType := fun k => match k with
  | 0 => (.array .int)
  | 1 => (.array .int)
  | 2 => (.object "SealedWire$Bytes")
  | _ => (.object "SealedWire$Bytes")
def R_3 : String := "SealedWire$Poly"
def F_3 : u_T := fun k => match k with
  | 0 => ("SealedWire$Poly", "factor", "[J", true)
  | 1 => ("SealedWire$Poly", "sum", "[J", true)
  | 2 => ("SealedWire$Poly", "other", "[J", true)
  | 3 => ("SealedWire$Poly", "words", "[I", true)
  | _ => ("SealedWire$Poly", "text", "LSealedWire$Bytes;", true)
def ty_3 : Nat → FieldType := fun k => match k with
  | 0 => (.array .long)
  | 1 => (.array .long)
  | 2 => (.array .long)
  | 3 => (.array .int)
  | _ => (.object "SealedWire$Bytes")
def R_4 : String := "SealedWire$Request"
def F_4 : u_T := fun k => match k with
  | 0 => ("SealedWire$Request", "target", "LSealedWire$Bytes;", true)
  | 1 => ("SealedWire$Request", "data", "LSealedWire$Bytes;", true)
  | _ => ("SealedWire$Request", "op", "I", false)
def ty_4 : Nat → FieldType := fun k => match k with
  | 0 => (.object "SealedWire$Bytes")
  | 1 => (.object "SealedWire$Bytes")
  | _ => .int
def R_5 : String := "SealedWire$Sealer"
def F_5 : u_T := fun k => match k with
  | 0 => ("SealedWire$Sealer", "stream", "LSealedWire$Stream;", true)
  | 1 => ("SealedWire$Sealer", "poly", "LSealedWire$Poly;", true)
  | _ => ("SealedWire$Sealer", "tag", "LSealedWire$Bytes;", true)
def ty_5 : Nat → FieldType := fun k => match k with
  | 0 => (.object "SealedWire$Stream")
  | 1 => (.object "SealedWire$Poly")
  | _ => (.object "SealedWire$Bytes")
def R_6 : String := "SealedWire$Side"
def F_6 : u_T := fun k => match k with
  | 0 => ("SealedWire$Side", "index", "I", true)
  | 1 => ("SealedWire$Side", "seed", "I", true)
  | 2 => ("SealedWire$Side", "hash", "LSealedWire$Hash;", true)
  | 3 => ("SealedWire$Side", "keys", "[LSealedWire$Bytes;", true)
  | 4 => ("SealedWire$Side", "up", "LSealedWire$Direction;", true)
  | 5 => ("SealedWire$Side", "down", "LSealedWire$Direction;", true)
  | 6 => ("SealedWire$Side", "greeting", "LSealedWire$Bytes;", true)
  | 7 => ("SealedWire$Side", "agreed", "LSealedWire$Bytes;", true)
  | 8 => ("SealedWire$Side", "secret", "LSealedWire$Bytes;", true)
  | 9 => ("SealedWire$Side", "finishing", "LSealedWire$Bytes;", true)
  | 10 => ("SealedWire$Side", "text", "LSealedWire$Bytes;", true)
  | 11 => ("SealedWire$Side", "state", "I", false)
  | _ => ("SealedWire$Side", "randoms", "I", false)
def ty_6 : Nat → FieldType := fun k => match k with
  | 0 => .int
  | 1 => .int
  | 2 => (.object "SealedWire$Hash")
  | 3 => (.array (.object "SealedWire$Bytes"))
  | 4 => (.object "SealedWire$Direction")
  | 5 => (.object "SealedWire$Direction")
  | 6 => (.object "SealedWire$Bytes")
  | 7 => (.object "SealedWire$Bytes")
  | 8 => (.object "SealedWire$Bytes")
  | 9 => (.object "SealedWire$Bytes")
  | 10 => (.object "SealedWire$Bytes")
  | 11 => .int
  | _ => .int
def R_7 : String := "SealedWire$Store"
def F_7 : u_T := fun k => match k with
  | 0 => ("SealedWire$Store", "names", "[LSealedWire$Bytes;", true)
  | 1 => ("SealedWire$Store", "values", "[LSealedWire$Bytes;", true)
  | _ => ("SealedWire$Store", "size", "I", false)
def ty_7 : Nat → FieldType := fun k => match k with
  | 0 => (.array (.object "SealedWire$Bytes"))
  | 1 => (.array (.object "SealedWire$Bytes"))
  | _ => .int
def R_8 : String := "SealedWire$Stream"
def F_8 : u_T := fun k => match k with
  | 0 => ("SealedWire$Stream", "start", "[I", true)
  | _ => ("SealedWire$Stream", "words", "[I", true)
def ty_8 : Nat → FieldType := fun k => match k with
  | 0 => (.array .int)
  | _ => (.array .int)
def R_9 : String := "SealedWire$Wire"
def F_9 : u_T := fun k => match k with
  | 0 => ("SealedWire$Wire", "records", "[LSealedWire$Bytes;", true)
  | _ => ("SealedWire$Wire", "size", "I", false)
def ty_9 : Nat → FieldType := fun k => match k with
  | 0 => (.array (.object "SealedWire$Bytes"))
  | _ => .int
def R_10 : String := "SealedWire"
def F_10 : u_T := fun k => match k with
  | 0 => ("SealedWire", "tape", "LSealedWire$Bytes;", true)
  | 1 => ("SealedWire", "out", "LSealedWire$Bytes;", true)
  | 2 => ("SealedWire", "nameInUse", "LSealedWire$Bytes;", true)
  | 3 => ("SealedWire", "sealer", "LSealedWire$Sealer;", true)
  | 4 => ("SealedWire", "client", "LSealedWire$Side;", true)
  | 5 => ("SealedWire", "server", "LSealedWire$Side;", true)
  | 6 => ("SealedWire", "toServer", "LSealedWire$Wire;", true)
  | 7 => ("SealedWire", "toClient", "LSealedWire$Wire;", true)
  | 8 => ("SealedWire", "store", "LSealedWire$Store;", true)
  | 9 => ("SealedWire", "asked", "LSealedWire$Request;", true)
  | 10 => ("SealedWire", "latest", "LSealedWire$Bytes;", true)
  | 11 => ("SealedWire", "plain", "LSealedWire$Bytes;", true)
  | 12 => ("SealedWire", "random", "LSealedWire$Bytes;", true)
  | 13 => ("SealedWire", "bodies", "LSealedWire$Bytes;", true)
  | 14 => ("SealedWire", "proof", "LSealedWire$Bytes;", true)
  | 15 => ("SealedWire", "requestsAnswered", "I", false)
  | _ => ("SealedWire", "answersGot", "I", false)
def ty_10 : Nat → FieldType := fun k => match k with
  | 0 => (.object "SealedWire$Bytes")
  | 1 => (.object "SealedWire$Bytes")
  | 2 => (.object "SealedWire$Bytes")
  | 3 => (.object "SealedWire$Sealer")
  | 4 => (.object "SealedWire$Side")
  | 5 => (.object "SealedWire$Side")
  | 6 => (.object "SealedWire$Wire")
  | 7 => (.object "SealedWire$Wire")
  | 8 => (.object "SealedWire$Store")
  | 9 => (.object "SealedWire$Request")
  | 10 => (.object "SealedWire$Bytes")
  | 11 => (.object "SealedWire$Bytes")
  | 12 => (.object "SealedWire$Bytes")
  | 13 => (.object "SealedWire$Bytes")
  | 14 => (.object "SealedWire$Bytes")
  | 15 => .int
  | _ => .int
def R_11 : String := "SealedWireModel"
def F_11 : u_T := fun k => match k with
  | 0 => ("SealedWireModel", "tape", "[B", true)
  | 1 => ("SealedWireModel", "tapeLength", "I", false)
  | 2 => ("SealedWireModel", "out", "[B", true)
  | 3 => ("SealedWireModel", "outCount", "I", false)
  | 4 => ("SealedWireModel", "number", "I", true)
  | 5 => ("SealedWireModel", "row", "[B", true)
  | 6 => ("SealedWireModel", "rowCount", "I", false)
  | 7 => ("SealedWireModel", "h", "[J", true)
  | 8 => ("SealedWireModel", "w", "[J", true)
  | 9 => ("SealedWireModel", "one", "[B", true)
  | 10 => ("SealedWireModel", "macKey", "[B", true)
  | 11 => ("SealedWireModel", "macText", "[B", true)
  | 12 => ("SealedWireModel", "macCount", "I", false)
  | 13 => ("SealedWireModel", "hasKey", "[Z", true)
  | 14 => ("SealedWireModel", "keys", "[B", true)
  | 15 => ("SealedWireModel", "state", "[I", true)
  | 16 => ("SealedWireModel", "randoms", "[I", true)
  | 17 => ("SealedWireModel", "hello", "[B", true)
  | 18 => ("SealedWireModel", "due", "[B", true)
  | 19 => ("SealedWireModel", "sealKey", "[B", true)
  | 20 => ("SealedWireModel", "count", "[I", true)
  | 21 => ("SealedWireModel", "generation", "[I", true)
  | 22 => ("SealedWireModel", "record", "[B", true)
  | 23 => ("SealedWireModel", "length", "[I", true)
  | 24 => ("SealedWireModel", "records", "[I", true)
  | 25 => ("SealedWireModel", "nameNow", "[B", true)
  | 26 => ("SealedWireModel", "nameLength", "I", false)
  | 27 => ("SealedWireModel", "names", "[B", true)
  | 28 => ("SealedWireModel", "nameOf", "[I", true)
  | 29 => ("SealedWireModel", "values", "[B", true)
  | 30 => ("SealedWireModel", "valueOf", "[I", true)
  | 31 => ("SealedWireModel", "stored", "I", false)
  | 32 => ("SealedWireModel", "answer", "[B", true)
  | 33 => ("SealedWireModel", "answerLength", "I", false)
  | 34 => ("SealedWireModel", "answered", "I", false)
  | 35 => ("SealedWireModel", "got", "I", false)
  | 36 => ("SealedWireModel", "v", "[I", true)
  | 37 => ("SealedWireModel", "begin", "[I", true)
  | 38 => ("SealedWireModel", "stream", "[B", true)
  | 39 => ("SealedWireModel", "sum", "[I", true)
  | 40 => ("SealedWireModel", "product", "[I", true)
  | 41 => ("SealedWireModel", "\x72", "[I", true)
  | 42 => ("SealedWireModel", "text", "[B", true)
  | 43 => ("SealedWireModel", "tag", "[B", true)
  | 44 => ("SealedWireModel", "above", "[I", true)
  | 45 => ("SealedWireModel", "plain", "[B", true)
  | 46 => ("SealedWireModel", "plainCount", "I", false)
  | 47 => ("SealedWireModel", "secret", "[B", true)
  | 48 => ("SealedWireModel", "proof", "[B", true)
  | 49 => ("SealedWireModel", "hello2", "[B", true)
  | 50 => ("SealedWireModel", "serverSecret", "[B", true)
  | 51 => ("SealedWireModel", "random", "[B", true)
  | 52 => ("SealedWireModel", "keptHello", "[B", true)
  | 53 => ("SealedWireModel", "check", "[B", true)
  | _ => ("SealedWireModel", "kept", "[B", true)
def ty_11 : Nat → FieldType := fun k => match k with
  | 0 => (.array .byte)
  | 1 => .int
  | 2 => (.array .byte)
  | 3 => .int
  | 4 => .int
  | 5 => (.array .byte)
  | 6 => .int
  | 7 => (.array .long)
  | 8 => (.array .long)
  | 9 => (.array .byte)
  | 10 => (.array .byte)
  | 11 => (.array .byte)
  | 12 => .int
  | 13 => (.array .boolean)
  | 14 => (.array .byte)
  | 15 => (.array .int)
  | 16 => (.array .int)
  | 17 => (.array .byte)
  | 18 => (.array .byte)
  | 19 => (.array .byte)
  | 20 => (.array .int)
  | 21 => (.array .int)
  | 22 => (.array .byte)
  | 23 => (.array .int)
  | 24 => (.array .int)
  | 25 => (.array .byte)
  | 26 => .int
  | 27 => (.array .byte)
  | 28 => (.array .int)
  | 29 => (.array .byte)
  | 30 => (.array .int)
  | 31 => .int
  | 32 => (.array .byte)
  | 33 => .int
  | 34 => .int
  | 35 => .int
  | 36 => (.array .int)
  | 37 => (.array .int)
  | 38 => (.array .byte)
  | 39 => (.array .int)
  | 40 => (.array .int)
  | 41 => (.array .int)
  | 42 => (.array .byte)
  | 43 => (.array .byte)
  | 44 => (.array .int)
  | 45 => (.array .byte)
  | 46 => .int
  | 47 => (.array .byte)
  | 48 => (.array .byte)
  | 49 => (.array .byte)
  | 50 => (.array .byte)
  | 51 => (.array .byte)
  | 52 => (.array .byte)
  | 53 => (.array .byte)
  | _ => (.array .byte)
abbrev vwCl : List vw_C := [(R_0, F_0, 2), (R_1, F_1, 5), (R_2, F_2, 4), (R_3, F_3, 5), (R_4, F_4, 3), (R_5, F_5, 3), (R_6, F_6, 13), (R_7, F_7, 3), (R_8, F_8, 2), (R_9, F_9, 2), (R_10, F_10, 17), (R_11, F_11, 55)]
def cty (ci : Nat) : Nat → FieldType := match ci with
  | 0 => ty_0
  | 1 => ty_1
  | 2 => ty_2
  | 3 => ty_3
  | 4 => ty_4
  | 5 => ty_5
  | 6 => ty_6
  | 7 => ty_7
  | 8 => ty_8
  | 9 => ty_9
  | 10 => ty_10
  | _ => ty_11
def pNest : List (String × Nat × MethodName × String) := [("SealedWire", 26, ⟨"SealedWire$Sealer", "<init>", "()V"⟩, "SealedWire"), ("SealedWire$Sealer", 11, ⟨"SealedWire$Stream", "<init>", "()V"⟩, "SealedWire"), ("SealedWire$Sealer", 20, ⟨"SealedWire$Poly", "<init>", "()V"⟩, "SealedWire"), ("SealedWire", 50, ⟨"SealedWire$Request", "<init>", "()V"⟩, "SealedWire"), ("SealedWire$Side", 11, ⟨"SealedWire$Hash", "<init>", "()V"⟩, "SealedWire")]
def pOver : List String := ["SealedWire$Bytes"]
abbrev J_S_init : pJ := (⟨"SealedWire", "<init>", "(I)V"⟩, prog_1_method_1_code, 2, none, 4, 85)
abbrev J_Bytes_init : pJ := (⟨"SealedWire$Bytes", "<init>", "(I)V"⟩, prog_2_method_1_code, 2, none, 1, 20)
abbrev J_Sealer_init : pJ := (⟨"SealedWire$Sealer", "<init>", "()V"⟩, prog_7_method_1_code, 1, none, 3, 61)
abbrev J_Stream_init : pJ := (⟨"SealedWire$Stream", "<init>", "()V"⟩, prog_10_method_1_code, 1, none, 1, 20)
abbrev J_Poly_init : pJ := (⟨"SealedWire$Poly", "<init>", "()V"⟩, prog_5_method_1_code, 1, none, 2, 41)
abbrev J_Wire_init : pJ := (⟨"SealedWire$Wire", "<init>", "()V"⟩, prog_11_method_1_code, 2, none, 2, 41)
abbrev J_Store_init : pJ := (⟨"SealedWire$Store", "<init>", "()V"⟩, prog_9_method_1_code, 2, none, 2, 41)
abbrev J_Request_init : pJ := (⟨"SealedWire$Request", "<init>", "()V"⟩, prog_6_method_1_code, 1, none, 2, 41)
abbrev J_Side_init : pJ := (⟨"SealedWire$Side", "<init>", "(II)V"⟩, prog_8_method_1_code, 4, none, 3, 62)
abbrev J_Hash_init : pJ := (⟨"SealedWire$Hash", "<init>", "()V"⟩, prog_4_method_1_code, 1, none, 2, 41)
abbrev J_Direction_init : pJ := (⟨"SealedWire$Direction", "<init>", "(I)V"⟩, prog_3_method_1_code, 2, none, 2, 41)
abbrev J_Bytes_put : pJ := (⟨"SealedWire$Bytes", "put", "(I)V"⟩, prog_2_method_8_code, 2, none, 0, 0)
abbrev J_S_feed : pJ := (⟨"SealedWire", "feed", "(IIIII)I"⟩, prog_1_method_2_code, 6, some (Jvm.ClassFile.FieldType.int), 2, 42)
abbrev J_Bytes_size : pJ := (⟨"SealedWire$Bytes", "size", "()I"⟩, prog_2_method_2_code, 1, some (Jvm.ClassFile.FieldType.int), 0, 0)
abbrev J_Bytes_putNumber : pJ := (⟨"SealedWire$Bytes", "putNumber", "(I)V"⟩, prog_2_method_9_code, 2, none, 1, 21)
abbrev J_S_end : pJ := (⟨"SealedWire", "end", "(I)I"⟩, prog_1_method_3_code, 2, some (Jvm.ClassFile.FieldType.int), 1, 21)
abbrev J_Bytes_cut : pJ := (⟨"SealedWire$Bytes", "cut", "(I)V"⟩, prog_2_method_7_code, 2, none, 0, 0)
abbrev J_S_octet : pJ := (⟨"SealedWire", "octet", "(I)I"⟩, prog_1_method_4_code, 2, some (Jvm.ClassFile.FieldType.int), 2, 42)
abbrev J_S_byteOrSize : pJ := (⟨"SealedWire", "byteOrSize", "(LSealedWire$Bytes;I)I"⟩, prog_1_method_29_code, 2, some (Jvm.ClassFile.FieldType.int), 1, 21)
abbrev J_Bytes_has : pJ := (⟨"SealedWire$Bytes", "has", "(I)Z"⟩, prog_2_method_3_code, 2, some (Jvm.ClassFile.FieldType.boolean), 0, 0)
abbrev J_Bytes_at : pJ := (⟨"SealedWire$Bytes", "at", "(I)I"⟩, prog_2_method_4_code, 2, some (Jvm.ClassFile.FieldType.int), 0, 0)
abbrev J_S_key : pJ := (⟨"SealedWire", "key", "(II)I"⟩, prog_1_method_5_code, 4, some (Jvm.ClassFile.FieldType.int), 5, 122)
abbrev J_S_isSide : pJ := (⟨"SealedWire", "isSide", "(I)Z"⟩, prog_1_method_24_code, 1, some (Jvm.ClassFile.FieldType.boolean), 0, 0)
abbrev J_Side_isKeyNumber : pJ := (⟨"SealedWire$Side", "isKeyNumber", "(I)Z"⟩, prog_8_method_3_code, 1, some (Jvm.ClassFile.FieldType.boolean), 0, 0)
abbrev J_S_sideOf : pJ := (⟨"SealedWire", "sideOf", "(I)LSealedWire$Side;"⟩, prog_1_method_26_code, 2, some ((Jvm.ClassFile.FieldType.object "SealedWire$Side")), 0, 0)
abbrev J_Side_setKey : pJ := (⟨"SealedWire$Side", "setKey", "(ILSealedWire$Bytes;)V"⟩, prog_8_method_5_code, 3, none, 4, 100)
abbrev J_Hash_digest : pJ := (⟨"SealedWire$Hash", "digest", "(LSealedWire$Bytes;LSealedWire$Bytes;)V"⟩, prog_4_method_2_code, 3, none, 3, 78)
abbrev J_Bytes_become : pJ := (⟨"SealedWire$Bytes", "become", "(LSealedWire$Bytes;)V"⟩, prog_2_method_13_code, 2, none, 2, 49)
abbrev J_Bytes_putPart : pJ := (⟨"SealedWire$Bytes", "putPart", "(LSealedWire$Bytes;II)V"⟩, prog_2_method_11_code, 4, none, 1, 26)
abbrev J_Hash_finish : pJ := (⟨"SealedWire$Hash", "finish", "(LSealedWire$Bytes;)V"⟩, prog_4_method_5_code, 5, none, 2, 54)
abbrev J_Hash_spread : pJ := (⟨"SealedWire$Hash", "spread", "(I)V"⟩, prog_4_method_6_code, 7, none, 1, 21)
abbrev J_Bytes_numberAt : pJ := (⟨"SealedWire$Bytes", "numberAt", "(I)I"⟩, prog_2_method_5_code, 2, some (Jvm.ClassFile.FieldType.int), 0, 0)
abbrev J_Int_rotateRight : pJ := (⟨"java/lang/Integer", "rotateRight", "(II)I"⟩, prog_14_method_51_code, 2, some (Jvm.ClassFile.FieldType.int), 0, 0)
abbrev J_Hash_mix : pJ := (⟨"SealedWire$Hash", "mix", "()V"⟩, prog_4_method_7_code, 14, none, 1, 21)
abbrev J_Bytes_clear : pJ := (⟨"SealedWire$Bytes", "clear", "()V"⟩, prog_2_method_6_code, 1, none, 0, 0)
abbrev J_S_forget : pJ := (⟨"SealedWire", "forget", "(II)I"⟩, prog_1_method_6_code, 3, some (Jvm.ClassFile.FieldType.int), 2, 41)
abbrev J_Side_hasKey : pJ := (⟨"SealedWire$Side", "hasKey", "(I)Z"⟩, prog_8_method_4_code, 2, some (Jvm.ClassFile.FieldType.boolean), 1, 20)
abbrev J_Side_loseKey : pJ := (⟨"SealedWire$Side", "loseKey", "(I)V"⟩, prog_8_method_6_code, 2, none, 1, 20)
abbrev J_S_greet : pJ := (⟨"SealedWire", "greet", "(I)I"⟩, prog_1_method_7_code, 3, some (Jvm.ClassFile.FieldType.int), 5, 121)
abbrev J_Side_is : pJ := (⟨"SealedWire$Side", "is", "(I)Z"⟩, prog_8_method_10_code, 2, some (Jvm.ClassFile.FieldType.boolean), 0, 0)
abbrev J_Wire_isFull : pJ := (⟨"SealedWire$Wire", "isFull", "()Z"⟩, prog_11_method_4_code, 1, some (Jvm.ClassFile.FieldType.boolean), 0, 0)
abbrev J_Side_makeRandom : pJ := (⟨"SealedWire$Side", "makeRandom", "(LSealedWire$Bytes;)V"⟩, prog_8_method_14_code, 2, none, 4, 100)
abbrev J_Side_keepGreeting : pJ := (⟨"SealedWire$Side", "keepGreeting", "(LSealedWire$Bytes;I)V"⟩, prog_8_method_15_code, 3, none, 3, 70)
abbrev J_Wire_draft : pJ := (⟨"SealedWire$Wire", "draft", "()LSealedWire$Bytes;"⟩, prog_11_method_6_code, 1, some ((Jvm.ClassFile.FieldType.object "SealedWire$Bytes")), 1, 20)
abbrev J_Bytes_putHead : pJ := (⟨"SealedWire$Bytes", "putHead", "(II)V"⟩, prog_2_method_10_code, 3, none, 1, 21)
abbrev J_Side_greeting : pJ := (⟨"SealedWire$Side", "greeting", "()LSealedWire$Bytes;"⟩, prog_8_method_16_code, 1, some ((Jvm.ClassFile.FieldType.object "SealedWire$Bytes")), 0, 0)
abbrev J_Bytes_putAll : pJ := (⟨"SealedWire$Bytes", "putAll", "(LSealedWire$Bytes;)V"⟩, prog_2_method_12_code, 2, none, 2, 49)
abbrev J_Wire_send : pJ := (⟨"SealedWire$Wire", "send", "()V"⟩, prog_11_method_7_code, 1, none, 0, 0)
abbrev J_Side_become : pJ := (⟨"SealedWire$Side", "become", "(I)V"⟩, prog_8_method_12_code, 2, none, 0, 0)
abbrev J_S_idle : pJ := (⟨"SealedWire", "idle", "(I)I"⟩, prog_1_method_8_code, 2, some (Jvm.ClassFile.FieldType.int), 1, 21)
abbrev J_S_name : pJ := (⟨"SealedWire", "name", "()I"⟩, prog_1_method_9_code, 2, some (Jvm.ClassFile.FieldType.int), 3, 70)
abbrev J_S_request : pJ := (⟨"SealedWire", "request", "(I)I"⟩, prog_1_method_10_code, 3, some (Jvm.ClassFile.FieldType.int), 6, 145)
abbrev J_S_sendRequest : pJ := (⟨"SealedWire", "sendRequest", "(I)I"⟩, prog_1_method_31_code, 2, some (Jvm.ClassFile.FieldType.int), 5, 124)
abbrev J_Request_isOp : pJ := (⟨"SealedWire$Request", "isOp", "(I)Z"⟩, prog_6_method_2_code, 1, some (Jvm.ClassFile.FieldType.boolean), 0, 0)
abbrev J_Request_mostBytes : pJ := (⟨"SealedWire$Request", "mostBytes", "(I)I"⟩, prog_6_method_3_code, 1, some (Jvm.ClassFile.FieldType.int), 0, 0)
abbrev J_Side_direction : pJ := (⟨"SealedWire$Side", "direction", "(I)LSealedWire$Direction;"⟩, prog_8_method_13_code, 2, some ((Jvm.ClassFile.FieldType.object "SealedWire$Direction")), 0, 0)
abbrev J_Sealer_seal : pJ := (⟨"SealedWire$Sealer", "seal", "(LSealedWire$Direction;LSealedWire$Bytes;LSealedWire$Wire;)V"⟩, prog_7_method_2_code, 5, none, 4, 100)
abbrev J_Direction_sealingKey : pJ := (⟨"SealedWire$Direction", "sealingKey", "()LSealedWire$Bytes;"⟩, prog_3_method_2_code, 1, some ((Jvm.ClassFile.FieldType.object "SealedWire$Bytes")), 0, 0)
abbrev J_Direction_number : pJ := (⟨"SealedWire$Direction", "number", "()I"⟩, prog_3_method_3_code, 1, some (Jvm.ClassFile.FieldType.int), 0, 0)
abbrev J_Stream_begin : pJ := (⟨"SealedWire$Stream", "begin", "(LSealedWire$Bytes;I)V"⟩, prog_10_method_2_code, 5, none, 1, 26)
abbrev J_Int_reverseBytes : pJ := (⟨"java/lang/Integer", "reverseBytes", "(I)I"⟩, prog_14_method_57_code, 1, some (Jvm.ClassFile.FieldType.int), 0, 0)
abbrev J_Sealer_cover : pJ := (⟨"SealedWire$Sealer", "cover", "(LSealedWire$Bytes;IILSealedWire$Bytes;)V"⟩, prog_7_method_4_code, 7, none, 3, 74)
abbrev J_Stream_make : pJ := (⟨"SealedWire$Stream", "make", "(I)V"⟩, prog_10_method_3_code, 6, none, 2, 49)
abbrev J_Stream_quarter : pJ := (⟨"SealedWire$Stream", "quarter", "(IIII)V"⟩, prog_10_method_4_code, 9, none, 1, 21)
abbrev J_Int_rotateLeft : pJ := (⟨"java/lang/Integer", "rotateLeft", "(II)I"⟩, prog_14_method_50_code, 2, some (Jvm.ClassFile.FieldType.int), 0, 0)
abbrev J_Stream_byteAt : pJ := (⟨"SealedWire$Stream", "byteAt", "(I)I"⟩, prog_10_method_6_code, 2, some (Jvm.ClassFile.FieldType.int), 0, 0)
abbrev J_Poly_makeTag : pJ := (⟨"SealedWire$Poly", "makeTag", "(LSealedWire$Stream;LSealedWire$Bytes;ILSealedWire$Bytes;)V"⟩, prog_5_method_2_code, 6, none, 3, 72)
abbrev J_Poly_layText : pJ := (⟨"SealedWire$Poly", "layText", "(LSealedWire$Bytes;I)V"⟩, prog_5_method_3_code, 3, none, 2, 49)
abbrev J_Poly_fillBlock : pJ := (⟨"SealedWire$Poly", "fillBlock", "()V"⟩, prog_5_method_4_code, 3, none, 1, 21)
abbrev J_Poly_begin : pJ := (⟨"SealedWire$Poly", "begin", "(LSealedWire$Stream;)V"⟩, prog_5_method_5_code, 3, none, 1, 25)
abbrev J_Stream_word : pJ := (⟨"SealedWire$Stream", "word", "(I)I"⟩, prog_10_method_5_code, 2, some (Jvm.ClassFile.FieldType.int), 0, 0)
abbrev J_Poly_limbOfWords : pJ := (⟨"SealedWire$Poly", "limbOfWords", "(I)J"⟩, prog_5_method_7_code, 6, some (Jvm.ClassFile.FieldType.long), 0, 0)
abbrev J_Poly_takeBlock : pJ := (⟨"SealedWire$Poly", "takeBlock", "(I)V"⟩, prog_5_method_6_code, 4, none, 2, 45)
abbrev J_Poly_reduce : pJ := (⟨"SealedWire$Poly", "reduce", "()V"⟩, prog_5_method_8_code, 3, none, 1, 23)
abbrev J_Poly_carry : pJ := (⟨"SealedWire$Poly", "carry", "([J)J"⟩, prog_5_method_9_code, 4, some (Jvm.ClassFile.FieldType.long), 0, 0)
abbrev J_Poly_finish : pJ := (⟨"SealedWire$Poly", "finish", "(LSealedWire$Stream;LSealedWire$Bytes;)V"⟩, prog_5_method_10_code, 8, none, 2, 45)
abbrev J_Direction_step : pJ := (⟨"SealedWire$Direction", "step", "()V"⟩, prog_3_method_5_code, 1, none, 0, 0)
abbrev J_S_renew : pJ := (⟨"SealedWire", "renew", "(I)I"⟩, prog_1_method_11_code, 3, some (Jvm.ClassFile.FieldType.int), 6, 148)
abbrev J_S_sendBare : pJ := (⟨"SealedWire", "sendBare", "(II)I"⟩, prog_1_method_32_code, 5, some (Jvm.ClassFile.FieldType.int), 5, 124)
abbrev J_S_wireOf : pJ := (⟨"SealedWire", "wireOf", "(I)LSealedWire$Wire;"⟩, prog_1_method_27_code, 2, some ((Jvm.ClassFile.FieldType.object "SealedWire$Wire")), 0, 0)
abbrev J_Side_makeKeyAnew : pJ := (⟨"SealedWire$Side", "makeKeyAnew", "(I)V"⟩, prog_8_method_20_code, 3, none, 5, 124)
abbrev J_Direction_generation : pJ := (⟨"SealedWire$Direction", "generation", "()I"⟩, prog_3_method_4_code, 1, some (Jvm.ClassFile.FieldType.int), 0, 0)
abbrev J_Direction_makeKey : pJ := (⟨"SealedWire$Direction", "makeKey", "(LSealedWire$Hash;LSealedWire$Bytes;I)V"⟩, prog_3_method_6_code, 4, none, 4, 101)
abbrev J_Hash_mac : pJ := (⟨"SealedWire$Hash", "mac", "(LSealedWire$Bytes;LSealedWire$Bytes;LSealedWire$Bytes;)V"⟩, prog_4_method_3_code, 4, none, 3, 78)
abbrev J_Hash_layKey : pJ := (⟨"SealedWire$Hash", "layKey", "(LSealedWire$Bytes;I)V"⟩, prog_4_method_4_code, 4, none, 1, 21)
abbrev J_S_close : pJ := (⟨"SealedWire", "close", "(I)I"⟩, prog_1_method_12_code, 3, some (Jvm.ClassFile.FieldType.int), 6, 148)
abbrev J_S_receive : pJ := (⟨"SealedWire", "receive", "(I)I"⟩, prog_1_method_13_code, 6, some (Jvm.ClassFile.FieldType.int), 7, 171)
abbrev J_S_isWire : pJ := (⟨"SealedWire", "isWire", "(I)Z"⟩, prog_1_method_25_code, 1, some (Jvm.ClassFile.FieldType.boolean), 0, 0)
abbrev J_Wire_has : pJ := (⟨"SealedWire$Wire", "has", "(I)Z"⟩, prog_11_method_3_code, 2, some (Jvm.ClassFile.FieldType.boolean), 0, 0)
abbrev J_Wire_at : pJ := (⟨"SealedWire$Wire", "at", "(I)LSealedWire$Bytes;"⟩, prog_11_method_5_code, 2, some ((Jvm.ClassFile.FieldType.object "SealedWire$Bytes")), 1, 21)
abbrev J_Side_listens : pJ := (⟨"SealedWire$Side", "listens", "()Z"⟩, prog_8_method_11_code, 1, some (Jvm.ClassFile.FieldType.boolean), 0, 0)
abbrev J_Bytes_tellsItsLength : pJ := (⟨"SealedWire$Bytes", "tellsItsLength", "()Z"⟩, prog_2_method_15_code, 1, some (Jvm.ClassFile.FieldType.boolean), 1, 21)
abbrev J_S_takeGreeting : pJ := (⟨"SealedWire", "takeGreeting", "(LSealedWire$Side;LSealedWire$Bytes;)I"⟩, prog_1_method_33_code, 5, some (Jvm.ClassFile.FieldType.int), 5, 123)
abbrev J_Side_isServer : pJ := (⟨"SealedWire$Side", "isServer", "()Z"⟩, prog_8_method_2_code, 1, some (Jvm.ClassFile.FieldType.boolean), 0, 0)
abbrev J_Side_agree : pJ := (⟨"SealedWire$Side", "agree", "(ILSealedWire$Bytes;)V"⟩, prog_8_method_17_code, 3, none, 4, 101)
abbrev J_Side_prove : pJ := (⟨"SealedWire$Side", "prove", "(ILSealedWire$Bytes;)V"⟩, prog_8_method_18_code, 3, none, 4, 101)
abbrev J_S_takeReply : pJ := (⟨"SealedWire", "takeReply", "(LSealedWire$Side;LSealedWire$Bytes;)I"⟩, prog_1_method_34_code, 5, some (Jvm.ClassFile.FieldType.int), 6, 144)
abbrev J_Bytes_holdsAt : pJ := (⟨"SealedWire$Bytes", "holdsAt", "(ILSealedWire$Bytes;)Z"⟩, prog_2_method_16_code, 5, some (Jvm.ClassFile.FieldType.boolean), 0, 0)
abbrev J_Side_open : pJ := (⟨"SealedWire$Side", "open", "()V"⟩, prog_8_method_19_code, 1, none, 5, 124)
abbrev J_S_takeProof : pJ := (⟨"SealedWire", "takeProof", "(LSealedWire$Side;LSealedWire$Bytes;)I"⟩, prog_1_method_35_code, 3, some (Jvm.ClassFile.FieldType.int), 6, 144)
abbrev J_S_takeSealed : pJ := (⟨"SealedWire", "takeSealed", "(LSealedWire$Side;LSealedWire$Bytes;)I"⟩, prog_1_method_36_code, 6, some (Jvm.ClassFile.FieldType.int), 6, 146)
abbrev J_Sealer_unseal : pJ := (⟨"SealedWire$Sealer", "unseal", "(LSealedWire$Direction;LSealedWire$Bytes;LSealedWire$Bytes;)Z"⟩, prog_7_method_3_code, 5, some (Jvm.ClassFile.FieldType.boolean), 4, 100)
abbrev J_S_takeRequest : pJ := (⟨"SealedWire", "takeRequest", "(LSealedWire$Direction;)I"⟩, prog_1_method_37_code, 2, some (Jvm.ClassFile.FieldType.int), 5, 124)
abbrev J_Request_readFrom : pJ := (⟨"SealedWire$Request", "readFrom", "(LSealedWire$Bytes;)Z"⟩, prog_6_method_4_code, 4, some (Jvm.ClassFile.FieldType.boolean), 2, 49)
abbrev J_Store_serve : pJ := (⟨"SealedWire$Store", "serve", "(LSealedWire$Request;LSealedWire$Bytes;)V"⟩, prog_9_method_5_code, 4, none, 4, 92)
abbrev J_Request_target : pJ := (⟨"SealedWire$Request", "target", "()LSealedWire$Bytes;"⟩, prog_6_method_6_code, 1, some ((Jvm.ClassFile.FieldType.object "SealedWire$Bytes")), 0, 0)
abbrev J_Store_find : pJ := (⟨"SealedWire$Store", "find", "(LSealedWire$Bytes;)I"⟩, prog_9_method_3_code, 3, some (Jvm.ClassFile.FieldType.int), 2, 45)
abbrev J_Bytes_same : pJ := (⟨"SealedWire$Bytes", "same", "(LSealedWire$Bytes;)Z"⟩, prog_2_method_17_code, 2, some (Jvm.ClassFile.FieldType.boolean), 1, 24)
abbrev J_Request_op : pJ := (⟨"SealedWire$Request", "op", "()I"⟩, prog_6_method_5_code, 1, some (Jvm.ClassFile.FieldType.int), 0, 0)
abbrev J_Store_add : pJ := (⟨"SealedWire$Store", "add", "(LSealedWire$Request;)I"⟩, prog_9_method_6_code, 2, some (Jvm.ClassFile.FieldType.int), 3, 70)
abbrev J_Request_data : pJ := (⟨"SealedWire$Request", "data", "()LSealedWire$Bytes;"⟩, prog_6_method_7_code, 1, some ((Jvm.ClassFile.FieldType.object "SealedWire$Bytes")), 0, 0)
abbrev J_Store_replace : pJ := (⟨"SealedWire$Store", "replace", "(ILSealedWire$Bytes;)I"⟩, prog_9_method_7_code, 3, some (Jvm.ClassFile.FieldType.int), 3, 70)
abbrev J_Store_removeAt : pJ := (⟨"SealedWire$Store", "removeAt", "(I)I"⟩, prog_9_method_9_code, 4, some (Jvm.ClassFile.FieldType.int), 0, 0)
abbrev J_Store_lengthen : pJ := (⟨"SealedWire$Store", "lengthen", "(ILSealedWire$Bytes;)I"⟩, prog_9_method_8_code, 3, some (Jvm.ClassFile.FieldType.int), 3, 70)
abbrev J_S_takeAnswer : pJ := (⟨"SealedWire", "takeAnswer", "(LSealedWire$Direction;)I"⟩, prog_1_method_38_code, 4, some (Jvm.ClassFile.FieldType.int), 2, 49)
abbrev J_Wire_remove : pJ := (⟨"SealedWire$Wire", "remove", "(I)V"⟩, prog_11_method_8_code, 4, none, 1, 21)
abbrev J_S_wire : pJ := (⟨"SealedWire", "wire", "(III)I"⟩, prog_1_method_14_code, 4, some (Jvm.ClassFile.FieldType.int), 2, 43)
abbrev J_S_isRecord : pJ := (⟨"SealedWire", "isRecord", "(II)Z"⟩, prog_1_method_28_code, 3, some (Jvm.ClassFile.FieldType.boolean), 1, 21)
abbrev J_S_flip : pJ := (⟨"SealedWire", "flip", "(IIII)I"⟩, prog_1_method_15_code, 5, some (Jvm.ClassFile.FieldType.int), 2, 43)
abbrev J_Bytes_flipBits : pJ := (⟨"SealedWire$Bytes", "flipBits", "(II)I"⟩, prog_2_method_14_code, 3, some (Jvm.ClassFile.FieldType.int), 1, 21)
abbrev J_S_drop : pJ := (⟨"SealedWire", "drop", "(II)I"⟩, prog_1_method_16_code, 3, some (Jvm.ClassFile.FieldType.int), 2, 44)
abbrev J_Wire_size : pJ := (⟨"SealedWire$Wire", "size", "()I"⟩, prog_11_method_2_code, 1, some (Jvm.ClassFile.FieldType.int), 0, 0)
abbrev J_S_copy : pJ := (⟨"SealedWire", "copy", "(III)I"⟩, prog_1_method_17_code, 4, some (Jvm.ClassFile.FieldType.int), 4, 91)
abbrev J_S_sendWhole : pJ := (⟨"SealedWire", "sendWhole", "(LSealedWire$Bytes;LSealedWire$Wire;)Z"⟩, prog_1_method_30_code, 2, some (Jvm.ClassFile.FieldType.boolean), 3, 70)
abbrev J_S_hurry : pJ := (⟨"SealedWire", "hurry", "(II)I"⟩, prog_1_method_18_code, 3, some (Jvm.ClassFile.FieldType.int), 2, 44)
abbrev J_Wire_bringFirst : pJ := (⟨"SealedWire$Wire", "bringFirst", "(I)V"⟩, prog_11_method_9_code, 4, none, 1, 21)
abbrev J_S_forge : pJ := (⟨"SealedWire", "forge", "(I)I"⟩, prog_1_method_19_code, 4, some (Jvm.ClassFile.FieldType.int), 4, 91)
abbrev J_S_answer : pJ := (⟨"SealedWire", "answer", "()I"⟩, prog_1_method_20_code, 1, some (Jvm.ClassFile.FieldType.int), 3, 70)
abbrev J_S_stored : pJ := (⟨"SealedWire", "stored", "()I"⟩, prog_1_method_21_code, 2, some (Jvm.ClassFile.FieldType.int), 3, 70)
abbrev J_Store_valueAt : pJ := (⟨"SealedWire$Store", "valueAt", "(I)LSealedWire$Bytes;"⟩, prog_9_method_4_code, 2, some ((Jvm.ClassFile.FieldType.object "SealedWire$Bytes")), 0, 0)
abbrev J_S_look : pJ := (⟨"SealedWire", "look", "(II)I"⟩, prog_1_method_22_code, 5, some (Jvm.ClassFile.FieldType.int), 3, 63)
abbrev J_Side_state : pJ := (⟨"SealedWire$Side", "state", "()I"⟩, prog_8_method_9_code, 1, some (Jvm.ClassFile.FieldType.int), 0, 0)
abbrev J_Side_keysHeld : pJ := (⟨"SealedWire$Side", "keysHeld", "()I"⟩, prog_8_method_7_code, 3, some (Jvm.ClassFile.FieldType.int), 2, 41)
abbrev J_Side_randomsMade : pJ := (⟨"SealedWire$Side", "randomsMade", "()I"⟩, prog_8_method_8_code, 1, some (Jvm.ClassFile.FieldType.int), 0, 0)
abbrev J_S_count : pJ := (⟨"SealedWire", "count", "(I)I"⟩, prog_1_method_23_code, 2, some (Jvm.ClassFile.FieldType.int), 1, 20)
abbrev J_Store_size : pJ := (⟨"SealedWire$Store", "size", "()I"⟩, prog_9_method_2_code, 1, some (Jvm.ClassFile.FieldType.int), 0, 0)
abbrev J_M_init : pJ := (⟨"SealedWireModel", "<init>", "(I)V"⟩, prog_13_method_1_code, 2, none, 1, 20)
abbrev J_M_feed : pJ := (⟨"SealedWireModel", "feed", "(IIIII)I"⟩, prog_13_method_21_code, 6, some (Jvm.ClassFile.FieldType.int), 1, 22)
abbrev J_M_put : pJ := (⟨"SealedWireModel", "put", "(I)V"⟩, prog_13_method_20_code, 3, none, 0, 0)
abbrev J_M_end : pJ := (⟨"SealedWireModel", "end", "(I)I"⟩, prog_13_method_22_code, 2, some (Jvm.ClassFile.FieldType.int), 0, 0)
abbrev J_M_octet : pJ := (⟨"SealedWireModel", "octet", "(I)I"⟩, prog_13_method_23_code, 2, some (Jvm.ClassFile.FieldType.int), 0, 0)
abbrev J_M_key : pJ := (⟨"SealedWireModel", "key", "(II)I"⟩, prog_13_method_25_code, 4, some (Jvm.ClassFile.FieldType.int), 3, 90)
abbrev J_M_side : pJ := (⟨"SealedWireModel", "side", "(I)Z"⟩, prog_13_method_24_code, 1, some (Jvm.ClassFile.FieldType.boolean), 0, 0)
abbrev J_M_add_ABII : pJ := (⟨"SealedWireModel", "add", "([BII)V"⟩, prog_13_method_4_code, 5, none, 1, 21)
abbrev J_M_add_I : pJ := (⟨"SealedWireModel", "add", "(I)V"⟩, prog_13_method_2_code, 2, none, 0, 0)
abbrev J_M_hashTo : pJ := (⟨"SealedWireModel", "hashTo", "([BI)V"⟩, prog_13_method_7_code, 5, none, 2, 66)
abbrev J_M_block_III : pJ := (⟨"SealedWireModel", "block", "(III)V"⟩, prog_13_method_6_code, 25, none, 1, 22)
abbrev J_M_turn : pJ := (⟨"SealedWireModel", "turn", "(JI)J"⟩, prog_13_method_5_code, 3, some (Jvm.ClassFile.FieldType.long), 0, 0)
abbrev J_M_forget : pJ := (⟨"SealedWireModel", "forget", "(II)I"⟩, prog_13_method_26_code, 3, some (Jvm.ClassFile.FieldType.int), 1, 20)
abbrev J_M_greet : pJ := (⟨"SealedWireModel", "greet", "(I)I"⟩, prog_13_method_32_code, 4, some (Jvm.ClassFile.FieldType.int), 4, 113)
abbrev J_M_full : pJ := (⟨"SealedWireModel", "full", "(I)Z"⟩, prog_13_method_28_code, 2, some (Jvm.ClassFile.FieldType.boolean), 0, 0)
abbrev J_M_randomTo : pJ := (⟨"SealedWireModel", "randomTo", "(I[BI)V"⟩, prog_13_method_31_code, 4, none, 3, 90)
abbrev J_M_word : pJ := (⟨"SealedWireModel", "word", "(I)V"⟩, prog_13_method_3_code, 3, none, 1, 21)
abbrev J_M_send : pJ := (⟨"SealedWireModel", "send", "(III)I"⟩, prog_13_method_29_code, 6, some (Jvm.ClassFile.FieldType.int), 1, 22)
abbrev J_M_at : pJ := (⟨"SealedWireModel", "at", "(II)I"⟩, prog_13_method_27_code, 3, some (Jvm.ClassFile.FieldType.int), 0, 0)
abbrev J_M_idle : pJ := (⟨"SealedWireModel", "idle", "(I)I"⟩, prog_13_method_33_code, 2, some (Jvm.ClassFile.FieldType.int), 1, 20)
abbrev J_M_name : pJ := (⟨"SealedWireModel", "name", "()I"⟩, prog_13_method_34_code, 3, some (Jvm.ClassFile.FieldType.int), 0, 0)
abbrev J_M_request : pJ := (⟨"SealedWireModel", "request", "(I)I"⟩, prog_13_method_37_code, 4, some (Jvm.ClassFile.FieldType.int), 5, 120)
abbrev J_M_say : pJ := (⟨"SealedWireModel", "say", "(I)V"⟩, prog_13_method_35_code, 2, none, 0, 0)
abbrev J_M_sendSealed : pJ := (⟨"SealedWireModel", "sendSealed", "(I)V"⟩, prog_13_method_36_code, 5, none, 4, 96)
abbrev J_M_cover : pJ := (⟨"SealedWireModel", "cover", "([BIII)V"⟩, prog_13_method_19_code, 6, none, 3, 70)
abbrev J_M_block_II : pJ := (⟨"SealedWireModel", "block", "(II)V"⟩, prog_13_method_14_code, 6, none, 2, 45)
abbrev J_M_low : pJ := (⟨"SealedWireModel", "low", "([BI)I"⟩, prog_13_method_10_code, 2, some (Jvm.ClassFile.FieldType.int), 0, 0)
abbrev J_M_swapped : pJ := (⟨"SealedWireModel", "swapped", "(I)I"⟩, prog_13_method_13_code, 1, some (Jvm.ClassFile.FieldType.int), 0, 0)
abbrev J_M_mix : pJ := (⟨"SealedWireModel", "mix", "(IIII)V"⟩, prog_13_method_11_code, 5, none, 1, 21)
abbrev J_M_turned : pJ := (⟨"SealedWireModel", "turned", "(II)I"⟩, prog_13_method_12_code, 2, some (Jvm.ClassFile.FieldType.int), 0, 0)
abbrev J_M_tagRecord : pJ := (⟨"SealedWireModel", "tagRecord", "([BIII)V"⟩, prog_13_method_18_code, 7, none, 3, 70)
abbrev J_M_tagOf : pJ := (⟨"SealedWireModel", "tagOf", "(I)V"⟩, prog_13_method_17_code, 5, none, 2, 43)
abbrev J_M_settle : pJ := (⟨"SealedWireModel", "settle", "()V"⟩, prog_13_method_16_code, 3, none, 1, 21)
abbrev J_M_carry : pJ := (⟨"SealedWireModel", "carry", "()V"⟩, prog_13_method_15_code, 2, none, 0, 0)
abbrev J_M_renew : pJ := (⟨"SealedWireModel", "renew", "(I)I"⟩, prog_13_method_40_code, 3, some (Jvm.ClassFile.FieldType.int), 6, 142)
abbrev J_M_kind : pJ := (⟨"SealedWireModel", "kind", "(II)I"⟩, prog_13_method_39_code, 3, some (Jvm.ClassFile.FieldType.int), 5, 120)
abbrev J_M_next : pJ := (⟨"SealedWireModel", "next", "(II)V"⟩, prog_13_method_38_code, 4, none, 4, 113)
abbrev J_M_macTo : pJ := (⟨"SealedWireModel", "macTo", "([BI)V"⟩, prog_13_method_8_code, 4, none, 3, 90)
abbrev J_M_close : pJ := (⟨"SealedWireModel", "close", "(I)I"⟩, prog_13_method_41_code, 3, some (Jvm.ClassFile.FieldType.int), 6, 142)
abbrev J_M_receive : pJ := (⟨"SealedWireModel", "receive", "(I)I"⟩, prog_13_method_54_code, 6, some (Jvm.ClassFile.FieldType.int), 7, 190)
abbrev J_M_handle : pJ := (⟨"SealedWireModel", "handle", "(III)I"⟩, prog_13_method_53_code, 5, some (Jvm.ClassFile.FieldType.int), 6, 166)
abbrev J_M_greeted : pJ := (⟨"SealedWireModel", "greeted", "(II)I"⟩, prog_13_method_44_code, 6, some (Jvm.ClassFile.FieldType.int), 5, 140)
abbrev J_M_prove : pJ := (⟨"SealedWireModel", "prove", "(I[BII[BI)V"⟩, prog_13_method_42_code, 8, none, 4, 113)
abbrev J_M_answered : pJ := (⟨"SealedWireModel", "answered", "(II)I"⟩, prog_13_method_45_code, 7, some (Jvm.ClassFile.FieldType.int), 5, 140)
abbrev J_M_same : pJ := (⟨"SealedWireModel", "same", "([BI[BI)Z"⟩, prog_13_method_9_code, 5, some (Jvm.ClassFile.FieldType.boolean), 0, 0)
abbrev J_M_opens : pJ := (⟨"SealedWireModel", "opens", "(I[B)V"⟩, prog_13_method_43_code, 6, none, 4, 113)
abbrev J_M_sealed : pJ := (⟨"SealedWireModel", "sealed", "(III)I"⟩, prog_13_method_52_code, 8, some (Jvm.ClassFile.FieldType.int), 5, 136)
abbrev J_M_opened : pJ := (⟨"SealedWireModel", "opened", "(III)I"⟩, prog_13_method_49_code, 6, some (Jvm.ClassFile.FieldType.int), 4, 96)
abbrev J_M_isRequest : pJ := (⟨"SealedWireModel", "isRequest", "(I)Z"⟩, prog_13_method_50_code, 3, some (Jvm.ClassFile.FieldType.boolean), 0, 0)
abbrev J_M_isAnswer : pJ := (⟨"SealedWireModel", "isAnswer", "(I)Z"⟩, prog_13_method_51_code, 2, some (Jvm.ClassFile.FieldType.boolean), 0, 0)
abbrev J_M_work : pJ := (⟨"SealedWireModel", "work", "(I)V"⟩, prog_13_method_48_code, 10, none, 1, 26)
abbrev J_M_place : pJ := (⟨"SealedWireModel", "place", "([BII)I"⟩, prog_13_method_46_code, 7, some (Jvm.ClassFile.FieldType.int), 0, 0)
abbrev J_M_remove : pJ := (⟨"SealedWireModel", "remove", "(I)V"⟩, prog_13_method_47_code, 3, none, 0, 0)
abbrev J_M_take : pJ := (⟨"SealedWireModel", "take", "(II)V"⟩, prog_13_method_30_code, 5, none, 1, 22)
abbrev J_M_wire : pJ := (⟨"SealedWireModel", "wire", "(III)I"⟩, prog_13_method_56_code, 5, some (Jvm.ClassFile.FieldType.int), 2, 42)
abbrev J_M_is : pJ := (⟨"SealedWireModel", "is", "(II)Z"⟩, prog_13_method_55_code, 3, some (Jvm.ClassFile.FieldType.boolean), 1, 20)
abbrev J_M_flip : pJ := (⟨"SealedWireModel", "flip", "(IIII)I"⟩, prog_13_method_57_code, 5, some (Jvm.ClassFile.FieldType.int), 2, 42)
abbrev J_M_drop : pJ := (⟨"SealedWireModel", "drop", "(II)I"⟩, prog_13_method_58_code, 3, some (Jvm.ClassFile.FieldType.int), 2, 46)
abbrev J_M_copy : pJ := (⟨"SealedWireModel", "copy", "(III)I"⟩, prog_13_method_60_code, 4, some (Jvm.ClassFile.FieldType.int), 2, 48)
abbrev J_M_last : pJ := (⟨"SealedWireModel", "last", "(I[BII)I"⟩, prog_13_method_59_code, 7, some (Jvm.ClassFile.FieldType.int), 1, 22)
abbrev J_M_hurry : pJ := (⟨"SealedWireModel", "hurry", "(II)I"⟩, prog_13_method_61_code, 6, some (Jvm.ClassFile.FieldType.int), 2, 42)
abbrev J_M_forge : pJ := (⟨"SealedWireModel", "forge", "(I)I"⟩, prog_13_method_62_code, 3, some (Jvm.ClassFile.FieldType.int), 2, 48)
abbrev J_M_answer : pJ := (⟨"SealedWireModel", "answer", "()I"⟩, prog_13_method_63_code, 2, some (Jvm.ClassFile.FieldType.int), 0, 0)
abbrev J_M_stored : pJ := (⟨"SealedWireModel", "stored", "()I"⟩, prog_13_method_64_code, 3, some (Jvm.ClassFile.FieldType.int), 1, 26)
abbrev J_M_look : pJ := (⟨"SealedWireModel", "look", "(II)I"⟩, prog_13_method_65_code, 5, some (Jvm.ClassFile.FieldType.int), 1, 20)
abbrev J_M_count : pJ := (⟨"SealedWireModel", "count", "(I)I"⟩, prog_13_method_66_code, 2, some (Jvm.ClassFile.FieldType.int), 0, 0)
