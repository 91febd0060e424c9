section
-- ===== PART A: goes FIRST, ahead of the names: the tables' words, and 'selects' of the private methods out of them =====
/-- a private method of a class that the tables say can be made, by its rows of tables_1 -/
def lw_okq (q : MethodName × Nat) : Prop := (q.1.cls ≠ "java/lang/invoke/MethodHandle" ∧ q.1.cls ≠ "java/lang/invoke/VarHandle") ∧ Cond.instantiable q.1.cls q.2 ∈ tables_1 ∧ Cond.privateMethod q.1 ∈ tables_1 ∧ Cond.instanceMethod q.1 ∈ tables_1
theorem lw_p0 : lw_okq (⟨"AshLines$Leans", "keep", "()V"⟩, 11) := ⟨⟨by decide +kernel, by decide +kernel⟩, List.mem_of_getElem? (i := 27) (by decide +kernel), List.mem_of_getElem? (i := 384) (by decide +kernel), List.mem_of_getElem? (i := 385) (by decide +kernel)⟩
theorem lw_p1 : lw_okq (⟨"AshLines$Leans", "raise", "(II)Z"⟩, 11) := ⟨⟨by decide +kernel, by decide +kernel⟩, List.mem_of_getElem? (i := 27) (by decide +kernel), List.mem_of_getElem? (i := 391) (by decide +kernel), List.mem_of_getElem? (i := 392) (by decide +kernel)⟩
theorem lw_p2 : lw_okq (⟨"AshLines$Leans", "lower", "(II)Z"⟩, 11) := ⟨⟨by decide +kernel, by decide +kernel⟩, List.mem_of_getElem? (i := 27) (by decide +kernel), List.mem_of_getElem? (i := 395) (by decide +kernel), List.mem_of_getElem? (i := 396) (by decide +kernel)⟩
theorem lw_p3 : lw_okq (⟨"AshLines$Leans", "settles", "()Z"⟩, 11) := ⟨⟨by decide +kernel, by decide +kernel⟩, List.mem_of_getElem? (i := 27) (by decide +kernel), List.mem_of_getElem? (i := 399) (by decide +kernel), List.mem_of_getElem? (i := 400) (by decide +kernel)⟩
theorem lw_p4 : lw_okq (⟨"AshLines$Leans", "isSomeEmpty", "()Z"⟩, 11) := ⟨⟨by decide +kernel, by decide +kernel⟩, List.mem_of_getElem? (i := 27) (by decide +kernel), List.mem_of_getElem? (i := 403) (by decide +kernel), List.mem_of_getElem? (i := 404) (by decide +kernel)⟩
theorem lw_p5 : lw_okq (⟨"AshLines$Leans", "narrowOnce", "()Z"⟩, 11) := ⟨⟨by decide +kernel, by decide +kernel⟩, List.mem_of_getElem? (i := 27) (by decide +kernel), List.mem_of_getElem? (i := 407) (by decide +kernel), List.mem_of_getElem? (i := 408) (by decide +kernel)⟩
theorem lw_p6 : lw_okq (⟨"AshLines$Leans", "putBack", "()V"⟩, 11) := ⟨⟨by decide +kernel, by decide +kernel⟩, List.mem_of_getElem? (i := 27) (by decide +kernel), List.mem_of_getElem? (i := 411) (by decide +kernel), List.mem_of_getElem? (i := 412) (by decide +kernel)⟩
theorem lw_p7 : lw_okq (⟨"AshLines$Lines", "rankLines", "()V"⟩, 10) := ⟨⟨by decide +kernel, by decide +kernel⟩, List.mem_of_getElem? (i := 78) (by decide +kernel), List.mem_of_getElem? (i := 462) (by decide +kernel), List.mem_of_getElem? (i := 463) (by decide +kernel)⟩
theorem lw_p8 : lw_okq (⟨"AshLines$Rule", "open", "(I)V"⟩, 9) := ⟨⟨by decide +kernel, by decide +kernel⟩, List.mem_of_getElem? (i := 192) (by decide +kernel), List.mem_of_getElem? (i := 521) (by decide +kernel), List.mem_of_getElem? (i := 522) (by decide +kernel)⟩
theorem lw_p9 : lw_okq (⟨"AshLines", "areTwoLines", "(II)Z"⟩, 10) := ⟨⟨by decide +kernel, by decide +kernel⟩, List.mem_of_getElem? (i := 19) (by decide +kernel), List.mem_of_getElem? (i := 529) (by decide +kernel), List.mem_of_getElem? (i := 530) (by decide +kernel)⟩
theorem lw_p10 : lw_okq (⟨"AshLines$Ages", "passDown", "(I)V"⟩, 6) := ⟨⟨by decide +kernel, by decide +kernel⟩, List.mem_of_getElem? (i := 162) (by decide +kernel), List.mem_of_getElem? (i := 545) (by decide +kernel), List.mem_of_getElem? (i := 546) (by decide +kernel)⟩
theorem lw_p11 : lw_okq (⟨"AshLines$Ages", "raise", "(II)V"⟩, 6) := ⟨⟨by decide +kernel, by decide +kernel⟩, List.mem_of_getElem? (i := 162) (by decide +kernel), List.mem_of_getElem? (i := 549) (by decide +kernel), List.mem_of_getElem? (i := 550) (by decide +kernel)⟩
theorem lw_p12 : lw_okq (⟨"AshLines$Ages", "passUp", "(I)V"⟩, 6) := ⟨⟨by decide +kernel, by decide +kernel⟩, List.mem_of_getElem? (i := 162) (by decide +kernel), List.mem_of_getElem? (i := 553) (by decide +kernel), List.mem_of_getElem? (i := 554) (by decide +kernel)⟩
theorem lw_p13 : lw_okq (⟨"AshLines$Ages", "lower", "(II)V"⟩, 6) := ⟨⟨by decide +kernel, by decide +kernel⟩, List.mem_of_getElem? (i := 162) (by decide +kernel), List.mem_of_getElem? (i := 557) (by decide +kernel), List.mem_of_getElem? (i := 558) (by decide +kernel)⟩
theorem lw_p14 : lw_okq (⟨"AshLines$Ages", "passTies", "(I)V"⟩, 6) := ⟨⟨by decide +kernel, by decide +kernel⟩, List.mem_of_getElem? (i := 162) (by decide +kernel), List.mem_of_getElem? (i := 561) (by decide +kernel), List.mem_of_getElem? (i := 562) (by decide +kernel)⟩
theorem lw_p15 : lw_okq (⟨"AshLines", "ruleRefusal", "()I"⟩, 10) := ⟨⟨by decide +kernel, by decide +kernel⟩, List.mem_of_getElem? (i := 19) (by decide +kernel), List.mem_of_getElem? (i := 578) (by decide +kernel), List.mem_of_getElem? (i := 579) (by decide +kernel)⟩
def lw_privs_1 : List (MethodName × Nat) := [(⟨"AshLines$Leans", "keep", "()V"⟩, 11), (⟨"AshLines$Leans", "raise", "(II)Z"⟩, 11), (⟨"AshLines$Leans", "lower", "(II)Z"⟩, 11), (⟨"AshLines$Leans", "settles", "()Z"⟩, 11), (⟨"AshLines$Leans", "isSomeEmpty", "()Z"⟩, 11), (⟨"AshLines$Leans", "narrowOnce", "()Z"⟩, 11), (⟨"AshLines$Leans", "putBack", "()V"⟩, 11), (⟨"AshLines$Lines", "rankLines", "()V"⟩, 10), (⟨"AshLines$Rule", "open", "(I)V"⟩, 9), (⟨"AshLines", "areTwoLines", "(II)Z"⟩, 10), (⟨"AshLines$Ages", "passDown", "(I)V"⟩, 6), (⟨"AshLines$Ages", "raise", "(II)V"⟩, 6), (⟨"AshLines$Ages", "passUp", "(I)V"⟩, 6), (⟨"AshLines$Ages", "lower", "(II)V"⟩, 6), (⟨"AshLines$Ages", "passTies", "(I)V"⟩, 6), (⟨"AshLines", "ruleRefusal", "()I"⟩, 10)]
theorem lw_r1 : ∀ q ∈ lw_privs_1, lw_okq q := List.forall_mem_cons.mpr ⟨lw_p0, List.forall_mem_cons.mpr ⟨lw_p1, List.forall_mem_cons.mpr ⟨lw_p2, List.forall_mem_cons.mpr ⟨lw_p3, List.forall_mem_cons.mpr ⟨lw_p4, List.forall_mem_cons.mpr ⟨lw_p5, List.forall_mem_cons.mpr ⟨lw_p6, List.forall_mem_cons.mpr ⟨lw_p7, List.forall_mem_cons.mpr ⟨lw_p8, List.forall_mem_cons.mpr ⟨lw_p9, List.forall_mem_cons.mpr ⟨lw_p10, List.forall_mem_cons.mpr ⟨lw_p11, List.forall_mem_cons.mpr ⟨lw_p12, List.forall_mem_cons.mpr ⟨lw_p13, List.forall_mem_cons.mpr ⟨lw_p14, List.forall_mem_cons.mpr ⟨lw_p15, fun _ h => absurd h List.not_mem_nil⟩⟩⟩⟩⟩⟩⟩⟩⟩⟩⟩⟩⟩⟩⟩⟩
theorem lw_p16 : lw_okq (⟨"AshLines$Kin", "factOf", "(III)I"⟩, 4) := ⟨⟨by decide +kernel, by decide +kernel⟩, List.mem_of_getElem? (i := 234) (by decide +kernel), List.mem_of_getElem? (i := 586) (by decide +kernel), List.mem_of_getElem? (i := 587) (by decide +kernel)⟩
theorem lw_p17 : lw_okq (⟨"AshLines$Kin", "matesOfAll", "(J)J"⟩, 4) := ⟨⟨by decide +kernel, by decide +kernel⟩, List.mem_of_getElem? (i := 234) (by decide +kernel), List.mem_of_getElem? (i := 614) (by decide +kernel), List.mem_of_getElem? (i := 615) (by decide +kernel)⟩
theorem lw_p18 : lw_okq (⟨"AshLines$Kin", "isBroken", "(J)Z"⟩, 4) := ⟨⟨by decide +kernel, by decide +kernel⟩, List.mem_of_getElem? (i := 234) (by decide +kernel), List.mem_of_getElem? (i := 637) (by decide +kernel), List.mem_of_getElem? (i := 638) (by decide +kernel)⟩
theorem lw_p19 : lw_okq (⟨"AshLines$Ties", "isOrderedWithout", "(I)Z"⟩, 6) := ⟨⟨by decide +kernel, by decide +kernel⟩, List.mem_of_getElem? (i := 124) (by decide +kernel), List.mem_of_getElem? (i := 738) (by decide +kernel), List.mem_of_getElem? (i := 739) (by decide +kernel)⟩
theorem lw_p20 : lw_okq (⟨"AshLines$Days", "gapsTo", "(II)I"⟩, 5) := ⟨⟨by decide +kernel, by decide +kernel⟩, List.mem_of_getElem? (i := 282) (by decide +kernel), List.mem_of_getElem? (i := 782) (by decide +kernel), List.mem_of_getElem? (i := 783) (by decide +kernel)⟩
theorem lw_p21 : lw_okq (⟨"AshLines", "isOlder", "(II)Z"⟩, 10) := ⟨⟨by decide +kernel, by decide +kernel⟩, List.mem_of_getElem? (i := 19) (by decide +kernel), List.mem_of_getElem? (i := 833) (by decide +kernel), List.mem_of_getElem? (i := 834) (by decide +kernel)⟩
theorem lw_p22 : lw_okq (⟨"AshLines$Steps", "markUp", "(I)V"⟩, 4) := ⟨⟨by decide +kernel, by decide +kernel⟩, List.mem_of_getElem? (i := 307) (by decide +kernel), List.mem_of_getElem? (i := 842) (by decide +kernel), List.mem_of_getElem? (i := 843) (by decide +kernel)⟩
theorem lw_p23 : lw_okq (⟨"AshLines$Steps", "put", "(II)V"⟩, 4) := ⟨⟨by decide +kernel, by decide +kernel⟩, List.mem_of_getElem? (i := 307) (by decide +kernel), List.mem_of_getElem? (i := 846) (by decide +kernel), List.mem_of_getElem? (i := 847) (by decide +kernel)⟩
theorem lw_p24 : lw_okq (⟨"AshLines$Steps", "markTies", "()V"⟩, 4) := ⟨⟨by decide +kernel, by decide +kernel⟩, List.mem_of_getElem? (i := 307) (by decide +kernel), List.mem_of_getElem? (i := 850) (by decide +kernel), List.mem_of_getElem? (i := 851) (by decide +kernel)⟩
theorem lw_p25 : lw_okq (⟨"AshLinesModel", "add", "(IIII)I"⟩, 48) := ⟨⟨by decide +kernel, by decide +kernel⟩, List.mem_of_getElem? (i := 903) (by decide +kernel), List.mem_of_getElem? (i := 1067) (by decide +kernel), List.mem_of_getElem? (i := 1068) (by decide +kernel)⟩
theorem lw_p26 : lw_okq (⟨"AshLinesModel", "narrow", "()Z"⟩, 48) := ⟨⟨by decide +kernel, by decide +kernel⟩, List.mem_of_getElem? (i := 903) (by decide +kernel), List.mem_of_getElem? (i := 1071) (by decide +kernel), List.mem_of_getElem? (i := 1072) (by decide +kernel)⟩
theorem lw_p27 : lw_okq (⟨"AshLinesModel", "atLeast", "(II)V"⟩, 48) := ⟨⟨by decide +kernel, by decide +kernel⟩, List.mem_of_getElem? (i := 903) (by decide +kernel), List.mem_of_getElem? (i := 1075) (by decide +kernel), List.mem_of_getElem? (i := 1076) (by decide +kernel)⟩
theorem lw_p28 : lw_okq (⟨"AshLinesModel", "atMost", "(II)V"⟩, 48) := ⟨⟨by decide +kernel, by decide +kernel⟩, List.mem_of_getElem? (i := 903) (by decide +kernel), List.mem_of_getElem? (i := 1079) (by decide +kernel), List.mem_of_getElem? (i := 1080) (by decide +kernel)⟩
theorem lw_p29 : lw_okq (⟨"AshLinesModel", "isGrain", "(I)Z"⟩, 48) := ⟨⟨by decide +kernel, by decide +kernel⟩, List.mem_of_getElem? (i := 903) (by decide +kernel), List.mem_of_getElem? (i := 1111) (by decide +kernel), List.mem_of_getElem? (i := 1112) (by decide +kernel)⟩
theorem lw_p30 : lw_okq (⟨"AshLinesModel", "trueOf", "(III)I"⟩, 48) := ⟨⟨by decide +kernel, by decide +kernel⟩, List.mem_of_getElem? (i := 903) (by decide +kernel), List.mem_of_getElem? (i := 1115) (by decide +kernel), List.mem_of_getElem? (i := 1116) (by decide +kernel)⟩
theorem lw_p31 : lw_okq (⟨"AshLinesModel", "grainsOf", "(I)I"⟩, 48) := ⟨⟨by decide +kernel, by decide +kernel⟩, List.mem_of_getElem? (i := 903) (by decide +kernel), List.mem_of_getElem? (i := 1126) (by decide +kernel), List.mem_of_getElem? (i := 1127) (by decide +kernel)⟩
def lw_privs_2 : List (MethodName × Nat) := [(⟨"AshLines$Kin", "factOf", "(III)I"⟩, 4), (⟨"AshLines$Kin", "matesOfAll", "(J)J"⟩, 4), (⟨"AshLines$Kin", "isBroken", "(J)Z"⟩, 4), (⟨"AshLines$Ties", "isOrderedWithout", "(I)Z"⟩, 6), (⟨"AshLines$Days", "gapsTo", "(II)I"⟩, 5), (⟨"AshLines", "isOlder", "(II)Z"⟩, 10), (⟨"AshLines$Steps", "markUp", "(I)V"⟩, 4), (⟨"AshLines$Steps", "put", "(II)V"⟩, 4), (⟨"AshLines$Steps", "markTies", "()V"⟩, 4), (⟨"AshLinesModel", "add", "(IIII)I"⟩, 48), (⟨"AshLinesModel", "narrow", "()Z"⟩, 48), (⟨"AshLinesModel", "atLeast", "(II)V"⟩, 48), (⟨"AshLinesModel", "atMost", "(II)V"⟩, 48), (⟨"AshLinesModel", "isGrain", "(I)Z"⟩, 48), (⟨"AshLinesModel", "trueOf", "(III)I"⟩, 48), (⟨"AshLinesModel", "grainsOf", "(I)I"⟩, 48)]
theorem lw_r2 : ∀ q ∈ lw_privs_2, lw_okq q := List.forall_mem_cons.mpr ⟨lw_p16, List.forall_mem_cons.mpr ⟨lw_p17, List.forall_mem_cons.mpr ⟨lw_p18, List.forall_mem_cons.mpr ⟨lw_p19, List.forall_mem_cons.mpr ⟨lw_p20, List.forall_mem_cons.mpr ⟨lw_p21, List.forall_mem_cons.mpr ⟨lw_p22, List.forall_mem_cons.mpr ⟨lw_p23, List.forall_mem_cons.mpr ⟨lw_p24, List.forall_mem_cons.mpr ⟨lw_p25, List.forall_mem_cons.mpr ⟨lw_p26, List.forall_mem_cons.mpr ⟨lw_p27, List.forall_mem_cons.mpr ⟨lw_p28, List.forall_mem_cons.mpr ⟨lw_p29, List.forall_mem_cons.mpr ⟨lw_p30, List.forall_mem_cons.mpr ⟨lw_p31, fun _ h => absurd h List.not_mem_nil⟩⟩⟩⟩⟩⟩⟩⟩⟩⟩⟩⟩⟩⟩⟩⟩
theorem lw_p32 : lw_okq (⟨"AshLinesModel", "isLine", "(I)Z"⟩, 48) := ⟨⟨by decide +kernel, by decide +kernel⟩, List.mem_of_getElem? (i := 903) (by decide +kernel), List.mem_of_getElem? (i := 1134) (by decide +kernel), List.mem_of_getElem? (i := 1135) (by decide +kernel)⟩
theorem lw_p33 : lw_okq (⟨"AshLinesModel", "glassOf", "(III)I"⟩, 48) := ⟨⟨by decide +kernel, by decide +kernel⟩, List.mem_of_getElem? (i := 903) (by decide +kernel), List.mem_of_getElem? (i := 1138) (by decide +kernel), List.mem_of_getElem? (i := 1139) (by decide +kernel)⟩
theorem lw_p34 : lw_okq (⟨"AshLinesModel", "faultOf", "()I"⟩, 48) := ⟨⟨by decide +kernel, by decide +kernel⟩, List.mem_of_getElem? (i := 903) (by decide +kernel), List.mem_of_getElem? (i := 1154) (by decide +kernel), List.mem_of_getElem? (i := 1155) (by decide +kernel)⟩
theorem lw_p35 : lw_okq (⟨"AshLinesModel", "boths", "()I"⟩, 48) := ⟨⟨by decide +kernel, by decide +kernel⟩, List.mem_of_getElem? (i := 903) (by decide +kernel), List.mem_of_getElem? (i := 1162) (by decide +kernel), List.mem_of_getElem? (i := 1163) (by decide +kernel)⟩
theorem lw_p36 : lw_okq (⟨"AshLinesModel", "glassGap", "(III)I"⟩, 48) := ⟨⟨by decide +kernel, by decide +kernel⟩, List.mem_of_getElem? (i := 903) (by decide +kernel), List.mem_of_getElem? (i := 1170) (by decide +kernel), List.mem_of_getElem? (i := 1171) (by decide +kernel)⟩
theorem lw_p37 : lw_okq (⟨"AshLinesModel", "layNet", "(I)Z"⟩, 48) := ⟨⟨by decide +kernel, by decide +kernel⟩, List.mem_of_getElem? (i := 903) (by decide +kernel), List.mem_of_getElem? (i := 1177) (by decide +kernel), List.mem_of_getElem? (i := 1178) (by decide +kernel)⟩
theorem lw_p38 : lw_okq (⟨"AshLinesModel", "holds", "(I)Z"⟩, 48) := ⟨⟨by decide +kernel, by decide +kernel⟩, List.mem_of_getElem? (i := 903) (by decide +kernel), List.mem_of_getElem? (i := 1181) (by decide +kernel), List.mem_of_getElem? (i := 1182) (by decide +kernel)⟩
theorem lw_p39 : lw_okq (⟨"AshLinesModel", "sweep", "(I)Z"⟩, 48) := ⟨⟨by decide +kernel, by decide +kernel⟩, List.mem_of_getElem? (i := 903) (by decide +kernel), List.mem_of_getElem? (i := 1185) (by decide +kernel), List.mem_of_getElem? (i := 1186) (by decide +kernel)⟩
theorem lw_p40 : lw_okq (⟨"AshLinesModel", "ageGap", "(II)I"⟩, 48) := ⟨⟨by decide +kernel, by decide +kernel⟩, List.mem_of_getElem? (i := 903) (by decide +kernel), List.mem_of_getElem? (i := 1189) (by decide +kernel), List.mem_of_getElem? (i := 1190) (by decide +kernel)⟩
theorem lw_p41 : lw_okq (⟨"AshLinesModel", "ruleBar", "()I"⟩, 48) := ⟨⟨by decide +kernel, by decide +kernel⟩, List.mem_of_getElem? (i := 903) (by decide +kernel), List.mem_of_getElem? (i := 1197) (by decide +kernel), List.mem_of_getElem? (i := 1198) (by decide +kernel)⟩
theorem lw_p42 : lw_okq (⟨"AshLinesModel", "needsNet", "()Z"⟩, 48) := ⟨⟨by decide +kernel, by decide +kernel⟩, List.mem_of_getElem? (i := 903) (by decide +kernel), List.mem_of_getElem? (i := 1201) (by decide +kernel), List.mem_of_getElem? (i := 1202) (by decide +kernel)⟩
theorem lw_p43 : lw_okq (⟨"AshLinesModel", "areAlike", "(II)Z"⟩, 48) := ⟨⟨by decide +kernel, by decide +kernel⟩, List.mem_of_getElem? (i := 903) (by decide +kernel), List.mem_of_getElem? (i := 1205) (by decide +kernel), List.mem_of_getElem? (i := 1206) (by decide +kernel)⟩
theorem lw_p44 : lw_okq (⟨"AshLinesModel", "factOf", "(III)I"⟩, 48) := ⟨⟨by decide +kernel, by decide +kernel⟩, List.mem_of_getElem? (i := 903) (by decide +kernel), List.mem_of_getElem? (i := 1209) (by decide +kernel), List.mem_of_getElem? (i := 1210) (by decide +kernel)⟩
theorem lw_p45 : lw_okq (⟨"AshLinesModel", "layAlike", "()V"⟩, 48) := ⟨⟨by decide +kernel, by decide +kernel⟩, List.mem_of_getElem? (i := 903) (by decide +kernel), List.mem_of_getElem? (i := 1217) (by decide +kernel), List.mem_of_getElem? (i := 1218) (by decide +kernel)⟩
theorem lw_p46 : lw_okq (⟨"AshLinesModel", "layChain", "(I)V"⟩, 48) := ⟨⟨by decide +kernel, by decide +kernel⟩, List.mem_of_getElem? (i := 903) (by decide +kernel), List.mem_of_getElem? (i := 1221) (by decide +kernel), List.mem_of_getElem? (i := 1222) (by decide +kernel)⟩
theorem lw_p47 : lw_okq (⟨"AshLinesModel", "isBroken", "()Z"⟩, 48) := ⟨⟨by decide +kernel, by decide +kernel⟩, List.mem_of_getElem? (i := 903) (by decide +kernel), List.mem_of_getElem? (i := 1229) (by decide +kernel), List.mem_of_getElem? (i := 1230) (by decide +kernel)⟩
def lw_privs_3 : List (MethodName × Nat) := [(⟨"AshLinesModel", "isLine", "(I)Z"⟩, 48), (⟨"AshLinesModel", "glassOf", "(III)I"⟩, 48), (⟨"AshLinesModel", "faultOf", "()I"⟩, 48), (⟨"AshLinesModel", "boths", "()I"⟩, 48), (⟨"AshLinesModel", "glassGap", "(III)I"⟩, 48), (⟨"AshLinesModel", "layNet", "(I)Z"⟩, 48), (⟨"AshLinesModel", "holds", "(I)Z"⟩, 48), (⟨"AshLinesModel", "sweep", "(I)Z"⟩, 48), (⟨"AshLinesModel", "ageGap", "(II)I"⟩, 48), (⟨"AshLinesModel", "ruleBar", "()I"⟩, 48), (⟨"AshLinesModel", "needsNet", "()Z"⟩, 48), (⟨"AshLinesModel", "areAlike", "(II)Z"⟩, 48), (⟨"AshLinesModel", "factOf", "(III)I"⟩, 48), (⟨"AshLinesModel", "layAlike", "()V"⟩, 48), (⟨"AshLinesModel", "layChain", "(I)V"⟩, 48), (⟨"AshLinesModel", "isBroken", "()Z"⟩, 48)]
theorem lw_r3 : ∀ q ∈ lw_privs_3, lw_okq q := List.forall_mem_cons.mpr ⟨lw_p32, List.forall_mem_cons.mpr ⟨lw_p33, List.forall_mem_cons.mpr ⟨lw_p34, List.forall_mem_cons.mpr ⟨lw_p35, List.forall_mem_cons.mpr ⟨lw_p36, List.forall_mem_cons.mpr ⟨lw_p37, List.forall_mem_cons.mpr ⟨lw_p38, List.forall_mem_cons.mpr ⟨lw_p39, List.forall_mem_cons.mpr ⟨lw_p40, List.forall_mem_cons.mpr ⟨lw_p41, List.forall_mem_cons.mpr ⟨lw_p42, List.forall_mem_cons.mpr ⟨lw_p43, List.forall_mem_cons.mpr ⟨lw_p44, List.forall_mem_cons.mpr ⟨lw_p45, List.forall_mem_cons.mpr ⟨lw_p46, List.forall_mem_cons.mpr ⟨lw_p47, fun _ h => absurd h List.not_mem_nil⟩⟩⟩⟩⟩⟩⟩⟩⟩⟩⟩⟩⟩⟩⟩⟩
theorem lw_p48 : lw_okq (⟨"AshLinesModel", "isMountain", "(I)Z"⟩, 48) := ⟨⟨by decide +kernel, by decide +kernel⟩, List.mem_of_getElem? (i := 903) (by decide +kernel), List.mem_of_getElem? (i := 1245) (by decide +kernel), List.mem_of_getElem? (i := 1246) (by decide +kernel)⟩
theorem lw_p49 : lw_okq (⟨"AshLinesModel", "weightOf", "(II)I"⟩, 48) := ⟨⟨by decide +kernel, by decide +kernel⟩, List.mem_of_getElem? (i := 903) (by decide +kernel), List.mem_of_getElem? (i := 1249) (by decide +kernel), List.mem_of_getElem? (i := 1250) (by decide +kernel)⟩
theorem lw_p50 : lw_okq (⟨"AshLinesModel", "likeness", "(II)J"⟩, 48) := ⟨⟨by decide +kernel, by decide +kernel⟩, List.mem_of_getElem? (i := 903) (by decide +kernel), List.mem_of_getElem? (i := 1262) (by decide +kernel), List.mem_of_getElem? (i := 1263) (by decide +kernel)⟩
theorem lw_p51 : lw_okq (⟨"AshLinesModel", "numberTies", "()V"⟩, 48) := ⟨⟨by decide +kernel, by decide +kernel⟩, List.mem_of_getElem? (i := 903) (by decide +kernel), List.mem_of_getElem? (i := 1292) (by decide +kernel), List.mem_of_getElem? (i := 1293) (by decide +kernel)⟩
theorem lw_p52 : lw_okq (⟨"AshLinesModel", "untrueWithout", "(I)I"⟩, 48) := ⟨⟨by decide +kernel, by decide +kernel⟩, List.mem_of_getElem? (i := 903) (by decide +kernel), List.mem_of_getElem? (i := 1296) (by decide +kernel), List.mem_of_getElem? (i := 1297) (by decide +kernel)⟩
theorem lw_p53 : lw_okq (⟨"AshLinesModel", "widthOf", "(I)I"⟩, 48) := ⟨⟨by decide +kernel, by decide +kernel⟩, List.mem_of_getElem? (i := 903) (by decide +kernel), List.mem_of_getElem? (i := 1315) (by decide +kernel), List.mem_of_getElem? (i := 1316) (by decide +kernel)⟩
theorem lw_p54 : lw_okq (⟨"AshLinesModel", "isTied", "(I)Z"⟩, 48) := ⟨⟨by decide +kernel, by decide +kernel⟩, List.mem_of_getElem? (i := 903) (by decide +kernel), List.mem_of_getElem? (i := 1331) (by decide +kernel), List.mem_of_getElem? (i := 1332) (by decide +kernel)⟩
theorem lw_p55 : lw_okq (⟨"AshLinesModel", "hourOf", "(I)I"⟩, 48) := ⟨⟨by decide +kernel, by decide +kernel⟩, List.mem_of_getElem? (i := 903) (by decide +kernel), List.mem_of_getElem? (i := 1335) (by decide +kernel), List.mem_of_getElem? (i := 1336) (by decide +kernel)⟩
theorem lw_p56 : lw_okq (⟨"AshLinesModel", "wayOf", "(II)I"⟩, 48) := ⟨⟨by decide +kernel, by decide +kernel⟩, List.mem_of_getElem? (i := 903) (by decide +kernel), List.mem_of_getElem? (i := 1343) (by decide +kernel), List.mem_of_getElem? (i := 1344) (by decide +kernel)⟩
theorem lw_p57 : lw_okq (⟨"AshLinesModel", "leads", "(II)Z"⟩, 48) := ⟨⟨by decide +kernel, by decide +kernel⟩, List.mem_of_getElem? (i := 903) (by decide +kernel), List.mem_of_getElem? (i := 1368) (by decide +kernel), List.mem_of_getElem? (i := 1369) (by decide +kernel)⟩
theorem lw_p58 : lw_okq (⟨"AshLinesModel", "holdsGlass", "(II)Z"⟩, 48) := ⟨⟨by decide +kernel, by decide +kernel⟩, List.mem_of_getElem? (i := 903) (by decide +kernel), List.mem_of_getElem? (i := 1376) (by decide +kernel), List.mem_of_getElem? (i := 1377) (by decide +kernel)⟩
theorem lw_p59 : lw_okq (⟨"AshLinesModel", "worthOf", "(I)J"⟩, 48) := ⟨⟨by decide +kernel, by decide +kernel⟩, List.mem_of_getElem? (i := 903) (by decide +kernel), List.mem_of_getElem? (i := 1388) (by decide +kernel), List.mem_of_getElem? (i := 1389) (by decide +kernel)⟩
theorem lw_p60 : lw_okq (⟨"AshLinesModel", "costOf", "(I)I"⟩, 48) := ⟨⟨by decide +kernel, by decide +kernel⟩, List.mem_of_getElem? (i := 903) (by decide +kernel), List.mem_of_getElem? (i := 1398) (by decide +kernel), List.mem_of_getElem? (i := 1399) (by decide +kernel)⟩
def lw_privs_4 : List (MethodName × Nat) := [(⟨"AshLinesModel", "isMountain", "(I)Z"⟩, 48), (⟨"AshLinesModel", "weightOf", "(II)I"⟩, 48), (⟨"AshLinesModel", "likeness", "(II)J"⟩, 48), (⟨"AshLinesModel", "numberTies", "()V"⟩, 48), (⟨"AshLinesModel", "untrueWithout", "(I)I"⟩, 48), (⟨"AshLinesModel", "widthOf", "(I)I"⟩, 48), (⟨"AshLinesModel", "isTied", "(I)Z"⟩, 48), (⟨"AshLinesModel", "hourOf", "(I)I"⟩, 48), (⟨"AshLinesModel", "wayOf", "(II)I"⟩, 48), (⟨"AshLinesModel", "leads", "(II)Z"⟩, 48), (⟨"AshLinesModel", "holdsGlass", "(II)Z"⟩, 48), (⟨"AshLinesModel", "worthOf", "(I)J"⟩, 48), (⟨"AshLinesModel", "costOf", "(I)I"⟩, 48)]
theorem lw_r4 : ∀ q ∈ lw_privs_4, lw_okq q := List.forall_mem_cons.mpr ⟨lw_p48, List.forall_mem_cons.mpr ⟨lw_p49, List.forall_mem_cons.mpr ⟨lw_p50, List.forall_mem_cons.mpr ⟨lw_p51, List.forall_mem_cons.mpr ⟨lw_p52, List.forall_mem_cons.mpr ⟨lw_p53, List.forall_mem_cons.mpr ⟨lw_p54, List.forall_mem_cons.mpr ⟨lw_p55, List.forall_mem_cons.mpr ⟨lw_p56, List.forall_mem_cons.mpr ⟨lw_p57, List.forall_mem_cons.mpr ⟨lw_p58, List.forall_mem_cons.mpr ⟨lw_p59, List.forall_mem_cons.mpr ⟨lw_p60, fun _ h => absurd h List.not_mem_nil⟩⟩⟩⟩⟩⟩⟩⟩⟩⟩⟩⟩⟩
def lw_privs : List (MethodName × Nat) := lw_privs_1 ++ (lw_privs_2 ++ (lw_privs_3 ++ (lw_privs_4)))
def lw_tbl : List Cond := k2_sels lw_privs ++ tables_1
theorem lw_privs_ok : ∀ q ∈ lw_privs, lw_okq q := by
  show ∀ q ∈ lw_privs_1 ++ (lw_privs_2 ++ (lw_privs_3 ++ (lw_privs_4))), lw_okq q
  exact List.forall_mem_append.mpr ⟨lw_r1, List.forall_mem_append.mpr ⟨lw_r2, List.forall_mem_append.mpr ⟨lw_r3, lw_r4⟩⟩⟩
end
section
/-! NAMES: classes, cells, methods (by wip/whole/tables.py out of the printed names) -/
def clsL : List (String × List (String × String × Bool × FieldType)) := [
  ("AshLines$Ages", [("ties", "LAshLines$Ties;", true, .object "AshLines$Ties"), ("toldLeast", "[I", true, .array .int), ("toldMost", "[I", true, .array .int), ("least", "[I", true, .array .int), ("most", "[I", true, .array .int), ("moved", "Z", false, .boolean)]),
  ("AshLines$Days", [("lines", "LAshLines$Lines;", true, .object "AshLines$Lines"), ("ties", "LAshLines$Ties;", true, .object "AshLines$Ties"), ("mountains", "LAshLines$Mountains;", true, .object "AshLines$Mountains"), ("mountainOf", "[I", true, .array .int), ("shades", "[I", true, .array .int)]),
  ("AshLines$Kin", [("lines", "LAshLines$Lines;", true, .object "AshLines$Lines"), ("ages", "LAshLines$Ages;", true, .object "AshLines$Ages"), ("law", "LAshLines$Rule;", true, .object "AshLines$Rule"), ("mates", "[J", true, .array .long)]),
  ("AshLines$Leans", [("least", "[I", true, .array .int), ("most", "[I", true, .array .int), ("keptLeast", "[I", true, .array .int), ("keptMost", "[I", true, .array .int), ("roundOne", "[I", true, .array .int), ("roundOther", "[I", true, .array .int), ("roundLeast", "[I", true, .array .int), ("roundMost", "[I", true, .array .int), ("rounds", "I", false, .int), ("taken", "I", false, .int), ("give", "I", false, .int)]),
  ("AshLines$Lines", [("leans", "LAshLines$Leans;", true, .object "AshLines$Leans"), ("lineOf", "[I", true, .array .int), ("houseOf", "[I", true, .array .int), ("reading", "[I", true, .array .int), ("grainsIn", "[I", true, .array .int), ("glassLeast", "[I", true, .array .int), ("glassMost", "[I", true, .array .int), ("grainCount", "I", false, .int), ("ranked", "[I", true, .array .int), ("lineCount", "I", false, .int)]),
  ("AshLines$Mountains", [("lines", "LAshLines$Lines;", true, .object "AshLines$Lines"), ("number", "[I", true, .array .int), ("wander", "[I", true, .array .int), ("x", "[I", true, .array .int), ("y", "[I", true, .array .int), ("known", "I", false, .int)]),
  ("AshLines$Rule", [("signs", "[I", true, .array .int), ("signCount", "I", false, .int), ("fact", "[I", true, .array .int), ("compare", "[I", true, .array .int), ("number", "[I", true, .array .int), ("bothOf", "[I", true, .array .int), ("tests", "I", false, .int), ("boths", "I", false, .int), ("asksAges", "Z", false, .boolean)]),
  ("AshLines$Search", [("finds", "[I", true, .array .int), ("costs", "[I", true, .array .int)]),
  ("AshLines$Steps", [("ties", "LAshLines$Ties;", true, .object "AshLines$Ties"), ("mark", "[I", true, .array .int), ("dayMark", "[I", true, .array .int), ("moved", "Z", false, .boolean)]),
  ("AshLines$Ties", [("dayOf", "[I", true, .array .int), ("isSunk", "[Z", true, .array .boolean), ("nameOf", "[I", true, .array .int), ("orderingLine", "[I", true, .array .int), ("orderings", "I", false, .int), ("over", "[I", true, .array .int)]),
  ("AshLines", [("leans", "LAshLines$Leans;", true, .object "AshLines$Leans"), ("lines", "LAshLines$Lines;", true, .object "AshLines$Lines"), ("ties", "LAshLines$Ties;", true, .object "AshLines$Ties"), ("ages", "LAshLines$Ages;", true, .object "AshLines$Ages"), ("law", "LAshLines$Rule;", true, .object "AshLines$Rule"), ("kin", "LAshLines$Kin;", true, .object "AshLines$Kin"), ("mountains", "LAshLines$Mountains;", true, .object "AshLines$Mountains"), ("days", "LAshLines$Days;", true, .object "AshLines$Days"), ("steps", "LAshLines$Steps;", true, .object "AshLines$Steps"), ("search", "LAshLines$Search;", true, .object "AshLines$Search")]),
  ("AshLinesModel", [("slack", "I", false, .int), ("low", "[I", true, .array .int), ("high", "[I", true, .array .int), ("pieces", "I", false, .int), ("pieceHouse", "[I", true, .array .int), ("pieceOther", "[I", true, .array .int), ("pieceStuff", "[I", true, .array .int), ("pieceBy", "[I", true, .array .int), ("pieceSlack", "[I", true, .array .int), ("grains", "I", false, .int), ("grainLine", "[I", true, .array .int), ("grainHouse", "[I", true, .array .int), ("grainRead", "[I", true, .array .int), ("signs", "I", false, .int), ("sign", "[I", true, .array .int), ("ruled", "I", false, .int), ("ruleSign", "[I", true, .array .int), ("mountain", "[I", true, .array .int), ("wander", "[I", true, .array .int), ("mountainX", "[I", true, .array .int), ("mountainY", "[I", true, .array .int), ("coreX", "[I", true, .array .int), ("coreY", "[I", true, .array .int), ("dayLow", "[I", true, .array .int), ("dayHigh", "[I", true, .array .int), ("inchLow", "[I", true, .array .int), ("inchHigh", "[I", true, .array .int), ("tied", "[I", true, .array .int), ("isSunk", "[Z", true, .array .boolean), ("named", "[I", true, .array .int), ("bornOf", "[I", true, .array .int), ("shades", "[I", true, .array .int), ("find", "[I", true, .array .int), ("cost", "[I", true, .array .int), ("keptLow", "[I", true, .array .int), ("keptHigh", "[I", true, .array .int), ("changed", "Z", false, .boolean), ("lines", "I", false, .int), ("lineAt", "[I", true, .array .int), ("alikeAt", "[Z", true, .array .boolean), ("chained", "[Z", true, .array .boolean), ("over", "[I", true, .array .int), ("tieNumber", "[I", true, .array .int), ("netLow", "[I", true, .array .int), ("netHigh", "[I", true, .array .int), ("netDayLow", "[I", true, .array .int), ("netDayHigh", "[I", true, .array .int), ("come", "[I", true, .array .int)])]
def RC (c : Nat) : String := (clsL.getD c ("", [])).1
def fld (c k : Nat) : String × String × Bool × FieldType := (clsL.getD c ("", [])).2.getD k ("", "", false, .int)
def TW (c : Nat) : u_T := fun k => (RC c, (fld c k).1, (fld c k).2.1, (fld c k).2.2.1)
def tyF (c k : Nat) : FieldType := (fld c k).2.2.2
def nF (c : Nat) : Nat := (clsL.getD c ("", [])).2.length
def vwCl : List vw_C := (List.range 12).map fun c => (RC c, TW c, nF c)
/-- the cells: kind (0 ints, 1 booleans, 2 longs, 3 an object) and length -/
def hkL : List (Nat × Nat) := [(3, 6), (3, 5), (3, 4), (3, 11), (3, 10), (3, 6), (3, 9), (3, 2), (3, 4), (3, 6), (3, 10), (3, 48), (0, 154), (0, 154), (0, 154), (0, 154), (0, 10), (0, 60), (2, 60), (0, 9), (0, 9), (0, 9), (0, 9), (0, 30), (0, 30), (0, 30), (0, 30), (0, 60), (0, 60), (0, 180), (0, 144), (0, 432), (0, 432), (0, 144), (0, 18), (0, 6), (0, 12), (0, 12), (0, 50), (0, 50), (0, 50), (0, 50), (0, 50), (0, 60), (0, 6), (0, 144), (0, 10), (0, 144), (1, 144), (0, 144), (0, 144), (0, 10), (0, 9), (0, 9), (0, 31), (0, 31), (0, 31), (0, 31), (0, 31), (0, 60), (0, 60), (0, 180), (0, 50), (0, 50), (0, 18), (0, 6), (0, 6), (0, 6), (0, 6), (0, 6), (0, 10), (0, 10), (0, 144), (0, 144), (0, 144), (1, 144), (0, 144), (0, 10), (0, 60), (0, 60), (0, 6), (0, 9), (0, 9), (0, 60), (1, 3600), (1, 60), (0, 10), (0, 144), (0, 144), (0, 144), (0, 10), (0, 10), (0, 144)]
def hrL : List (List (Option Nat)) := [
  [some 9, some 12, some 13, some 14, some 15, none],
  [some 4, some 9, some 5, some 16, some 17],
  [some 4, some 0, some 6, some 18],
  [some 19, some 20, some 21, some 22, some 23, some 24, some 25, some 26, none, none, none],
  [some 3, some 27, some 28, some 29, some 30, some 31, some 32, none, some 33, none],
  [some 4, some 34, some 35, some 36, some 37, none],
  [some 38, none, some 39, some 40, some 41, some 42, none, none, none],
  [some 43, some 44],
  [some 9, some 45, some 46, none],
  [some 47, some 48, some 49, some 50, none, some 51],
  [some 3, some 4, some 9, some 0, some 6, some 2, some 5, some 1, some 8, some 7],
  [none, some 52, some 53, none, some 54, some 55, some 56, some 57, some 58, none, some 59, some 60, some 61, none, some 62, none, some 63, some 64, some 65, some 66, some 67, some 68, some 69, some 70, some 71, some 72, some 73, some 74, some 75, some 76, some 77, some 78, some 79, some 80, some 81, some 82, none, none, some 83, some 84, some 85, some 86, some 87, some 88, some 89, some 90, some 91, some 92]]
def mNL : List MethodName := [
  ⟨"AshLines$Ages", "clashes", "(I)Z"⟩,
  ⟨"AshLines$Ages", "passDown", "(I)V"⟩,
  ⟨"AshLines$Ages", "passUp", "(I)V"⟩,
  ⟨"AshLines$Ages", "passTies", "(I)V"⟩,
  ⟨"AshLines$Ages", "raise", "(II)V"⟩,
  ⟨"AshLines$Ages", "lower", "(II)V"⟩,
  ⟨"AshLines$Ages", "ageGap", "(II)I"⟩,
  ⟨"AshLines$Ages", "yearsOpen", "(I)I"⟩,
  ⟨"AshLines$Days", "shadeAt", "(III)I"⟩,
  ⟨"AshLines$Days", "hourOf", "(I)I"⟩,
  ⟨"AshLines$Days", "gapsTo", "(II)I"⟩,
  ⟨"AshLines$Days", "waysOf", "(II)I"⟩,
  ⟨"AshLines$Kin", "areKin", "(II)Z"⟩,
  ⟨"AshLines$Kin", "factOf", "(III)I"⟩,
  ⟨"AshLines$Kin", "findMates", "()V"⟩,
  ⟨"AshLines$Kin", "chainFrom", "(I)J"⟩,
  ⟨"AshLines$Kin", "matesOfAll", "(J)J"⟩,
  ⟨"AshLines$Kin", "lineIn", "(JI)I"⟩,
  ⟨"AshLines$Kin", "countBroken", "()I"⟩,
  ⟨"AshLines$Kin", "isBroken", "(J)Z"⟩,
  ⟨"AshLines$Leans", "takePiece", "(II)Z"⟩,
  ⟨"AshLines$Leans", "takeRound", "(III)Z"⟩,
  ⟨"AshLines$Leans", "keep", "()V"⟩,
  ⟨"AshLines$Leans", "putBack", "()V"⟩,
  ⟨"AshLines$Leans", "settles", "()Z"⟩,
  ⟨"AshLines$Leans", "isSomeEmpty", "()Z"⟩,
  ⟨"AshLines$Leans", "narrowOnce", "()Z"⟩,
  ⟨"AshLines$Leans", "raise", "(II)Z"⟩,
  ⟨"AshLines$Leans", "lower", "(II)Z"⟩,
  ⟨"AshLines$Lines", "isLine", "(I)Z"⟩,
  ⟨"AshLines$Lines", "add", "(IIIII)I"⟩,
  ⟨"AshLines$Lines", "rankLines", "()V"⟩,
  ⟨"AshLines$Lines", "rankOf", "(I)I"⟩,
  ⟨"AshLines$Lines", "trueLeast", "(II)I"⟩,
  ⟨"AshLines$Lines", "trueMost", "(II)I"⟩,
  ⟨"AshLines$Lines", "weighAnew", "()V"⟩,
  ⟨"AshLines$Lines", "glassGap", "(III)I"⟩,
  ⟨"AshLines$Lines", "glassGapTo", "(III)I"⟩,
  ⟨"AshLines$Lines", "holdsGlass", "(II)Z"⟩,
  ⟨"AshLines$Mountains", "isKnown", "(I)Z"⟩,
  ⟨"AshLines$Mountains", "tell", "(IIIII)V"⟩,
  ⟨"AshLines$Mountains", "weigh", "(II)I"⟩,
  ⟨"AshLines$Mountains", "weighLine", "(II)J"⟩,
  ⟨"AshLines$Mountains", "wayTo", "(II)I"⟩,
  ⟨"AshLines$Rule", "firstBad", "()I"⟩,
  ⟨"AshLines$Rule", "stageAfter", "(II)I"⟩,
  ⟨"AshLines$Rule", "isFact", "(I)Z"⟩,
  ⟨"AshLines$Rule", "isCompare", "(I)Z"⟩,
  ⟨"AshLines$Rule", "isDigit", "(I)Z"⟩,
  ⟨"AshLines$Rule", "learn", "()V"⟩,
  ⟨"AshLines$Rule", "open", "(I)V"⟩,
  ⟨"AshLines$Rule", "passes", "(II)Z"⟩,
  ⟨"AshLines$Search", "tell", "(III)I"⟩,
  ⟨"AshLines$Search", "worthOf", "(I)I"⟩,
  ⟨"AshLines$Search", "costOf", "(I)I"⟩,
  ⟨"AshLines$Search", "bestFor", "(I)I"⟩,
  ⟨"AshLines$Steps", "lead", "(II)Z"⟩,
  ⟨"AshLines$Steps", "markUp", "(I)V"⟩,
  ⟨"AshLines$Steps", "markTies", "()V"⟩,
  ⟨"AshLines$Steps", "put", "(II)V"⟩,
  ⟨"AshLines$Ties", "isOrdering", "(I)Z"⟩,
  ⟨"AshLines$Ties", "countAll", "()I"⟩,
  ⟨"AshLines$Ties", "listOrdering", "()V"⟩,
  ⟨"AshLines$Ties", "findOver", "(I)V"⟩,
  ⟨"AshLines$Ties", "untrueWithout", "(I)I"⟩,
  ⟨"AshLines$Ties", "fewestToGo", "()I"⟩,
  ⟨"AshLines$Ties", "isOrderedWithout", "(I)Z"⟩,
  ⟨"AshLines$Ties", "daysNamed", "(I)I"⟩,
  ⟨"AshLines$Ties", "namesOfDay", "(I)I"⟩,
  ⟨"AshLines", "piece", "(IIII)I"⟩,
  ⟨"AshLines", "round", "(IIIII)I"⟩,
  ⟨"AshLines", "lean", "(III)I"⟩,
  ⟨"AshLines", "slack", "(I)I"⟩,
  ⟨"AshLines", "grain", "(IIIIII)I"⟩,
  ⟨"AshLines", "truly", "(III)I"⟩,
  ⟨"AshLines", "grains", "(I)I"⟩,
  ⟨"AshLines", "glass", "(III)I"⟩,
  ⟨"AshLines", "say", "(I)I"⟩,
  ⟨"AshLines", "wipe", "()I"⟩,
  ⟨"AshLines", "fault", "()I"⟩,
  ⟨"AshLines", "rule", "()I"⟩,
  ⟨"AshLines", "gap", "(III)I"⟩,
  ⟨"AshLines", "alike", "(II)I"⟩,
  ⟨"AshLines", "chain", "(II)I"⟩,
  ⟨"AshLines", "broken", "()I"⟩,
  ⟨"AshLines", "ruleRefusal", "()I"⟩,
  ⟨"AshLines", "areTwoLines", "(II)Z"⟩,
  ⟨"AshLines", "mountain", "(IIIII)I"⟩,
  ⟨"AshLines", "place", "(IIII)I"⟩,
  ⟨"AshLines", "weight", "(II)I"⟩,
  ⟨"AshLines", "whose", "(III)J"⟩,
  ⟨"AshLines", "age", "(IIII)I"⟩,
  ⟨"AshLines", "tie", "(II)I"⟩,
  ⟨"AshLines", "sunk", "(IZ)I"⟩,
  ⟨"AshLines", "above", "(II)I"⟩,
  ⟨"AshLines", "untrue", "()I"⟩,
  ⟨"AshLines", "drop", "(I)I"⟩,
  ⟨"AshLines", "net", "(III)I"⟩,
  ⟨"AshLines", "gain", "(I)I"⟩,
  ⟨"AshLines", "born", "(II)I"⟩,
  ⟨"AshLines", "shade", "(IIII)I"⟩,
  ⟨"AshLines", "hour", "(I)I"⟩,
  ⟨"AshLines", "way", "(II)I"⟩,
  ⟨"AshLines", "winds", "(II)I"⟩,
  ⟨"AshLines", "name", "(II)I"⟩,
  ⟨"AshLines", "several", "()I"⟩,
  ⟨"AshLines", "called", "(I)I"⟩,
  ⟨"AshLines", "first", "(II)I"⟩,
  ⟨"AshLines", "isOlder", "(II)Z"⟩,
  ⟨"AshLines", "washed", "(I)I"⟩,
  ⟨"AshLines", "look", "(III)I"⟩,
  ⟨"AshLines", "worth", "(II)J"⟩,
  ⟨"AshLines", "next", "(II)I"⟩,
  ⟨"AshLines", "told", "(I)I"⟩,
  ⟨"AshLines", "isBelow", "(II)Z"⟩,
  ⟨"AshLines", "isNumber", "(I)Z"⟩,
  ⟨"AshLines", "noneIfUnset", "(I)I"⟩,
  ⟨"AshLines", "between", "(IIII)I"⟩,
  ⟨"AshLines", "partOf", "(JJI)J"⟩,
  ⟨"AshLines", "greatestShared", "(JJ)J"⟩,
  ⟨"AshLinesModel", "in", "(III)Z"⟩,
  ⟨"AshLinesModel", "isNumber", "(I)Z"⟩,
  ⟨"AshLinesModel", "isHouse", "(I)Z"⟩,
  ⟨"AshLinesModel", "isCore", "(I)Z"⟩,
  ⟨"AshLinesModel", "isInch", "(I)Z"⟩,
  ⟨"AshLinesModel", "isDay", "(I)Z"⟩,
  ⟨"AshLinesModel", "isEnd", "(I)Z"⟩,
  ⟨"AshLinesModel", "atLeast", "(II)V"⟩,
  ⟨"AshLinesModel", "atMost", "(II)V"⟩,
  ⟨"AshLinesModel", "narrow", "()Z"⟩,
  ⟨"AshLinesModel", "add", "(IIII)I"⟩,
  ⟨"AshLinesModel", "piece", "(IIII)I"⟩,
  ⟨"AshLinesModel", "round", "(IIIII)I"⟩,
  ⟨"AshLinesModel", "lean", "(III)I"⟩,
  ⟨"AshLinesModel", "slack", "(I)I"⟩,
  ⟨"AshLinesModel", "grain", "(IIIIII)I"⟩,
  ⟨"AshLinesModel", "trueOf", "(III)I"⟩,
  ⟨"AshLinesModel", "isGrain", "(I)Z"⟩,
  ⟨"AshLinesModel", "truly", "(III)I"⟩,
  ⟨"AshLinesModel", "grainsOf", "(I)I"⟩,
  ⟨"AshLinesModel", "isLine", "(I)Z"⟩,
  ⟨"AshLinesModel", "grains", "(I)I"⟩,
  ⟨"AshLinesModel", "glassOf", "(III)I"⟩,
  ⟨"AshLinesModel", "glass", "(III)I"⟩,
  ⟨"AshLinesModel", "say", "(I)I"⟩,
  ⟨"AshLinesModel", "wipe", "()I"⟩,
  ⟨"AshLinesModel", "faultOf", "()I"⟩,
  ⟨"AshLinesModel", "fault", "()I"⟩,
  ⟨"AshLinesModel", "boths", "()I"⟩,
  ⟨"AshLinesModel", "rule", "()I"⟩,
  ⟨"AshLinesModel", "gapOf", "(IIII)I"⟩,
  ⟨"AshLinesModel", "glassGap", "(III)I"⟩,
  ⟨"AshLinesModel", "ageGap", "(II)I"⟩,
  ⟨"AshLinesModel", "gap", "(III)I"⟩,
  ⟨"AshLinesModel", "needsNet", "()Z"⟩,
  ⟨"AshLinesModel", "ruleBar", "()I"⟩,
  ⟨"AshLinesModel", "factOf", "(III)I"⟩,
  ⟨"AshLinesModel", "areAlike", "(II)Z"⟩,
  ⟨"AshLinesModel", "alike", "(II)I"⟩,
  ⟨"AshLinesModel", "layAlike", "()V"⟩,
  ⟨"AshLinesModel", "layChain", "(I)V"⟩,
  ⟨"AshLinesModel", "chain", "(II)I"⟩,
  ⟨"AshLinesModel", "isBroken", "()Z"⟩,
  ⟨"AshLinesModel", "broken", "()I"⟩,
  ⟨"AshLinesModel", "isMountain", "(I)Z"⟩,
  ⟨"AshLinesModel", "mountain", "(IIIII)I"⟩,
  ⟨"AshLinesModel", "place", "(IIII)I"⟩,
  ⟨"AshLinesModel", "size", "(I)I"⟩,
  ⟨"AshLinesModel", "weightOf", "(II)I"⟩,
  ⟨"AshLinesModel", "weight", "(II)I"⟩,
  ⟨"AshLinesModel", "likeness", "(II)J"⟩,
  ⟨"AshLinesModel", "term", "(JJI)J"⟩,
  ⟨"AshLinesModel", "whose", "(III)J"⟩,
  ⟨"AshLinesModel", "age", "(IIII)I"⟩,
  ⟨"AshLinesModel", "tie", "(II)I"⟩,
  ⟨"AshLinesModel", "sunk", "(IZ)I"⟩,
  ⟨"AshLinesModel", "holds", "(I)Z"⟩,
  ⟨"AshLinesModel", "above", "(II)I"⟩,
  ⟨"AshLinesModel", "numberTies", "()V"⟩,
  ⟨"AshLinesModel", "untrueWithout", "(I)I"⟩,
  ⟨"AshLinesModel", "untrue", "()I"⟩,
  ⟨"AshLinesModel", "bits", "(I)I"⟩,
  ⟨"AshLinesModel", "drop", "(I)I"⟩,
  ⟨"AshLinesModel", "layNet", "(I)Z"⟩,
  ⟨"AshLinesModel", "sweep", "(I)Z"⟩,
  ⟨"AshLinesModel", "net", "(III)I"⟩,
  ⟨"AshLinesModel", "widthOf", "(I)I"⟩,
  ⟨"AshLinesModel", "gain", "(I)I"⟩,
  ⟨"AshLinesModel", "born", "(II)I"⟩,
  ⟨"AshLinesModel", "shade", "(IIII)I"⟩,
  ⟨"AshLinesModel", "hourOf", "(I)I"⟩,
  ⟨"AshLinesModel", "isTied", "(I)Z"⟩,
  ⟨"AshLinesModel", "hour", "(I)I"⟩,
  ⟨"AshLinesModel", "wayOf", "(II)I"⟩,
  ⟨"AshLinesModel", "way", "(II)I"⟩,
  ⟨"AshLinesModel", "winds", "(II)I"⟩,
  ⟨"AshLinesModel", "name", "(II)I"⟩,
  ⟨"AshLinesModel", "several", "()I"⟩,
  ⟨"AshLinesModel", "called", "(I)I"⟩,
  ⟨"AshLinesModel", "leads", "(II)Z"⟩,
  ⟨"AshLinesModel", "first", "(II)I"⟩,
  ⟨"AshLinesModel", "holdsGlass", "(II)Z"⟩,
  ⟨"AshLinesModel", "washed", "(I)I"⟩,
  ⟨"AshLinesModel", "look", "(III)I"⟩,
  ⟨"AshLinesModel", "worthOf", "(I)J"⟩,
  ⟨"AshLinesModel", "worth", "(II)J"⟩,
  ⟨"AshLinesModel", "costOf", "(I)I"⟩,
  ⟨"AshLinesModel", "next", "(II)I"⟩,
  ⟨"AshLinesModel", "told", "(I)I"⟩,
  ⟨"java/lang/Integer", "bitCount", "(I)I"⟩,
  ⟨"java/lang/Long", "bitCount", "(J)I"⟩,
  ⟨"java/util/Arrays", "fill", "([II)V"⟩]
def mBL : List ByteArray := [prog_2_method_2_code, prog_2_method_3_code, prog_2_method_4_code, prog_2_method_5_code, prog_2_method_6_code, prog_2_method_7_code, prog_2_method_8_code, prog_2_method_9_code, prog_3_method_2_code, prog_3_method_3_code, prog_3_method_4_code, prog_3_method_5_code, prog_4_method_2_code, prog_4_method_3_code, prog_4_method_4_code, prog_4_method_5_code, prog_4_method_6_code, prog_4_method_7_code, prog_4_method_8_code, prog_4_method_9_code, prog_5_method_2_code, prog_5_method_3_code, prog_5_method_4_code, prog_5_method_5_code, prog_5_method_6_code, prog_5_method_7_code, prog_5_method_8_code, prog_5_method_9_code, prog_5_method_10_code, prog_6_method_2_code, prog_6_method_3_code, prog_6_method_4_code, prog_6_method_5_code, prog_6_method_6_code, prog_6_method_7_code, prog_6_method_8_code, prog_6_method_9_code, prog_6_method_10_code, prog_6_method_11_code, prog_7_method_2_code, prog_7_method_3_code, prog_7_method_4_code, prog_7_method_5_code, prog_7_method_6_code, prog_8_method_2_code, prog_8_method_3_code, prog_8_method_4_code, prog_8_method_5_code, prog_8_method_6_code, prog_8_method_7_code, prog_8_method_8_code, prog_8_method_9_code, prog_9_method_2_code, prog_9_method_3_code, prog_9_method_4_code, prog_9_method_5_code, prog_10_method_2_code, prog_10_method_3_code, prog_10_method_4_code, prog_10_method_5_code, prog_11_method_2_code, prog_11_method_3_code, prog_11_method_4_code, prog_11_method_5_code, prog_11_method_6_code, prog_11_method_7_code, prog_11_method_8_code, prog_11_method_9_code, prog_11_method_10_code, prog_1_method_2_code, prog_1_method_3_code, prog_1_method_4_code, prog_1_method_5_code, prog_1_method_6_code, prog_1_method_7_code, prog_1_method_8_code, prog_1_method_9_code, prog_1_method_10_code, prog_1_method_11_code, prog_1_method_12_code, prog_1_method_13_code, prog_1_method_14_code, prog_1_method_15_code, prog_1_method_16_code, prog_1_method_17_code, prog_1_method_18_code, prog_1_method_19_code, prog_1_method_20_code, prog_1_method_21_code, prog_1_method_22_code, prog_1_method_23_code, prog_1_method_24_code, prog_1_method_25_code, prog_1_method_26_code, prog_1_method_27_code, prog_1_method_28_code, prog_1_method_29_code, prog_1_method_30_code, prog_1_method_31_code, prog_1_method_32_code, prog_1_method_33_code, prog_1_method_34_code, prog_1_method_35_code, prog_1_method_36_code, prog_1_method_37_code, prog_1_method_38_code, prog_1_method_39_code, prog_1_method_40_code, prog_1_method_41_code, prog_1_method_42_code, prog_1_method_43_code, prog_1_method_44_code, prog_1_method_45_code, prog_1_method_46_code, prog_1_method_47_code, prog_1_method_48_code, prog_1_method_49_code, prog_1_method_50_code, prog_1_method_51_code, prog_1_method_52_code, prog_13_method_2_code, prog_13_method_3_code, prog_13_method_4_code, prog_13_method_5_code, prog_13_method_6_code, prog_13_method_7_code, prog_13_method_8_code, prog_13_method_9_code, prog_13_method_10_code, prog_13_method_11_code, prog_13_method_12_code, prog_13_method_13_code, prog_13_method_14_code, prog_13_method_15_code, prog_13_method_16_code, prog_13_method_17_code, prog_13_method_18_code, prog_13_method_19_code, prog_13_method_20_code, prog_13_method_21_code, prog_13_method_22_code, prog_13_method_23_code, prog_13_method_24_code, prog_13_method_25_code, prog_13_method_26_code, prog_13_method_27_code, prog_13_method_28_code, prog_13_method_29_code, prog_13_method_30_code, prog_13_method_31_code, prog_13_method_32_code, prog_13_method_33_code, prog_13_method_34_code, prog_13_method_35_code, prog_13_method_36_code, prog_13_method_37_code, prog_13_method_38_code, prog_13_method_39_code, prog_13_method_40_code, prog_13_method_41_code, prog_13_method_42_code, prog_13_method_43_code, prog_13_method_44_code, prog_13_method_45_code, prog_13_method_46_code, prog_13_method_47_code, prog_13_method_48_code, prog_13_method_49_code, prog_13_method_50_code, prog_13_method_51_code, prog_13_method_52_code, prog_13_method_53_code, prog_13_method_54_code, prog_13_method_55_code, prog_13_method_56_code, prog_13_method_57_code, prog_13_method_58_code, prog_13_method_59_code, prog_13_method_60_code, prog_13_method_61_code, prog_13_method_62_code, prog_13_method_63_code, prog_13_method_64_code, prog_13_method_65_code, prog_13_method_66_code, prog_13_method_67_code, prog_13_method_68_code, prog_13_method_69_code, prog_13_method_70_code, prog_13_method_71_code, prog_13_method_72_code, prog_13_method_73_code, prog_13_method_74_code, prog_13_method_75_code, prog_13_method_76_code, prog_13_method_77_code, prog_13_method_78_code, prog_13_method_79_code, prog_13_method_80_code, prog_13_method_81_code, prog_13_method_82_code, prog_13_method_83_code, prog_13_method_84_code, prog_13_method_85_code, prog_13_method_86_code, prog_13_method_87_code, prog_13_method_88_code, prog_13_method_89_code, prog_13_method_90_code, prog_14_method_49_code, prog_15_method_50_code, prog_18_method_103_code]
/-- locals, frames below, words of locals below -/
def mML : List (Nat × Nat × Nat) := [(4, 2, 45), (4, 1, 22), (4, 1, 22), (4, 1, 22), (3, 0, 0), (3, 0, 0), (3, 1, 23), (4, 0, 0), (4, 0, 0), (4, 3, 71), (5, 2, 47), (7, 4, 94), (6, 3, 71), (4, 2, 48), (4, 4, 96), (7, 1, 25), (6, 0, 0), (6, 0, 0), (7, 2, 51), (6, 0, 0), (3, 3, 67), (4, 3, 67), (1, 1, 40), (1, 1, 40), (2, 2, 46), (2, 0, 0), (5, 1, 22), (3, 0, 0), (3, 0, 0), (2, 1, 21), (7, 1, 21), (2, 0, 0), (3, 0, 0), (3, 0, 0), (3, 0, 0), (4, 1, 40), (6, 1, 23), (5, 1, 23), (6, 0, 0), (2, 1, 21), (6, 0, 0), (8, 1, 40), (7, 2, 67), (7, 1, 40), (3, 2, 42), (3, 1, 20), (1, 0, 0), (1, 0, 0), (1, 0, 0), (3, 1, 21), (2, 0, 0), (3, 0, 0), (5, 0, 0), (7, 0, 0), (4, 0, 0), (8, 1, 26), (5, 2, 45), (4, 1, 22), (3, 1, 22), (3, 0, 0), (2, 0, 0), (3, 0, 0), (2, 1, 21), (7, 1, 23), (4, 2, 49), (5, 3, 74), (6, 2, 49), (4, 0, 0), (4, 0, 0), (5, 4, 89), (6, 4, 90), (5, 1, 21), (3, 2, 63), (8, 2, 63), (4, 1, 22), (2, 1, 21), (5, 2, 42), (2, 0, 0), (2, 0, 0), (1, 3, 64), (1, 3, 64), (4, 3, 68), (4, 4, 96), (6, 5, 119), (2, 5, 119), (1, 3, 68), (3, 2, 42), (7, 2, 42), (7, 1, 21), (3, 2, 67), (7, 3, 93), (6, 1, 21), (4, 2, 42), (4, 2, 42), (3, 2, 49), (1, 3, 72), (4, 4, 98), (5, 3, 68), (4, 3, 68), (4, 2, 42), (7, 1, 23), (2, 4, 94), (3, 2, 66), (3, 5, 120), (4, 2, 42), (3, 1, 23), (2, 1, 23), (4, 4, 91), (3, 3, 69), (4, 2, 42), (4, 1, 24), (3, 2, 56), (4, 2, 53), (2, 3, 68), (2, 0, 0), (1, 0, 0), (1, 0, 0), (4, 0, 0), (7, 1, 30), (11, 0, 0), (3, 0, 0), (1, 1, 22), (1, 1, 22), (1, 1, 22), (1, 1, 22), (1, 1, 22), (1, 1, 22), (3, 0, 0), (3, 0, 0), (7, 1, 22), (6, 2, 48), (5, 3, 73), (6, 3, 73), (4, 2, 42), (3, 1, 22), (7, 2, 42), (6, 0, 0), (2, 1, 22), (4, 2, 43), (4, 0, 0), (2, 2, 42), (2, 2, 42), (8, 1, 25), (4, 3, 63), (2, 1, 22), (2, 0, 0), (5, 1, 22), (1, 2, 46), (3, 0, 0), (2, 2, 46), (4, 0, 0), (4, 2, 52), (3, 1, 23), (4, 3, 75), (3, 0, 0), (1, 2, 51), (6, 3, 75), (8, 4, 100), (4, 5, 127), (4, 5, 127), (5, 0, 0), (7, 6, 150), (4, 0, 0), (4, 6, 150), (2, 1, 22), (7, 2, 42), (6, 1, 22), (1, 0, 0), (7, 1, 25), (3, 2, 51), (7, 2, 51), (11, 0, 0), (7, 3, 77), (5, 2, 42), (4, 3, 63), (4, 3, 63), (2, 0, 0), (5, 2, 42), (3, 1, 21), (5, 0, 0), (1, 2, 43), (3, 0, 0), (6, 2, 43), (7, 1, 25), (6, 0, 0), (4, 2, 51), (4, 0, 0), (4, 3, 63), (4, 2, 43), (7, 2, 42), (7, 2, 52), (2, 3, 63), (2, 4, 84), (5, 1, 20), (3, 2, 44), (6, 4, 84), (4, 3, 63), (5, 0, 0), (4, 2, 42), (9, 1, 21), (5, 3, 63), (5, 2, 52), (3, 3, 76), (5, 2, 42), (8, 0, 0), (3, 2, 42), (4, 0, 0), (8, 2, 42), (5, 2, 51), (1, 0, 0), (2, 0, 0), (4, 0, 0)]
def mRL : List (Option FieldType) := [(some .boolean), none, none, none, none, none, (some .int), (some .int), (some .int), (some .int), (some .int), (some .int), (some .boolean), (some .int), none, (some .long), (some .long), (some .int), (some .int), (some .boolean), (some .boolean), (some .boolean), none, none, (some .boolean), (some .boolean), (some .boolean), (some .boolean), (some .boolean), (some .boolean), (some .int), none, (some .int), (some .int), (some .int), none, (some .int), (some .int), (some .boolean), (some .boolean), none, (some .int), (some .long), (some .int), (some .int), (some .int), (some .boolean), (some .boolean), (some .boolean), none, none, (some .boolean), (some .int), (some .int), (some .int), (some .int), (some .boolean), none, none, none, (some .boolean), (some .int), none, none, (some .int), (some .int), (some .boolean), (some .int), (some .int), (some .int), (some .int), (some .int), (some .int), (some .int), (some .int), (some .int), (some .int), (some .int), (some .int), (some .int), (some .int), (some .int), (some .int), (some .int), (some .int), (some .int), (some .boolean), (some .int), (some .int), (some .int), (some .long), (some .int), (some .int), (some .int), (some .int), (some .int), (some .int), (some .int), (some .int), (some .int), (some .int), (some .int), (some .int), (some .int), (some .int), (some .int), (some .int), (some .int), (some .boolean), (some .int), (some .int), (some .long), (some .int), (some .int), (some .boolean), (some .boolean), (some .int), (some .int), (some .long), (some .long), (some .boolean), (some .boolean), (some .boolean), (some .boolean), (some .boolean), (some .boolean), (some .boolean), none, none, (some .boolean), (some .int), (some .int), (some .int), (some .int), (some .int), (some .int), (some .int), (some .boolean), (some .int), (some .int), (some .boolean), (some .int), (some .int), (some .int), (some .int), (some .int), (some .int), (some .int), (some .int), (some .int), (some .int), (some .int), (some .int), (some .int), (some .boolean), (some .int), (some .int), (some .boolean), (some .int), none, none, (some .int), (some .boolean), (some .int), (some .boolean), (some .int), (some .int), (some .int), (some .int), (some .int), (some .long), (some .long), (some .long), (some .int), (some .int), (some .int), (some .boolean), (some .int), none, (some .int), (some .int), (some .int), (some .int), (some .boolean), (some .boolean), (some .int), (some .int), (some .int), (some .int), (some .int), (some .int), (some .boolean), (some .int), (some .int), (some .int), (some .int), (some .int), (some .int), (some .int), (some .boolean), (some .int), (some .boolean), (some .int), (some .int), (some .long), (some .long), (some .int), (some .int), (some .int), (some .int), (some .int), none]
/-- the places of a method's words: its code, initialized, static or instance, selects -/
def mPL : List (Nat × Nat × Nat × Nat) := [(603, 67, 601, 602), (608, 67, 607, 10), (616, 67, 615, 12), (624, 67, 623, 14), (612, 67, 611, 11), (620, 67, 619, 13), (632, 67, 630, 631), (821, 67, 819, 820), (833, 71, 831, 832), (841, 71, 839, 840), (845, 71, 844, 20), (866, 71, 864, 865), (645, 69, 643, 644), (649, 69, 648, 16), (664, 69, 662, 663), (673, 69, 671, 672), (677, 69, 676, 17), (687, 69, 685, 686), (695, 69, 693, 694), (700, 69, 699, 18), (443, 63, 441, 442), (503, 63, 501, 502), (447, 63, 446, 0), (474, 63, 473, 6), (462, 63, 461, 3), (466, 63, 465, 4), (470, 63, 469, 5), (454, 63, 453, 1), (458, 63, 457, 2), (543, 65, 541, 542), (521, 65, 519, 520), (525, 65, 524, 7), (669, 65, 667, 668), (485, 65, 483, 484), (492, 65, 490, 491), (478, 65, 476, 477), (596, 65, 594, 595), (850, 65, 848, 849), (922, 65, 920, 921), (710, 70, 708, 709), (715, 70, 713, 714), (727, 70, 725, 726), (743, 70, 741, 742), (858, 70, 856, 857), (560, 68, 558, 559), (563, 68, 562, 9999), (566, 68, 565, 9999), (569, 68, 568, 9999), (572, 68, 571, 9999), (580, 68, 578, 579), (584, 68, 583, 8), (656, 68, 654, 655), (930, 73, 928, 929), (938, 73, 936, 937), (952, 73, 950, 951), (948, 73, 946, 947), (900, 72, 898, 899), (905, 72, 904, 22), (913, 72, 912, 24), (909, 72, 908, 23), (628, 66, 626, 627), (962, 66, 960, 961), (774, 66, 772, 773), (779, 66, 777, 778), (787, 66, 785, 786), (796, 66, 794, 795), (801, 66, 800, 19), (880, 66, 878, 879), (888, 66, 886, 887), (433, 62, 431, 432), (499, 62, 497, 498), (507, 62, 505, 506), (513, 62, 511, 512), (517, 62, 515, 516), (529, 62, 527, 528), (535, 62, 533, 534), (539, 62, 537, 538), (548, 62, 546, 547), (552, 62, 550, 551), (556, 62, 554, 555), (576, 62, 574, 575), (588, 62, 586, 587), (637, 62, 635, 636), (660, 62, 658, 659), (691, 62, 689, 690), (641, 62, 640, 15), (592, 62, 591, 9), (706, 62, 704, 705), (719, 62, 717, 718), (723, 62, 721, 722), (737, 62, 735, 736), (755, 62, 753, 754), (759, 62, 757, 758), (766, 62, 764, 765), (770, 62, 768, 769), (783, 62, 781, 782), (792, 62, 790, 791), (812, 62, 810, 811), (816, 62, 814, 815), (825, 62, 823, 824), (829, 62, 827, 828), (837, 62, 835, 836), (854, 62, 852, 853), (862, 62, 860, 861), (872, 62, 870, 871), (876, 62, 874, 875), (884, 62, 882, 883), (892, 62, 890, 891), (896, 62, 895, 21), (918, 62, 916, 917), (926, 62, 924, 925), (934, 62, 932, 933), (944, 62, 942, 943), (958, 62, 956, 957), (436, 62, 435, 9999), (439, 62, 438, 9999), (762, 62, 761, 9999), (599, 62, 598, 9999), (747, 62, 746, 9999), (750, 62, 749, 9999), (1123, 74, 1122, 9999), (1126, 74, 1125, 9999), (1120, 74, 1119, 9999), (1166, 74, 1165, 9999), (1185, 74, 1184, 9999), (1335, 74, 1334, 9999), (1154, 74, 1153, 9999), (1138, 74, 1137, 27), (1142, 74, 1141, 28), (1134, 74, 1133, 26), (1130, 74, 1129, 25), (1117, 74, 1115, 1116), (1146, 74, 1144, 1145), (1150, 74, 1148, 1149), (1159, 74, 1157, 1158), (1163, 74, 1161, 1162), (1178, 74, 1177, 30), (1174, 74, 1173, 29), (1170, 74, 1168, 1169), (1189, 74, 1188, 31), (1197, 74, 1196, 32), (1182, 74, 1180, 1181), (1201, 74, 1200, 33), (1193, 74, 1191, 1192), (1205, 74, 1203, 1204), (1209, 74, 1207, 1208), (1217, 74, 1216, 34), (1213, 74, 1211, 1212), (1225, 74, 1224, 35), (1221, 74, 1219, 1220), (1236, 74, 1235, 9999), (1233, 74, 1232, 36), (1252, 74, 1251, 40), (1229, 74, 1227, 1228), (1264, 74, 1263, 42), (1260, 74, 1259, 41), (1272, 74, 1271, 44), (1268, 74, 1267, 43), (1256, 74, 1254, 1255), (1280, 74, 1279, 45), (1284, 74, 1283, 46), (1276, 74, 1274, 1275), (1292, 74, 1291, 47), (1288, 74, 1286, 1287), (1308, 74, 1307, 48), (1296, 74, 1294, 1295), (1300, 74, 1298, 1299), (1315, 74, 1314, 9999), (1312, 74, 1311, 49), (1304, 74, 1302, 1303), (1325, 74, 1324, 50), (1328, 74, 1327, 9999), (1319, 74, 1317, 1318), (1332, 74, 1330, 1331), (1339, 74, 1337, 1338), (1343, 74, 1341, 1342), (1244, 74, 1243, 38), (1347, 74, 1345, 1346), (1355, 74, 1354, 51), (1359, 74, 1358, 52), (1351, 74, 1349, 1350), (1366, 74, 1365, 9999), (1363, 74, 1361, 1362), (1240, 74, 1239, 37), (1248, 74, 1247, 39), (1370, 74, 1368, 1369), (1378, 74, 1377, 53), (1374, 74, 1372, 1373), (1382, 74, 1380, 1381), (1386, 74, 1384, 1385), (1398, 74, 1397, 55), (1394, 74, 1393, 54), (1390, 74, 1388, 1389), (1406, 74, 1405, 56), (1402, 74, 1400, 1401), (1410, 74, 1408, 1409), (1414, 74, 1412, 1413), (1418, 74, 1416, 1417), (1422, 74, 1420, 1421), (1431, 74, 1430, 57), (1426, 74, 1424, 1425), (1439, 74, 1438, 58), (1435, 74, 1433, 1434), (1443, 74, 1441, 1442), (1451, 74, 1450, 59), (1447, 74, 1445, 1446), (1461, 74, 1460, 60), (1457, 74, 1455, 1456), (1465, 74, 1463, 1464), (804, 78, 803, 9999), (680, 77, 679, 9999), (95, 64, 94, 9999)]
/-- the number of the kind of object that a method belongs to -/
def mCL : List Nat := [0, 0, 0, 0, 0, 0, 0, 0, 1, 1, 1, 1, 2, 2, 2, 2, 2, 2, 2, 2, 3, 3, 3, 3, 3, 3, 3, 3, 3, 4, 4, 4, 4, 4, 4, 4, 4, 4, 4, 5, 5, 5, 5, 5, 6, 6, 6, 6, 6, 6, 6, 6, 7, 7, 7, 7, 8, 8, 8, 8, 9, 9, 9, 9, 9, 9, 9, 9, 9, 10, 10, 10, 10, 10, 10, 10, 10, 10, 10, 10, 10, 10, 10, 10, 10, 10, 10, 10, 10, 10, 10, 10, 10, 10, 10, 10, 10, 10, 10, 10, 10, 10, 10, 10, 10, 10, 10, 10, 10, 10, 10, 10, 10, 10, 10, 10, 10, 10, 10, 10, 11, 11, 11, 11, 11, 11, 11, 11, 11, 11, 11, 11, 11, 11, 11, 11, 11, 11, 11, 11, 11, 11, 11, 11, 11, 11, 11, 11, 11, 11, 11, 11, 11, 11, 11, 11, 11, 11, 11, 11, 11, 11, 11, 11, 11, 11, 11, 11, 11, 11, 11, 11, 11, 11, 11, 11, 11, 11, 11, 11, 11, 11, 11, 11, 11, 11, 11, 11, 11, 11, 11, 11, 11, 11, 11, 11, 11, 11, 11, 11, 11, 11, 11, 11, 11, 11, 11, 11, 11, 99, 99, 99]
/-- how many arguments, the receiver apart -/
def mAL : List Nat := [1, 1, 1, 1, 2, 2, 2, 1, 3, 1, 2, 2, 2, 3, 0, 1, 1, 2, 0, 1, 2, 3, 0, 0, 0, 0, 0, 2, 2, 1, 5, 0, 1, 2, 2, 0, 3, 3, 2, 1, 5, 2, 2, 2, 0, 2, 1, 1, 1, 0, 1, 2, 3, 1, 1, 1, 2, 1, 0, 2, 1, 0, 0, 1, 1, 0, 1, 1, 1, 4, 5, 3, 1, 6, 3, 1, 3, 1, 0, 0, 0, 3, 2, 2, 0, 0, 2, 5, 4, 2, 3, 4, 2, 2, 2, 0, 1, 3, 1, 2, 4, 1, 2, 2, 2, 0, 1, 2, 2, 1, 3, 2, 2, 1, 2, 1, 1, 4, 3, 2, 3, 1, 1, 1, 1, 1, 1, 2, 2, 0, 4, 4, 5, 3, 1, 6, 3, 1, 3, 1, 1, 1, 3, 3, 1, 0, 0, 0, 0, 0, 4, 3, 2, 3, 0, 0, 3, 2, 2, 0, 1, 2, 0, 0, 1, 5, 4, 1, 2, 2, 2, 3, 3, 4, 2, 2, 1, 2, 0, 1, 0, 1, 1, 1, 1, 3, 1, 1, 2, 4, 1, 1, 1, 2, 2, 2, 2, 0, 1, 2, 2, 2, 1, 3, 1, 2, 1, 2, 1, 1, 1, 2]
end
section
/-! THE ABSTRACT MACHINE: cells by number, final references by table, whole numbers in rows. -/
abbrev St : Type := (Nat → Nat → Int32) × (Nat → Int64)
abbrev En : Type := Instr × Nat × Nat × Nat × Nat × Value
def hk (i : Nat) : Nat × Nat := hkL.getD i (9, 0)
def hr (i k : Nat) : Option Nat := (hrL.getD i []).getD k none
def mN (y : Nat) : MethodName := mNL.getD y ⟨"", "", ""⟩
def mB (y : Nat) : ByteArray := mBL.getD y ⟨#[]⟩
def mL (y : Nat) : Nat := (mML.getD y (0, 0, 0)).1
def mF (y : Nat) : Nat := (mML.getD y (0, 0, 0)).2.1
def mW (y : Nat) : Nat := (mML.getD y (0, 0, 0)).2.2
def mC (y : Nat) : Nat := mCL.getD y 99
def mP (y : Nat) : Nat × Nat × Nat × Nat := mPL.getD y (0, 0, 0, 0)
def mA (y : Nat) : Nat := mAL.getD y 0
def mR (y : Nat) : Option FieldType := mRL.getD y none
def lk : List (Nat × En) → Nat → Option En
  | [], _ => none
  | (q, e) :: r, pc => bif Nat.beq q pc then some e else lk r pc
def clrV (lv : List Value) (a : Nat) : List Value := match a with
  | 0 => lv
  | b + 1 => match lv.getD b .null with
    | .long _ => lv.set b .null
    | .double _ => lv.set b .null
    | _ => lv
def st1V (lv : List Value) (a : Nat) (v : Value) : List Value := (clrV lv a).set a v
def st2V (lv : List Value) (a : Nat) (v : Value) : List Value := ((clrV lv a).set a v).set (a + 1) .null
def setR (σ : St) (c : Nat) (f : Nat → Int32) : St := (fun j => if j = c then f else σ.1 j, σ.2)
def wr (σ : St) (c k : Nat) (v : Int32) : St := setR σ c (upd (σ.1 c) k v)
def wrL (σ : St) (k : Nat) (v : Int64) : St := (σ.1, vp_updL σ.2 k v)
def flatV : List Value → List Value
  | [] => []
  | .long v :: r => .long v :: .null :: flatV r
  | .double v :: r => .double v :: .null :: flatV r
  | v :: r => v :: flatV r
def entL (as : List Value) (n : Nat) : List Value := flatV as ++ List.replicate (n - (flatV as).length) .null
abbrev AP : Type := Nat → Nat → List Value → List Value → St → List Value → St → Prop
def catS : List Value → Nat
  | [] => 0
  | v :: r => v.category + catS r
/-- a call: the callee's way from its entry, then ours -/
def callC (P : AP) (y z n pc : Nat) (lv st : List Value) (σ : St) (R : List Value) (S : St) : Prop :=
  bif Nat.ble n st.length && (Nat.ble (catS (st.drop n)) 8 && Nat.ble (flatV (st.take n).reverse).length (mL z)) then
    match mR z with
    | none => ∃ σ1 : St, P z 0 (entL (st.take n).reverse (mL z)) [] σ [] σ1 ∧ P y pc lv (st.drop n) σ1 R S
    | some .long => ∃ (r : Int64) (σ1 : St), P z 0 (entL (st.take n).reverse (mL z)) [] σ [.long r] σ1 ∧ P y pc lv (.long r :: st.drop n) σ1 R S
    | some _ => ∃ (r : Int32) (σ1 : St), P z 0 (entL (st.take n).reverse (mL z)) [] σ [.int r] σ1 ∧ P y pc lv (.int r :: st.drop n) σ1 R S
  else False
def brC (c : Prop) (A B : Prop) : Prop := (c → A) ∧ (¬ c → B)
/-- one instruction -/
def stepC (P : AP) (y : Nat) (en : En) (pc : Nat) (lv st : List Value) (σ : St) (R : List Value) (S : St) : Prop :=
  match en with
  | (ins, ln, a, b, _, v) => match ins with
    | .iconst _ => P y (pc + ln) lv (v :: st) σ R S
    | .bipush _ => P y (pc + ln) lv (v :: st) σ R S
    | .sipush _ => P y (pc + ln) lv (v :: st) σ R S
    | .lconst _ => P y (pc + ln) lv (v :: st) σ R S
    | .ldc _ => P y (pc + ln) lv (v :: st) σ R S
    | .ldc_w _ => P y (pc + ln) lv (v :: st) σ R S
    | .ldc2_w _ => P y (pc + ln) lv (v :: st) σ R S
    | .iload _ => match lv.getD a .null with | .int x => P y (pc + ln) lv (.int x :: st) σ R S | _ => False
    | .iload_n _ => match lv.getD a .null with | .int x => P y (pc + ln) lv (.int x :: st) σ R S | _ => False
    | .lload _ => match lv.getD a .null with | .long x => P y (pc + ln) lv (.long x :: st) σ R S | _ => False
    | .lload_n _ => match lv.getD a .null with | .long x => P y (pc + ln) lv (.long x :: st) σ R S | _ => False
    | .aload _ => match lv.getD a .null with | .ref x => P y (pc + ln) lv (.ref x :: st) σ R S | _ => False
    | .aload_n _ => match lv.getD a .null with | .ref x => P y (pc + ln) lv (.ref x :: st) σ R S | _ => False
    | .istore _ => match st with | .int x :: r => P y (pc + ln) (st1V lv a (.int x)) r σ R S | _ => False
    | .istore_n _ => match st with | .int x :: r => P y (pc + ln) (st1V lv a (.int x)) r σ R S | _ => False
    | .lstore _ => match st with | .long x :: r => P y (pc + ln) (st2V lv a (.long x)) r σ R S | _ => False
    | .lstore_n _ => match st with | .long x :: r => P y (pc + ln) (st2V lv a (.long x)) r σ R S | _ => False
    | .iinc _ _ => match lv.getD a .null with
      | .int x => match v with
        | .int d => P y (pc + ln) (st1V lv a (.int (x + d))) st σ R S
        | _ => False
      | _ => False
    | .iadd => match st with | .int z :: .int x :: r => P y (pc + ln) lv (.int (x + z) :: r) σ R S | _ => False
    | .isub => match st with | .int z :: .int x :: r => P y (pc + ln) lv (.int (x - z) :: r) σ R S | _ => False
    | .imul => match st with | .int z :: .int x :: r => P y (pc + ln) lv (.int (x * z) :: r) σ R S | _ => False
    | .iand => match st with | .int z :: .int x :: r => P y (pc + ln) lv (.int (x &&& z) :: r) σ R S | _ => False
    | .ior => match st with | .int z :: .int x :: r => P y (pc + ln) lv (.int (x ||| z) :: r) σ R S | _ => False
    | .ixor => match st with | .int z :: .int x :: r => P y (pc + ln) lv (.int (x ^^^ z) :: r) σ R S | _ => False
    | .ishl => match st with | .int z :: .int x :: r => P y (pc + ln) lv (.int (x <<< (z &&& 31)) :: r) σ R S | _ => False
    | .ishr => match st with | .int z :: .int x :: r => P y (pc + ln) lv (.int (x >>> (z &&& 31)) :: r) σ R S | _ => False
    | .iushr => match st with | .int z :: .int x :: r => P y (pc + ln) lv (.int ((x.toUInt32 >>> (z.toUInt32 &&& Int32.toUInt32 31)).toInt32) :: r) σ R S | _ => False
    | .idiv => match st with | .int z :: .int x :: r => ¬ z = 0 ∧ P y (pc + ln) lv (.int (x / z) :: r) σ R S | _ => False
    | .irem => match st with | .int z :: .int x :: r => ¬ z = 0 ∧ P y (pc + ln) lv (.int (x - x / z * z) :: r) σ R S | _ => False
    | .ineg => match st with | .int x :: r => P y (pc + ln) lv (.int (-x) :: r) σ R S | _ => False
    | .ladd => match st with | .long z :: .long x :: r => P y (pc + ln) lv (.long (x + z) :: r) σ R S | _ => False
    | .lsub => match st with | .long z :: .long x :: r => P y (pc + ln) lv (.long (x - z) :: r) σ R S | _ => False
    | .lmul => match st with | .long z :: .long x :: r => P y (pc + ln) lv (.long (x * z) :: r) σ R S | _ => False
    | .land => match st with | .long z :: .long x :: r => P y (pc + ln) lv (.long (x &&& z) :: r) σ R S | _ => False
    | .lor => match st with | .long z :: .long x :: r => P y (pc + ln) lv (.long (x ||| z) :: r) σ R S | _ => False
    | .lxor => match st with | .long z :: .long x :: r => P y (pc + ln) lv (.long (x ^^^ z) :: r) σ R S | _ => False
    | .ldiv => match st with | .long z :: .long x :: r => ¬ z = 0 ∧ P y (pc + ln) lv (.long (x / z) :: r) σ R S | _ => False
    | .lrem => match st with | .long z :: .long x :: r => ¬ z = 0 ∧ P y (pc + ln) lv (.long (x - x / z * z) :: r) σ R S | _ => False
    | .lshl => match st with | .int z :: .long x :: r => P y (pc + ln) lv (.long (x <<< (z.toInt64 &&& 63)) :: r) σ R S | _ => False
    | .lshr => match st with | .int z :: .long x :: r => P y (pc + ln) lv (.long (x >>> (z.toInt64 &&& 63)) :: r) σ R S | _ => False
    | .lushr => match st with | .int z :: .long x :: r => P y (pc + ln) lv (.long ((x.toUInt64 >>> (z.toInt64.toUInt64 &&& Int64.toUInt64 63)).toInt64) :: r) σ R S | _ => False
    | .lcmp => match st with | .long z :: .long x :: r => P y (pc + ln) lv (.int (lg_cmp x z) :: r) σ R S | _ => False
    | .i2l => match st with | .int x :: r => P y (pc + ln) lv (.long x.toInt64 :: r) σ R S | _ => False
    | .l2i => match st with | .long x :: r => P y (pc + ln) lv (.int x.toInt32 :: r) σ R S | _ => False
    | .dup => match st with | .int x :: r => P y (pc + ln) lv (.int x :: .int x :: r) σ R S | .ref x :: r => P y (pc + ln) lv (.ref x :: .ref x :: r) σ R S | _ => False
    | .dup2 => match st with | .int z :: .ref x :: r => P y (pc + ln) lv (.int z :: .ref x :: .int z :: .ref x :: r) σ R S | _ => False
    | .pop => match st with | .int _ :: r => P y (pc + ln) lv r σ R S | _ => False
    | .goto _ => P y a lv st σ R S
    | .ifCond cc _ => match st with
      | .int x :: r => match cc with
        | .eq => brC (x = 0) (P y a lv r σ R S) (P y (pc + ln) lv r σ R S)
        | .ne => brC (x = 0) (P y (pc + ln) lv r σ R S) (P y a lv r σ R S)
        | .lt => brC (x < 0) (P y a lv r σ R S) (P y (pc + ln) lv r σ R S)
        | .ge => brC (x < 0) (P y (pc + ln) lv r σ R S) (P y a lv r σ R S)
        | .gt => brC (x ≤ 0) (P y (pc + ln) lv r σ R S) (P y a lv r σ R S)
        | .le => brC (x ≤ 0) (P y a lv r σ R S) (P y (pc + ln) lv r σ R S)
      | _ => False
    | .if_icmp cc _ => match st with
      | .int z :: .int x :: r => match cc with
        | .eq => brC (x = z) (P y a lv r σ R S) (P y (pc + ln) lv r σ R S)
        | .ne => brC (x = z) (P y (pc + ln) lv r σ R S) (P y a lv r σ R S)
        | .lt => brC (x < z) (P y a lv r σ R S) (P y (pc + ln) lv r σ R S)
        | .ge => brC (x < z) (P y (pc + ln) lv r σ R S) (P y a lv r σ R S)
        | .gt => brC (x ≤ z) (P y (pc + ln) lv r σ R S) (P y a lv r σ R S)
        | .le => brC (x ≤ z) (P y a lv r σ R S) (P y (pc + ln) lv r σ R S)
      | _ => False
    | .tableswitch _ lo hi offs => match st with
      | .int x :: r => brC (x.toInt < lo ∨ hi < x.toInt) (P y a lv r σ R S) (∀ off, offs[(x.toInt - lo).toNat]? = some off → ∀ tgt : Nat, (pc : Int) + off = (tgt : Int) → P y tgt lv r σ R S)
      | _ => False
    | .getfield _ => match st with
      | .ref i :: r => bif Nat.beq i a then (match hr a b with
        | some j => P y (pc + ln) lv (.ref j :: r) σ R S
        | none => P y (pc + ln) lv (.int (σ.1 a b) :: r) σ R S) else False
      | _ => False
    | .putfield _ => match st with
      | .int x :: .ref i :: r => bif Nat.beq i a then (match v with
        | .int _ => (x = 0 ∨ x = 1) ∧ P y (pc + ln) lv r (wr σ a b x) R S
        | _ => P y (pc + ln) lv r (wr σ a b x) R S) else False
      | _ => False
    | .iaload => match st with
      | .int i :: .ref j :: r => bif Nat.beq (hk j).1 0 then vp_in i (hk j).2 ∧ P y (pc + ln) lv (.int (σ.1 j i.toNatClampNeg) :: r) σ R S else False
      | _ => False
    | .baload => match st with
      | .int i :: .ref j :: r => bif Nat.beq (hk j).1 1 then vp_in i (hk j).2 ∧ P y (pc + ln) lv (.int (σ.1 j i.toNatClampNeg) :: r) σ R S else False
      | _ => False
    | .laload => match st with
      | .int i :: .ref j :: r => bif Nat.beq (hk j).1 2 then vp_in i (hk j).2 ∧ P y (pc + ln) lv (.long (σ.2 i.toNatClampNeg) :: r) σ R S else False
      | _ => False
    | .iastore => match st with
      | .int x :: .int i :: .ref j :: r => bif Nat.beq (hk j).1 0 then vp_in i (hk j).2 ∧ P y (pc + ln) lv r (wr σ j i.toNatClampNeg x) R S else False
      | _ => False
    | .bastore => match st with
      | .int x :: .int i :: .ref j :: r => bif Nat.beq (hk j).1 1 then vp_in i (hk j).2 ∧ (x = 0 ∨ x = 1) ∧ P y (pc + ln) lv r (wr σ j i.toNatClampNeg x) R S else False
      | _ => False
    | .lastore => match st with
      | .long x :: .int i :: .ref j :: r => bif Nat.beq (hk j).1 2 then vp_in i (hk j).2 ∧ P y (pc + ln) lv r (wrL σ i.toNatClampNeg x) R S else False
      | _ => False
    | .arraylength => match st with
      | .ref j :: r => bif Nat.ble (hk j).1 2 then P y (pc + ln) lv (.int (Int32.ofNat (hk j).2) :: r) σ R S else False
      | _ => False
    | .invokestatic _ => bif Nat.beq b 100 then (match st with
        | .int n :: .int dp :: .ref d :: .int sp :: .ref s :: r => bif Nat.beq (hk s).1 0 && (Nat.beq (hk d).1 0 && Nat.ble (catS r) 8) then
            (¬ sp < 0 ∧ ¬ dp < 0 ∧ ¬ n < 0 ∧ sp.toNatClampNeg + n.toNatClampNeg ≤ (hk s).2 ∧ dp.toNatClampNeg + n.toNatClampNeg ≤ (hk d).2) ∧ P y (pc + ln) lv r (setR σ d (va_cpy (σ.1 s) (σ.1 d) sp.toNatClampNeg dp.toNatClampNeg n.toNatClampNeg)) R S else False
        | _ => False)
      else bif Nat.beq b 101 then (match st with
        | .int x :: r => bif Nat.ble (catS r) 8 then P y (pc + ln) lv (.int (if 0 ≤ x then x else 0 - x) :: r) σ R S else False
        | _ => False)
      else bif Nat.beq b 102 then (match st with
        | .int z :: .int x :: r => bif Nat.ble (catS r) 8 then P y (pc + ln) lv (.int (if x < z then z else x) :: r) σ R S else False
        | _ => False)
      else bif Nat.beq b 103 then (match st with
        | .int z :: .int x :: r => bif Nat.ble (catS r) 8 then P y (pc + ln) lv (.int (if z < x then z else x) :: r) σ R S else False
        | _ => False)
      else callC P y a b (pc + ln) lv st σ R S
    | .invokevirtual _ => match st.drop b with
      | .ref i :: _ => bif Nat.beq i (mC a) then callC P y a (b + 1) (pc + ln) lv st σ R S else False
      | _ => False
    | .ireturn => match st with
      | [.int x] => match v with
        | .int _ => (x = 0 ∨ x = 1) ∧ R = [.int x] ∧ S = σ
        | _ => R = [.int x] ∧ S = σ
      | _ => False
    | .lreturn => match st with | [.long x] => R = [.long x] ∧ S = σ | _ => False
    | .return_ => match st with | [] => R = [] ∧ S = σ | _ => False
    | _ => False
end
section
def kc_0 : List (Nat × En) := [(0, .aload_n 0, 1, 0, 0, 0, .null), (1, .getfield 11, 3, 0, 1, 230, .null), (4, .iconst 0, 1, 0, 0, 0, .int (0)), (5, .aload_n 0, 1, 0, 0, 0, .null), (6, .getfield 18, 3, 0, 3, 234, .null), (9, .iconst 0, 1, 0, 0, 0, .int (0)), (10, .sipush 154, 3, 0, 0, 0, .int (154)), (13, .invokestatic 34, 3, 0, 100, 604, .null), (16, .aload_n 0, 1, 0, 0, 0, .null), (17, .getfield 15, 3, 0, 2, 232, .null), (20, .iconst 0, 1, 0, 0, 0, .int (0)), (21, .aload_n 0, 1, 0, 0, 0, .null), (22, .getfield 21, 3, 0, 4, 236, .null), (25, .iconst 0, 1, 0, 0, 0, .int (0)), (26, .sipush 154, 3, 0, 0, 0, .int (154)), (29, .invokestatic 34, 3, 0, 100, 604, .null), (32, .iconst 0, 1, 0, 0, 0, .int (0)), (33, .istore_n 2, 1, 2, 0, 0, .null), (34, .iload_n 2, 1, 2, 0, 0, .null), (35, .sipush 1000, 3, 0, 0, 0, .int (1000)), (38, .if_icmp .ge 59, 3, 97, 0, 0, .null), (41, .aload_n 0, 1, 0, 0, 0, .null), (42, .iconst 0, 1, 0, 0, 0, .int (0)), (43, .putfield 40, 3, 0, 5, 238, .int 1), (46, .iconst 0, 1, 0, 0, 0, .int (0)), (47, .istore_n 3, 1, 3, 0, 0, .null), (48, .iload_n 3, 1, 3, 0, 0, .null), (49, .bipush 6, 2, 0, 0, 0, .int (6)), (51, .if_icmp .ge 25, 3, 76, 0, 0, .null), (54, .aload_n 0, 1, 0, 0, 0, .null), (55, .iload_n 3, 1, 3, 0, 0, .null), (56, .bipush 24, 2, 0, 0, 0, .int (24)), (58, .imul, 1, 0, 0, 0, .null), (59, .invokevirtual 44, 3, 1, 1, 605, .null), (62, .aload_n 0, 1, 0, 0, 0, .null), (63, .iload_n 3, 1, 3, 0, 0, .null), (64, .bipush 24, 2, 0, 0, 0, .int (24)), (66, .imul, 1, 0, 0, 0, .null), (67, .invokevirtual 48, 3, 2, 1, 613, .null), (70, .iinc 3 1, 3, 3, 0, 0, .int (1)), (73, .goto (-25), 3, 48, 0, 0, .null), (76, .aload_n 0, 1, 0, 0, 0, .null), (77, .iload_n 1, 1, 1, 0, 0, .null), (78, .invokevirtual 51, 3, 3, 1, 621, .null), (81, .aload_n 0, 1, 0, 0, 0, .null), (82, .getfield 40, 3, 0, 5, 238, .null), (85, .ifCond .ne 6, 3, 91, 0, 0, .null), (88, .goto 9, 3, 97, 0, 0, .null), (91, .iinc 2 1, 3, 2, 0, 0, .int (1)), (94, .goto (-60), 3, 34, 0, 0, .null), (97, .iconst 0, 1, 0, 0, 0, .int (0)), (98, .istore_n 2, 1, 2, 0, 0, .null), (99, .iload_n 2, 1, 2, 0, 0, .null), (100, .sipush 154, 3, 0, 0, 0, .int (154)), (103, .if_icmp .ge 26, 3, 129, 0, 0, .null), (106, .aload_n 0, 1, 0, 0, 0, .null), (107, .getfield 18, 3, 0, 3, 234, .null), (110, .iload_n 2, 1, 2, 0, 0, .null), (111, .iaload, 1, 0, 0, 0, .null), (112, .aload_n 0, 1, 0, 0, 0, .null), (113, .getfield 21, 3, 0, 4, 236, .null), (116, .iload_n 2, 1, 2, 0, 0, .null), (117, .iaload, 1, 0, 0, 0, .null), (118, .if_icmp .le 5, 3, 123, 0, 0, .null), (121, .iconst 1, 1, 0, 0, 0, .int (1)), (122, .ireturn, 1, 0, 0, 0, .int 1), (123, .iinc 2 1, 3, 2, 0, 0, .int (1)), (126, .goto (-27), 3, 99, 0, 0, .null), (129, .iconst 0, 1, 0, 0, 0, .int (0)), (130, .ireturn, 1, 0, 0, 0, .int 1)]
def kc_1 : List (Nat × En) := [(0, .iconst 0, 1, 0, 0, 0, .int (0)), (1, .istore_n 2, 1, 2, 0, 0, .null), (2, .iload_n 1, 1, 1, 0, 0, .null), (3, .istore_n 3, 1, 3, 0, 0, .null), (4, .iload_n 3, 1, 3, 0, 0, .null), (5, .iload_n 1, 1, 1, 0, 0, .null), (6, .bipush 24, 2, 0, 0, 0, .int (24)), (8, .iadd, 1, 0, 0, 0, .null), (9, .if_icmp .ge 37, 3, 46, 0, 0, .null), (12, .aload_n 0, 1, 0, 0, 0, .null), (13, .getfield 24, 3, 0, 0, 229, .null), (16, .getfield 54, 3, 9, 1, 198, .null), (19, .iload_n 3, 1, 3, 0, 0, .null), (20, .baload, 1, 0, 0, 0, .null), (21, .ifCond .eq 6, 3, 27, 0, 0, .null), (24, .goto 16, 3, 40, 0, 0, .null), (27, .aload_n 0, 1, 0, 0, 0, .null), (28, .iload_n 3, 1, 3, 0, 0, .null), (29, .iload_n 2, 1, 2, 0, 0, .null), (30, .invokevirtual 60, 3, 4, 2, 609, .null), (33, .aload_n 0, 1, 0, 0, 0, .null), (34, .getfield 18, 3, 0, 3, 234, .null), (37, .iload_n 3, 1, 3, 0, 0, .null), (38, .iaload, 1, 0, 0, 0, .null), (39, .istore_n 2, 1, 2, 0, 0, .null), (40, .iinc 3 1, 3, 3, 0, 0, .int (1)), (43, .goto (-39), 3, 4, 0, 0, .null), (46, .return_, 1, 0, 0, 0, .null)]
def kc_2 : List (Nat × En) := [(0, .sipush 9999, 3, 0, 0, 0, .int (9999)), (3, .istore_n 2, 1, 2, 0, 0, .null), (4, .iload_n 1, 1, 1, 0, 0, .null), (5, .bipush 24, 2, 0, 0, 0, .int (24)), (7, .iadd, 1, 0, 0, 0, .null), (8, .iconst 1, 1, 0, 0, 0, .int (1)), (9, .isub, 1, 0, 0, 0, .null), (10, .istore_n 3, 1, 3, 0, 0, .null), (11, .iload_n 3, 1, 3, 0, 0, .null), (12, .iload_n 1, 1, 1, 0, 0, .null), (13, .if_icmp .lt 37, 3, 50, 0, 0, .null), (16, .aload_n 0, 1, 0, 0, 0, .null), (17, .getfield 24, 3, 0, 0, 229, .null), (20, .getfield 54, 3, 9, 1, 198, .null), (23, .iload_n 3, 1, 3, 0, 0, .null), (24, .baload, 1, 0, 0, 0, .null), (25, .ifCond .eq 6, 3, 31, 0, 0, .null), (28, .goto 16, 3, 44, 0, 0, .null), (31, .aload_n 0, 1, 0, 0, 0, .null), (32, .iload_n 3, 1, 3, 0, 0, .null), (33, .iload_n 2, 1, 2, 0, 0, .null), (34, .invokevirtual 64, 3, 5, 2, 617, .null), (37, .aload_n 0, 1, 0, 0, 0, .null), (38, .getfield 21, 3, 0, 4, 236, .null), (41, .iload_n 3, 1, 3, 0, 0, .null), (42, .iaload, 1, 0, 0, 0, .null), (43, .istore_n 2, 1, 2, 0, 0, .null), (44, .iinc 3 (-1), 3, 3, 0, 0, .int (-1)), (47, .goto (-36), 3, 11, 0, 0, .null), (50, .return_, 1, 0, 0, 0, .null)]
def kc_3 : List (Nat × En) := [(0, .iconst 0, 1, 0, 0, 0, .int (0)), (1, .istore_n 2, 1, 2, 0, 0, .null), (2, .iload_n 2, 1, 2, 0, 0, .null), (3, .sipush 144, 3, 0, 0, 0, .int (144)), (6, .if_icmp .ge 86, 3, 92, 0, 0, .null), (9, .iload_n 2, 1, 2, 0, 0, .null), (10, .iload_n 1, 1, 1, 0, 0, .null), (11, .if_icmp .eq 75, 3, 86, 0, 0, .null), (14, .aload_n 0, 1, 0, 0, 0, .null), (15, .getfield 24, 3, 0, 0, 229, .null), (18, .iload_n 2, 1, 2, 0, 0, .null), (19, .invokevirtual 67, 3, 60, 1, 625, .null), (22, .ifCond .ne 6, 3, 28, 0, 0, .null), (25, .goto 61, 3, 86, 0, 0, .null), (28, .sipush 144, 3, 0, 0, 0, .int (144)), (31, .aload_n 0, 1, 0, 0, 0, .null), (32, .getfield 24, 3, 0, 0, 229, .null), (35, .getfield 71, 3, 9, 0, 194, .null), (38, .iload_n 2, 1, 2, 0, 0, .null), (39, .iaload, 1, 0, 0, 0, .null), (40, .iadd, 1, 0, 0, 0, .null), (41, .istore_n 3, 1, 3, 0, 0, .null), (42, .aload_n 0, 1, 0, 0, 0, .null), (43, .iload_n 2, 1, 2, 0, 0, .null), (44, .aload_n 0, 1, 0, 0, 0, .null), (45, .getfield 18, 3, 0, 3, 234, .null), (48, .iload_n 3, 1, 3, 0, 0, .null), (49, .iaload, 1, 0, 0, 0, .null), (50, .invokevirtual 60, 3, 4, 2, 609, .null), (53, .aload_n 0, 1, 0, 0, 0, .null), (54, .iload_n 3, 1, 3, 0, 0, .null), (55, .aload_n 0, 1, 0, 0, 0, .null), (56, .getfield 18, 3, 0, 3, 234, .null), (59, .iload_n 2, 1, 2, 0, 0, .null), (60, .iaload, 1, 0, 0, 0, .null), (61, .invokevirtual 60, 3, 4, 2, 609, .null), (64, .aload_n 0, 1, 0, 0, 0, .null), (65, .iload_n 2, 1, 2, 0, 0, .null), (66, .aload_n 0, 1, 0, 0, 0, .null), (67, .getfield 21, 3, 0, 4, 236, .null), (70, .iload_n 3, 1, 3, 0, 0, .null), (71, .iaload, 1, 0, 0, 0, .null), (72, .invokevirtual 64, 3, 5, 2, 617, .null), (75, .aload_n 0, 1, 0, 0, 0, .null), (76, .iload_n 3, 1, 3, 0, 0, .null), (77, .aload_n 0, 1, 0, 0, 0, .null), (78, .getfield 21, 3, 0, 4, 236, .null), (81, .iload_n 2, 1, 2, 0, 0, .null), (82, .iaload, 1, 0, 0, 0, .null), (83, .invokevirtual 64, 3, 5, 2, 617, .null), (86, .iinc 2 1, 3, 2, 0, 0, .int (1)), (89, .goto (-87), 3, 2, 0, 0, .null), (92, .return_, 1, 0, 0, 0, .null)]
def kc_4 : List (Nat × En) := [(0, .iload_n 2, 1, 2, 0, 0, .null), (1, .aload_n 0, 1, 0, 0, 0, .null), (2, .getfield 18, 3, 0, 3, 234, .null), (5, .iload_n 1, 1, 1, 0, 0, .null), (6, .iaload, 1, 0, 0, 0, .null), (7, .if_icmp .gt 4, 3, 11, 0, 0, .null), (10, .return_, 1, 0, 0, 0, .null), (11, .aload_n 0, 1, 0, 0, 0, .null), (12, .getfield 18, 3, 0, 3, 234, .null), (15, .iload_n 1, 1, 1, 0, 0, .null), (16, .iload_n 2, 1, 2, 0, 0, .null), (17, .iastore, 1, 0, 0, 0, .null), (18, .aload_n 0, 1, 0, 0, 0, .null), (19, .iconst 1, 1, 0, 0, 0, .int (1)), (20, .putfield 40, 3, 0, 5, 238, .int 1), (23, .return_, 1, 0, 0, 0, .null)]
def kc_5 : List (Nat × En) := [(0, .iload_n 2, 1, 2, 0, 0, .null), (1, .aload_n 0, 1, 0, 0, 0, .null), (2, .getfield 21, 3, 0, 4, 236, .null), (5, .iload_n 1, 1, 1, 0, 0, .null), (6, .iaload, 1, 0, 0, 0, .null), (7, .if_icmp .lt 4, 3, 11, 0, 0, .null), (10, .return_, 1, 0, 0, 0, .null), (11, .aload_n 0, 1, 0, 0, 0, .null), (12, .getfield 21, 3, 0, 4, 236, .null), (15, .iload_n 1, 1, 1, 0, 0, .null), (16, .iload_n 2, 1, 2, 0, 0, .null), (17, .iastore, 1, 0, 0, 0, .null), (18, .aload_n 0, 1, 0, 0, 0, .null), (19, .iconst 1, 1, 0, 0, 0, .int (1)), (20, .putfield 40, 3, 0, 5, 238, .int 1), (23, .return_, 1, 0, 0, 0, .null)]
def kc_6 : List (Nat × En) := [(0, .aload_n 0, 1, 0, 0, 0, .null), (1, .getfield 18, 3, 0, 3, 234, .null), (4, .iload_n 1, 1, 1, 0, 0, .null), (5, .iaload, 1, 0, 0, 0, .null), (6, .aload_n 0, 1, 0, 0, 0, .null), (7, .getfield 21, 3, 0, 4, 236, .null), (10, .iload_n 1, 1, 1, 0, 0, .null), (11, .iaload, 1, 0, 0, 0, .null), (12, .aload_n 0, 1, 0, 0, 0, .null), (13, .getfield 18, 3, 0, 3, 234, .null), (16, .iload_n 2, 1, 2, 0, 0, .null), (17, .iaload, 1, 0, 0, 0, .null), (18, .aload_n 0, 1, 0, 0, 0, .null), (19, .getfield 21, 3, 0, 4, 236, .null), (22, .iload_n 2, 1, 2, 0, 0, .null), (23, .iaload, 1, 0, 0, 0, .null), (24, .invokestatic 74, 3, 117, 4, 633, .int 1), (27, .ireturn, 1, 0, 0, 0, .null)]
def kc_7 : List (Nat × En) := [(0, .iconst 0, 1, 0, 0, 0, .int (0)), (1, .istore_n 2, 1, 2, 0, 0, .null), (2, .iload_n 1, 1, 1, 0, 0, .null), (3, .bipush 24, 2, 0, 0, 0, .int (24)), (5, .imul, 1, 0, 0, 0, .null), (6, .istore_n 3, 1, 3, 0, 0, .null), (7, .iload_n 3, 1, 3, 0, 0, .null), (8, .iload_n 1, 1, 1, 0, 0, .null), (9, .iconst 1, 1, 0, 0, 0, .int (1)), (10, .iadd, 1, 0, 0, 0, .null), (11, .bipush 24, 2, 0, 0, 0, .int (24)), (13, .imul, 1, 0, 0, 0, .null), (14, .if_icmp .ge 25, 3, 39, 0, 0, .null), (17, .iload_n 2, 1, 2, 0, 0, .null), (18, .aload_n 0, 1, 0, 0, 0, .null), (19, .getfield 21, 3, 0, 4, 236, .null), (22, .iload_n 3, 1, 3, 0, 0, .null), (23, .iaload, 1, 0, 0, 0, .null), (24, .aload_n 0, 1, 0, 0, 0, .null), (25, .getfield 18, 3, 0, 3, 234, .null), (28, .iload_n 3, 1, 3, 0, 0, .null), (29, .iaload, 1, 0, 0, 0, .null), (30, .isub, 1, 0, 0, 0, .null), (31, .iadd, 1, 0, 0, 0, .null), (32, .istore_n 2, 1, 2, 0, 0, .null), (33, .iinc 3 1, 3, 3, 0, 0, .int (1)), (36, .goto (-29), 3, 7, 0, 0, .null), (39, .iload_n 2, 1, 2, 0, 0, .null), (40, .ireturn, 1, 0, 0, 0, .null)]
def kc_8 : List (Nat × En) := [(0, .iload_n 1, 1, 1, 0, 0, .null), (1, .iconst 2, 1, 0, 0, 0, .int (2)), (2, .imul, 1, 0, 0, 0, .null), (3, .iload_n 2, 1, 2, 0, 0, .null), (4, .iadd, 1, 0, 0, 0, .null), (5, .iconst 3, 1, 0, 0, 0, .int (3)), (6, .imul, 1, 0, 0, 0, .null), (7, .iload_n 3, 1, 3, 0, 0, .null), (8, .iadd, 1, 0, 0, 0, .null), (9, .ireturn, 1, 0, 0, 0, .null)]
def kc_9 : List (Nat × En) := [(0, .aload_n 0, 1, 0, 0, 0, .null), (1, .iload_n 1, 1, 1, 0, 0, .null), (2, .iconst 0, 1, 0, 0, 0, .int (0)), (3, .invokevirtual 36, 3, 10, 2, 842, .null), (6, .istore_n 2, 1, 2, 0, 0, .null), (7, .aload_n 0, 1, 0, 0, 0, .null), (8, .iload_n 1, 1, 1, 0, 0, .null), (9, .iconst 1, 1, 0, 0, 0, .int (1)), (10, .invokevirtual 36, 3, 10, 2, 842, .null), (13, .istore_n 3, 1, 3, 0, 0, .null), (14, .iload_n 2, 1, 2, 0, 0, .null), (15, .iload_n 3, 1, 3, 0, 0, .null), (16, .if_icmp .ne 5, 3, 21, 0, 0, .null), (19, .iconst 2, 1, 0, 0, 0, .int (2)), (20, .ireturn, 1, 0, 0, 0, .null), (21, .iload_n 2, 1, 2, 0, 0, .null), (22, .iload_n 3, 1, 3, 0, 0, .null), (23, .if_icmp .ge 7, 3, 30, 0, 0, .null), (26, .iconst 0, 1, 0, 0, 0, .int (0)), (27, .goto 4, 3, 31, 0, 0, .null), (30, .iconst 1, 1, 0, 0, 0, .int (1)), (31, .ireturn, 1, 0, 0, 0, .null)]
def kc_10 : List (Nat × En) := [(0, .iconst 0, 1, 0, 0, 0, .int (0)), (1, .istore_n 3, 1, 3, 0, 0, .null), (2, .iconst 0, 1, 0, 0, 0, .int (0)), (3, .istore 4, 2, 4, 0, 0, .null), (5, .iload 4, 2, 4, 0, 0, .null), (7, .iconst 3, 1, 0, 0, 0, .int (3)), (8, .if_icmp .ge 43, 3, 51, 0, 0, .null), (11, .iload_n 3, 1, 3, 0, 0, .null), (12, .aload_n 0, 1, 0, 0, 0, .null), (13, .getfield 18, 3, 1, 0, 349, .null), (16, .iload_n 1, 1, 1, 0, 0, .null), (17, .iload 4, 2, 4, 0, 0, .null), (19, .aload_n 0, 1, 0, 0, 0, .null), (20, .getfield 15, 3, 1, 4, 354, .null), (23, .aload_n 0, 1, 0, 0, 0, .null), (24, .aload_n 0, 1, 0, 0, 0, .null), (25, .getfield 22, 3, 1, 1, 350, .null), (28, .getfield 40, 3, 9, 0, 193, .null), (31, .iload_n 1, 1, 1, 0, 0, .null), (32, .iaload, 1, 0, 0, 0, .null), (33, .iload_n 2, 1, 2, 0, 0, .null), (34, .iload 4, 2, 4, 0, 0, .null), (36, .invokevirtual 45, 3, 8, 3, 846, .null), (39, .iaload, 1, 0, 0, 0, .null), (40, .invokevirtual 49, 3, 37, 3, 847, .null), (43, .iadd, 1, 0, 0, 0, .null), (44, .istore_n 3, 1, 3, 0, 0, .null), (45, .iinc 4 1, 3, 4, 0, 0, .int (1)), (48, .goto (-43), 3, 5, 0, 0, .null), (51, .iload_n 3, 1, 3, 0, 0, .null), (52, .ireturn, 1, 0, 0, 0, .null)]
def kc_11 : List (Nat × En) := [(0, .iconst 0, 1, 0, 0, 0, .int (0)), (1, .istore_n 3, 1, 3, 0, 0, .null), (2, .iconst 0, 1, 0, 0, 0, .int (0)), (3, .istore 4, 2, 4, 0, 0, .null), (5, .iload 4, 2, 4, 0, 0, .null), (7, .sipush 144, 3, 0, 0, 0, .int (144)), (10, .if_icmp .ge 83, 3, 93, 0, 0, .null), (13, .aload_n 0, 1, 0, 0, 0, .null), (14, .getfield 22, 3, 1, 1, 350, .null), (17, .getfield 40, 3, 9, 0, 193, .null), (20, .iload 4, 2, 4, 0, 0, .null), (22, .iaload, 1, 0, 0, 0, .null), (23, .iload_n 1, 1, 1, 0, 0, .null), (24, .if_icmp .eq 6, 3, 30, 0, 0, .null), (27, .goto 60, 3, 87, 0, 0, .null), (30, .aload_n 0, 1, 0, 0, 0, .null), (31, .iload 4, 2, 4, 0, 0, .null), (33, .invokevirtual 54, 3, 9, 1, 867, .null), (36, .istore 5, 2, 5, 0, 0, .null), (38, .iload 5, 2, 5, 0, 0, .null), (40, .iload_n 2, 1, 2, 0, 0, .null), (41, .if_icmp .eq 12, 3, 53, 0, 0, .null), (44, .iload 5, 2, 5, 0, 0, .null), (46, .iconst 2, 1, 0, 0, 0, .int (2)), (47, .if_icmp .eq 6, 3, 53, 0, 0, .null), (50, .goto 37, 3, 87, 0, 0, .null), (53, .aload_n 0, 1, 0, 0, 0, .null), (54, .getfield 26, 3, 1, 2, 351, .null), (57, .aload_n 0, 1, 0, 0, 0, .null), (58, .getfield 9, 3, 1, 3, 352, .null), (61, .iload_n 1, 1, 1, 0, 0, .null), (62, .iaload, 1, 0, 0, 0, .null), (63, .iload 4, 2, 4, 0, 0, .null), (65, .bipush 24, 2, 0, 0, 0, .int (24)), (67, .idiv, 1, 0, 0, 0, .null), (68, .invokevirtual 58, 3, 43, 2, 868, .null), (71, .istore 6, 2, 6, 0, 0, .null), (73, .iload 6, 2, 6, 0, 0, .null), (75, .bipush (-6), 2, 0, 0, 0, .int (-6)), (77, .if_icmp .eq 10, 3, 87, 0, 0, .null), (80, .iload_n 3, 1, 3, 0, 0, .null), (81, .iconst 1, 1, 0, 0, 0, .int (1)), (82, .iload 6, 2, 6, 0, 0, .null), (84, .ishl, 1, 0, 0, 0, .null), (85, .ior, 1, 0, 0, 0, .null), (86, .istore_n 3, 1, 3, 0, 0, .null), (87, .iinc 4 1, 3, 4, 0, 0, .int (1)), (90, .goto (-85), 3, 5, 0, 0, .null), (93, .iload_n 3, 1, 3, 0, 0, .null), (94, .ireturn, 1, 0, 0, 0, .null)]
def kc_12 : List (Nat × En) := [(0, .iconst 0, 1, 0, 0, 0, .int (0)), (1, .istore_n 3, 1, 3, 0, 0, .null), (2, .iconst 0, 1, 0, 0, 0, .int (0)), (3, .istore 4, 2, 4, 0, 0, .null), (5, .iload 4, 2, 4, 0, 0, .null), (7, .aload_n 0, 1, 0, 0, 0, .null), (8, .getfield 23, 3, 2, 2, 302, .null), (11, .getfield 27, 3, 6, 7, 270, .null), (14, .if_icmp .ge 88, 3, 102, 0, 0, .null), (17, .iconst 1, 1, 0, 0, 0, .int (1)), (18, .istore 5, 2, 5, 0, 0, .null), (20, .iload_n 3, 1, 3, 0, 0, .null), (21, .aload_n 0, 1, 0, 0, 0, .null), (22, .getfield 23, 3, 2, 2, 302, .null), (25, .getfield 33, 3, 6, 6, 268, .null), (28, .if_icmp .ge 61, 3, 89, 0, 0, .null), (31, .aload_n 0, 1, 0, 0, 0, .null), (32, .getfield 23, 3, 2, 2, 302, .null), (35, .getfield 36, 3, 6, 5, 267, .null), (38, .iload_n 3, 1, 3, 0, 0, .null), (39, .iaload, 1, 0, 0, 0, .null), (40, .iload 4, 2, 4, 0, 0, .null), (42, .if_icmp .ne 47, 3, 89, 0, 0, .null), (45, .iload 5, 2, 5, 0, 0, .null), (47, .ifCond .eq 33, 3, 80, 0, 0, .null), (50, .aload_n 0, 1, 0, 0, 0, .null), (51, .getfield 23, 3, 2, 2, 302, .null), (54, .iload_n 3, 1, 3, 0, 0, .null), (55, .aload_n 0, 1, 0, 0, 0, .null), (56, .aload_n 0, 1, 0, 0, 0, .null), (57, .getfield 23, 3, 2, 2, 302, .null), (60, .getfield 40, 3, 6, 2, 263, .null), (63, .iload_n 3, 1, 3, 0, 0, .null), (64, .iaload, 1, 0, 0, 0, .null), (65, .iload_n 1, 1, 1, 0, 0, .null), (66, .iload_n 2, 1, 2, 0, 0, .null), (67, .invokevirtual 43, 3, 13, 3, 646, .null), (70, .invokevirtual 47, 3, 51, 2, 653, .null), (73, .ifCond .eq 7, 3, 80, 0, 0, .null), (76, .iconst 1, 1, 0, 0, 0, .int (1)), (77, .goto 4, 3, 81, 0, 0, .null), (80, .iconst 0, 1, 0, 0, 0, .int (0)), (81, .istore 5, 2, 5, 0, 0, .null), (83, .iinc 3 1, 3, 3, 0, 0, .int (1)), (86, .goto (-66), 3, 20, 0, 0, .null), (89, .iload 5, 2, 5, 0, 0, .null), (91, .ifCond .eq 5, 3, 96, 0, 0, .null), (94, .iconst 1, 1, 0, 0, 0, .int (1)), (95, .ireturn, 1, 0, 0, 0, .int 1), (96, .iinc 4 1, 3, 4, 0, 0, .int (1)), (99, .goto (-94), 3, 5, 0, 0, .null), (102, .iconst 0, 1, 0, 0, 0, .int (0)), (103, .ireturn, 1, 0, 0, 0, .int 1)]
def kc_13 : List (Nat × En) := [(0, .iload_n 1, 1, 1, 0, 0, .null), (1, .tableswitch 98 97 103 #[65, 76, 87, 98, 98, 98, 43], 43, 99, 0, 0, .null), (44, .aload_n 0, 1, 0, 0, 0, .null), (45, .getfield 15, 3, 2, 0, 300, .null), (48, .getfield 51, 3, 4, 4, 150, .null), (51, .iload_n 2, 1, 2, 0, 0, .null), (52, .iaload, 1, 0, 0, 0, .null), (53, .aload_n 0, 1, 0, 0, 0, .null), (54, .getfield 15, 3, 2, 0, 300, .null), (57, .getfield 51, 3, 4, 4, 150, .null), (60, .iload_n 3, 1, 3, 0, 0, .null), (61, .iaload, 1, 0, 0, 0, .null), (62, .invokestatic 56, 3, 0, 103, 650, .null), (65, .ireturn, 1, 0, 0, 0, .null), (66, .aload_n 0, 1, 0, 0, 0, .null), (67, .getfield 15, 3, 2, 0, 300, .null), (70, .iload_n 2, 1, 2, 0, 0, .null), (71, .iload_n 3, 1, 3, 0, 0, .null), (72, .iconst 0, 1, 0, 0, 0, .int (0)), (73, .invokevirtual 62, 3, 36, 3, 651, .null), (76, .ireturn, 1, 0, 0, 0, .null), (77, .aload_n 0, 1, 0, 0, 0, .null), (78, .getfield 15, 3, 2, 0, 300, .null), (81, .iload_n 2, 1, 2, 0, 0, .null), (82, .iload_n 3, 1, 3, 0, 0, .null), (83, .iconst 1, 1, 0, 0, 0, .int (1)), (84, .invokevirtual 62, 3, 36, 3, 651, .null), (87, .ireturn, 1, 0, 0, 0, .null), (88, .aload_n 0, 1, 0, 0, 0, .null), (89, .getfield 15, 3, 2, 0, 300, .null), (92, .iload_n 2, 1, 2, 0, 0, .null), (93, .iload_n 3, 1, 3, 0, 0, .null), (94, .iconst 2, 1, 0, 0, 0, .int (2)), (95, .invokevirtual 62, 3, 36, 3, 651, .null), (98, .ireturn, 1, 0, 0, 0, .null), (99, .aload_n 0, 1, 0, 0, 0, .null), (100, .getfield 19, 3, 2, 1, 301, .null), (103, .iload_n 2, 1, 2, 0, 0, .null), (104, .iload_n 3, 1, 3, 0, 0, .null), (105, .invokevirtual 65, 3, 6, 2, 652, .null), (108, .ireturn, 1, 0, 0, 0, .null)]
def kc_14 : List (Nat × En) := [(0, .aload_n 0, 1, 0, 0, 0, .null), (1, .getfield 15, 3, 2, 0, 300, .null), (4, .getfield 70, 3, 4, 9, 162, .null), (7, .bipush 60, 2, 0, 0, 0, .int (60)), (9, .invokestatic 56, 3, 0, 103, 650, .null), (12, .istore_n 1, 1, 1, 0, 0, .null), (13, .iconst 0, 1, 0, 0, 0, .int (0)), (14, .istore_n 2, 1, 2, 0, 0, .null), (15, .iload_n 2, 1, 2, 0, 0, .null), (16, .iload_n 1, 1, 1, 0, 0, .null), (17, .if_icmp .ge 78, 3, 95, 0, 0, .null), (20, .aload_n 0, 1, 0, 0, 0, .null), (21, .getfield 9, 3, 2, 3, 303, .null), (24, .iload_n 2, 1, 2, 0, 0, .null), (25, .lconst 0, 1, 0, 0, 0, .long 0), (26, .lastore, 1, 0, 0, 0, .null), (27, .iconst 0, 1, 0, 0, 0, .int (0)), (28, .istore_n 3, 1, 3, 0, 0, .null), (29, .iload_n 3, 1, 3, 0, 0, .null), (30, .iload_n 2, 1, 2, 0, 0, .null), (31, .if_icmp .ge 58, 3, 89, 0, 0, .null), (34, .aload_n 0, 1, 0, 0, 0, .null), (35, .aload_n 0, 1, 0, 0, 0, .null), (36, .getfield 15, 3, 2, 0, 300, .null), (39, .getfield 73, 3, 4, 8, 160, .null), (42, .iload_n 2, 1, 2, 0, 0, .null), (43, .iaload, 1, 0, 0, 0, .null), (44, .aload_n 0, 1, 0, 0, 0, .null), (45, .getfield 15, 3, 2, 0, 300, .null), (48, .getfield 73, 3, 4, 8, 160, .null), (51, .iload_n 3, 1, 3, 0, 0, .null), (52, .iaload, 1, 0, 0, 0, .null), (53, .invokevirtual 76, 3, 12, 2, 665, .null), (56, .ifCond .eq 27, 3, 83, 0, 0, .null), (59, .aload_n 0, 1, 0, 0, 0, .null), (60, .getfield 9, 3, 2, 3, 303, .null), (63, .iload_n 2, 1, 2, 0, 0, .null), (64, .dup2, 1, 0, 0, 0, .null), (65, .laload, 1, 0, 0, 0, .null), (66, .lconst 1, 1, 0, 0, 0, .long 1), (67, .iload_n 3, 1, 3, 0, 0, .null), (68, .lshl, 1, 0, 0, 0, .null), (69, .lor, 1, 0, 0, 0, .null), (70, .lastore, 1, 0, 0, 0, .null), (71, .aload_n 0, 1, 0, 0, 0, .null), (72, .getfield 9, 3, 2, 3, 303, .null), (75, .iload_n 3, 1, 3, 0, 0, .null), (76, .dup2, 1, 0, 0, 0, .null), (77, .laload, 1, 0, 0, 0, .null), (78, .lconst 1, 1, 0, 0, 0, .long 1), (79, .iload_n 2, 1, 2, 0, 0, .null), (80, .lshl, 1, 0, 0, 0, .null), (81, .lor, 1, 0, 0, 0, .null), (82, .lastore, 1, 0, 0, 0, .null), (83, .iinc 3 1, 3, 3, 0, 0, .int (1)), (86, .goto (-57), 3, 29, 0, 0, .null), (89, .iinc 2 1, 3, 2, 0, 0, .int (1)), (92, .goto (-77), 3, 15, 0, 0, .null), (95, .return_, 1, 0, 0, 0, .null)]
def kc_15 : List (Nat × En) := [(0, .lconst 1, 1, 0, 0, 0, .long 1), (1, .iload_n 1, 1, 1, 0, 0, .null), (2, .lshl, 1, 0, 0, 0, .null), (3, .lstore_n 2, 1, 2, 0, 0, .null), (4, .iconst 0, 1, 0, 0, 0, .int (0)), (5, .istore 4, 2, 4, 0, 0, .null), (7, .iload 4, 2, 4, 0, 0, .null), (9, .bipush 60, 2, 0, 0, 0, .int (60)), (11, .if_icmp .ge 31, 3, 42, 0, 0, .null), (14, .lload_n 2, 1, 2, 0, 0, .null), (15, .aload_n 0, 1, 0, 0, 0, .null), (16, .lload_n 2, 1, 2, 0, 0, .null), (17, .invokevirtual 79, 3, 16, 1, 674, .null), (20, .lor, 1, 0, 0, 0, .null), (21, .lstore 5, 2, 5, 0, 0, .null), (23, .lload 5, 2, 5, 0, 0, .null), (25, .lload_n 2, 1, 2, 0, 0, .null), (26, .lcmp, 1, 0, 0, 0, .null), (27, .ifCond .ne 6, 3, 33, 0, 0, .null), (30, .goto 12, 3, 42, 0, 0, .null), (33, .lload 5, 2, 5, 0, 0, .null), (35, .lstore_n 2, 1, 2, 0, 0, .null), (36, .iinc 4 1, 3, 4, 0, 0, .int (1)), (39, .goto (-32), 3, 7, 0, 0, .null), (42, .lload_n 2, 1, 2, 0, 0, .null), (43, .lreturn, 1, 0, 0, 0, .null)]
def kc_16 : List (Nat × En) := [(0, .lconst 0, 1, 0, 0, 0, .long 0), (1, .lstore_n 3, 1, 3, 0, 0, .null), (2, .iconst 0, 1, 0, 0, 0, .int (0)), (3, .istore 5, 2, 5, 0, 0, .null), (5, .iload 5, 2, 5, 0, 0, .null), (7, .bipush 60, 2, 0, 0, 0, .int (60)), (9, .if_icmp .ge 30, 3, 39, 0, 0, .null), (12, .lload_n 1, 1, 1, 0, 0, .null), (13, .iload 5, 2, 5, 0, 0, .null), (15, .lshr, 1, 0, 0, 0, .null), (16, .lconst 1, 1, 0, 0, 0, .long 1), (17, .land, 1, 0, 0, 0, .null), (18, .lconst 0, 1, 0, 0, 0, .long 0), (19, .lcmp, 1, 0, 0, 0, .null), (20, .ifCond .eq 13, 3, 33, 0, 0, .null), (23, .lload_n 3, 1, 3, 0, 0, .null), (24, .aload_n 0, 1, 0, 0, 0, .null), (25, .getfield 9, 3, 2, 3, 303, .null), (28, .iload 5, 2, 5, 0, 0, .null), (30, .laload, 1, 0, 0, 0, .null), (31, .lor, 1, 0, 0, 0, .null), (32, .lstore_n 3, 1, 3, 0, 0, .null), (33, .iinc 5 1, 3, 5, 0, 0, .int (1)), (36, .goto (-31), 3, 5, 0, 0, .null), (39, .lload_n 3, 1, 3, 0, 0, .null), (40, .lreturn, 1, 0, 0, 0, .null)]
def kc_17 : List (Nat × En) := [(0, .iconst 0, 1, 0, 0, 0, .int (0)), (1, .istore 4, 2, 4, 0, 0, .null), (3, .iconst 0, 1, 0, 0, 0, .int (0)), (4, .istore 5, 2, 5, 0, 0, .null), (6, .iload 5, 2, 5, 0, 0, .null), (8, .bipush 60, 2, 0, 0, 0, .int (60)), (10, .if_icmp .ge 43, 3, 53, 0, 0, .null), (13, .lload_n 1, 1, 1, 0, 0, .null), (14, .iload 5, 2, 5, 0, 0, .null), (16, .lshr, 1, 0, 0, 0, .null), (17, .lconst 1, 1, 0, 0, 0, .long 1), (18, .land, 1, 0, 0, 0, .null), (19, .lconst 0, 1, 0, 0, 0, .long 0), (20, .lcmp, 1, 0, 0, 0, .null), (21, .ifCond .ne 6, 3, 27, 0, 0, .null), (24, .goto 23, 3, 47, 0, 0, .null), (27, .iload 4, 2, 4, 0, 0, .null), (29, .iload_n 3, 1, 3, 0, 0, .null), (30, .if_icmp .ne 14, 3, 44, 0, 0, .null), (33, .aload_n 0, 1, 0, 0, 0, .null), (34, .getfield 15, 3, 2, 0, 300, .null), (37, .getfield 73, 3, 4, 8, 160, .null), (40, .iload 5, 2, 5, 0, 0, .null), (42, .iaload, 1, 0, 0, 0, .null), (43, .ireturn, 1, 0, 0, 0, .null), (44, .iinc 4 1, 3, 4, 0, 0, .int (1)), (47, .iinc 5 1, 3, 5, 0, 0, .int (1)), (50, .goto (-44), 3, 6, 0, 0, .null), (53, .bipush (-6), 2, 0, 0, 0, .int (-6)), (55, .ireturn, 1, 0, 0, 0, .null)]
def kc_18 : List (Nat × En) := [(0, .iconst 0, 1, 0, 0, 0, .int (0)), (1, .istore_n 1, 1, 1, 0, 0, .null), (2, .lconst 0, 1, 0, 0, 0, .long 0), (3, .lstore_n 2, 1, 2, 0, 0, .null), (4, .iconst 0, 1, 0, 0, 0, .int (0)), (5, .istore 4, 2, 4, 0, 0, .null), (7, .iload 4, 2, 4, 0, 0, .null), (9, .aload_n 0, 1, 0, 0, 0, .null), (10, .getfield 15, 3, 2, 0, 300, .null), (13, .getfield 70, 3, 4, 9, 162, .null), (16, .if_icmp .ge 53, 3, 69, 0, 0, .null), (19, .lload_n 2, 1, 2, 0, 0, .null), (20, .iload 4, 2, 4, 0, 0, .null), (22, .lshr, 1, 0, 0, 0, .null), (23, .lconst 1, 1, 0, 0, 0, .long 1), (24, .land, 1, 0, 0, 0, .null), (25, .lconst 0, 1, 0, 0, 0, .long 0), (26, .lcmp, 1, 0, 0, 0, .null), (27, .ifCond .eq 6, 3, 33, 0, 0, .null), (30, .goto 33, 3, 63, 0, 0, .null), (33, .aload_n 0, 1, 0, 0, 0, .null), (34, .iload 4, 2, 4, 0, 0, .null), (36, .invokevirtual 83, 3, 15, 1, 696, .null), (39, .lstore 5, 2, 5, 0, 0, .null), (41, .lload_n 2, 1, 2, 0, 0, .null), (42, .lload 5, 2, 5, 0, 0, .null), (44, .lor, 1, 0, 0, 0, .null), (45, .lstore_n 2, 1, 2, 0, 0, .null), (46, .aload_n 0, 1, 0, 0, 0, .null), (47, .lload 5, 2, 5, 0, 0, .null), (49, .invokevirtual 87, 3, 19, 1, 697, .null), (52, .ifCond .eq 11, 3, 63, 0, 0, .null), (55, .iload_n 1, 1, 1, 0, 0, .null), (56, .lload 5, 2, 5, 0, 0, .null), (58, .invokestatic 91, 3, 210, 1, 702, .null), (61, .iadd, 1, 0, 0, 0, .null), (62, .istore_n 1, 1, 1, 0, 0, .null), (63, .iinc 4 1, 3, 4, 0, 0, .int (1)), (66, .goto (-59), 3, 7, 0, 0, .null), (69, .iload_n 1, 1, 1, 0, 0, .null), (70, .ireturn, 1, 0, 0, 0, .null)]
def kc_19 : List (Nat × En) := [(0, .iconst 0, 1, 0, 0, 0, .int (0)), (1, .istore_n 3, 1, 3, 0, 0, .null), (2, .iload_n 3, 1, 3, 0, 0, .null), (3, .bipush 60, 2, 0, 0, 0, .int (60)), (5, .if_icmp .ge 49, 3, 54, 0, 0, .null), (8, .lload_n 1, 1, 1, 0, 0, .null), (9, .iload_n 3, 1, 3, 0, 0, .null), (10, .lshr, 1, 0, 0, 0, .null), (11, .lconst 1, 1, 0, 0, 0, .long 1), (12, .land, 1, 0, 0, 0, .null), (13, .lconst 0, 1, 0, 0, 0, .long 0), (14, .lcmp, 1, 0, 0, 0, .null), (15, .ifCond .ne 6, 3, 21, 0, 0, .null), (18, .goto 30, 3, 48, 0, 0, .null), (21, .aload_n 0, 1, 0, 0, 0, .null), (22, .getfield 9, 3, 2, 3, 303, .null), (25, .iload_n 3, 1, 3, 0, 0, .null), (26, .laload, 1, 0, 0, 0, .null), (27, .lconst 1, 1, 0, 0, 0, .long 1), (28, .iload_n 3, 1, 3, 0, 0, .null), (29, .lshl, 1, 0, 0, 0, .null), (30, .lor, 1, 0, 0, 0, .null), (31, .lstore 4, 2, 4, 0, 0, .null), (33, .lload_n 1, 1, 1, 0, 0, .null), (34, .lload 4, 2, 4, 0, 0, .null), (36, .ldc2_w 97, 3, 0, 0, 701, .long (-1)), (39, .lxor, 1, 0, 0, 0, .null), (40, .land, 1, 0, 0, 0, .null), (41, .lconst 0, 1, 0, 0, 0, .long 0), (42, .lcmp, 1, 0, 0, 0, .null), (43, .ifCond .eq 5, 3, 48, 0, 0, .null), (46, .iconst 1, 1, 0, 0, 0, .int (1)), (47, .ireturn, 1, 0, 0, 0, .int 1), (48, .iinc 3 1, 3, 3, 0, 0, .int (1)), (51, .goto (-49), 3, 2, 0, 0, .null), (54, .iconst 0, 1, 0, 0, 0, .int (0)), (55, .ireturn, 1, 0, 0, 0, .int 1)]
def kc_20 : List (Nat × En) := [(0, .aload_n 0, 1, 0, 0, 0, .null), (1, .invokevirtual 46, 3, 22, 0, 444, .null), (4, .aload_n 0, 1, 0, 0, 0, .null), (5, .iload_n 1, 1, 1, 0, 0, .null), (6, .iload_n 2, 1, 2, 0, 0, .null), (7, .aload_n 0, 1, 0, 0, 0, .null), (8, .getfield 36, 3, 3, 10, 111, .null), (11, .isub, 1, 0, 0, 0, .null), (12, .invokevirtual 49, 3, 27, 2, 451, .null), (15, .pop, 1, 0, 0, 0, .null), (16, .aload_n 0, 1, 0, 0, 0, .null), (17, .iload_n 1, 1, 1, 0, 0, .null), (18, .iload_n 2, 1, 2, 0, 0, .null), (19, .aload_n 0, 1, 0, 0, 0, .null), (20, .getfield 36, 3, 3, 10, 111, .null), (23, .iadd, 1, 0, 0, 0, .null), (24, .invokevirtual 53, 3, 28, 2, 455, .null), (27, .pop, 1, 0, 0, 0, .null), (28, .aload_n 0, 1, 0, 0, 0, .null), (29, .invokevirtual 56, 3, 24, 0, 459, .null), (32, .ifCond .ne 9, 3, 41, 0, 0, .null), (35, .aload_n 0, 1, 0, 0, 0, .null), (36, .invokevirtual 60, 3, 23, 0, 471, .null), (39, .iconst 0, 1, 0, 0, 0, .int (0)), (40, .ireturn, 1, 0, 0, 0, .int 1), (41, .aload_n 0, 1, 0, 0, 0, .null), (42, .dup, 1, 0, 0, 0, .null), (43, .getfield 63, 3, 3, 9, 110, .null), (46, .iconst 1, 1, 0, 0, 0, .int (1)), (47, .iadd, 1, 0, 0, 0, .null), (48, .putfield 63, 3, 3, 9, 110, .null), (51, .iconst 1, 1, 0, 0, 0, .int (1)), (52, .ireturn, 1, 0, 0, 0, .int 1)]
def kc_21 : List (Nat × En) := [(0, .aload_n 0, 1, 0, 0, 0, .null), (1, .getfield 66, 3, 3, 8, 108, .null), (4, .bipush 30, 2, 0, 0, 0, .int (30)), (6, .if_icmp .lt 5, 3, 11, 0, 0, .null), (9, .iconst 0, 1, 0, 0, 0, .int (0)), (10, .ireturn, 1, 0, 0, 0, .int 1), (11, .aload_n 0, 1, 0, 0, 0, .null), (12, .invokevirtual 46, 3, 22, 0, 444, .null), (15, .aload_n 0, 1, 0, 0, 0, .null), (16, .getfield 24, 3, 3, 4, 104, .null), (19, .aload_n 0, 1, 0, 0, 0, .null), (20, .getfield 66, 3, 3, 8, 108, .null), (23, .iload_n 1, 1, 1, 0, 0, .null), (24, .iastore, 1, 0, 0, 0, .null), (25, .aload_n 0, 1, 0, 0, 0, .null), (26, .getfield 27, 3, 3, 5, 105, .null), (29, .aload_n 0, 1, 0, 0, 0, .null), (30, .getfield 66, 3, 3, 8, 108, .null), (33, .iload_n 2, 1, 2, 0, 0, .null), (34, .iastore, 1, 0, 0, 0, .null), (35, .aload_n 0, 1, 0, 0, 0, .null), (36, .getfield 30, 3, 3, 6, 106, .null), (39, .aload_n 0, 1, 0, 0, 0, .null), (40, .getfield 66, 3, 3, 8, 108, .null), (43, .iload_n 3, 1, 3, 0, 0, .null), (44, .iconst 2, 1, 0, 0, 0, .int (2)), (45, .aload_n 0, 1, 0, 0, 0, .null), (46, .getfield 36, 3, 3, 10, 111, .null), (49, .imul, 1, 0, 0, 0, .null), (50, .isub, 1, 0, 0, 0, .null), (51, .iastore, 1, 0, 0, 0, .null), (52, .aload_n 0, 1, 0, 0, 0, .null), (53, .getfield 33, 3, 3, 7, 107, .null), (56, .aload_n 0, 1, 0, 0, 0, .null), (57, .getfield 66, 3, 3, 8, 108, .null), (60, .iload_n 3, 1, 3, 0, 0, .null), (61, .iconst 2, 1, 0, 0, 0, .int (2)), (62, .aload_n 0, 1, 0, 0, 0, .null), (63, .getfield 36, 3, 3, 10, 111, .null), (66, .imul, 1, 0, 0, 0, .null), (67, .iadd, 1, 0, 0, 0, .null), (68, .iastore, 1, 0, 0, 0, .null), (69, .aload_n 0, 1, 0, 0, 0, .null), (70, .dup, 1, 0, 0, 0, .null), (71, .getfield 66, 3, 3, 8, 108, .null), (74, .iconst 1, 1, 0, 0, 0, .int (1)), (75, .iadd, 1, 0, 0, 0, .null), (76, .putfield 66, 3, 3, 8, 108, .null), (79, .aload_n 0, 1, 0, 0, 0, .null), (80, .invokevirtual 56, 3, 24, 0, 459, .null), (83, .ifCond .ne 19, 3, 102, 0, 0, .null), (86, .aload_n 0, 1, 0, 0, 0, .null), (87, .dup, 1, 0, 0, 0, .null), (88, .getfield 66, 3, 3, 8, 108, .null), (91, .iconst 1, 1, 0, 0, 0, .int (1)), (92, .isub, 1, 0, 0, 0, .null), (93, .putfield 66, 3, 3, 8, 108, .null), (96, .aload_n 0, 1, 0, 0, 0, .null), (97, .invokevirtual 60, 3, 23, 0, 471, .null), (100, .iconst 0, 1, 0, 0, 0, .int (0)), (101, .ireturn, 1, 0, 0, 0, .int 1), (102, .aload_n 0, 1, 0, 0, 0, .null), (103, .dup, 1, 0, 0, 0, .null), (104, .getfield 63, 3, 3, 9, 110, .null), (107, .iconst 1, 1, 0, 0, 0, .int (1)), (108, .iadd, 1, 0, 0, 0, .null), (109, .putfield 63, 3, 3, 9, 110, .null), (112, .iconst 1, 1, 0, 0, 0, .int (1)), (113, .ireturn, 1, 0, 0, 0, .int 1)]
def kc_22 : List (Nat × En) := [(0, .aload_n 0, 1, 0, 0, 0, .null), (1, .getfield 11, 3, 3, 0, 96, .null), (4, .iconst 0, 1, 0, 0, 0, .int (0)), (5, .aload_n 0, 1, 0, 0, 0, .null), (6, .getfield 18, 3, 3, 2, 102, .null), (9, .iconst 0, 1, 0, 0, 0, .int (0)), (10, .bipush 9, 2, 0, 0, 0, .int (9)), (12, .invokestatic 69, 3, 0, 100, 448, .null), (15, .aload_n 0, 1, 0, 0, 0, .null), (16, .getfield 15, 3, 3, 1, 99, .null), (19, .iconst 0, 1, 0, 0, 0, .int (0)), (20, .aload_n 0, 1, 0, 0, 0, .null), (21, .getfield 21, 3, 3, 3, 103, .null), (24, .iconst 0, 1, 0, 0, 0, .int (0)), (25, .bipush 9, 2, 0, 0, 0, .int (9)), (27, .invokestatic 69, 3, 0, 100, 448, .null), (30, .return_, 1, 0, 0, 0, .null)]
def kc_23 : List (Nat × En) := [(0, .aload_n 0, 1, 0, 0, 0, .null), (1, .getfield 18, 3, 3, 2, 102, .null), (4, .iconst 0, 1, 0, 0, 0, .int (0)), (5, .aload_n 0, 1, 0, 0, 0, .null), (6, .getfield 11, 3, 3, 0, 96, .null), (9, .iconst 0, 1, 0, 0, 0, .int (0)), (10, .bipush 9, 2, 0, 0, 0, .int (9)), (12, .invokestatic 69, 3, 0, 100, 448, .null), (15, .aload_n 0, 1, 0, 0, 0, .null), (16, .getfield 21, 3, 3, 3, 103, .null), (19, .iconst 0, 1, 0, 0, 0, .int (0)), (20, .aload_n 0, 1, 0, 0, 0, .null), (21, .getfield 15, 3, 3, 1, 99, .null), (24, .iconst 0, 1, 0, 0, 0, .int (0)), (25, .bipush 9, 2, 0, 0, 0, .int (9)), (27, .invokestatic 69, 3, 0, 100, 448, .null), (30, .return_, 1, 0, 0, 0, .null)]
def kc_24 : List (Nat × En) := [(0, .iconst 0, 1, 0, 0, 0, .int (0)), (1, .istore_n 1, 1, 1, 0, 0, .null), (2, .iload_n 1, 1, 1, 0, 0, .null), (3, .sipush 1000, 3, 0, 0, 0, .int (1000)), (6, .if_icmp .ge 27, 3, 33, 0, 0, .null), (9, .aload_n 0, 1, 0, 0, 0, .null), (10, .invokevirtual 75, 3, 25, 0, 463, .null), (13, .ifCond .eq 5, 3, 18, 0, 0, .null), (16, .iconst 0, 1, 0, 0, 0, .int (0)), (17, .ireturn, 1, 0, 0, 0, .int 1), (18, .aload_n 0, 1, 0, 0, 0, .null), (19, .invokevirtual 78, 3, 26, 0, 467, .null), (22, .ifCond .ne 5, 3, 27, 0, 0, .null), (25, .iconst 1, 1, 0, 0, 0, .int (1)), (26, .ireturn, 1, 0, 0, 0, .int 1), (27, .iinc 1 1, 3, 1, 0, 0, .int (1)), (30, .goto (-28), 3, 2, 0, 0, .null), (33, .iconst 0, 1, 0, 0, 0, .int (0)), (34, .ireturn, 1, 0, 0, 0, .int 1)]
def kc_25 : List (Nat × En) := [(0, .iconst 0, 1, 0, 0, 0, .int (0)), (1, .istore_n 1, 1, 1, 0, 0, .null), (2, .iload_n 1, 1, 1, 0, 0, .null), (3, .bipush 9, 2, 0, 0, 0, .int (9)), (5, .if_icmp .ge 26, 3, 31, 0, 0, .null), (8, .aload_n 0, 1, 0, 0, 0, .null), (9, .getfield 11, 3, 3, 0, 96, .null), (12, .iload_n 1, 1, 1, 0, 0, .null), (13, .iaload, 1, 0, 0, 0, .null), (14, .aload_n 0, 1, 0, 0, 0, .null), (15, .getfield 15, 3, 3, 1, 99, .null), (18, .iload_n 1, 1, 1, 0, 0, .null), (19, .iaload, 1, 0, 0, 0, .null), (20, .if_icmp .le 5, 3, 25, 0, 0, .null), (23, .iconst 1, 1, 0, 0, 0, .int (1)), (24, .ireturn, 1, 0, 0, 0, .int 1), (25, .iinc 1 1, 3, 1, 0, 0, .int (1)), (28, .goto (-26), 3, 2, 0, 0, .null), (31, .iconst 0, 1, 0, 0, 0, .int (0)), (32, .ireturn, 1, 0, 0, 0, .int 1)]
def kc_26 : List (Nat × En) := [(0, .iconst 0, 1, 0, 0, 0, .int (0)), (1, .istore_n 1, 1, 1, 0, 0, .null), (2, .iconst 0, 1, 0, 0, 0, .int (0)), (3, .istore_n 2, 1, 2, 0, 0, .null), (4, .iload_n 2, 1, 2, 0, 0, .null), (5, .aload_n 0, 1, 0, 0, 0, .null), (6, .getfield 66, 3, 3, 8, 108, .null), (9, .if_icmp .ge 112, 3, 121, 0, 0, .null), (12, .aload_n 0, 1, 0, 0, 0, .null), (13, .getfield 24, 3, 3, 4, 104, .null), (16, .iload_n 2, 1, 2, 0, 0, .null), (17, .iaload, 1, 0, 0, 0, .null), (18, .istore_n 3, 1, 3, 0, 0, .null), (19, .aload_n 0, 1, 0, 0, 0, .null), (20, .getfield 27, 3, 3, 5, 105, .null), (23, .iload_n 2, 1, 2, 0, 0, .null), (24, .iaload, 1, 0, 0, 0, .null), (25, .istore 4, 2, 4, 0, 0, .null), (27, .iload_n 1, 1, 1, 0, 0, .null), (28, .aload_n 0, 1, 0, 0, 0, .null), (29, .iload_n 3, 1, 3, 0, 0, .null), (30, .aload_n 0, 1, 0, 0, 0, .null), (31, .getfield 11, 3, 3, 0, 96, .null), (34, .iload 4, 2, 4, 0, 0, .null), (36, .iaload, 1, 0, 0, 0, .null), (37, .aload_n 0, 1, 0, 0, 0, .null), (38, .getfield 30, 3, 3, 6, 106, .null), (41, .iload_n 2, 1, 2, 0, 0, .null), (42, .iaload, 1, 0, 0, 0, .null), (43, .iadd, 1, 0, 0, 0, .null), (44, .invokevirtual 49, 3, 27, 2, 451, .null), (47, .ior, 1, 0, 0, 0, .null), (48, .istore_n 1, 1, 1, 0, 0, .null), (49, .iload_n 1, 1, 1, 0, 0, .null), (50, .aload_n 0, 1, 0, 0, 0, .null), (51, .iload_n 3, 1, 3, 0, 0, .null), (52, .aload_n 0, 1, 0, 0, 0, .null), (53, .getfield 15, 3, 3, 1, 99, .null), (56, .iload 4, 2, 4, 0, 0, .null), (58, .iaload, 1, 0, 0, 0, .null), (59, .aload_n 0, 1, 0, 0, 0, .null), (60, .getfield 33, 3, 3, 7, 107, .null), (63, .iload_n 2, 1, 2, 0, 0, .null), (64, .iaload, 1, 0, 0, 0, .null), (65, .iadd, 1, 0, 0, 0, .null), (66, .invokevirtual 53, 3, 28, 2, 455, .null), (69, .ior, 1, 0, 0, 0, .null), (70, .istore_n 1, 1, 1, 0, 0, .null), (71, .iload_n 1, 1, 1, 0, 0, .null), (72, .aload_n 0, 1, 0, 0, 0, .null), (73, .iload 4, 2, 4, 0, 0, .null), (75, .aload_n 0, 1, 0, 0, 0, .null), (76, .getfield 11, 3, 3, 0, 96, .null), (79, .iload_n 3, 1, 3, 0, 0, .null), (80, .iaload, 1, 0, 0, 0, .null), (81, .aload_n 0, 1, 0, 0, 0, .null), (82, .getfield 33, 3, 3, 7, 107, .null), (85, .iload_n 2, 1, 2, 0, 0, .null), (86, .iaload, 1, 0, 0, 0, .null), (87, .isub, 1, 0, 0, 0, .null), (88, .invokevirtual 49, 3, 27, 2, 451, .null), (91, .ior, 1, 0, 0, 0, .null), (92, .istore_n 1, 1, 1, 0, 0, .null), (93, .iload_n 1, 1, 1, 0, 0, .null), (94, .aload_n 0, 1, 0, 0, 0, .null), (95, .iload 4, 2, 4, 0, 0, .null), (97, .aload_n 0, 1, 0, 0, 0, .null), (98, .getfield 15, 3, 3, 1, 99, .null), (101, .iload_n 3, 1, 3, 0, 0, .null), (102, .iaload, 1, 0, 0, 0, .null), (103, .aload_n 0, 1, 0, 0, 0, .null), (104, .getfield 30, 3, 3, 6, 106, .null), (107, .iload_n 2, 1, 2, 0, 0, .null), (108, .iaload, 1, 0, 0, 0, .null), (109, .isub, 1, 0, 0, 0, .null), (110, .invokevirtual 53, 3, 28, 2, 455, .null), (113, .ior, 1, 0, 0, 0, .null), (114, .istore_n 1, 1, 1, 0, 0, .null), (115, .iinc 2 1, 3, 2, 0, 0, .int (1)), (118, .goto (-114), 3, 4, 0, 0, .null), (121, .iload_n 1, 1, 1, 0, 0, .null), (122, .ireturn, 1, 0, 0, 0, .int 1)]
def kc_27 : List (Nat × En) := [(0, .iload_n 2, 1, 2, 0, 0, .null), (1, .aload_n 0, 1, 0, 0, 0, .null), (2, .getfield 11, 3, 3, 0, 96, .null), (5, .iload_n 1, 1, 1, 0, 0, .null), (6, .iaload, 1, 0, 0, 0, .null), (7, .if_icmp .gt 5, 3, 12, 0, 0, .null), (10, .iconst 0, 1, 0, 0, 0, .int (0)), (11, .ireturn, 1, 0, 0, 0, .int 1), (12, .aload_n 0, 1, 0, 0, 0, .null), (13, .getfield 11, 3, 3, 0, 96, .null), (16, .iload_n 1, 1, 1, 0, 0, .null), (17, .iload_n 2, 1, 2, 0, 0, .null), (18, .iastore, 1, 0, 0, 0, .null), (19, .iconst 1, 1, 0, 0, 0, .int (1)), (20, .ireturn, 1, 0, 0, 0, .int 1)]
def kc_28 : List (Nat × En) := [(0, .iload_n 2, 1, 2, 0, 0, .null), (1, .aload_n 0, 1, 0, 0, 0, .null), (2, .getfield 15, 3, 3, 1, 99, .null), (5, .iload_n 1, 1, 1, 0, 0, .null), (6, .iaload, 1, 0, 0, 0, .null), (7, .if_icmp .lt 5, 3, 12, 0, 0, .null), (10, .iconst 0, 1, 0, 0, 0, .int (0)), (11, .ireturn, 1, 0, 0, 0, .int 1), (12, .aload_n 0, 1, 0, 0, 0, .null), (13, .getfield 15, 3, 3, 1, 99, .null), (16, .iload_n 1, 1, 1, 0, 0, .null), (17, .iload_n 2, 1, 2, 0, 0, .null), (18, .iastore, 1, 0, 0, 0, .null), (19, .iconst 1, 1, 0, 0, 0, .int (1)), (20, .ireturn, 1, 0, 0, 0, .int 1)]
def kc_29 : List (Nat × En) := [(0, .iload_n 1, 1, 1, 0, 0, .null), (1, .sipush 144, 3, 0, 0, 0, .int (144)), (4, .invokestatic 37, 3, 114, 2, 544, .int 1), (7, .ifCond .eq 16, 3, 23, 0, 0, .null), (10, .aload_n 0, 1, 0, 0, 0, .null), (11, .getfield 21, 3, 4, 4, 149, .null), (14, .iload_n 1, 1, 1, 0, 0, .null), (15, .iaload, 1, 0, 0, 0, .null), (16, .ifCond .le 7, 3, 23, 0, 0, .null), (19, .iconst 1, 1, 0, 0, 0, .int (1)), (20, .goto 4, 3, 24, 0, 0, .null), (23, .iconst 0, 1, 0, 0, 0, .int (0)), (24, .ireturn, 1, 0, 0, 0, .int 1)]
def kc_30 : List (Nat × En) := [(0, .aload_n 0, 1, 0, 0, 0, .null), (1, .getfield 41, 3, 4, 7, 156, .null), (4, .istore 6, 2, 6, 0, 0, .null), (6, .iload 6, 2, 6, 0, 0, .null), (8, .bipush 60, 2, 0, 0, 0, .int (60)), (10, .if_icmp .lt 6, 3, 16, 0, 0, .null), (13, .bipush (-4), 2, 0, 0, 0, .int (-4)), (15, .ireturn, 1, 0, 0, 0, .null), (16, .aload_n 0, 1, 0, 0, 0, .null), (17, .getfield 9, 3, 4, 1, 145, .null), (20, .iload 6, 2, 6, 0, 0, .null), (22, .iload_n 1, 1, 1, 0, 0, .null), (23, .iastore, 1, 0, 0, 0, .null), (24, .aload_n 0, 1, 0, 0, 0, .null), (25, .getfield 15, 3, 4, 2, 147, .null), (28, .iload 6, 2, 6, 0, 0, .null), (30, .iload_n 2, 1, 2, 0, 0, .null), (31, .iastore, 1, 0, 0, 0, .null), (32, .aload_n 0, 1, 0, 0, 0, .null), (33, .getfield 18, 3, 4, 3, 148, .null), (36, .iload 6, 2, 6, 0, 0, .null), (38, .iconst 3, 1, 0, 0, 0, .int (3)), (39, .imul, 1, 0, 0, 0, .null), (40, .iload_n 3, 1, 3, 0, 0, .null), (41, .iastore, 1, 0, 0, 0, .null), (42, .aload_n 0, 1, 0, 0, 0, .null), (43, .getfield 18, 3, 4, 3, 148, .null), (46, .iload 6, 2, 6, 0, 0, .null), (48, .iconst 3, 1, 0, 0, 0, .int (3)), (49, .imul, 1, 0, 0, 0, .null), (50, .iconst 1, 1, 0, 0, 0, .int (1)), (51, .iadd, 1, 0, 0, 0, .null), (52, .iload 4, 2, 4, 0, 0, .null), (54, .iastore, 1, 0, 0, 0, .null), (55, .aload_n 0, 1, 0, 0, 0, .null), (56, .getfield 18, 3, 4, 3, 148, .null), (59, .iload 6, 2, 6, 0, 0, .null), (61, .iconst 3, 1, 0, 0, 0, .int (3)), (62, .imul, 1, 0, 0, 0, .null), (63, .iconst 2, 1, 0, 0, 0, .int (2)), (64, .iadd, 1, 0, 0, 0, .null), (65, .iload 5, 2, 5, 0, 0, .null), (67, .iastore, 1, 0, 0, 0, .null), (68, .aload_n 0, 1, 0, 0, 0, .null), (69, .dup, 1, 0, 0, 0, .null), (70, .getfield 41, 3, 4, 7, 156, .null), (73, .iconst 1, 1, 0, 0, 0, .int (1)), (74, .iadd, 1, 0, 0, 0, .null), (75, .putfield 41, 3, 4, 7, 156, .null), (78, .aload_n 0, 1, 0, 0, 0, .null), (79, .getfield 21, 3, 4, 4, 149, .null), (82, .iload_n 1, 1, 1, 0, 0, .null), (83, .dup2, 1, 0, 0, 0, .null), (84, .iaload, 1, 0, 0, 0, .null), (85, .iconst 1, 1, 0, 0, 0, .int (1)), (86, .iadd, 1, 0, 0, 0, .null), (87, .iastore, 1, 0, 0, 0, .null), (88, .aload_n 0, 1, 0, 0, 0, .null), (89, .invokevirtual 45, 3, 31, 0, 522, .null), (92, .iload 6, 2, 6, 0, 0, .null), (94, .ireturn, 1, 0, 0, 0, .null)]
def kc_31 : List (Nat × En) := [(0, .aload_n 0, 1, 0, 0, 0, .null), (1, .iconst 0, 1, 0, 0, 0, .int (0)), (2, .putfield 48, 3, 4, 9, 161, .null), (5, .iconst 0, 1, 0, 0, 0, .int (0)), (6, .istore_n 1, 1, 1, 0, 0, .null), (7, .iload_n 1, 1, 1, 0, 0, .null), (8, .sipush 144, 3, 0, 0, 0, .int (144)), (11, .if_icmp .ge 38, 3, 49, 0, 0, .null), (14, .aload_n 0, 1, 0, 0, 0, .null), (15, .getfield 21, 3, 4, 4, 149, .null), (18, .iload_n 1, 1, 1, 0, 0, .null), (19, .iaload, 1, 0, 0, 0, .null), (20, .ifCond .le 23, 3, 43, 0, 0, .null), (23, .aload_n 0, 1, 0, 0, 0, .null), (24, .getfield 30, 3, 4, 8, 159, .null), (27, .aload_n 0, 1, 0, 0, 0, .null), (28, .getfield 48, 3, 4, 9, 161, .null), (31, .iload_n 1, 1, 1, 0, 0, .null), (32, .iastore, 1, 0, 0, 0, .null), (33, .aload_n 0, 1, 0, 0, 0, .null), (34, .dup, 1, 0, 0, 0, .null), (35, .getfield 48, 3, 4, 9, 161, .null), (38, .iconst 1, 1, 0, 0, 0, .int (1)), (39, .iadd, 1, 0, 0, 0, .null), (40, .putfield 48, 3, 4, 9, 161, .null), (43, .iinc 1 1, 3, 1, 0, 0, .int (1)), (46, .goto (-39), 3, 7, 0, 0, .null), (49, .return_, 1, 0, 0, 0, .null)]
def kc_32 : List (Nat × En) := [(0, .iconst 0, 1, 0, 0, 0, .int (0)), (1, .istore_n 2, 1, 2, 0, 0, .null), (2, .iload_n 2, 1, 2, 0, 0, .null), (3, .aload_n 0, 1, 0, 0, 0, .null), (4, .getfield 48, 3, 4, 9, 161, .null), (7, .if_icmp .ge 21, 3, 28, 0, 0, .null), (10, .aload_n 0, 1, 0, 0, 0, .null), (11, .getfield 30, 3, 4, 8, 159, .null), (14, .iload_n 2, 1, 2, 0, 0, .null), (15, .iaload, 1, 0, 0, 0, .null), (16, .iload_n 1, 1, 1, 0, 0, .null), (17, .if_icmp .ne 5, 3, 22, 0, 0, .null), (20, .iload_n 2, 1, 2, 0, 0, .null), (21, .ireturn, 1, 0, 0, 0, .null), (22, .iinc 2 1, 3, 2, 0, 0, .int (1)), (25, .goto (-23), 3, 2, 0, 0, .null), (28, .iconst 0, 1, 0, 0, 0, .int (0)), (29, .ireturn, 1, 0, 0, 0, .null)]
def kc_33 : List (Nat × En) := [(0, .aload_n 0, 1, 0, 0, 0, .null), (1, .getfield 18, 3, 4, 3, 148, .null), (4, .iload_n 1, 1, 1, 0, 0, .null), (5, .iconst 3, 1, 0, 0, 0, .int (3)), (6, .imul, 1, 0, 0, 0, .null), (7, .iload_n 2, 1, 2, 0, 0, .null), (8, .iadd, 1, 0, 0, 0, .null), (9, .iaload, 1, 0, 0, 0, .null), (10, .aload_n 0, 1, 0, 0, 0, .null), (11, .getfield 33, 3, 4, 0, 144, .null), (14, .getfield 51, 3, 3, 1, 101, .null), (17, .aload_n 0, 1, 0, 0, 0, .null), (18, .getfield 15, 3, 4, 2, 147, .null), (21, .iload_n 1, 1, 1, 0, 0, .null), (22, .iaload, 1, 0, 0, 0, .null), (23, .iconst 3, 1, 0, 0, 0, .int (3)), (24, .imul, 1, 0, 0, 0, .null), (25, .iload_n 2, 1, 2, 0, 0, .null), (26, .iadd, 1, 0, 0, 0, .null), (27, .iaload, 1, 0, 0, 0, .null), (28, .isub, 1, 0, 0, 0, .null), (29, .aload_n 0, 1, 0, 0, 0, .null), (30, .getfield 33, 3, 4, 0, 144, .null), (33, .getfield 56, 3, 3, 10, 113, .null), (36, .isub, 1, 0, 0, 0, .null), (37, .ireturn, 1, 0, 0, 0, .null)]
def kc_34 : List (Nat × En) := [(0, .aload_n 0, 1, 0, 0, 0, .null), (1, .getfield 18, 3, 4, 3, 148, .null), (4, .iload_n 1, 1, 1, 0, 0, .null), (5, .iconst 3, 1, 0, 0, 0, .int (3)), (6, .imul, 1, 0, 0, 0, .null), (7, .iload_n 2, 1, 2, 0, 0, .null), (8, .iadd, 1, 0, 0, 0, .null), (9, .iaload, 1, 0, 0, 0, .null), (10, .aload_n 0, 1, 0, 0, 0, .null), (11, .getfield 33, 3, 4, 0, 144, .null), (14, .getfield 59, 3, 3, 0, 98, .null), (17, .aload_n 0, 1, 0, 0, 0, .null), (18, .getfield 15, 3, 4, 2, 147, .null), (21, .iload_n 1, 1, 1, 0, 0, .null), (22, .iaload, 1, 0, 0, 0, .null), (23, .iconst 3, 1, 0, 0, 0, .int (3)), (24, .imul, 1, 0, 0, 0, .null), (25, .iload_n 2, 1, 2, 0, 0, .null), (26, .iadd, 1, 0, 0, 0, .null), (27, .iaload, 1, 0, 0, 0, .null), (28, .isub, 1, 0, 0, 0, .null), (29, .aload_n 0, 1, 0, 0, 0, .null), (30, .getfield 33, 3, 4, 0, 144, .null), (33, .getfield 56, 3, 3, 10, 113, .null), (36, .iadd, 1, 0, 0, 0, .null), (37, .ireturn, 1, 0, 0, 0, .null)]
def kc_35 : List (Nat × En) := [(0, .aload_n 0, 1, 0, 0, 0, .null), (1, .getfield 24, 3, 4, 5, 152, .null), (4, .ldc 62, 2, 0, 0, 479, .int (1000000)), (6, .invokestatic 63, 3, 211, 2, 480, .null), (9, .aload_n 0, 1, 0, 0, 0, .null), (10, .getfield 27, 3, 4, 6, 154, .null), (13, .ldc 69, 2, 0, 0, 481, .int (-1000000)), (15, .invokestatic 63, 3, 211, 2, 480, .null), (18, .iconst 0, 1, 0, 0, 0, .int (0)), (19, .istore_n 1, 1, 1, 0, 0, .null), (20, .iload_n 1, 1, 1, 0, 0, .null), (21, .aload_n 0, 1, 0, 0, 0, .null), (22, .getfield 41, 3, 4, 7, 156, .null), (25, .if_icmp .ge 75, 3, 100, 0, 0, .null), (28, .iconst 0, 1, 0, 0, 0, .int (0)), (29, .istore_n 2, 1, 2, 0, 0, .null), (30, .iload_n 2, 1, 2, 0, 0, .null), (31, .iconst 3, 1, 0, 0, 0, .int (3)), (32, .if_icmp .ge 62, 3, 94, 0, 0, .null), (35, .aload_n 0, 1, 0, 0, 0, .null), (36, .getfield 9, 3, 4, 1, 145, .null), (39, .iload_n 1, 1, 1, 0, 0, .null), (40, .iaload, 1, 0, 0, 0, .null), (41, .iconst 3, 1, 0, 0, 0, .int (3)), (42, .imul, 1, 0, 0, 0, .null), (43, .iload_n 2, 1, 2, 0, 0, .null), (44, .iadd, 1, 0, 0, 0, .null), (45, .istore_n 3, 1, 3, 0, 0, .null), (46, .aload_n 0, 1, 0, 0, 0, .null), (47, .getfield 24, 3, 4, 5, 152, .null), (50, .iload_n 3, 1, 3, 0, 0, .null), (51, .aload_n 0, 1, 0, 0, 0, .null), (52, .getfield 24, 3, 4, 5, 152, .null), (55, .iload_n 3, 1, 3, 0, 0, .null), (56, .iaload, 1, 0, 0, 0, .null), (57, .aload_n 0, 1, 0, 0, 0, .null), (58, .iload_n 1, 1, 1, 0, 0, .null), (59, .iload_n 2, 1, 2, 0, 0, .null), (60, .invokevirtual 70, 3, 33, 2, 482, .null), (63, .invokestatic 74, 3, 0, 103, 486, .null), (66, .iastore, 1, 0, 0, 0, .null), (67, .aload_n 0, 1, 0, 0, 0, .null), (68, .getfield 27, 3, 4, 6, 154, .null), (71, .iload_n 3, 1, 3, 0, 0, .null), (72, .aload_n 0, 1, 0, 0, 0, .null), (73, .getfield 27, 3, 4, 6, 154, .null), (76, .iload_n 3, 1, 3, 0, 0, .null), (77, .iaload, 1, 0, 0, 0, .null), (78, .aload_n 0, 1, 0, 0, 0, .null), (79, .iload_n 1, 1, 1, 0, 0, .null), (80, .iload_n 2, 1, 2, 0, 0, .null), (81, .invokevirtual 79, 3, 34, 2, 489, .null), (84, .invokestatic 82, 3, 0, 102, 493, .null), (87, .iastore, 1, 0, 0, 0, .null), (88, .iinc 2 1, 3, 2, 0, 0, .int (1)), (91, .goto (-61), 3, 30, 0, 0, .null), (94, .iinc 1 1, 3, 1, 0, 0, .int (1)), (97, .goto (-77), 3, 20, 0, 0, .null), (100, .return_, 1, 0, 0, 0, .null)]
def kc_36 : List (Nat × En) := [(0, .iload_n 1, 1, 1, 0, 0, .null), (1, .iconst 3, 1, 0, 0, 0, .int (3)), (2, .imul, 1, 0, 0, 0, .null), (3, .iload_n 3, 1, 3, 0, 0, .null), (4, .iadd, 1, 0, 0, 0, .null), (5, .istore 4, 2, 4, 0, 0, .null), (7, .iload_n 2, 1, 2, 0, 0, .null), (8, .iconst 3, 1, 0, 0, 0, .int (3)), (9, .imul, 1, 0, 0, 0, .null), (10, .iload_n 3, 1, 3, 0, 0, .null), (11, .iadd, 1, 0, 0, 0, .null), (12, .istore 5, 2, 5, 0, 0, .null), (14, .aload_n 0, 1, 0, 0, 0, .null), (15, .getfield 24, 3, 4, 5, 152, .null), (18, .iload 4, 2, 4, 0, 0, .null), (20, .iaload, 1, 0, 0, 0, .null), (21, .aload_n 0, 1, 0, 0, 0, .null), (22, .getfield 27, 3, 4, 6, 154, .null), (25, .iload 4, 2, 4, 0, 0, .null), (27, .iaload, 1, 0, 0, 0, .null), (28, .aload_n 0, 1, 0, 0, 0, .null), (29, .getfield 24, 3, 4, 5, 152, .null), (32, .iload 5, 2, 5, 0, 0, .null), (34, .iaload, 1, 0, 0, 0, .null), (35, .aload_n 0, 1, 0, 0, 0, .null), (36, .getfield 27, 3, 4, 6, 154, .null), (39, .iload 5, 2, 5, 0, 0, .null), (41, .iaload, 1, 0, 0, 0, .null), (42, .invokestatic 85, 3, 117, 4, 597, .int 1), (45, .ireturn, 1, 0, 0, 0, .null)]
def kc_37 : List (Nat × En) := [(0, .iload_n 1, 1, 1, 0, 0, .null), (1, .iconst 3, 1, 0, 0, 0, .int (3)), (2, .imul, 1, 0, 0, 0, .null), (3, .iload_n 2, 1, 2, 0, 0, .null), (4, .iadd, 1, 0, 0, 0, .null), (5, .istore 4, 2, 4, 0, 0, .null), (7, .aload_n 0, 1, 0, 0, 0, .null), (8, .getfield 24, 3, 4, 5, 152, .null), (11, .iload 4, 2, 4, 0, 0, .null), (13, .iaload, 1, 0, 0, 0, .null), (14, .aload_n 0, 1, 0, 0, 0, .null), (15, .getfield 27, 3, 4, 6, 154, .null), (18, .iload 4, 2, 4, 0, 0, .null), (20, .iaload, 1, 0, 0, 0, .null), (21, .iload_n 3, 1, 3, 0, 0, .null), (22, .iload_n 3, 1, 3, 0, 0, .null), (23, .invokestatic 85, 3, 117, 4, 597, .int 1), (26, .ireturn, 1, 0, 0, 0, .null)]
def kc_38 : List (Nat × En) := [(0, .iconst 0, 1, 0, 0, 0, .int (0)), (1, .istore_n 3, 1, 3, 0, 0, .null), (2, .iload_n 3, 1, 3, 0, 0, .null), (3, .iconst 3, 1, 0, 0, 0, .int (3)), (4, .if_icmp .ge 59, 3, 63, 0, 0, .null), (7, .iload_n 1, 1, 1, 0, 0, .null), (8, .iconst 3, 1, 0, 0, 0, .int (3)), (9, .imul, 1, 0, 0, 0, .null), (10, .iload_n 3, 1, 3, 0, 0, .null), (11, .iadd, 1, 0, 0, 0, .null), (12, .istore 4, 2, 4, 0, 0, .null), (14, .iload_n 2, 1, 2, 0, 0, .null), (15, .iconst 3, 1, 0, 0, 0, .int (3)), (16, .imul, 1, 0, 0, 0, .null), (17, .iload_n 3, 1, 3, 0, 0, .null), (18, .iadd, 1, 0, 0, 0, .null), (19, .istore 5, 2, 5, 0, 0, .null), (21, .aload_n 0, 1, 0, 0, 0, .null), (22, .getfield 24, 3, 4, 5, 152, .null), (25, .iload 5, 2, 5, 0, 0, .null), (27, .iaload, 1, 0, 0, 0, .null), (28, .aload_n 0, 1, 0, 0, 0, .null), (29, .getfield 24, 3, 4, 5, 152, .null), (32, .iload 4, 2, 4, 0, 0, .null), (34, .iaload, 1, 0, 0, 0, .null), (35, .if_icmp .lt 20, 3, 55, 0, 0, .null), (38, .aload_n 0, 1, 0, 0, 0, .null), (39, .getfield 27, 3, 4, 6, 154, .null), (42, .iload 5, 2, 5, 0, 0, .null), (44, .iaload, 1, 0, 0, 0, .null), (45, .aload_n 0, 1, 0, 0, 0, .null), (46, .getfield 27, 3, 4, 6, 154, .null), (49, .iload 4, 2, 4, 0, 0, .null), (51, .iaload, 1, 0, 0, 0, .null), (52, .if_icmp .le 5, 3, 57, 0, 0, .null), (55, .iconst 0, 1, 0, 0, 0, .int (0)), (56, .ireturn, 1, 0, 0, 0, .int 1), (57, .iinc 3 1, 3, 3, 0, 0, .int (1)), (60, .goto (-58), 3, 2, 0, 0, .null), (63, .iconst 1, 1, 0, 0, 0, .int (1)), (64, .ireturn, 1, 0, 0, 0, .int 1)]
def kc_39 : List (Nat × En) := [(0, .iload_n 1, 1, 1, 0, 0, .null), (1, .bipush 6, 2, 0, 0, 0, .int (6)), (3, .invokestatic 28, 3, 114, 2, 711, .int 1), (6, .ifCond .eq 18, 3, 24, 0, 0, .null), (9, .aload_n 0, 1, 0, 0, 0, .null), (10, .getfield 32, 3, 5, 5, 327, .null), (13, .iload_n 1, 1, 1, 0, 0, .null), (14, .ishr, 1, 0, 0, 0, .null), (15, .iconst 1, 1, 0, 0, 0, .int (1)), (16, .iand, 1, 0, 0, 0, .null), (17, .ifCond .eq 7, 3, 24, 0, 0, .null), (20, .iconst 1, 1, 0, 0, 0, .int (1)), (21, .goto 4, 3, 25, 0, 0, .null), (24, .iconst 0, 1, 0, 0, 0, .int (0)), (25, .ireturn, 1, 0, 0, 0, .int 1)]
def kc_40 : List (Nat × En) := [(0, .aload_n 0, 1, 0, 0, 0, .null), (1, .getfield 9, 3, 5, 1, 321, .null), (4, .iload_n 1, 1, 1, 0, 0, .null), (5, .iconst 3, 1, 0, 0, 0, .int (3)), (6, .imul, 1, 0, 0, 0, .null), (7, .iload_n 2, 1, 2, 0, 0, .null), (8, .iastore, 1, 0, 0, 0, .null), (9, .aload_n 0, 1, 0, 0, 0, .null), (10, .getfield 9, 3, 5, 1, 321, .null), (13, .iload_n 1, 1, 1, 0, 0, .null), (14, .iconst 3, 1, 0, 0, 0, .int (3)), (15, .imul, 1, 0, 0, 0, .null), (16, .iconst 1, 1, 0, 0, 0, .int (1)), (17, .iadd, 1, 0, 0, 0, .null), (18, .iload_n 3, 1, 3, 0, 0, .null), (19, .iastore, 1, 0, 0, 0, .null), (20, .aload_n 0, 1, 0, 0, 0, .null), (21, .getfield 9, 3, 5, 1, 321, .null), (24, .iload_n 1, 1, 1, 0, 0, .null), (25, .iconst 3, 1, 0, 0, 0, .int (3)), (26, .imul, 1, 0, 0, 0, .null), (27, .iconst 2, 1, 0, 0, 0, .int (2)), (28, .iadd, 1, 0, 0, 0, .null), (29, .iload 4, 2, 4, 0, 0, .null), (31, .iastore, 1, 0, 0, 0, .null), (32, .aload_n 0, 1, 0, 0, 0, .null), (33, .getfield 15, 3, 5, 2, 322, .null), (36, .iload_n 1, 1, 1, 0, 0, .null), (37, .iload 5, 2, 5, 0, 0, .null), (39, .iastore, 1, 0, 0, 0, .null), (40, .aload_n 0, 1, 0, 0, 0, .null), (41, .dup, 1, 0, 0, 0, .null), (42, .getfield 32, 3, 5, 5, 327, .null), (45, .iconst 1, 1, 0, 0, 0, .int (1)), (46, .iload_n 1, 1, 1, 0, 0, .null), (47, .ishl, 1, 0, 0, 0, .null), (48, .ior, 1, 0, 0, 0, .null), (49, .putfield 32, 3, 5, 5, 327, .null), (52, .return_, 1, 0, 0, 0, .null)]
def kc_41 : List (Nat × En) := [(0, .iconst 1, 1, 0, 0, 0, .int (1)), (1, .istore_n 3, 1, 3, 0, 0, .null), (2, .iconst 0, 1, 0, 0, 0, .int (0)), (3, .istore 4, 2, 4, 0, 0, .null), (5, .iload 4, 2, 4, 0, 0, .null), (7, .iconst 3, 1, 0, 0, 0, .int (3)), (8, .if_icmp .ge 82, 3, 90, 0, 0, .null), (11, .aload_n 0, 1, 0, 0, 0, .null), (12, .getfield 24, 3, 5, 0, 320, .null), (15, .iload_n 1, 1, 1, 0, 0, .null), (16, .iload 4, 2, 4, 0, 0, .null), (18, .invokevirtual 36, 3, 33, 2, 728, .null), (21, .aload_n 0, 1, 0, 0, 0, .null), (22, .getfield 24, 3, 5, 0, 320, .null), (25, .iload_n 1, 1, 1, 0, 0, .null), (26, .iload 4, 2, 4, 0, 0, .null), (28, .invokevirtual 42, 3, 34, 2, 729, .null), (31, .iadd, 1, 0, 0, 0, .null), (32, .istore 5, 2, 5, 0, 0, .null), (34, .iload 5, 2, 5, 0, 0, .null), (36, .iconst 2, 1, 0, 0, 0, .int (2)), (37, .aload_n 0, 1, 0, 0, 0, .null), (38, .getfield 9, 3, 5, 1, 321, .null), (41, .iload_n 2, 1, 2, 0, 0, .null), (42, .iconst 3, 1, 0, 0, 0, .int (3)), (43, .imul, 1, 0, 0, 0, .null), (44, .iload 4, 2, 4, 0, 0, .null), (46, .iadd, 1, 0, 0, 0, .null), (47, .iaload, 1, 0, 0, 0, .null), (48, .imul, 1, 0, 0, 0, .null), (49, .isub, 1, 0, 0, 0, .null), (50, .invokestatic 45, 3, 0, 101, 730, .null), (53, .iconst 2, 1, 0, 0, 0, .int (2)), (54, .idiv, 1, 0, 0, 0, .null), (55, .istore 6, 2, 6, 0, 0, .null), (57, .iload 6, 2, 6, 0, 0, .null), (59, .aload_n 0, 1, 0, 0, 0, .null), (60, .getfield 15, 3, 5, 2, 322, .null), (63, .iload_n 2, 1, 2, 0, 0, .null), (64, .iaload, 1, 0, 0, 0, .null), (65, .isub, 1, 0, 0, 0, .null), (66, .iconst 0, 1, 0, 0, 0, .int (0)), (67, .invokestatic 51, 3, 0, 102, 733, .null), (70, .istore 7, 2, 7, 0, 0, .null), (72, .iload_n 3, 1, 3, 0, 0, .null), (73, .bipush 9, 2, 0, 0, 0, .int (9)), (75, .iload 7, 2, 7, 0, 0, .null), (77, .isub, 1, 0, 0, 0, .null), (78, .iconst 0, 1, 0, 0, 0, .int (0)), (79, .invokestatic 51, 3, 0, 102, 733, .null), (82, .imul, 1, 0, 0, 0, .null), (83, .istore_n 3, 1, 3, 0, 0, .null), (84, .iinc 4 1, 3, 4, 0, 0, .int (1)), (87, .goto (-82), 3, 5, 0, 0, .null), (90, .iload_n 3, 1, 3, 0, 0, .null), (91, .ireturn, 1, 0, 0, 0, .null)]
def kc_42 : List (Nat × En) := [(0, .lconst 1, 1, 0, 0, 0, .long 1), (1, .lstore_n 3, 1, 3, 0, 0, .null), (2, .iconst 0, 1, 0, 0, 0, .int (0)), (3, .istore 5, 2, 5, 0, 0, .null), (5, .iconst 0, 1, 0, 0, 0, .int (0)), (6, .istore 6, 2, 6, 0, 0, .null), (8, .iload 6, 2, 6, 0, 0, .null), (10, .aload_n 0, 1, 0, 0, 0, .null), (11, .getfield 24, 3, 5, 0, 320, .null), (14, .getfield 54, 3, 4, 7, 157, .null), (17, .if_icmp .ge 46, 3, 63, 0, 0, .null), (20, .iload 5, 2, 5, 0, 0, .null), (22, .iconst 5, 1, 0, 0, 0, .int (5)), (23, .if_icmp .ge 40, 3, 63, 0, 0, .null), (26, .aload_n 0, 1, 0, 0, 0, .null), (27, .getfield 24, 3, 5, 0, 320, .null), (30, .getfield 57, 3, 4, 1, 146, .null), (33, .iload 6, 2, 6, 0, 0, .null), (35, .iaload, 1, 0, 0, 0, .null), (36, .iload_n 1, 1, 1, 0, 0, .null), (37, .if_icmp .eq 6, 3, 43, 0, 0, .null), (40, .goto 17, 3, 57, 0, 0, .null), (43, .lload_n 3, 1, 3, 0, 0, .null), (44, .aload_n 0, 1, 0, 0, 0, .null), (45, .iload 6, 2, 6, 0, 0, .null), (47, .iload_n 2, 1, 2, 0, 0, .null), (48, .invokevirtual 60, 3, 41, 2, 744, .null), (51, .i2l, 1, 0, 0, 0, .null), (52, .lmul, 1, 0, 0, 0, .null), (53, .lstore_n 3, 1, 3, 0, 0, .null), (54, .iinc 5 1, 3, 5, 0, 0, .int (1)), (57, .iinc 6 1, 3, 6, 0, 0, .int (1)), (60, .goto (-52), 3, 8, 0, 0, .null), (63, .lload_n 3, 1, 3, 0, 0, .null), (64, .lreturn, 1, 0, 0, 0, .null)]
def kc_43 : List (Nat × En) := [(0, .aload_n 0, 1, 0, 0, 0, .null), (1, .getfield 18, 3, 5, 3, 323, .null), (4, .bipush 6, 2, 0, 0, 0, .int (6)), (6, .iload_n 2, 1, 2, 0, 0, .null), (7, .iadd, 1, 0, 0, 0, .null), (8, .iaload, 1, 0, 0, 0, .null), (9, .aload_n 0, 1, 0, 0, 0, .null), (10, .getfield 18, 3, 5, 3, 323, .null), (13, .iload_n 1, 1, 1, 0, 0, .null), (14, .iaload, 1, 0, 0, 0, .null), (15, .isub, 1, 0, 0, 0, .null), (16, .istore_n 3, 1, 3, 0, 0, .null), (17, .aload_n 0, 1, 0, 0, 0, .null), (18, .getfield 21, 3, 5, 4, 325, .null), (21, .bipush 6, 2, 0, 0, 0, .int (6)), (23, .iload_n 2, 1, 2, 0, 0, .null), (24, .iadd, 1, 0, 0, 0, .null), (25, .iaload, 1, 0, 0, 0, .null), (26, .aload_n 0, 1, 0, 0, 0, .null), (27, .getfield 21, 3, 5, 4, 325, .null), (30, .iload_n 1, 1, 1, 0, 0, .null), (31, .iaload, 1, 0, 0, 0, .null), (32, .isub, 1, 0, 0, 0, .null), (33, .istore 4, 2, 4, 0, 0, .null), (35, .iload_n 3, 1, 3, 0, 0, .null), (36, .ifCond .ne 11, 3, 47, 0, 0, .null), (39, .iload 4, 2, 4, 0, 0, .null), (41, .ifCond .ne 6, 3, 47, 0, 0, .null), (44, .bipush (-6), 2, 0, 0, 0, .int (-6)), (46, .ireturn, 1, 0, 0, 0, .null), (47, .iload_n 3, 1, 3, 0, 0, .null), (48, .invokestatic 45, 3, 0, 101, 730, .null), (51, .istore 5, 2, 5, 0, 0, .null), (53, .iload 4, 2, 4, 0, 0, .null), (55, .invokestatic 45, 3, 0, 101, 730, .null), (58, .istore 6, 2, 6, 0, 0, .null), (60, .iload 6, 2, 6, 0, 0, .null), (62, .iconst 2, 1, 0, 0, 0, .int (2)), (63, .iload 5, 2, 5, 0, 0, .null), (65, .imul, 1, 0, 0, 0, .null), (66, .if_icmp .le 14, 3, 80, 0, 0, .null), (69, .iload 4, 2, 4, 0, 0, .null), (71, .ifCond .ge 7, 3, 78, 0, 0, .null), (74, .iconst 0, 1, 0, 0, 0, .int (0)), (75, .goto 4, 3, 79, 0, 0, .null), (78, .iconst 4, 1, 0, 0, 0, .int (4)), (79, .ireturn, 1, 0, 0, 0, .null), (80, .iload 5, 2, 5, 0, 0, .null), (82, .iconst 2, 1, 0, 0, 0, .int (2)), (83, .iload 6, 2, 6, 0, 0, .null), (85, .imul, 1, 0, 0, 0, .null), (86, .if_icmp .le 14, 3, 100, 0, 0, .null), (89, .iload_n 3, 1, 3, 0, 0, .null), (90, .ifCond .le 7, 3, 97, 0, 0, .null), (93, .iconst 2, 1, 0, 0, 0, .int (2)), (94, .goto 5, 3, 99, 0, 0, .null), (97, .bipush 6, 2, 0, 0, 0, .int (6)), (99, .ireturn, 1, 0, 0, 0, .null), (100, .iload_n 3, 1, 3, 0, 0, .null), (101, .ifCond .le 14, 3, 115, 0, 0, .null), (104, .iload 4, 2, 4, 0, 0, .null), (106, .ifCond .ge 7, 3, 113, 0, 0, .null), (109, .iconst 1, 1, 0, 0, 0, .int (1)), (110, .goto 4, 3, 114, 0, 0, .null), (113, .iconst 3, 1, 0, 0, 0, .int (3)), (114, .ireturn, 1, 0, 0, 0, .null), (115, .iload 4, 2, 4, 0, 0, .null), (117, .ifCond .ge 8, 3, 125, 0, 0, .null), (120, .bipush 7, 2, 0, 0, 0, .int (7)), (122, .goto 4, 3, 126, 0, 0, .null), (125, .iconst 5, 1, 0, 0, 0, .int (5)), (126, .ireturn, 1, 0, 0, 0, .null)]
def kc_44 : List (Nat × En) := [(0, .iconst 0, 1, 0, 0, 0, .int (0)), (1, .istore_n 1, 1, 1, 0, 0, .null), (2, .iconst 0, 1, 0, 0, 0, .int (0)), (3, .istore_n 2, 1, 2, 0, 0, .null), (4, .iload_n 2, 1, 2, 0, 0, .null), (5, .aload_n 0, 1, 0, 0, 0, .null), (6, .getfield 27, 3, 6, 1, 260, .null), (9, .if_icmp .ge 27, 3, 36, 0, 0, .null), (12, .iload_n 1, 1, 1, 0, 0, .null), (13, .aload_n 0, 1, 0, 0, 0, .null), (14, .getfield 9, 3, 6, 0, 258, .null), (17, .iload_n 2, 1, 2, 0, 0, .null), (18, .iaload, 1, 0, 0, 0, .null), (19, .invokestatic 31, 3, 45, 2, 561, .null), (22, .istore_n 1, 1, 1, 0, 0, .null), (23, .iload_n 1, 1, 1, 0, 0, .null), (24, .iconst (-1), 1, 0, 0, 0, .int (-1)), (25, .if_icmp .ne 5, 3, 30, 0, 0, .null), (28, .iload_n 2, 1, 2, 0, 0, .null), (29, .ireturn, 1, 0, 0, 0, .null), (30, .iinc 2 1, 3, 2, 0, 0, .int (1)), (33, .goto (-29), 3, 4, 0, 0, .null), (36, .iload_n 1, 1, 1, 0, 0, .null), (37, .iconst 2, 1, 0, 0, 0, .int (2)), (38, .if_icmp .le 8, 3, 46, 0, 0, .null), (41, .bipush (-6), 2, 0, 0, 0, .int (-6)), (43, .goto 7, 3, 50, 0, 0, .null), (46, .aload_n 0, 1, 0, 0, 0, .null), (47, .getfield 27, 3, 6, 1, 260, .null), (50, .ireturn, 1, 0, 0, 0, .null)]
def kc_45 : List (Nat × En) := [(0, .iload_n 0, 1, 0, 0, 0, .null), (1, .ifCond .ne 16, 3, 17, 0, 0, .null), (4, .iload_n 1, 1, 1, 0, 0, .null), (5, .invokestatic 35, 3, 46, 1, 564, .null), (8, .ifCond .eq 7, 3, 15, 0, 0, .null), (11, .iconst 1, 1, 0, 0, 0, .int (1)), (12, .goto 4, 3, 16, 0, 0, .null), (15, .iconst (-1), 1, 0, 0, 0, .int (-1)), (16, .ireturn, 1, 0, 0, 0, .null), (17, .iload_n 0, 1, 0, 0, 0, .null), (18, .iconst 1, 1, 0, 0, 0, .int (1)), (19, .if_icmp .ne 16, 3, 35, 0, 0, .null), (22, .iload_n 1, 1, 1, 0, 0, .null), (23, .invokestatic 39, 3, 47, 1, 567, .null), (26, .ifCond .eq 7, 3, 33, 0, 0, .null), (29, .iconst 2, 1, 0, 0, 0, .int (2)), (30, .goto 4, 3, 34, 0, 0, .null), (33, .iconst (-1), 1, 0, 0, 0, .int (-1)), (34, .ireturn, 1, 0, 0, 0, .null), (35, .iload_n 1, 1, 1, 0, 0, .null), (36, .invokestatic 42, 3, 48, 1, 570, .null), (39, .ifCond .eq 16, 3, 55, 0, 0, .null), (42, .iload_n 0, 1, 0, 0, 0, .null), (43, .iconst 5, 1, 0, 0, 0, .int (5)), (44, .if_icmp .ge 9, 3, 53, 0, 0, .null), (47, .iload_n 0, 1, 0, 0, 0, .null), (48, .iconst 1, 1, 0, 0, 0, .int (1)), (49, .iadd, 1, 0, 0, 0, .null), (50, .goto 4, 3, 54, 0, 0, .null), (53, .iconst (-1), 1, 0, 0, 0, .int (-1)), (54, .ireturn, 1, 0, 0, 0, .null), (55, .iload_n 1, 1, 1, 0, 0, .null), (56, .bipush 38, 2, 0, 0, 0, .int (38)), (58, .if_icmp .eq 9, 3, 67, 0, 0, .null), (61, .iload_n 1, 1, 1, 0, 0, .null), (62, .bipush 124, 2, 0, 0, 0, .int (124)), (64, .if_icmp .ne 7, 3, 71, 0, 0, .null), (67, .iconst 1, 1, 0, 0, 0, .int (1)), (68, .goto 4, 3, 72, 0, 0, .null), (71, .iconst 0, 1, 0, 0, 0, .int (0)), (72, .istore_n 2, 1, 2, 0, 0, .null), (73, .iload_n 2, 1, 2, 0, 0, .null), (74, .ifCond .eq 12, 3, 86, 0, 0, .null), (77, .iload_n 0, 1, 0, 0, 0, .null), (78, .iconst 2, 1, 0, 0, 0, .int (2)), (79, .if_icmp .le 7, 3, 86, 0, 0, .null), (82, .iconst 0, 1, 0, 0, 0, .int (0)), (83, .goto 4, 3, 87, 0, 0, .null), (86, .iconst (-1), 1, 0, 0, 0, .int (-1)), (87, .ireturn, 1, 0, 0, 0, .null)]
def kc_46 : List (Nat × En) := [(0, .iload_n 0, 1, 0, 0, 0, .null), (1, .bipush 103, 2, 0, 0, 0, .int (103)), (3, .if_icmp .eq 27, 3, 30, 0, 0, .null), (6, .iload_n 0, 1, 0, 0, 0, .null), (7, .bipush 97, 2, 0, 0, 0, .int (97)), (9, .if_icmp .eq 21, 3, 30, 0, 0, .null), (12, .iload_n 0, 1, 0, 0, 0, .null), (13, .bipush 98, 2, 0, 0, 0, .int (98)), (15, .if_icmp .eq 15, 3, 30, 0, 0, .null), (18, .iload_n 0, 1, 0, 0, 0, .null), (19, .bipush 99, 2, 0, 0, 0, .int (99)), (21, .if_icmp .eq 9, 3, 30, 0, 0, .null), (24, .iload_n 0, 1, 0, 0, 0, .null), (25, .bipush 121, 2, 0, 0, 0, .int (121)), (27, .if_icmp .ne 7, 3, 34, 0, 0, .null), (30, .iconst 1, 1, 0, 0, 0, .int (1)), (31, .goto 4, 3, 35, 0, 0, .null), (34, .iconst 0, 1, 0, 0, 0, .int (0)), (35, .ireturn, 1, 0, 0, 0, .int 1)]
def kc_47 : List (Nat × En) := [(0, .iload_n 0, 1, 0, 0, 0, .null), (1, .bipush 60, 2, 0, 0, 0, .int (60)), (3, .if_icmp .eq 15, 3, 18, 0, 0, .null), (6, .iload_n 0, 1, 0, 0, 0, .null), (7, .bipush 62, 2, 0, 0, 0, .int (62)), (9, .if_icmp .eq 9, 3, 18, 0, 0, .null), (12, .iload_n 0, 1, 0, 0, 0, .null), (13, .bipush 61, 2, 0, 0, 0, .int (61)), (15, .if_icmp .ne 7, 3, 22, 0, 0, .null), (18, .iconst 1, 1, 0, 0, 0, .int (1)), (19, .goto 4, 3, 23, 0, 0, .null), (22, .iconst 0, 1, 0, 0, 0, .int (0)), (23, .ireturn, 1, 0, 0, 0, .int 1)]
def kc_48 : List (Nat × En) := [(0, .iload_n 0, 1, 0, 0, 0, .null), (1, .bipush 48, 2, 0, 0, 0, .int (48)), (3, .if_icmp .lt 13, 3, 16, 0, 0, .null), (6, .iload_n 0, 1, 0, 0, 0, .null), (7, .bipush 57, 2, 0, 0, 0, .int (57)), (9, .if_icmp .gt 7, 3, 16, 0, 0, .null), (12, .iconst 1, 1, 0, 0, 0, .int (1)), (13, .goto 4, 3, 17, 0, 0, .null), (16, .iconst 0, 1, 0, 0, 0, .int (0)), (17, .ireturn, 1, 0, 0, 0, .int 1)]
def kc_49 : List (Nat × En) := [(0, .aload_n 0, 1, 0, 0, 0, .null), (1, .iconst 0, 1, 0, 0, 0, .int (0)), (2, .putfield 45, 3, 6, 6, 269, .null), (5, .aload_n 0, 1, 0, 0, 0, .null), (6, .iconst 1, 1, 0, 0, 0, .int (1)), (7, .putfield 48, 3, 6, 7, 271, .null), (10, .aload_n 0, 1, 0, 0, 0, .null), (11, .iconst 0, 1, 0, 0, 0, .int (0)), (12, .putfield 51, 3, 6, 8, 273, .int 1), (15, .iconst 0, 1, 0, 0, 0, .int (0)), (16, .istore_n 1, 1, 1, 0, 0, .null), (17, .iload_n 1, 1, 1, 0, 0, .null), (18, .aload_n 0, 1, 0, 0, 0, .null), (19, .getfield 27, 3, 6, 1, 260, .null), (22, .if_icmp .ge 123, 3, 145, 0, 0, .null), (25, .aload_n 0, 1, 0, 0, 0, .null), (26, .getfield 9, 3, 6, 0, 258, .null), (29, .iload_n 1, 1, 1, 0, 0, .null), (30, .iaload, 1, 0, 0, 0, .null), (31, .istore_n 2, 1, 2, 0, 0, .null), (32, .iload_n 2, 1, 2, 0, 0, .null), (33, .invokestatic 35, 3, 46, 1, 564, .null), (36, .ifCond .eq 11, 3, 47, 0, 0, .null), (39, .aload_n 0, 1, 0, 0, 0, .null), (40, .iload_n 2, 1, 2, 0, 0, .null), (41, .invokevirtual 55, 3, 50, 1, 581, .null), (44, .goto 95, 3, 139, 0, 0, .null), (47, .iload_n 2, 1, 2, 0, 0, .null), (48, .bipush 124, 2, 0, 0, 0, .int (124)), (50, .if_icmp .ne 16, 3, 66, 0, 0, .null), (53, .aload_n 0, 1, 0, 0, 0, .null), (54, .dup, 1, 0, 0, 0, .null), (55, .getfield 48, 3, 6, 7, 271, .null), (58, .iconst 1, 1, 0, 0, 0, .int (1)), (59, .iadd, 1, 0, 0, 0, .null), (60, .putfield 48, 3, 6, 7, 271, .null), (63, .goto 76, 3, 139, 0, 0, .null), (66, .aload_n 0, 1, 0, 0, 0, .null), (67, .getfield 45, 3, 6, 6, 269, .null), (70, .ifCond .le 25, 3, 95, 0, 0, .null), (73, .iload_n 2, 1, 2, 0, 0, .null), (74, .invokestatic 39, 3, 47, 1, 567, .null), (77, .ifCond .eq 18, 3, 95, 0, 0, .null), (80, .aload_n 0, 1, 0, 0, 0, .null), (81, .getfield 18, 3, 6, 3, 264, .null), (84, .aload_n 0, 1, 0, 0, 0, .null), (85, .getfield 45, 3, 6, 6, 269, .null), (88, .iconst 1, 1, 0, 0, 0, .int (1)), (89, .isub, 1, 0, 0, 0, .null), (90, .iload_n 2, 1, 2, 0, 0, .null), (91, .iastore, 1, 0, 0, 0, .null), (92, .goto 47, 3, 139, 0, 0, .null), (95, .aload_n 0, 1, 0, 0, 0, .null), (96, .getfield 45, 3, 6, 6, 269, .null), (99, .ifCond .le 40, 3, 139, 0, 0, .null), (102, .iload_n 2, 1, 2, 0, 0, .null), (103, .invokestatic 42, 3, 48, 1, 570, .null), (106, .ifCond .eq 33, 3, 139, 0, 0, .null), (109, .aload_n 0, 1, 0, 0, 0, .null), (110, .getfield 21, 3, 6, 4, 265, .null), (113, .aload_n 0, 1, 0, 0, 0, .null), (114, .getfield 45, 3, 6, 6, 269, .null), (117, .iconst 1, 1, 0, 0, 0, .int (1)), (118, .isub, 1, 0, 0, 0, .null), (119, .aload_n 0, 1, 0, 0, 0, .null), (120, .getfield 21, 3, 6, 4, 265, .null), (123, .aload_n 0, 1, 0, 0, 0, .null), (124, .getfield 45, 3, 6, 6, 269, .null), (127, .iconst 1, 1, 0, 0, 0, .int (1)), (128, .isub, 1, 0, 0, 0, .null), (129, .iaload, 1, 0, 0, 0, .null), (130, .bipush 10, 2, 0, 0, 0, .int (10)), (132, .imul, 1, 0, 0, 0, .null), (133, .iload_n 2, 1, 2, 0, 0, .null), (134, .iadd, 1, 0, 0, 0, .null), (135, .bipush 48, 2, 0, 0, 0, .int (48)), (137, .isub, 1, 0, 0, 0, .null), (138, .iastore, 1, 0, 0, 0, .null), (139, .iinc 1 1, 3, 1, 0, 0, .int (1)), (142, .goto (-125), 3, 17, 0, 0, .null), (145, .return_, 1, 0, 0, 0, .null)]
def kc_50 : List (Nat × En) := [(0, .aload_n 0, 1, 0, 0, 0, .null), (1, .getfield 45, 3, 6, 6, 269, .null), (4, .bipush 50, 2, 0, 0, 0, .int (50)), (6, .if_icmp .lt 4, 3, 10, 0, 0, .null), (9, .return_, 1, 0, 0, 0, .null), (10, .aload_n 0, 1, 0, 0, 0, .null), (11, .getfield 15, 3, 6, 2, 262, .null), (14, .aload_n 0, 1, 0, 0, 0, .null), (15, .getfield 45, 3, 6, 6, 269, .null), (18, .iload_n 1, 1, 1, 0, 0, .null), (19, .iastore, 1, 0, 0, 0, .null), (20, .aload_n 0, 1, 0, 0, 0, .null), (21, .getfield 21, 3, 6, 4, 265, .null), (24, .aload_n 0, 1, 0, 0, 0, .null), (25, .getfield 45, 3, 6, 6, 269, .null), (28, .iconst 0, 1, 0, 0, 0, .int (0)), (29, .iastore, 1, 0, 0, 0, .null), (30, .aload_n 0, 1, 0, 0, 0, .null), (31, .getfield 24, 3, 6, 5, 266, .null), (34, .aload_n 0, 1, 0, 0, 0, .null), (35, .getfield 45, 3, 6, 6, 269, .null), (38, .aload_n 0, 1, 0, 0, 0, .null), (39, .getfield 48, 3, 6, 7, 271, .null), (42, .iconst 1, 1, 0, 0, 0, .int (1)), (43, .isub, 1, 0, 0, 0, .null), (44, .iastore, 1, 0, 0, 0, .null), (45, .iload_n 1, 1, 1, 0, 0, .null), (46, .bipush 121, 2, 0, 0, 0, .int (121)), (48, .if_icmp .ne 8, 3, 56, 0, 0, .null), (51, .aload_n 0, 1, 0, 0, 0, .null), (52, .iconst 1, 1, 0, 0, 0, .int (1)), (53, .putfield 51, 3, 6, 8, 273, .int 1), (56, .aload_n 0, 1, 0, 0, 0, .null), (57, .dup, 1, 0, 0, 0, .null), (58, .getfield 45, 3, 6, 6, 269, .null), (61, .iconst 1, 1, 0, 0, 0, .int (1)), (62, .iadd, 1, 0, 0, 0, .null), (63, .putfield 45, 3, 6, 6, 269, .null), (66, .return_, 1, 0, 0, 0, .null)]
def kc_51 : List (Nat × En) := [(0, .aload_n 0, 1, 0, 0, 0, .null), (1, .getfield 18, 3, 6, 3, 264, .null), (4, .iload_n 1, 1, 1, 0, 0, .null), (5, .iaload, 1, 0, 0, 0, .null), (6, .bipush 60, 2, 0, 0, 0, .int (60)), (8, .if_icmp .ne 19, 3, 27, 0, 0, .null), (11, .iload_n 2, 1, 2, 0, 0, .null), (12, .aload_n 0, 1, 0, 0, 0, .null), (13, .getfield 21, 3, 6, 4, 265, .null), (16, .iload_n 1, 1, 1, 0, 0, .null), (17, .iaload, 1, 0, 0, 0, .null), (18, .if_icmp .ge 7, 3, 25, 0, 0, .null), (21, .iconst 1, 1, 0, 0, 0, .int (1)), (22, .goto 4, 3, 26, 0, 0, .null), (25, .iconst 0, 1, 0, 0, 0, .int (0)), (26, .ireturn, 1, 0, 0, 0, .int 1), (27, .aload_n 0, 1, 0, 0, 0, .null), (28, .getfield 18, 3, 6, 3, 264, .null), (31, .iload_n 1, 1, 1, 0, 0, .null), (32, .iaload, 1, 0, 0, 0, .null), (33, .bipush 62, 2, 0, 0, 0, .int (62)), (35, .if_icmp .ne 19, 3, 54, 0, 0, .null), (38, .iload_n 2, 1, 2, 0, 0, .null), (39, .aload_n 0, 1, 0, 0, 0, .null), (40, .getfield 21, 3, 6, 4, 265, .null), (43, .iload_n 1, 1, 1, 0, 0, .null), (44, .iaload, 1, 0, 0, 0, .null), (45, .if_icmp .le 7, 3, 52, 0, 0, .null), (48, .iconst 1, 1, 0, 0, 0, .int (1)), (49, .goto 4, 3, 53, 0, 0, .null), (52, .iconst 0, 1, 0, 0, 0, .int (0)), (53, .ireturn, 1, 0, 0, 0, .int 1), (54, .iload_n 2, 1, 2, 0, 0, .null), (55, .aload_n 0, 1, 0, 0, 0, .null), (56, .getfield 21, 3, 6, 4, 265, .null), (59, .iload_n 1, 1, 1, 0, 0, .null), (60, .iaload, 1, 0, 0, 0, .null), (61, .if_icmp .ne 7, 3, 68, 0, 0, .null), (64, .iconst 1, 1, 0, 0, 0, .int (1)), (65, .goto 4, 3, 69, 0, 0, .null), (68, .iconst 0, 1, 0, 0, 0, .int (0)), (69, .ireturn, 1, 0, 0, 0, .int 1)]
def kc_52 : List (Nat × En) := [(0, .iload_n 2, 1, 2, 0, 0, .null), (1, .bipush 10, 2, 0, 0, 0, .int (10)), (3, .if_icmp .ne 21, 3, 24, 0, 0, .null), (6, .aload_n 0, 1, 0, 0, 0, .null), (7, .getfield 15, 3, 7, 1, 393, .null), (10, .iload_n 1, 1, 1, 0, 0, .null), (11, .iaload, 1, 0, 0, 0, .null), (12, .istore 4, 2, 4, 0, 0, .null), (14, .aload_n 0, 1, 0, 0, 0, .null), (15, .getfield 15, 3, 7, 1, 393, .null), (18, .iload_n 1, 1, 1, 0, 0, .null), (19, .iload_n 3, 1, 3, 0, 0, .null), (20, .iastore, 1, 0, 0, 0, .null), (21, .goto 28, 3, 49, 0, 0, .null), (24, .aload_n 0, 1, 0, 0, 0, .null), (25, .getfield 9, 3, 7, 0, 392, .null), (28, .iload_n 1, 1, 1, 0, 0, .null), (29, .bipush 10, 2, 0, 0, 0, .int (10)), (31, .imul, 1, 0, 0, 0, .null), (32, .iload_n 2, 1, 2, 0, 0, .null), (33, .iadd, 1, 0, 0, 0, .null), (34, .iaload, 1, 0, 0, 0, .null), (35, .istore 4, 2, 4, 0, 0, .null), (37, .aload_n 0, 1, 0, 0, 0, .null), (38, .getfield 9, 3, 7, 0, 392, .null), (41, .iload_n 1, 1, 1, 0, 0, .null), (42, .bipush 10, 2, 0, 0, 0, .int (10)), (44, .imul, 1, 0, 0, 0, .null), (45, .iload_n 2, 1, 2, 0, 0, .null), (46, .iadd, 1, 0, 0, 0, .null), (47, .iload_n 3, 1, 3, 0, 0, .null), (48, .iastore, 1, 0, 0, 0, .null), (49, .iload 4, 2, 4, 0, 0, .null), (51, .ireturn, 1, 0, 0, 0, .null)]
def kc_53 : List (Nat × En) := [(0, .iconst 0, 1, 0, 0, 0, .int (0)), (1, .istore_n 2, 1, 2, 0, 0, .null), (2, .iconst 0, 1, 0, 0, 0, .int (0)), (3, .istore_n 3, 1, 3, 0, 0, .null), (4, .iload_n 3, 1, 3, 0, 0, .null), (5, .bipush 10, 2, 0, 0, 0, .int (10)), (7, .if_icmp .ge 82, 3, 89, 0, 0, .null), (10, .iconst 1, 1, 0, 0, 0, .int (1)), (11, .istore 4, 2, 4, 0, 0, .null), (13, .iconst 0, 1, 0, 0, 0, .int (0)), (14, .istore 5, 2, 5, 0, 0, .null), (16, .iload 5, 2, 5, 0, 0, .null), (18, .bipush 6, 2, 0, 0, 0, .int (6)), (20, .if_icmp .ge 55, 3, 75, 0, 0, .null), (23, .iload_n 1, 1, 1, 0, 0, .null), (24, .iload 5, 2, 5, 0, 0, .null), (26, .ishr, 1, 0, 0, 0, .null), (27, .iconst 1, 1, 0, 0, 0, .int (1)), (28, .iand, 1, 0, 0, 0, .null), (29, .ifCond .eq 7, 3, 36, 0, 0, .null), (32, .iconst 1, 1, 0, 0, 0, .int (1)), (33, .goto 4, 3, 37, 0, 0, .null), (36, .iconst 0, 1, 0, 0, 0, .int (0)), (37, .istore 6, 2, 6, 0, 0, .null), (39, .iload 4, 2, 4, 0, 0, .null), (41, .iload 6, 2, 6, 0, 0, .null), (43, .ifCond .eq 21, 3, 64, 0, 0, .null), (46, .bipush 10, 2, 0, 0, 0, .int (10)), (48, .aload_n 0, 1, 0, 0, 0, .null), (49, .getfield 9, 3, 7, 0, 392, .null), (52, .iload 5, 2, 5, 0, 0, .null), (54, .bipush 10, 2, 0, 0, 0, .int (10)), (56, .imul, 1, 0, 0, 0, .null), (57, .iload_n 3, 1, 3, 0, 0, .null), (58, .iadd, 1, 0, 0, 0, .null), (59, .iaload, 1, 0, 0, 0, .null), (60, .isub, 1, 0, 0, 0, .null), (61, .goto 5, 3, 66, 0, 0, .null), (64, .bipush 10, 2, 0, 0, 0, .int (10)), (66, .imul, 1, 0, 0, 0, .null), (67, .istore 4, 2, 4, 0, 0, .null), (69, .iinc 5 1, 3, 5, 0, 0, .int (1)), (72, .goto (-56), 3, 16, 0, 0, .null), (75, .iload_n 2, 1, 2, 0, 0, .null), (76, .ldc 18, 2, 0, 0, 939, .int (1000000)), (78, .iload 4, 2, 4, 0, 0, .null), (80, .isub, 1, 0, 0, 0, .null), (81, .iadd, 1, 0, 0, 0, .null), (82, .istore_n 2, 1, 2, 0, 0, .null), (83, .iinc 3 1, 3, 3, 0, 0, .int (1)), (86, .goto (-82), 3, 4, 0, 0, .null), (89, .iload_n 2, 1, 2, 0, 0, .null), (90, .ireturn, 1, 0, 0, 0, .null)]
def kc_54 : List (Nat × En) := [(0, .iconst 0, 1, 0, 0, 0, .int (0)), (1, .istore_n 2, 1, 2, 0, 0, .null), (2, .iconst 0, 1, 0, 0, 0, .int (0)), (3, .istore_n 3, 1, 3, 0, 0, .null), (4, .iload_n 3, 1, 3, 0, 0, .null), (5, .bipush 6, 2, 0, 0, 0, .int (6)), (7, .if_icmp .ge 26, 3, 33, 0, 0, .null), (10, .iload_n 1, 1, 1, 0, 0, .null), (11, .iload_n 3, 1, 3, 0, 0, .null), (12, .ishr, 1, 0, 0, 0, .null), (13, .iconst 1, 1, 0, 0, 0, .int (1)), (14, .iand, 1, 0, 0, 0, .null), (15, .ifCond .eq 12, 3, 27, 0, 0, .null), (18, .iload_n 2, 1, 2, 0, 0, .null), (19, .aload_n 0, 1, 0, 0, 0, .null), (20, .getfield 15, 3, 7, 1, 393, .null), (23, .iload_n 3, 1, 3, 0, 0, .null), (24, .iaload, 1, 0, 0, 0, .null), (25, .iadd, 1, 0, 0, 0, .null), (26, .istore_n 2, 1, 2, 0, 0, .null), (27, .iinc 3 1, 3, 3, 0, 0, .int (1)), (30, .goto (-26), 3, 4, 0, 0, .null), (33, .iload_n 2, 1, 2, 0, 0, .null), (34, .ireturn, 1, 0, 0, 0, .null)]
def kc_55 : List (Nat × En) := [(0, .iconst 0, 1, 0, 0, 0, .int (0)), (1, .istore_n 2, 1, 2, 0, 0, .null), (2, .iconst 0, 1, 0, 0, 0, .int (0)), (3, .istore_n 3, 1, 3, 0, 0, .null), (4, .iconst 0, 1, 0, 0, 0, .int (0)), (5, .istore 4, 2, 4, 0, 0, .null), (7, .iconst 1, 1, 0, 0, 0, .int (1)), (8, .istore 5, 2, 5, 0, 0, .null), (10, .iload 5, 2, 5, 0, 0, .null), (12, .bipush 64, 2, 0, 0, 0, .int (64)), (14, .if_icmp .ge 63, 3, 77, 0, 0, .null), (17, .aload_n 0, 1, 0, 0, 0, .null), (18, .iload 5, 2, 5, 0, 0, .null), (20, .invokevirtual 19, 3, 54, 1, 949, .null), (23, .istore 6, 2, 6, 0, 0, .null), (25, .iload 6, 2, 6, 0, 0, .null), (27, .iload_n 1, 1, 1, 0, 0, .null), (28, .if_icmp .le 6, 3, 34, 0, 0, .null), (31, .goto 40, 3, 71, 0, 0, .null), (34, .aload_n 0, 1, 0, 0, 0, .null), (35, .iload 5, 2, 5, 0, 0, .null), (37, .invokevirtual 23, 3, 53, 1, 953, .null), (40, .istore 7, 2, 7, 0, 0, .null), (42, .iload 7, 2, 7, 0, 0, .null), (44, .iload_n 3, 1, 3, 0, 0, .null), (45, .if_icmp .gt 16, 3, 61, 0, 0, .null), (48, .iload 7, 2, 7, 0, 0, .null), (50, .iload_n 3, 1, 3, 0, 0, .null), (51, .if_icmp .ne 20, 3, 71, 0, 0, .null), (54, .iload 6, 2, 6, 0, 0, .null), (56, .iload 4, 2, 4, 0, 0, .null), (58, .if_icmp .ge 13, 3, 71, 0, 0, .null), (61, .iload 5, 2, 5, 0, 0, .null), (63, .istore_n 2, 1, 2, 0, 0, .null), (64, .iload 7, 2, 7, 0, 0, .null), (66, .istore_n 3, 1, 3, 0, 0, .null), (67, .iload 6, 2, 6, 0, 0, .null), (69, .istore 4, 2, 4, 0, 0, .null), (71, .iinc 5 1, 3, 5, 0, 0, .int (1)), (74, .goto (-64), 3, 10, 0, 0, .null), (77, .iload_n 2, 1, 2, 0, 0, .null), (78, .ireturn, 1, 0, 0, 0, .null)]
def kc_56 : List (Nat × En) := [(0, .aload_n 0, 1, 0, 0, 0, .null), (1, .getfield 18, 3, 8, 0, 373, .null), (4, .getfield 22, 3, 9, 1, 197, .null), (7, .iload_n 1, 1, 1, 0, 0, .null), (8, .baload, 1, 0, 0, 0, .null), (9, .ifCond .ne 15, 3, 24, 0, 0, .null), (12, .aload_n 0, 1, 0, 0, 0, .null), (13, .getfield 18, 3, 8, 0, 373, .null), (16, .getfield 22, 3, 9, 1, 197, .null), (19, .iload_n 2, 1, 2, 0, 0, .null), (20, .baload, 1, 0, 0, 0, .null), (21, .ifCond .eq 5, 3, 26, 0, 0, .null), (24, .iconst 0, 1, 0, 0, 0, .int (0)), (25, .ireturn, 1, 0, 0, 0, .int 1), (26, .aload_n 0, 1, 0, 0, 0, .null), (27, .getfield 9, 3, 8, 1, 374, .null), (30, .iconst 0, 1, 0, 0, 0, .int (0)), (31, .invokestatic 28, 3, 211, 2, 901, .null), (34, .aload_n 0, 1, 0, 0, 0, .null), (35, .getfield 15, 3, 8, 2, 375, .null), (38, .iconst 0, 1, 0, 0, 0, .int (0)), (39, .invokestatic 28, 3, 211, 2, 901, .null), (42, .aload_n 0, 1, 0, 0, 0, .null), (43, .getfield 9, 3, 8, 1, 374, .null), (46, .iload_n 1, 1, 1, 0, 0, .null), (47, .iconst 1, 1, 0, 0, 0, .int (1)), (48, .iastore, 1, 0, 0, 0, .null), (49, .iconst 0, 1, 0, 0, 0, .int (0)), (50, .istore_n 3, 1, 3, 0, 0, .null), (51, .iload_n 3, 1, 3, 0, 0, .null), (52, .sipush 1000, 3, 0, 0, 0, .int (1000)), (55, .if_icmp .ge 53, 3, 108, 0, 0, .null), (58, .aload_n 0, 1, 0, 0, 0, .null), (59, .iconst 0, 1, 0, 0, 0, .int (0)), (60, .putfield 34, 3, 8, 3, 376, .int 1), (63, .iconst 0, 1, 0, 0, 0, .int (0)), (64, .istore 4, 2, 4, 0, 0, .null), (66, .iload 4, 2, 4, 0, 0, .null), (68, .bipush 6, 2, 0, 0, 0, .int (6)), (70, .if_icmp .ge 18, 3, 88, 0, 0, .null), (73, .aload_n 0, 1, 0, 0, 0, .null), (74, .iload 4, 2, 4, 0, 0, .null), (76, .bipush 24, 2, 0, 0, 0, .int (24)), (78, .imul, 1, 0, 0, 0, .null), (79, .invokevirtual 38, 3, 57, 1, 902, .null), (82, .iinc 4 1, 3, 4, 0, 0, .int (1)), (85, .goto (-19), 3, 66, 0, 0, .null), (88, .aload_n 0, 1, 0, 0, 0, .null), (89, .invokevirtual 42, 3, 58, 0, 910, .null), (92, .aload_n 0, 1, 0, 0, 0, .null), (93, .getfield 34, 3, 8, 3, 376, .null), (96, .ifCond .ne 6, 3, 102, 0, 0, .null), (99, .goto 9, 3, 108, 0, 0, .null), (102, .iinc 3 1, 3, 3, 0, 0, .int (1)), (105, .goto (-54), 3, 51, 0, 0, .null), (108, .aload_n 0, 1, 0, 0, 0, .null), (109, .getfield 9, 3, 8, 1, 374, .null), (112, .iload_n 2, 1, 2, 0, 0, .null), (113, .iaload, 1, 0, 0, 0, .null), (114, .iconst 2, 1, 0, 0, 0, .int (2)), (115, .if_icmp .ne 7, 3, 122, 0, 0, .null), (118, .iconst 1, 1, 0, 0, 0, .int (1)), (119, .goto 4, 3, 123, 0, 0, .null), (122, .iconst 0, 1, 0, 0, 0, .int (0)), (123, .ireturn, 1, 0, 0, 0, .int 1)]
def kc_57 : List (Nat × En) := [(0, .iconst 0, 1, 0, 0, 0, .int (0)), (1, .istore_n 2, 1, 2, 0, 0, .null), (2, .iload_n 1, 1, 1, 0, 0, .null), (3, .bipush 24, 2, 0, 0, 0, .int (24)), (5, .iadd, 1, 0, 0, 0, .null), (6, .iconst 1, 1, 0, 0, 0, .int (1)), (7, .isub, 1, 0, 0, 0, .null), (8, .istore_n 3, 1, 3, 0, 0, .null), (9, .iload_n 3, 1, 3, 0, 0, .null), (10, .iload_n 1, 1, 1, 0, 0, .null), (11, .if_icmp .lt 45, 3, 56, 0, 0, .null), (14, .aload_n 0, 1, 0, 0, 0, .null), (15, .getfield 18, 3, 8, 0, 373, .null), (18, .getfield 22, 3, 9, 1, 197, .null), (21, .iload_n 3, 1, 3, 0, 0, .null), (22, .baload, 1, 0, 0, 0, .null), (23, .ifCond .eq 6, 3, 29, 0, 0, .null), (26, .goto 24, 3, 50, 0, 0, .null), (29, .iload_n 2, 1, 2, 0, 0, .null), (30, .ifCond .eq 9, 3, 39, 0, 0, .null), (33, .aload_n 0, 1, 0, 0, 0, .null), (34, .iload_n 3, 1, 3, 0, 0, .null), (35, .iconst 2, 1, 0, 0, 0, .int (2)), (36, .invokevirtual 45, 3, 59, 2, 906, .null), (39, .aload_n 0, 1, 0, 0, 0, .null), (40, .getfield 9, 3, 8, 1, 374, .null), (43, .iload_n 3, 1, 3, 0, 0, .null), (44, .iaload, 1, 0, 0, 0, .null), (45, .ifCond .eq 5, 3, 50, 0, 0, .null), (48, .iconst 1, 1, 0, 0, 0, .int (1)), (49, .istore_n 2, 1, 2, 0, 0, .null), (50, .iinc 3 (-1), 3, 3, 0, 0, .int (-1)), (53, .goto (-44), 3, 9, 0, 0, .null), (56, .return_, 1, 0, 0, 0, .null)]
def kc_58 : List (Nat × En) := [(0, .iconst 0, 1, 0, 0, 0, .int (0)), (1, .istore_n 1, 1, 1, 0, 0, .null), (2, .iload_n 1, 1, 1, 0, 0, .null), (3, .sipush 144, 3, 0, 0, 0, .int (144)), (6, .if_icmp .ge 76, 3, 82, 0, 0, .null), (9, .aload_n 0, 1, 0, 0, 0, .null), (10, .getfield 18, 3, 8, 0, 373, .null), (13, .iload_n 1, 1, 1, 0, 0, .null), (14, .invokevirtual 49, 3, 60, 1, 914, .null), (17, .ifCond .ne 6, 3, 23, 0, 0, .null), (20, .goto 56, 3, 76, 0, 0, .null), (23, .aload_n 0, 1, 0, 0, 0, .null), (24, .getfield 18, 3, 8, 0, 373, .null), (27, .getfield 53, 3, 9, 0, 192, .null), (30, .iload_n 1, 1, 1, 0, 0, .null), (31, .iaload, 1, 0, 0, 0, .null), (32, .istore_n 2, 1, 2, 0, 0, .null), (33, .aload_n 0, 1, 0, 0, 0, .null), (34, .iload_n 1, 1, 1, 0, 0, .null), (35, .aload_n 0, 1, 0, 0, 0, .null), (36, .getfield 15, 3, 8, 2, 375, .null), (39, .iload_n 2, 1, 2, 0, 0, .null), (40, .iaload, 1, 0, 0, 0, .null), (41, .invokevirtual 45, 3, 59, 2, 906, .null), (44, .aload_n 0, 1, 0, 0, 0, .null), (45, .getfield 9, 3, 8, 1, 374, .null), (48, .iload_n 1, 1, 1, 0, 0, .null), (49, .iaload, 1, 0, 0, 0, .null), (50, .aload_n 0, 1, 0, 0, 0, .null), (51, .getfield 15, 3, 8, 2, 375, .null), (54, .iload_n 2, 1, 2, 0, 0, .null), (55, .iaload, 1, 0, 0, 0, .null), (56, .if_icmp .le 20, 3, 76, 0, 0, .null), (59, .aload_n 0, 1, 0, 0, 0, .null), (60, .getfield 15, 3, 8, 2, 375, .null), (63, .iload_n 2, 1, 2, 0, 0, .null), (64, .aload_n 0, 1, 0, 0, 0, .null), (65, .getfield 9, 3, 8, 1, 374, .null), (68, .iload_n 1, 1, 1, 0, 0, .null), (69, .iaload, 1, 0, 0, 0, .null), (70, .iastore, 1, 0, 0, 0, .null), (71, .aload_n 0, 1, 0, 0, 0, .null), (72, .iconst 1, 1, 0, 0, 0, .int (1)), (73, .putfield 34, 3, 8, 3, 376, .int 1), (76, .iinc 1 1, 3, 1, 0, 0, .int (1)), (79, .goto (-77), 3, 2, 0, 0, .null), (82, .return_, 1, 0, 0, 0, .null)]
def kc_59 : List (Nat × En) := [(0, .iload_n 2, 1, 2, 0, 0, .null), (1, .aload_n 0, 1, 0, 0, 0, .null), (2, .getfield 9, 3, 8, 1, 374, .null), (5, .iload_n 1, 1, 1, 0, 0, .null), (6, .iaload, 1, 0, 0, 0, .null), (7, .if_icmp .gt 4, 3, 11, 0, 0, .null), (10, .return_, 1, 0, 0, 0, .null), (11, .aload_n 0, 1, 0, 0, 0, .null), (12, .getfield 9, 3, 8, 1, 374, .null), (15, .iload_n 1, 1, 1, 0, 0, .null), (16, .iload_n 2, 1, 2, 0, 0, .null), (17, .iastore, 1, 0, 0, 0, .null), (18, .aload_n 0, 1, 0, 0, 0, .null), (19, .iconst 1, 1, 0, 0, 0, .int (1)), (20, .putfield 34, 3, 8, 3, 376, .int 1), (23, .return_, 1, 0, 0, 0, .null)]
def kc_60 : List (Nat × En) := [(0, .aload_n 0, 1, 0, 0, 0, .null), (1, .getfield 9, 3, 9, 0, 191, .null), (4, .iload_n 1, 1, 1, 0, 0, .null), (5, .iaload, 1, 0, 0, 0, .null), (6, .iconst (-1), 1, 0, 0, 0, .int (-1)), (7, .if_icmp .eq 16, 3, 23, 0, 0, .null), (10, .aload_n 0, 1, 0, 0, 0, .null), (11, .getfield 15, 3, 9, 1, 196, .null), (14, .iload_n 1, 1, 1, 0, 0, .null), (15, .baload, 1, 0, 0, 0, .null), (16, .ifCond .ne 7, 3, 23, 0, 0, .null), (19, .iconst 1, 1, 0, 0, 0, .int (1)), (20, .goto 4, 3, 24, 0, 0, .null), (23, .iconst 0, 1, 0, 0, 0, .int (0)), (24, .ireturn, 1, 0, 0, 0, .int 1)]
def kc_61 : List (Nat × En) := [(0, .iconst 0, 1, 0, 0, 0, .int (0)), (1, .istore_n 1, 1, 1, 0, 0, .null), (2, .iconst 0, 1, 0, 0, 0, .int (0)), (3, .istore_n 2, 1, 2, 0, 0, .null), (4, .iload_n 2, 1, 2, 0, 0, .null), (5, .sipush 144, 3, 0, 0, 0, .int (144)), (8, .if_icmp .ge 22, 3, 30, 0, 0, .null), (11, .aload_n 0, 1, 0, 0, 0, .null), (12, .getfield 9, 3, 9, 0, 191, .null), (15, .iload_n 2, 1, 2, 0, 0, .null), (16, .iaload, 1, 0, 0, 0, .null), (17, .iconst (-1), 1, 0, 0, 0, .int (-1)), (18, .if_icmp .eq 6, 3, 24, 0, 0, .null), (21, .iinc 1 1, 3, 1, 0, 0, .int (1)), (24, .iinc 2 1, 3, 2, 0, 0, .int (1)), (27, .goto (-23), 3, 4, 0, 0, .null), (30, .iload_n 1, 1, 1, 0, 0, .null), (31, .ireturn, 1, 0, 0, 0, .null)]
def kc_62 : List (Nat × En) := [(0, .aload_n 0, 1, 0, 0, 0, .null), (1, .iconst 0, 1, 0, 0, 0, .int (0)), (2, .putfield 34, 3, 9, 4, 204, .null), (5, .iconst 0, 1, 0, 0, 0, .int (0)), (6, .istore_n 1, 1, 1, 0, 0, .null), (7, .iload_n 1, 1, 1, 0, 0, .null), (8, .sipush 144, 3, 0, 0, 0, .int (144)), (11, .if_icmp .ge 37, 3, 48, 0, 0, .null), (14, .aload_n 0, 1, 0, 0, 0, .null), (15, .iload_n 1, 1, 1, 0, 0, .null), (16, .invokevirtual 38, 3, 60, 1, 775, .null), (19, .ifCond .eq 23, 3, 42, 0, 0, .null), (22, .aload_n 0, 1, 0, 0, 0, .null), (23, .getfield 22, 3, 9, 3, 202, .null), (26, .aload_n 0, 1, 0, 0, 0, .null), (27, .getfield 34, 3, 9, 4, 204, .null), (30, .iload_n 1, 1, 1, 0, 0, .null), (31, .iastore, 1, 0, 0, 0, .null), (32, .aload_n 0, 1, 0, 0, 0, .null), (33, .dup, 1, 0, 0, 0, .null), (34, .getfield 34, 3, 9, 4, 204, .null), (37, .iconst 1, 1, 0, 0, 0, .int (1)), (38, .iadd, 1, 0, 0, 0, .null), (39, .putfield 34, 3, 9, 4, 204, .null), (42, .iinc 1 1, 3, 1, 0, 0, .int (1)), (45, .goto (-38), 3, 7, 0, 0, .null), (48, .return_, 1, 0, 0, 0, .null)]
def kc_63 : List (Nat × En) := [(0, .aload_n 0, 1, 0, 0, 0, .null), (1, .getfield 25, 3, 9, 5, 206, .null), (4, .iconst 0, 1, 0, 0, 0, .int (0)), (5, .invokestatic 28, 3, 211, 2, 190, .null), (8, .iconst (-1), 1, 0, 0, 0, .int (-1)), (9, .istore_n 2, 1, 2, 0, 0, .null), (10, .iconst 0, 1, 0, 0, 0, .int (0)), (11, .istore_n 3, 1, 3, 0, 0, .null), (12, .iconst 0, 1, 0, 0, 0, .int (0)), (13, .istore 4, 2, 4, 0, 0, .null), (15, .iload 4, 2, 4, 0, 0, .null), (17, .aload_n 0, 1, 0, 0, 0, .null), (18, .getfield 34, 3, 9, 4, 204, .null), (21, .if_icmp .ge 81, 3, 102, 0, 0, .null), (24, .iload 4, 2, 4, 0, 0, .null), (26, .bipush 10, 2, 0, 0, 0, .int (10)), (28, .if_icmp .ge 15, 3, 43, 0, 0, .null), (31, .iload_n 1, 1, 1, 0, 0, .null), (32, .iload 4, 2, 4, 0, 0, .null), (34, .ishr, 1, 0, 0, 0, .null), (35, .iconst 1, 1, 0, 0, 0, .int (1)), (36, .iand, 1, 0, 0, 0, .null), (37, .ifCond .eq 6, 3, 43, 0, 0, .null), (40, .goto 56, 3, 96, 0, 0, .null), (43, .aload_n 0, 1, 0, 0, 0, .null), (44, .getfield 22, 3, 9, 3, 202, .null), (47, .iload 4, 2, 4, 0, 0, .null), (49, .iaload, 1, 0, 0, 0, .null), (50, .istore 5, 2, 5, 0, 0, .null), (52, .iload 5, 2, 5, 0, 0, .null), (54, .bipush 24, 2, 0, 0, 0, .int (24)), (56, .idiv, 1, 0, 0, 0, .null), (57, .iload_n 2, 1, 2, 0, 0, .null), (58, .if_icmp .eq 11, 3, 69, 0, 0, .null), (61, .iload 5, 2, 5, 0, 0, .null), (63, .bipush 24, 2, 0, 0, 0, .int (24)), (65, .idiv, 1, 0, 0, 0, .null), (66, .istore_n 2, 1, 2, 0, 0, .null), (67, .iconst 0, 1, 0, 0, 0, .int (0)), (68, .istore_n 3, 1, 3, 0, 0, .null), (69, .aload_n 0, 1, 0, 0, 0, .null), (70, .getfield 9, 3, 9, 0, 191, .null), (73, .iload 5, 2, 5, 0, 0, .null), (75, .iaload, 1, 0, 0, 0, .null), (76, .istore 6, 2, 6, 0, 0, .null), (78, .aload_n 0, 1, 0, 0, 0, .null), (79, .getfield 25, 3, 9, 5, 206, .null), (82, .iload 6, 2, 6, 0, 0, .null), (84, .dup2, 1, 0, 0, 0, .null), (85, .iaload, 1, 0, 0, 0, .null), (86, .iload_n 3, 1, 3, 0, 0, .null), (87, .ior, 1, 0, 0, 0, .null), (88, .iastore, 1, 0, 0, 0, .null), (89, .iload_n 3, 1, 3, 0, 0, .null), (90, .iconst 1, 1, 0, 0, 0, .int (1)), (91, .iload 6, 2, 6, 0, 0, .null), (93, .ishl, 1, 0, 0, 0, .null), (94, .ior, 1, 0, 0, 0, .null), (95, .istore_n 3, 1, 3, 0, 0, .null), (96, .iinc 4 1, 3, 4, 0, 0, .int (1)), (99, .goto (-84), 3, 15, 0, 0, .null), (102, .return_, 1, 0, 0, 0, .null)]
def kc_64 : List (Nat × En) := [(0, .aload_n 0, 1, 0, 0, 0, .null), (1, .iload_n 1, 1, 1, 0, 0, .null), (2, .invokevirtual 42, 3, 63, 1, 788, .null), (5, .iconst 0, 1, 0, 0, 0, .int (0)), (6, .istore_n 2, 1, 2, 0, 0, .null), (7, .iload_n 2, 1, 2, 0, 0, .null), (8, .bipush 10, 2, 0, 0, 0, .int (10)), (10, .if_icmp .ge 51, 3, 61, 0, 0, .null), (13, .iconst 0, 1, 0, 0, 0, .int (0)), (14, .istore_n 3, 1, 3, 0, 0, .null), (15, .iload_n 3, 1, 3, 0, 0, .null), (16, .bipush 10, 2, 0, 0, 0, .int (10)), (18, .if_icmp .ge 37, 3, 55, 0, 0, .null), (21, .aload_n 0, 1, 0, 0, 0, .null), (22, .getfield 25, 3, 9, 5, 206, .null), (25, .iload_n 3, 1, 3, 0, 0, .null), (26, .iaload, 1, 0, 0, 0, .null), (27, .iload_n 2, 1, 2, 0, 0, .null), (28, .ishr, 1, 0, 0, 0, .null), (29, .iconst 1, 1, 0, 0, 0, .int (1)), (30, .iand, 1, 0, 0, 0, .null), (31, .ifCond .eq 18, 3, 49, 0, 0, .null), (34, .aload_n 0, 1, 0, 0, 0, .null), (35, .getfield 25, 3, 9, 5, 206, .null), (38, .iload_n 3, 1, 3, 0, 0, .null), (39, .dup2, 1, 0, 0, 0, .null), (40, .iaload, 1, 0, 0, 0, .null), (41, .aload_n 0, 1, 0, 0, 0, .null), (42, .getfield 25, 3, 9, 5, 206, .null), (45, .iload_n 2, 1, 2, 0, 0, .null), (46, .iaload, 1, 0, 0, 0, .null), (47, .ior, 1, 0, 0, 0, .null), (48, .iastore, 1, 0, 0, 0, .null), (49, .iinc 3 1, 3, 3, 0, 0, .int (1)), (52, .goto (-37), 3, 15, 0, 0, .null), (55, .iinc 2 1, 3, 2, 0, 0, .int (1)), (58, .goto (-51), 3, 7, 0, 0, .null), (61, .iconst 0, 1, 0, 0, 0, .int (0)), (62, .istore_n 2, 1, 2, 0, 0, .null), (63, .iconst 0, 1, 0, 0, 0, .int (0)), (64, .istore_n 3, 1, 3, 0, 0, .null), (65, .iload_n 3, 1, 3, 0, 0, .null), (66, .bipush 10, 2, 0, 0, 0, .int (10)), (68, .if_icmp .ge 22, 3, 90, 0, 0, .null), (71, .iload_n 2, 1, 2, 0, 0, .null), (72, .aload_n 0, 1, 0, 0, 0, .null), (73, .getfield 25, 3, 9, 5, 206, .null), (76, .iload_n 3, 1, 3, 0, 0, .null), (77, .iaload, 1, 0, 0, 0, .null), (78, .iconst 1, 1, 0, 0, 0, .int (1)), (79, .iload_n 3, 1, 3, 0, 0, .null), (80, .ishl, 1, 0, 0, 0, .null), (81, .iand, 1, 0, 0, 0, .null), (82, .ior, 1, 0, 0, 0, .null), (83, .istore_n 2, 1, 2, 0, 0, .null), (84, .iinc 3 1, 3, 3, 0, 0, .int (1)), (87, .goto (-22), 3, 65, 0, 0, .null), (90, .iload_n 2, 1, 2, 0, 0, .null), (91, .ireturn, 1, 0, 0, 0, .null)]
def kc_65 : List (Nat × En) := [(0, .aload_n 0, 1, 0, 0, 0, .null), (1, .getfield 34, 3, 9, 4, 204, .null), (4, .bipush 10, 2, 0, 0, 0, .int (10)), (6, .invokestatic 46, 3, 0, 103, 797, .null), (9, .istore_n 1, 1, 1, 0, 0, .null), (10, .iconst 1, 1, 0, 0, 0, .int (1)), (11, .iload_n 1, 1, 1, 0, 0, .null), (12, .ishl, 1, 0, 0, 0, .null), (13, .iconst 1, 1, 0, 0, 0, .int (1)), (14, .isub, 1, 0, 0, 0, .null), (15, .istore_n 2, 1, 2, 0, 0, .null), (16, .aload_n 0, 1, 0, 0, 0, .null), (17, .iload_n 2, 1, 2, 0, 0, .null), (18, .invokevirtual 52, 3, 66, 1, 798, .null), (21, .ifCond .ne 5, 3, 26, 0, 0, .null), (24, .iconst (-1), 1, 0, 0, 0, .int (-1)), (25, .ireturn, 1, 0, 0, 0, .null), (26, .iconst 0, 1, 0, 0, 0, .int (0)), (27, .istore_n 3, 1, 3, 0, 0, .null), (28, .iload_n 3, 1, 3, 0, 0, .null), (29, .iload_n 1, 1, 1, 0, 0, .null), (30, .if_icmp .ge 45, 3, 75, 0, 0, .null), (33, .iconst 0, 1, 0, 0, 0, .int (0)), (34, .istore 4, 2, 4, 0, 0, .null), (36, .iload 4, 2, 4, 0, 0, .null), (38, .iload_n 2, 1, 2, 0, 0, .null), (39, .if_icmp .ge 30, 3, 69, 0, 0, .null), (42, .iload 4, 2, 4, 0, 0, .null), (44, .invokestatic 55, 3, 209, 1, 802, .null), (47, .iload_n 3, 1, 3, 0, 0, .null), (48, .if_icmp .ne 15, 3, 63, 0, 0, .null), (51, .aload_n 0, 1, 0, 0, 0, .null), (52, .iload 4, 2, 4, 0, 0, .null), (54, .invokevirtual 52, 3, 66, 1, 798, .null), (57, .ifCond .eq 6, 3, 63, 0, 0, .null), (60, .iload 4, 2, 4, 0, 0, .null), (62, .ireturn, 1, 0, 0, 0, .null), (63, .iinc 4 1, 3, 4, 0, 0, .int (1)), (66, .goto (-30), 3, 36, 0, 0, .null), (69, .iinc 3 1, 3, 3, 0, 0, .int (1)), (72, .goto (-44), 3, 28, 0, 0, .null), (75, .iload_n 2, 1, 2, 0, 0, .null), (76, .ireturn, 1, 0, 0, 0, .null)]
def kc_66 : List (Nat × En) := [(0, .aload_n 0, 1, 0, 0, 0, .null), (1, .iload_n 1, 1, 1, 0, 0, .null), (2, .invokevirtual 42, 3, 63, 1, 788, .null), (5, .sipush 1023, 3, 0, 0, 0, .int (1023)), (8, .istore_n 2, 1, 2, 0, 0, .null), (9, .iconst 0, 1, 0, 0, 0, .int (0)), (10, .istore_n 3, 1, 3, 0, 0, .null), (11, .iload_n 3, 1, 3, 0, 0, .null), (12, .bipush 10, 2, 0, 0, 0, .int (10)), (14, .if_icmp .gt 61, 3, 75, 0, 0, .null), (17, .iload_n 2, 1, 2, 0, 0, .null), (18, .ifCond .eq 57, 3, 75, 0, 0, .null), (21, .iload_n 2, 1, 2, 0, 0, .null), (22, .istore 4, 2, 4, 0, 0, .null), (24, .iconst 0, 1, 0, 0, 0, .int (0)), (25, .istore 5, 2, 5, 0, 0, .null), (27, .iload 5, 2, 5, 0, 0, .null), (29, .bipush 10, 2, 0, 0, 0, .int (10)), (31, .if_icmp .ge 30, 3, 61, 0, 0, .null), (34, .aload_n 0, 1, 0, 0, 0, .null), (35, .getfield 25, 3, 9, 5, 206, .null), (38, .iload 5, 2, 5, 0, 0, .null), (40, .iaload, 1, 0, 0, 0, .null), (41, .iload_n 2, 1, 2, 0, 0, .null), (42, .iand, 1, 0, 0, 0, .null), (43, .ifCond .ne 12, 3, 55, 0, 0, .null), (46, .iload_n 2, 1, 2, 0, 0, .null), (47, .iconst 1, 1, 0, 0, 0, .int (1)), (48, .iload 5, 2, 5, 0, 0, .null), (50, .ishl, 1, 0, 0, 0, .null), (51, .iconst (-1), 1, 0, 0, 0, .int (-1)), (52, .ixor, 1, 0, 0, 0, .null), (53, .iand, 1, 0, 0, 0, .null), (54, .istore_n 2, 1, 2, 0, 0, .null), (55, .iinc 5 1, 3, 5, 0, 0, .int (1)), (58, .goto (-31), 3, 27, 0, 0, .null), (61, .iload_n 2, 1, 2, 0, 0, .null), (62, .iload 4, 2, 4, 0, 0, .null), (64, .if_icmp .ne 5, 3, 69, 0, 0, .null), (67, .iconst 0, 1, 0, 0, 0, .int (0)), (68, .ireturn, 1, 0, 0, 0, .int 1), (69, .iinc 3 1, 3, 3, 0, 0, .int (1)), (72, .goto (-61), 3, 11, 0, 0, .null), (75, .iload_n 2, 1, 2, 0, 0, .null), (76, .ifCond .ne 7, 3, 83, 0, 0, .null), (79, .iconst 1, 1, 0, 0, 0, .int (1)), (80, .goto 4, 3, 84, 0, 0, .null), (83, .iconst 0, 1, 0, 0, 0, .int (0)), (84, .ireturn, 1, 0, 0, 0, .int 1)]
def kc_67 : List (Nat × En) := [(0, .iconst 0, 1, 0, 0, 0, .int (0)), (1, .istore_n 2, 1, 2, 0, 0, .null), (2, .iconst 0, 1, 0, 0, 0, .int (0)), (3, .istore_n 3, 1, 3, 0, 0, .null), (4, .iload_n 3, 1, 3, 0, 0, .null), (5, .sipush 144, 3, 0, 0, 0, .int (144)), (8, .if_icmp .ge 40, 3, 48, 0, 0, .null), (11, .aload_n 0, 1, 0, 0, 0, .null), (12, .getfield 19, 3, 9, 2, 200, .null), (15, .iload_n 3, 1, 3, 0, 0, .null), (16, .iaload, 1, 0, 0, 0, .null), (17, .iload_n 1, 1, 1, 0, 0, .null), (18, .if_icmp .ne 24, 3, 42, 0, 0, .null), (21, .aload_n 0, 1, 0, 0, 0, .null), (22, .getfield 9, 3, 9, 0, 191, .null), (25, .iload_n 3, 1, 3, 0, 0, .null), (26, .iaload, 1, 0, 0, 0, .null), (27, .iconst (-1), 1, 0, 0, 0, .int (-1)), (28, .if_icmp .eq 14, 3, 42, 0, 0, .null), (31, .iload_n 2, 1, 2, 0, 0, .null), (32, .iconst 1, 1, 0, 0, 0, .int (1)), (33, .aload_n 0, 1, 0, 0, 0, .null), (34, .getfield 9, 3, 9, 0, 191, .null), (37, .iload_n 3, 1, 3, 0, 0, .null), (38, .iaload, 1, 0, 0, 0, .null), (39, .ishl, 1, 0, 0, 0, .null), (40, .ior, 1, 0, 0, 0, .null), (41, .istore_n 2, 1, 2, 0, 0, .null), (42, .iinc 3 1, 3, 3, 0, 0, .int (1)), (45, .goto (-41), 3, 4, 0, 0, .null), (48, .iload_n 2, 1, 2, 0, 0, .null), (49, .ireturn, 1, 0, 0, 0, .null)]
def kc_68 : List (Nat × En) := [(0, .iconst 0, 1, 0, 0, 0, .int (0)), (1, .istore_n 2, 1, 2, 0, 0, .null), (2, .iconst 0, 1, 0, 0, 0, .int (0)), (3, .istore_n 3, 1, 3, 0, 0, .null), (4, .iload_n 3, 1, 3, 0, 0, .null), (5, .sipush 144, 3, 0, 0, 0, .int (144)), (8, .if_icmp .ge 40, 3, 48, 0, 0, .null), (11, .aload_n 0, 1, 0, 0, 0, .null), (12, .getfield 9, 3, 9, 0, 191, .null), (15, .iload_n 3, 1, 3, 0, 0, .null), (16, .iaload, 1, 0, 0, 0, .null), (17, .iload_n 1, 1, 1, 0, 0, .null), (18, .if_icmp .ne 24, 3, 42, 0, 0, .null), (21, .aload_n 0, 1, 0, 0, 0, .null), (22, .getfield 19, 3, 9, 2, 200, .null), (25, .iload_n 3, 1, 3, 0, 0, .null), (26, .iaload, 1, 0, 0, 0, .null), (27, .iconst (-1), 1, 0, 0, 0, .int (-1)), (28, .if_icmp .eq 14, 3, 42, 0, 0, .null), (31, .iload_n 2, 1, 2, 0, 0, .null), (32, .iconst 1, 1, 0, 0, 0, .int (1)), (33, .aload_n 0, 1, 0, 0, 0, .null), (34, .getfield 19, 3, 9, 2, 200, .null), (37, .iload_n 3, 1, 3, 0, 0, .null), (38, .iaload, 1, 0, 0, 0, .null), (39, .ishl, 1, 0, 0, 0, .null), (40, .ior, 1, 0, 0, 0, .null), (41, .istore_n 2, 1, 2, 0, 0, .null), (42, .iinc 3 1, 3, 3, 0, 0, .int (1)), (45, .goto (-41), 3, 4, 0, 0, .null), (48, .iload_n 2, 1, 2, 0, 0, .null), (49, .ireturn, 1, 0, 0, 0, .null)]
def kc_69 : List (Nat × En) := [(0, .iload_n 1, 1, 1, 0, 0, .null), (1, .iconst 3, 1, 0, 0, 0, .int (3)), (2, .invokestatic 89, 3, 114, 2, 434, .null), (5, .ifCond .ne 5, 3, 10, 0, 0, .null), (8, .iconst (-1), 1, 0, 0, 0, .int (-1)), (9, .ireturn, 1, 0, 0, 0, .null), (10, .iload_n 2, 1, 2, 0, 0, .null), (11, .iconst 3, 1, 0, 0, 0, .int (3)), (12, .invokestatic 89, 3, 114, 2, 434, .null), (15, .ifCond .eq 18, 3, 33, 0, 0, .null), (18, .iload_n 3, 1, 3, 0, 0, .null), (19, .invokestatic 93, 3, 115, 1, 437, .null), (22, .ifCond .eq 11, 3, 33, 0, 0, .null), (25, .iload 4, 2, 4, 0, 0, .null), (27, .invokestatic 93, 3, 115, 1, 437, .null), (30, .ifCond .ne 6, 3, 36, 0, 0, .null), (33, .bipush (-2), 2, 0, 0, 0, .int (-2)), (35, .ireturn, 1, 0, 0, 0, .null), (36, .aload_n 0, 1, 0, 0, 0, .null), (37, .getfield 12, 3, 10, 0, 399, .null), (40, .getfield 97, 3, 3, 9, 109, .null), (43, .bipush 30, 2, 0, 0, 0, .int (30)), (45, .if_icmp .lt 6, 3, 51, 0, 0, .null), (48, .bipush (-4), 2, 0, 0, 0, .int (-4)), (50, .ireturn, 1, 0, 0, 0, .null), (51, .aload_n 0, 1, 0, 0, 0, .null), (52, .getfield 12, 3, 10, 0, 399, .null), (55, .iload_n 1, 1, 1, 0, 0, .null), (56, .iconst 3, 1, 0, 0, 0, .int (3)), (57, .imul, 1, 0, 0, 0, .null), (58, .iload_n 2, 1, 2, 0, 0, .null), (59, .iadd, 1, 0, 0, 0, .null), (60, .iload 4, 2, 4, 0, 0, .null), (62, .iload_n 3, 1, 3, 0, 0, .null), (63, .isub, 1, 0, 0, 0, .null), (64, .invokevirtual 101, 3, 20, 2, 440, .null), (67, .ifCond .ne 6, 3, 73, 0, 0, .null), (70, .bipush (-5), 2, 0, 0, 0, .int (-5)), (72, .ireturn, 1, 0, 0, 0, .null), (73, .aload_n 0, 1, 0, 0, 0, .null), (74, .getfield 21, 3, 10, 1, 400, .null), (77, .invokevirtual 104, 3, 35, 0, 475, .null), (80, .aload_n 0, 1, 0, 0, 0, .null), (81, .getfield 12, 3, 10, 0, 399, .null), (84, .getfield 97, 3, 3, 9, 109, .null), (87, .ireturn, 1, 0, 0, 0, .null)]
def kc_70 : List (Nat × En) := [(0, .iload_n 1, 1, 1, 0, 0, .null), (1, .iconst 3, 1, 0, 0, 0, .int (3)), (2, .invokestatic 89, 3, 114, 2, 434, .null), (5, .ifCond .eq 16, 3, 21, 0, 0, .null), (8, .iload_n 2, 1, 2, 0, 0, .null), (9, .iconst 3, 1, 0, 0, 0, .int (3)), (10, .invokestatic 89, 3, 114, 2, 434, .null), (13, .ifCond .eq 8, 3, 21, 0, 0, .null), (16, .iload_n 1, 1, 1, 0, 0, .null), (17, .iload_n 2, 1, 2, 0, 0, .null), (18, .if_icmp .ne 5, 3, 23, 0, 0, .null), (21, .iconst (-1), 1, 0, 0, 0, .int (-1)), (22, .ireturn, 1, 0, 0, 0, .null), (23, .iload_n 3, 1, 3, 0, 0, .null), (24, .iconst 3, 1, 0, 0, 0, .int (3)), (25, .invokestatic 89, 3, 114, 2, 434, .null), (28, .ifCond .eq 19, 3, 47, 0, 0, .null), (31, .iload 4, 2, 4, 0, 0, .null), (33, .invokestatic 93, 3, 115, 1, 437, .null), (36, .ifCond .eq 11, 3, 47, 0, 0, .null), (39, .iload 5, 2, 5, 0, 0, .null), (41, .invokestatic 93, 3, 115, 1, 437, .null), (44, .ifCond .ne 6, 3, 50, 0, 0, .null), (47, .bipush (-2), 2, 0, 0, 0, .int (-2)), (49, .ireturn, 1, 0, 0, 0, .null), (50, .aload_n 0, 1, 0, 0, 0, .null), (51, .getfield 12, 3, 10, 0, 399, .null), (54, .getfield 97, 3, 3, 9, 109, .null), (57, .bipush 30, 2, 0, 0, 0, .int (30)), (59, .if_icmp .lt 6, 3, 65, 0, 0, .null), (62, .bipush (-4), 2, 0, 0, 0, .int (-4)), (64, .ireturn, 1, 0, 0, 0, .null), (65, .aload_n 0, 1, 0, 0, 0, .null), (66, .getfield 12, 3, 10, 0, 399, .null), (69, .iload_n 1, 1, 1, 0, 0, .null), (70, .iconst 3, 1, 0, 0, 0, .int (3)), (71, .imul, 1, 0, 0, 0, .null), (72, .iload_n 3, 1, 3, 0, 0, .null), (73, .iadd, 1, 0, 0, 0, .null), (74, .iload_n 2, 1, 2, 0, 0, .null), (75, .iconst 3, 1, 0, 0, 0, .int (3)), (76, .imul, 1, 0, 0, 0, .null), (77, .iload_n 3, 1, 3, 0, 0, .null), (78, .iadd, 1, 0, 0, 0, .null), (79, .iload 4, 2, 4, 0, 0, .null), (81, .iload 5, 2, 5, 0, 0, .null), (83, .isub, 1, 0, 0, 0, .null), (84, .invokevirtual 107, 3, 21, 3, 500, .null), (87, .ifCond .ne 6, 3, 93, 0, 0, .null), (90, .bipush (-5), 2, 0, 0, 0, .int (-5)), (92, .ireturn, 1, 0, 0, 0, .null), (93, .aload_n 0, 1, 0, 0, 0, .null), (94, .getfield 21, 3, 10, 1, 400, .null), (97, .invokevirtual 104, 3, 35, 0, 475, .null), (100, .aload_n 0, 1, 0, 0, 0, .null), (101, .getfield 12, 3, 10, 0, 399, .null), (104, .getfield 97, 3, 3, 9, 109, .null), (107, .ireturn, 1, 0, 0, 0, .null)]
def kc_71 : List (Nat × En) := [(0, .iload_n 1, 1, 1, 0, 0, .null), (1, .iconst 3, 1, 0, 0, 0, .int (3)), (2, .invokestatic 89, 3, 114, 2, 434, .null), (5, .ifCond .ne 6, 3, 11, 0, 0, .null), (8, .ldc 111, 2, 0, 0, 508, .int (-1000001)), (10, .ireturn, 1, 0, 0, 0, .null), (11, .iload_n 2, 1, 2, 0, 0, .null), (12, .iconst 3, 1, 0, 0, 0, .int (3)), (13, .invokestatic 89, 3, 114, 2, 434, .null), (16, .ifCond .eq 11, 3, 27, 0, 0, .null), (19, .iload_n 3, 1, 3, 0, 0, .null), (20, .iconst 2, 1, 0, 0, 0, .int (2)), (21, .invokestatic 89, 3, 114, 2, 434, .null), (24, .ifCond .ne 6, 3, 30, 0, 0, .null), (27, .ldc 112, 2, 0, 0, 509, .int (-1000002)), (29, .ireturn, 1, 0, 0, 0, .null), (30, .iload_n 1, 1, 1, 0, 0, .null), (31, .iconst 3, 1, 0, 0, 0, .int (3)), (32, .imul, 1, 0, 0, 0, .null), (33, .iload_n 2, 1, 2, 0, 0, .null), (34, .iadd, 1, 0, 0, 0, .null), (35, .istore 4, 2, 4, 0, 0, .null), (37, .iload_n 3, 1, 3, 0, 0, .null), (38, .ifCond .ne 16, 3, 54, 0, 0, .null), (41, .aload_n 0, 1, 0, 0, 0, .null), (42, .getfield 12, 3, 10, 0, 399, .null), (45, .getfield 113, 3, 3, 0, 97, .null), (48, .iload 4, 2, 4, 0, 0, .null), (50, .iaload, 1, 0, 0, 0, .null), (51, .goto 13, 3, 64, 0, 0, .null), (54, .aload_n 0, 1, 0, 0, 0, .null), (55, .getfield 12, 3, 10, 0, 399, .null), (58, .getfield 117, 3, 3, 1, 100, .null), (61, .iload 4, 2, 4, 0, 0, .null), (63, .iaload, 1, 0, 0, 0, .null), (64, .ireturn, 1, 0, 0, 0, .null)]
def kc_72 : List (Nat × En) := [(0, .iload_n 1, 1, 1, 0, 0, .null), (1, .ifCond .lt 8, 3, 9, 0, 0, .null), (4, .iload_n 1, 1, 1, 0, 0, .null), (5, .iconst 3, 1, 0, 0, 0, .int (3)), (6, .if_icmp .le 6, 3, 12, 0, 0, .null), (9, .bipush (-2), 2, 0, 0, 0, .int (-2)), (11, .ireturn, 1, 0, 0, 0, .null), (12, .aload_n 0, 1, 0, 0, 0, .null), (13, .getfield 12, 3, 10, 0, 399, .null), (16, .getfield 120, 3, 3, 10, 112, .null), (19, .istore_n 2, 1, 2, 0, 0, .null), (20, .aload_n 0, 1, 0, 0, 0, .null), (21, .getfield 12, 3, 10, 0, 399, .null), (24, .iload_n 1, 1, 1, 0, 0, .null), (25, .putfield 120, 3, 3, 10, 112, .null), (28, .aload_n 0, 1, 0, 0, 0, .null), (29, .getfield 21, 3, 10, 1, 400, .null), (32, .invokevirtual 104, 3, 35, 0, 475, .null), (35, .iload_n 2, 1, 2, 0, 0, .null), (36, .ireturn, 1, 0, 0, 0, .null)]
def kc_73 : List (Nat × En) := [(0, .iload_n 1, 1, 1, 0, 0, .null), (1, .bipush 6, 2, 0, 0, 0, .int (6)), (3, .invokestatic 89, 3, 114, 2, 434, .null), (6, .ifCond .eq 20, 3, 26, 0, 0, .null), (9, .iload_n 2, 1, 2, 0, 0, .null), (10, .bipush 24, 2, 0, 0, 0, .int (24)), (12, .invokestatic 89, 3, 114, 2, 434, .null), (15, .ifCond .eq 11, 3, 26, 0, 0, .null), (18, .iload_n 3, 1, 3, 0, 0, .null), (19, .iconst 3, 1, 0, 0, 0, .int (3)), (20, .invokestatic 89, 3, 114, 2, 434, .null), (23, .ifCond .ne 5, 3, 28, 0, 0, .null), (26, .iconst (-1), 1, 0, 0, 0, .int (-1)), (27, .ireturn, 1, 0, 0, 0, .null), (28, .iload 4, 2, 4, 0, 0, .null), (30, .invokestatic 93, 3, 115, 1, 437, .null), (33, .ifCond .eq 19, 3, 52, 0, 0, .null), (36, .iload 5, 2, 5, 0, 0, .null), (38, .invokestatic 93, 3, 115, 1, 437, .null), (41, .ifCond .eq 11, 3, 52, 0, 0, .null), (44, .iload 6, 2, 6, 0, 0, .null), (46, .invokestatic 93, 3, 115, 1, 437, .null), (49, .ifCond .ne 6, 3, 55, 0, 0, .null), (52, .bipush (-2), 2, 0, 0, 0, .int (-2)), (54, .ireturn, 1, 0, 0, 0, .null), (55, .aload_n 0, 1, 0, 0, 0, .null), (56, .getfield 21, 3, 10, 1, 400, .null), (59, .getfield 123, 3, 4, 7, 158, .null), (62, .bipush 60, 2, 0, 0, 0, .int (60)), (64, .if_icmp .lt 6, 3, 70, 0, 0, .null), (67, .bipush (-4), 2, 0, 0, 0, .int (-4)), (69, .ireturn, 1, 0, 0, 0, .null), (70, .aload_n 0, 1, 0, 0, 0, .null), (71, .getfield 21, 3, 10, 1, 400, .null), (74, .iload_n 1, 1, 1, 0, 0, .null), (75, .bipush 24, 2, 0, 0, 0, .int (24)), (77, .imul, 1, 0, 0, 0, .null), (78, .iload_n 2, 1, 2, 0, 0, .null), (79, .iadd, 1, 0, 0, 0, .null), (80, .iload_n 3, 1, 3, 0, 0, .null), (81, .iload 4, 2, 4, 0, 0, .null), (83, .iload 5, 2, 5, 0, 0, .null), (85, .iload 6, 2, 6, 0, 0, .null), (87, .invokevirtual 126, 3, 30, 5, 518, .null), (90, .istore 7, 2, 7, 0, 0, .null), (92, .aload_n 0, 1, 0, 0, 0, .null), (93, .getfield 21, 3, 10, 1, 400, .null), (96, .invokevirtual 104, 3, 35, 0, 475, .null), (99, .iload 7, 2, 7, 0, 0, .null), (101, .ireturn, 1, 0, 0, 0, .null)]
def kc_74 : List (Nat × En) := [(0, .iload_n 1, 1, 1, 0, 0, .null), (1, .aload_n 0, 1, 0, 0, 0, .null), (2, .getfield 21, 3, 10, 1, 400, .null), (5, .getfield 123, 3, 4, 7, 158, .null), (8, .invokestatic 89, 3, 114, 2, 434, .null), (11, .ifCond .ne 6, 3, 17, 0, 0, .null), (14, .ldc 111, 2, 0, 0, 508, .int (-1000001)), (16, .ireturn, 1, 0, 0, 0, .null), (17, .iload_n 2, 1, 2, 0, 0, .null), (18, .iconst 3, 1, 0, 0, 0, .int (3)), (19, .invokestatic 89, 3, 114, 2, 434, .null), (22, .ifCond .eq 11, 3, 33, 0, 0, .null), (25, .iload_n 3, 1, 3, 0, 0, .null), (26, .iconst 2, 1, 0, 0, 0, .int (2)), (27, .invokestatic 89, 3, 114, 2, 434, .null), (30, .ifCond .ne 6, 3, 36, 0, 0, .null), (33, .ldc 112, 2, 0, 0, 509, .int (-1000002)), (35, .ireturn, 1, 0, 0, 0, .null), (36, .iload_n 3, 1, 3, 0, 0, .null), (37, .ifCond .ne 15, 3, 52, 0, 0, .null), (40, .aload_n 0, 1, 0, 0, 0, .null), (41, .getfield 21, 3, 10, 1, 400, .null), (44, .iload_n 1, 1, 1, 0, 0, .null), (45, .iload_n 2, 1, 2, 0, 0, .null), (46, .invokevirtual 130, 3, 33, 2, 530, .null), (49, .goto 12, 3, 61, 0, 0, .null), (52, .aload_n 0, 1, 0, 0, 0, .null), (53, .getfield 21, 3, 10, 1, 400, .null), (56, .iload_n 1, 1, 1, 0, 0, .null), (57, .iload_n 2, 1, 2, 0, 0, .null), (58, .invokevirtual 134, 3, 34, 2, 531, .null), (61, .ireturn, 1, 0, 0, 0, .null)]
def kc_75 : List (Nat × En) := [(0, .iload_n 1, 1, 1, 0, 0, .null), (1, .sipush 144, 3, 0, 0, 0, .int (144)), (4, .invokestatic 89, 3, 114, 2, 434, .null), (7, .ifCond .ne 5, 3, 12, 0, 0, .null), (10, .iconst (-1), 1, 0, 0, 0, .int (-1)), (11, .ireturn, 1, 0, 0, 0, .null), (12, .aload_n 0, 1, 0, 0, 0, .null), (13, .getfield 21, 3, 10, 1, 400, .null), (16, .getfield 137, 3, 4, 4, 151, .null), (19, .iload_n 1, 1, 1, 0, 0, .null), (20, .iaload, 1, 0, 0, 0, .null), (21, .ireturn, 1, 0, 0, 0, .null)]
def kc_76 : List (Nat × En) := [(0, .aload_n 0, 1, 0, 0, 0, .null), (1, .getfield 21, 3, 10, 1, 400, .null), (4, .iload_n 1, 1, 1, 0, 0, .null), (5, .invokevirtual 140, 3, 29, 1, 540, .null), (8, .ifCond .ne 6, 3, 14, 0, 0, .null), (11, .ldc 111, 2, 0, 0, 508, .int (-1000001)), (13, .ireturn, 1, 0, 0, 0, .null), (14, .iload_n 2, 1, 2, 0, 0, .null), (15, .iconst 3, 1, 0, 0, 0, .int (3)), (16, .invokestatic 89, 3, 114, 2, 434, .null), (19, .ifCond .eq 11, 3, 30, 0, 0, .null), (22, .iload_n 3, 1, 3, 0, 0, .null), (23, .iconst 2, 1, 0, 0, 0, .int (2)), (24, .invokestatic 89, 3, 114, 2, 434, .null), (27, .ifCond .ne 6, 3, 33, 0, 0, .null), (30, .ldc 112, 2, 0, 0, 509, .int (-1000002)), (32, .ireturn, 1, 0, 0, 0, .null), (33, .iload_n 1, 1, 1, 0, 0, .null), (34, .iconst 3, 1, 0, 0, 0, .int (3)), (35, .imul, 1, 0, 0, 0, .null), (36, .iload_n 2, 1, 2, 0, 0, .null), (37, .iadd, 1, 0, 0, 0, .null), (38, .istore 4, 2, 4, 0, 0, .null), (40, .iload_n 3, 1, 3, 0, 0, .null), (41, .ifCond .ne 16, 3, 57, 0, 0, .null), (44, .aload_n 0, 1, 0, 0, 0, .null), (45, .getfield 21, 3, 10, 1, 400, .null), (48, .getfield 143, 3, 4, 5, 153, .null), (51, .iload 4, 2, 4, 0, 0, .null), (53, .iaload, 1, 0, 0, 0, .null), (54, .goto 13, 3, 67, 0, 0, .null), (57, .aload_n 0, 1, 0, 0, 0, .null), (58, .getfield 21, 3, 10, 1, 400, .null), (61, .getfield 146, 3, 4, 6, 155, .null), (64, .iload 4, 2, 4, 0, 0, .null), (66, .iaload, 1, 0, 0, 0, .null), (67, .ireturn, 1, 0, 0, 0, .null)]
def kc_77 : List (Nat × En) := [(0, .iload_n 1, 1, 1, 0, 0, .null), (1, .bipush 33, 2, 0, 0, 0, .int (33)), (3, .if_icmp .lt 9, 3, 12, 0, 0, .null), (6, .iload_n 1, 1, 1, 0, 0, .null), (7, .bipush 126, 2, 0, 0, 0, .int (126)), (9, .if_icmp .le 6, 3, 15, 0, 0, .null), (12, .bipush (-2), 2, 0, 0, 0, .int (-2)), (14, .ireturn, 1, 0, 0, 0, .null), (15, .aload_n 0, 1, 0, 0, 0, .null), (16, .getfield 44, 3, 10, 4, 403, .null), (19, .getfield 149, 3, 6, 1, 261, .null), (22, .bipush 50, 2, 0, 0, 0, .int (50)), (24, .if_icmp .lt 6, 3, 30, 0, 0, .null), (27, .bipush (-4), 2, 0, 0, 0, .int (-4)), (29, .ireturn, 1, 0, 0, 0, .null), (30, .aload_n 0, 1, 0, 0, 0, .null), (31, .getfield 44, 3, 10, 4, 403, .null), (34, .getfield 152, 3, 6, 0, 259, .null), (37, .aload_n 0, 1, 0, 0, 0, .null), (38, .getfield 44, 3, 10, 4, 403, .null), (41, .getfield 149, 3, 6, 1, 261, .null), (44, .iload_n 1, 1, 1, 0, 0, .null), (45, .iastore, 1, 0, 0, 0, .null), (46, .aload_n 0, 1, 0, 0, 0, .null), (47, .getfield 44, 3, 10, 4, 403, .null), (50, .dup, 1, 0, 0, 0, .null), (51, .getfield 149, 3, 6, 1, 261, .null), (54, .iconst 1, 1, 0, 0, 0, .int (1)), (55, .iadd, 1, 0, 0, 0, .null), (56, .putfield 149, 3, 6, 1, 261, .null), (59, .aload_n 0, 1, 0, 0, 0, .null), (60, .getfield 44, 3, 10, 4, 403, .null), (63, .getfield 149, 3, 6, 1, 261, .null), (66, .ireturn, 1, 0, 0, 0, .null)]
def kc_78 : List (Nat × En) := [(0, .aload_n 0, 1, 0, 0, 0, .null), (1, .getfield 44, 3, 10, 4, 403, .null), (4, .getfield 149, 3, 6, 1, 261, .null), (7, .istore_n 1, 1, 1, 0, 0, .null), (8, .aload_n 0, 1, 0, 0, 0, .null), (9, .getfield 44, 3, 10, 4, 403, .null), (12, .iconst 0, 1, 0, 0, 0, .int (0)), (13, .putfield 149, 3, 6, 1, 261, .null), (16, .iload_n 1, 1, 1, 0, 0, .null), (17, .ireturn, 1, 0, 0, 0, .null)]
def kc_79 : List (Nat × En) := [(0, .aload_n 0, 1, 0, 0, 0, .null), (1, .getfield 44, 3, 10, 4, 403, .null), (4, .invokevirtual 155, 3, 44, 0, 557, .null), (7, .ireturn, 1, 0, 0, 0, .null)]
def kc_80 : List (Nat × En) := [(0, .aload_n 0, 1, 0, 0, 0, .null), (1, .getfield 44, 3, 10, 4, 403, .null), (4, .invokevirtual 155, 3, 44, 0, 557, .null), (7, .bipush (-6), 2, 0, 0, 0, .int (-6)), (9, .if_icmp .eq 6, 3, 15, 0, 0, .null), (12, .bipush (-5), 2, 0, 0, 0, .int (-5)), (14, .ireturn, 1, 0, 0, 0, .null), (15, .aload_n 0, 1, 0, 0, 0, .null), (16, .getfield 44, 3, 10, 4, 403, .null), (19, .invokevirtual 159, 3, 49, 0, 577, .null), (22, .aload_n 0, 1, 0, 0, 0, .null), (23, .getfield 44, 3, 10, 4, 403, .null), (26, .iconst 0, 1, 0, 0, 0, .int (0)), (27, .putfield 149, 3, 6, 1, 261, .null), (30, .aload_n 0, 1, 0, 0, 0, .null), (31, .getfield 44, 3, 10, 4, 403, .null), (34, .getfield 162, 3, 6, 7, 272, .null), (37, .ireturn, 1, 0, 0, 0, .null)]
def kc_81 : List (Nat × En) := [(0, .aload_n 0, 1, 0, 0, 0, .null), (1, .iload_n 1, 1, 1, 0, 0, .null), (2, .iload_n 2, 1, 2, 0, 0, .null), (3, .invokevirtual 165, 3, 86, 2, 589, .null), (6, .ifCond .ne 5, 3, 11, 0, 0, .null), (9, .iconst (-1), 1, 0, 0, 0, .int (-1)), (10, .ireturn, 1, 0, 0, 0, .null), (11, .iload_n 3, 1, 3, 0, 0, .null), (12, .ifCond .lt 8, 3, 20, 0, 0, .null), (15, .iload_n 3, 1, 3, 0, 0, .null), (16, .iconst 3, 1, 0, 0, 0, .int (3)), (17, .if_icmp .le 6, 3, 23, 0, 0, .null), (20, .bipush (-2), 2, 0, 0, 0, .int (-2)), (22, .ireturn, 1, 0, 0, 0, .null), (23, .iload_n 3, 1, 3, 0, 0, .null), (24, .iconst 3, 1, 0, 0, 0, .int (3)), (25, .if_icmp .ge 14, 3, 39, 0, 0, .null), (28, .aload_n 0, 1, 0, 0, 0, .null), (29, .getfield 21, 3, 10, 1, 400, .null), (32, .iload_n 1, 1, 1, 0, 0, .null), (33, .iload_n 2, 1, 2, 0, 0, .null), (34, .iload_n 3, 1, 3, 0, 0, .null), (35, .invokevirtual 168, 3, 36, 3, 593, .null), (38, .ireturn, 1, 0, 0, 0, .null), (39, .aload_n 0, 1, 0, 0, 0, .null), (40, .getfield 37, 3, 10, 3, 402, .null), (43, .iconst (-1), 1, 0, 0, 0, .int (-1)), (44, .invokevirtual 172, 3, 0, 1, 600, .null), (47, .ifCond .eq 6, 3, 53, 0, 0, .null), (50, .bipush (-5), 2, 0, 0, 0, .int (-5)), (52, .ireturn, 1, 0, 0, 0, .null), (53, .aload_n 0, 1, 0, 0, 0, .null), (54, .getfield 37, 3, 10, 3, 402, .null), (57, .iload_n 1, 1, 1, 0, 0, .null), (58, .iload_n 2, 1, 2, 0, 0, .null), (59, .invokevirtual 175, 3, 6, 2, 629, .null), (62, .ireturn, 1, 0, 0, 0, .null)]
def kc_82 : List (Nat × En) := [(0, .aload_n 0, 1, 0, 0, 0, .null), (1, .iload_n 1, 1, 1, 0, 0, .null), (2, .iload_n 2, 1, 2, 0, 0, .null), (3, .invokevirtual 165, 3, 86, 2, 589, .null), (6, .ifCond .ne 5, 3, 11, 0, 0, .null), (9, .iconst (-1), 1, 0, 0, 0, .int (-1)), (10, .ireturn, 1, 0, 0, 0, .null), (11, .aload_n 0, 1, 0, 0, 0, .null), (12, .invokevirtual 178, 3, 85, 0, 638, .null), (15, .istore_n 3, 1, 3, 0, 0, .null), (16, .iload_n 3, 1, 3, 0, 0, .null), (17, .ifCond .eq 5, 3, 22, 0, 0, .null), (20, .iload_n 3, 1, 3, 0, 0, .null), (21, .ireturn, 1, 0, 0, 0, .null), (22, .aload_n 0, 1, 0, 0, 0, .null), (23, .getfield 53, 3, 10, 5, 404, .null), (26, .iload_n 1, 1, 1, 0, 0, .null), (27, .iload_n 2, 1, 2, 0, 0, .null), (28, .invokevirtual 181, 3, 12, 2, 642, .null), (31, .ifCond .eq 7, 3, 38, 0, 0, .null), (34, .iconst 1, 1, 0, 0, 0, .int (1)), (35, .goto 4, 3, 39, 0, 0, .null), (38, .iconst 0, 1, 0, 0, 0, .int (0)), (39, .ireturn, 1, 0, 0, 0, .null)]
def kc_83 : List (Nat × En) := [(0, .aload_n 0, 1, 0, 0, 0, .null), (1, .getfield 21, 3, 10, 1, 400, .null), (4, .iload_n 1, 1, 1, 0, 0, .null), (5, .invokevirtual 140, 3, 29, 1, 540, .null), (8, .ifCond .ne 5, 3, 13, 0, 0, .null), (11, .iconst (-1), 1, 0, 0, 0, .int (-1)), (12, .ireturn, 1, 0, 0, 0, .null), (13, .aload_n 0, 1, 0, 0, 0, .null), (14, .invokevirtual 178, 3, 85, 0, 638, .null), (17, .istore_n 3, 1, 3, 0, 0, .null), (18, .iload_n 3, 1, 3, 0, 0, .null), (19, .ifCond .eq 5, 3, 24, 0, 0, .null), (22, .iload_n 3, 1, 3, 0, 0, .null), (23, .ireturn, 1, 0, 0, 0, .null), (24, .aload_n 0, 1, 0, 0, 0, .null), (25, .getfield 53, 3, 10, 5, 404, .null), (28, .invokevirtual 184, 3, 14, 0, 661, .null), (31, .aload_n 0, 1, 0, 0, 0, .null), (32, .getfield 53, 3, 10, 5, 404, .null), (35, .aload_n 0, 1, 0, 0, 0, .null), (36, .getfield 21, 3, 10, 1, 400, .null), (39, .iload_n 1, 1, 1, 0, 0, .null), (40, .invokevirtual 187, 3, 32, 1, 666, .null), (43, .invokevirtual 191, 3, 15, 1, 670, .null), (46, .lstore 4, 2, 4, 0, 0, .null), (48, .iload_n 2, 1, 2, 0, 0, .null), (49, .iconst (-1), 1, 0, 0, 0, .int (-1)), (50, .if_icmp .ne 9, 3, 59, 0, 0, .null), (53, .lload 4, 2, 4, 0, 0, .null), (55, .invokestatic 195, 3, 210, 1, 678, .null), (58, .ireturn, 1, 0, 0, 0, .null), (59, .aload_n 0, 1, 0, 0, 0, .null), (60, .getfield 53, 3, 10, 5, 404, .null), (63, .lload 4, 2, 4, 0, 0, .null), (65, .iload_n 2, 1, 2, 0, 0, .null), (66, .invokevirtual 201, 3, 17, 2, 684, .null), (69, .ireturn, 1, 0, 0, 0, .null)]
def kc_84 : List (Nat × En) := [(0, .aload_n 0, 1, 0, 0, 0, .null), (1, .invokevirtual 178, 3, 85, 0, 638, .null), (4, .istore_n 1, 1, 1, 0, 0, .null), (5, .iload_n 1, 1, 1, 0, 0, .null), (6, .ifCond .eq 5, 3, 11, 0, 0, .null), (9, .iload_n 1, 1, 1, 0, 0, .null), (10, .ireturn, 1, 0, 0, 0, .null), (11, .aload_n 0, 1, 0, 0, 0, .null), (12, .getfield 53, 3, 10, 5, 404, .null), (15, .invokevirtual 184, 3, 14, 0, 661, .null), (18, .aload_n 0, 1, 0, 0, 0, .null), (19, .getfield 53, 3, 10, 5, 404, .null), (22, .invokevirtual 205, 3, 18, 0, 692, .null), (25, .ireturn, 1, 0, 0, 0, .null)]
def kc_85 : List (Nat × En) := [(0, .aload_n 0, 1, 0, 0, 0, .null), (1, .getfield 44, 3, 10, 4, 403, .null), (4, .getfield 162, 3, 6, 7, 272, .null), (7, .ifCond .ne 6, 3, 13, 0, 0, .null), (10, .bipush (-3), 2, 0, 0, 0, .int (-3)), (12, .ireturn, 1, 0, 0, 0, .null), (13, .aload_n 0, 1, 0, 0, 0, .null), (14, .getfield 44, 3, 10, 4, 403, .null), (17, .getfield 208, 3, 6, 8, 274, .null), (20, .ifCond .eq 17, 3, 37, 0, 0, .null), (23, .aload_n 0, 1, 0, 0, 0, .null), (24, .getfield 37, 3, 10, 3, 402, .null), (27, .iconst (-1), 1, 0, 0, 0, .int (-1)), (28, .invokevirtual 172, 3, 0, 1, 600, .null), (31, .ifCond .eq 6, 3, 37, 0, 0, .null), (34, .bipush (-5), 2, 0, 0, 0, .int (-5)), (36, .ireturn, 1, 0, 0, 0, .null), (37, .iconst 0, 1, 0, 0, 0, .int (0)), (38, .ireturn, 1, 0, 0, 0, .null)]
def kc_86 : List (Nat × En) := [(0, .iload_n 1, 1, 1, 0, 0, .null), (1, .iload_n 2, 1, 2, 0, 0, .null), (2, .if_icmp .eq 29, 3, 31, 0, 0, .null), (5, .aload_n 0, 1, 0, 0, 0, .null), (6, .getfield 21, 3, 10, 1, 400, .null), (9, .iload_n 1, 1, 1, 0, 0, .null), (10, .invokevirtual 140, 3, 29, 1, 540, .null), (13, .ifCond .eq 18, 3, 31, 0, 0, .null), (16, .aload_n 0, 1, 0, 0, 0, .null), (17, .getfield 21, 3, 10, 1, 400, .null), (20, .iload_n 2, 1, 2, 0, 0, .null), (21, .invokevirtual 140, 3, 29, 1, 540, .null), (24, .ifCond .eq 7, 3, 31, 0, 0, .null), (27, .iconst 1, 1, 0, 0, 0, .int (1)), (28, .goto 4, 3, 32, 0, 0, .null), (31, .iconst 0, 1, 0, 0, 0, .int (0)), (32, .ireturn, 1, 0, 0, 0, .int 1)]
def kc_87 : List (Nat × En) := [(0, .iload_n 1, 1, 1, 0, 0, .null), (1, .bipush 6, 2, 0, 0, 0, .int (6)), (3, .invokestatic 89, 3, 114, 2, 434, .null), (6, .ifCond .ne 5, 3, 11, 0, 0, .null), (9, .iconst (-1), 1, 0, 0, 0, .int (-1)), (10, .ireturn, 1, 0, 0, 0, .null), (11, .iload_n 2, 1, 2, 0, 0, .null), (12, .invokestatic 93, 3, 115, 1, 437, .null), (15, .ifCond .eq 18, 3, 33, 0, 0, .null), (18, .iload_n 3, 1, 3, 0, 0, .null), (19, .invokestatic 93, 3, 115, 1, 437, .null), (22, .ifCond .eq 11, 3, 33, 0, 0, .null), (25, .iload 4, 2, 4, 0, 0, .null), (27, .invokestatic 93, 3, 115, 1, 437, .null), (30, .ifCond .ne 6, 3, 36, 0, 0, .null), (33, .bipush (-2), 2, 0, 0, 0, .int (-2)), (35, .ireturn, 1, 0, 0, 0, .null), (36, .iload 5, 2, 5, 0, 0, .null), (38, .ifCond .lt 9, 3, 47, 0, 0, .null), (41, .iload 5, 2, 5, 0, 0, .null), (43, .iconst 5, 1, 0, 0, 0, .int (5)), (44, .if_icmp .le 6, 3, 50, 0, 0, .null), (47, .bipush (-2), 2, 0, 0, 0, .int (-2)), (49, .ireturn, 1, 0, 0, 0, .null), (50, .aload_n 0, 1, 0, 0, 0, .null), (51, .getfield 62, 3, 10, 6, 405, .null), (54, .iload_n 1, 1, 1, 0, 0, .null), (55, .invokevirtual 212, 3, 39, 1, 707, .null), (58, .istore 6, 2, 6, 0, 0, .null), (60, .aload_n 0, 1, 0, 0, 0, .null), (61, .getfield 62, 3, 10, 6, 405, .null), (64, .iload_n 1, 1, 1, 0, 0, .null), (65, .iload_n 2, 1, 2, 0, 0, .null), (66, .iload_n 3, 1, 3, 0, 0, .null), (67, .iload 4, 2, 4, 0, 0, .null), (69, .iload 5, 2, 5, 0, 0, .null), (71, .invokevirtual 215, 3, 40, 5, 712, .null), (74, .iload 6, 2, 6, 0, 0, .null), (76, .ifCond .eq 7, 3, 83, 0, 0, .null), (79, .iconst 0, 1, 0, 0, 0, .int (0)), (80, .goto 4, 3, 84, 0, 0, .null), (83, .iconst 1, 1, 0, 0, 0, .int (1)), (84, .ireturn, 1, 0, 0, 0, .null)]
def kc_88 : List (Nat × En) := [(0, .iload_n 1, 1, 1, 0, 0, .null), (1, .ifCond .eq 11, 3, 12, 0, 0, .null), (4, .iload_n 1, 1, 1, 0, 0, .null), (5, .iconst 1, 1, 0, 0, 0, .int (1)), (6, .if_icmp .eq 6, 3, 12, 0, 0, .null), (9, .bipush (-2), 2, 0, 0, 0, .int (-2)), (11, .ireturn, 1, 0, 0, 0, .null), (12, .iload_n 2, 1, 2, 0, 0, .null), (13, .iload_n 1, 1, 1, 0, 0, .null), (14, .ifCond .ne 8, 3, 22, 0, 0, .null), (17, .bipush 6, 2, 0, 0, 0, .int (6)), (19, .goto 5, 3, 24, 0, 0, .null), (22, .bipush 6, 2, 0, 0, 0, .int (6)), (24, .invokestatic 89, 3, 114, 2, 434, .null), (27, .ifCond .ne 5, 3, 32, 0, 0, .null), (30, .iconst (-1), 1, 0, 0, 0, .int (-1)), (31, .ireturn, 1, 0, 0, 0, .null), (32, .iload_n 3, 1, 3, 0, 0, .null), (33, .ifCond .lt 21, 3, 54, 0, 0, .null), (36, .iload_n 3, 1, 3, 0, 0, .null), (37, .bipush 20, 2, 0, 0, 0, .int (20)), (39, .if_icmp .gt 15, 3, 54, 0, 0, .null), (42, .iload 4, 2, 4, 0, 0, .null), (44, .ifCond .lt 10, 3, 54, 0, 0, .null), (47, .iload 4, 2, 4, 0, 0, .null), (49, .bipush 20, 2, 0, 0, 0, .int (20)), (51, .if_icmp .le 6, 3, 57, 0, 0, .null), (54, .bipush (-2), 2, 0, 0, 0, .int (-2)), (56, .ireturn, 1, 0, 0, 0, .null), (57, .iload_n 1, 1, 1, 0, 0, .null), (58, .bipush 6, 2, 0, 0, 0, .int (6)), (60, .imul, 1, 0, 0, 0, .null), (61, .iload_n 2, 1, 2, 0, 0, .null), (62, .iadd, 1, 0, 0, 0, .null), (63, .istore 5, 2, 5, 0, 0, .null), (65, .bipush 100, 2, 0, 0, 0, .int (100)), (67, .aload_n 0, 1, 0, 0, 0, .null), (68, .getfield 62, 3, 10, 6, 405, .null), (71, .getfield 219, 3, 5, 3, 324, .null), (74, .iload 5, 2, 5, 0, 0, .null), (76, .iaload, 1, 0, 0, 0, .null), (77, .imul, 1, 0, 0, 0, .null), (78, .aload_n 0, 1, 0, 0, 0, .null), (79, .getfield 62, 3, 10, 6, 405, .null), (82, .getfield 222, 3, 5, 4, 326, .null), (85, .iload 5, 2, 5, 0, 0, .null), (87, .iaload, 1, 0, 0, 0, .null), (88, .iadd, 1, 0, 0, 0, .null), (89, .istore 6, 2, 6, 0, 0, .null), (91, .aload_n 0, 1, 0, 0, 0, .null), (92, .getfield 62, 3, 10, 6, 405, .null), (95, .getfield 219, 3, 5, 3, 324, .null), (98, .iload 5, 2, 5, 0, 0, .null), (100, .iload_n 3, 1, 3, 0, 0, .null), (101, .iastore, 1, 0, 0, 0, .null), (102, .aload_n 0, 1, 0, 0, 0, .null), (103, .getfield 62, 3, 10, 6, 405, .null), (106, .getfield 222, 3, 5, 4, 326, .null), (109, .iload 5, 2, 5, 0, 0, .null), (111, .iload 4, 2, 4, 0, 0, .null), (113, .iastore, 1, 0, 0, 0, .null), (114, .iload 6, 2, 6, 0, 0, .null), (116, .ireturn, 1, 0, 0, 0, .null)]
def kc_89 : List (Nat × En) := [(0, .iload_n 1, 1, 1, 0, 0, .null), (1, .aload_n 0, 1, 0, 0, 0, .null), (2, .getfield 21, 3, 10, 1, 400, .null), (5, .getfield 123, 3, 4, 7, 158, .null), (8, .invokestatic 89, 3, 114, 2, 434, .null), (11, .ifCond .eq 14, 3, 25, 0, 0, .null), (14, .aload_n 0, 1, 0, 0, 0, .null), (15, .getfield 62, 3, 10, 6, 405, .null), (18, .iload_n 2, 1, 2, 0, 0, .null), (19, .invokevirtual 212, 3, 39, 1, 707, .null), (22, .ifCond .ne 5, 3, 27, 0, 0, .null), (25, .iconst (-1), 1, 0, 0, 0, .int (-1)), (26, .ireturn, 1, 0, 0, 0, .null), (27, .aload_n 0, 1, 0, 0, 0, .null), (28, .getfield 62, 3, 10, 6, 405, .null), (31, .iload_n 1, 1, 1, 0, 0, .null), (32, .iload_n 2, 1, 2, 0, 0, .null), (33, .invokevirtual 225, 3, 41, 2, 724, .null), (36, .ireturn, 1, 0, 0, 0, .null)]
def kc_90 : List (Nat × En) := [(0, .aload_n 0, 1, 0, 0, 0, .null), (1, .getfield 21, 3, 10, 1, 400, .null), (4, .iload_n 1, 1, 1, 0, 0, .null), (5, .invokevirtual 140, 3, 29, 1, 540, .null), (8, .ifCond .eq 14, 3, 22, 0, 0, .null), (11, .aload_n 0, 1, 0, 0, 0, .null), (12, .getfield 62, 3, 10, 6, 405, .null), (15, .iload_n 2, 1, 2, 0, 0, .null), (16, .invokevirtual 212, 3, 39, 1, 707, .null), (19, .ifCond .ne 7, 3, 26, 0, 0, .null), (22, .ldc2_w 228, 3, 0, 0, 738, .long (-1000000000000000001)), (25, .lreturn, 1, 0, 0, 0, .null), (26, .iload_n 3, 1, 3, 0, 0, .null), (27, .iconst 2, 1, 0, 0, 0, .int (2)), (28, .invokestatic 89, 3, 114, 2, 434, .null), (31, .ifCond .ne 7, 3, 38, 0, 0, .null), (34, .ldc2_w 230, 3, 0, 0, 739, .long (-1000000000000000002)), (37, .lreturn, 1, 0, 0, 0, .null), (38, .lconst 0, 1, 0, 0, 0, .long 0), (39, .lstore 4, 2, 4, 0, 0, .null), (41, .iconst 0, 1, 0, 0, 0, .int (0)), (42, .istore 6, 2, 6, 0, 0, .null), (44, .iload 6, 2, 6, 0, 0, .null), (46, .bipush 6, 2, 0, 0, 0, .int (6)), (48, .if_icmp .ge 36, 3, 84, 0, 0, .null), (51, .aload_n 0, 1, 0, 0, 0, .null), (52, .getfield 62, 3, 10, 6, 405, .null), (55, .iload 6, 2, 6, 0, 0, .null), (57, .invokevirtual 212, 3, 39, 1, 707, .null), (60, .ifCond .eq 18, 3, 78, 0, 0, .null), (63, .lload 4, 2, 4, 0, 0, .null), (65, .aload_n 0, 1, 0, 0, 0, .null), (66, .getfield 62, 3, 10, 6, 405, .null), (69, .iload_n 1, 1, 1, 0, 0, .null), (70, .iload 6, 2, 6, 0, 0, .null), (72, .invokevirtual 232, 3, 42, 2, 740, .null), (75, .ladd, 1, 0, 0, 0, .null), (76, .lstore 4, 2, 4, 0, 0, .null), (78, .iinc 6 1, 3, 6, 0, 0, .int (1)), (81, .goto (-37), 3, 44, 0, 0, .null), (84, .aload_n 0, 1, 0, 0, 0, .null), (85, .getfield 62, 3, 10, 6, 405, .null), (88, .iload_n 1, 1, 1, 0, 0, .null), (89, .iload_n 2, 1, 2, 0, 0, .null), (90, .invokevirtual 232, 3, 42, 2, 740, .null), (93, .lload 4, 2, 4, 0, 0, .null), (95, .iload_n 3, 1, 3, 0, 0, .null), (96, .invokestatic 236, 3, 118, 3, 745, .null), (99, .lreturn, 1, 0, 0, 0, .null)]
def kc_91 : List (Nat × En) := [(0, .iload_n 1, 1, 1, 0, 0, .null), (1, .ifCond .eq 11, 3, 12, 0, 0, .null), (4, .iload_n 1, 1, 1, 0, 0, .null), (5, .iconst 1, 1, 0, 0, 0, .int (1)), (6, .if_icmp .eq 6, 3, 12, 0, 0, .null), (9, .bipush (-2), 2, 0, 0, 0, .int (-2)), (11, .ireturn, 1, 0, 0, 0, .null), (12, .iload_n 2, 1, 2, 0, 0, .null), (13, .iload_n 1, 1, 1, 0, 0, .null), (14, .ifCond .ne 8, 3, 22, 0, 0, .null), (17, .bipush 10, 2, 0, 0, 0, .int (10)), (19, .goto 6, 3, 25, 0, 0, .null), (22, .sipush 144, 3, 0, 0, 0, .int (144)), (25, .invokestatic 89, 3, 114, 2, 434, .null), (28, .ifCond .ne 5, 3, 33, 0, 0, .null), (31, .iconst (-1), 1, 0, 0, 0, .int (-1)), (32, .ireturn, 1, 0, 0, 0, .null), (33, .iload_n 3, 1, 3, 0, 0, .null), (34, .ifCond .lt 17, 3, 51, 0, 0, .null), (37, .iload 4, 2, 4, 0, 0, .null), (39, .sipush 9999, 3, 0, 0, 0, .int (9999)), (42, .if_icmp .gt 9, 3, 51, 0, 0, .null), (45, .iload_n 3, 1, 3, 0, 0, .null), (46, .iload 4, 2, 4, 0, 0, .null), (48, .if_icmp .le 6, 3, 54, 0, 0, .null), (51, .bipush (-2), 2, 0, 0, 0, .int (-2)), (53, .ireturn, 1, 0, 0, 0, .null), (54, .iload_n 1, 1, 1, 0, 0, .null), (55, .ifCond .ne 11, 3, 66, 0, 0, .null), (58, .sipush 144, 3, 0, 0, 0, .int (144)), (61, .iload_n 2, 1, 2, 0, 0, .null), (62, .iadd, 1, 0, 0, 0, .null), (63, .goto 4, 3, 67, 0, 0, .null), (66, .iload_n 2, 1, 2, 0, 0, .null), (67, .istore 5, 2, 5, 0, 0, .null), (69, .aload_n 0, 1, 0, 0, 0, .null), (70, .getfield 37, 3, 10, 3, 402, .null), (73, .getfield 240, 3, 0, 1, 231, .null), (76, .iload 5, 2, 5, 0, 0, .null), (78, .iload_n 3, 1, 3, 0, 0, .null), (79, .iastore, 1, 0, 0, 0, .null), (80, .aload_n 0, 1, 0, 0, 0, .null), (81, .getfield 37, 3, 10, 3, 402, .null), (84, .getfield 243, 3, 0, 2, 233, .null), (87, .iload 5, 2, 5, 0, 0, .null), (89, .iload 4, 2, 4, 0, 0, .null), (91, .iastore, 1, 0, 0, 0, .null), (92, .iconst 1, 1, 0, 0, 0, .int (1)), (93, .ireturn, 1, 0, 0, 0, .null)]
def kc_92 : List (Nat × En) := [(0, .aload_n 0, 1, 0, 0, 0, .null), (1, .getfield 21, 3, 10, 1, 400, .null), (4, .iload_n 1, 1, 1, 0, 0, .null), (5, .invokevirtual 140, 3, 29, 1, 540, .null), (8, .ifCond .eq 14, 3, 22, 0, 0, .null), (11, .iload_n 2, 1, 2, 0, 0, .null), (12, .iconst (-1), 1, 0, 0, 0, .int (-1)), (13, .if_icmp .lt 9, 3, 22, 0, 0, .null), (16, .iload_n 2, 1, 2, 0, 0, .null), (17, .bipush 10, 2, 0, 0, 0, .int (10)), (19, .if_icmp .lt 5, 3, 24, 0, 0, .null), (22, .iconst (-1), 1, 0, 0, 0, .int (-1)), (23, .ireturn, 1, 0, 0, 0, .null), (24, .aload_n 0, 1, 0, 0, 0, .null), (25, .getfield 28, 3, 10, 2, 401, .null), (28, .getfield 246, 3, 9, 0, 195, .null), (31, .iload_n 1, 1, 1, 0, 0, .null), (32, .iaload, 1, 0, 0, 0, .null), (33, .istore_n 3, 1, 3, 0, 0, .null), (34, .aload_n 0, 1, 0, 0, 0, .null), (35, .getfield 28, 3, 10, 2, 401, .null), (38, .getfield 246, 3, 9, 0, 195, .null), (41, .iload_n 1, 1, 1, 0, 0, .null), (42, .iload_n 2, 1, 2, 0, 0, .null), (43, .iastore, 1, 0, 0, 0, .null), (44, .iload_n 3, 1, 3, 0, 0, .null), (45, .invokestatic 249, 3, 116, 1, 760, .null), (48, .ireturn, 1, 0, 0, 0, .null)]
def kc_93 : List (Nat × En) := [(0, .aload_n 0, 1, 0, 0, 0, .null), (1, .getfield 21, 3, 10, 1, 400, .null), (4, .iload_n 1, 1, 1, 0, 0, .null), (5, .invokevirtual 140, 3, 29, 1, 540, .null), (8, .ifCond .ne 5, 3, 13, 0, 0, .null), (11, .iconst (-1), 1, 0, 0, 0, .int (-1)), (12, .ireturn, 1, 0, 0, 0, .null), (13, .aload_n 0, 1, 0, 0, 0, .null), (14, .getfield 28, 3, 10, 2, 401, .null), (17, .getfield 252, 3, 9, 1, 199, .null), (20, .iload_n 1, 1, 1, 0, 0, .null), (21, .baload, 1, 0, 0, 0, .null), (22, .istore_n 3, 1, 3, 0, 0, .null), (23, .aload_n 0, 1, 0, 0, 0, .null), (24, .getfield 28, 3, 10, 2, 401, .null), (27, .getfield 252, 3, 9, 1, 199, .null), (30, .iload_n 1, 1, 1, 0, 0, .null), (31, .iload_n 2, 1, 2, 0, 0, .null), (32, .bastore, 1, 0, 0, 0, .null), (33, .iload_n 3, 1, 3, 0, 0, .null), (34, .ifCond .eq 7, 3, 41, 0, 0, .null), (37, .iconst 1, 1, 0, 0, 0, .int (1)), (38, .goto 4, 3, 42, 0, 0, .null), (41, .iconst 0, 1, 0, 0, 0, .int (0)), (42, .ireturn, 1, 0, 0, 0, .null)]
def kc_94 : List (Nat × En) := [(0, .iload_n 1, 1, 1, 0, 0, .null), (1, .bipush 10, 2, 0, 0, 0, .int (10)), (3, .invokestatic 89, 3, 114, 2, 434, .null), (6, .ifCond .eq 12, 3, 18, 0, 0, .null), (9, .iload_n 2, 1, 2, 0, 0, .null), (10, .bipush 10, 2, 0, 0, 0, .int (10)), (12, .invokestatic 89, 3, 114, 2, 434, .null), (15, .ifCond .ne 5, 3, 20, 0, 0, .null), (18, .iconst (-1), 1, 0, 0, 0, .int (-1)), (19, .ireturn, 1, 0, 0, 0, .null), (20, .aload_n 0, 1, 0, 0, 0, .null), (21, .getfield 28, 3, 10, 2, 401, .null), (24, .invokevirtual 256, 3, 62, 0, 771, .null), (27, .aload_n 0, 1, 0, 0, 0, .null), (28, .getfield 28, 3, 10, 2, 401, .null), (31, .iconst 0, 1, 0, 0, 0, .int (0)), (32, .invokevirtual 259, 3, 63, 1, 776, .null), (35, .aload_n 0, 1, 0, 0, 0, .null), (36, .getfield 28, 3, 10, 2, 401, .null), (39, .getfield 263, 3, 9, 5, 207, .null), (42, .iload_n 2, 1, 2, 0, 0, .null), (43, .iaload, 1, 0, 0, 0, .null), (44, .iload_n 1, 1, 1, 0, 0, .null), (45, .ishr, 1, 0, 0, 0, .null), (46, .iconst 1, 1, 0, 0, 0, .int (1)), (47, .iand, 1, 0, 0, 0, .null), (48, .ireturn, 1, 0, 0, 0, .null)]
def kc_95 : List (Nat × En) := [(0, .aload_n 0, 1, 0, 0, 0, .null), (1, .getfield 28, 3, 10, 2, 401, .null), (4, .invokevirtual 256, 3, 62, 0, 771, .null), (7, .aload_n 0, 1, 0, 0, 0, .null), (8, .getfield 28, 3, 10, 2, 401, .null), (11, .iconst 0, 1, 0, 0, 0, .int (0)), (12, .invokevirtual 266, 3, 64, 1, 784, .null), (15, .ireturn, 1, 0, 0, 0, .null)]
def kc_96 : List (Nat × En) := [(0, .iload_n 1, 1, 1, 0, 0, .null), (1, .bipush 10, 2, 0, 0, 0, .int (10)), (3, .if_icmp .lt 13, 3, 16, 0, 0, .null), (6, .iload_n 1, 1, 1, 0, 0, .null), (7, .bipush 20, 2, 0, 0, 0, .int (20)), (9, .if_icmp .ge 7, 3, 16, 0, 0, .null), (12, .iconst 1, 1, 0, 0, 0, .int (1)), (13, .goto 4, 3, 17, 0, 0, .null), (16, .iconst 0, 1, 0, 0, 0, .int (0)), (17, .istore_n 2, 1, 2, 0, 0, .null), (18, .iload_n 1, 1, 1, 0, 0, .null), (19, .ifCond .eq 15, 3, 34, 0, 0, .null), (22, .iload_n 1, 1, 1, 0, 0, .null), (23, .iconst 1, 1, 0, 0, 0, .int (1)), (24, .if_icmp .eq 10, 3, 34, 0, 0, .null), (27, .iload_n 2, 1, 2, 0, 0, .null), (28, .ifCond .ne 6, 3, 34, 0, 0, .null), (31, .bipush (-2), 2, 0, 0, 0, .int (-2)), (33, .ireturn, 1, 0, 0, 0, .null), (34, .aload_n 0, 1, 0, 0, 0, .null), (35, .getfield 28, 3, 10, 2, 401, .null), (38, .invokevirtual 256, 3, 62, 0, 771, .null), (41, .iload_n 2, 1, 2, 0, 0, .null), (42, .ifCond .eq 35, 3, 77, 0, 0, .null), (45, .iload_n 1, 1, 1, 0, 0, .null), (46, .bipush 10, 2, 0, 0, 0, .int (10)), (48, .isub, 1, 0, 0, 0, .null), (49, .aload_n 0, 1, 0, 0, 0, .null), (50, .getfield 28, 3, 10, 2, 401, .null), (53, .getfield 269, 3, 9, 4, 205, .null), (56, .if_icmp .ge 18, 3, 74, 0, 0, .null), (59, .aload_n 0, 1, 0, 0, 0, .null), (60, .getfield 28, 3, 10, 2, 401, .null), (63, .getfield 272, 3, 9, 3, 203, .null), (66, .iload_n 1, 1, 1, 0, 0, .null), (67, .bipush 10, 2, 0, 0, 0, .int (10)), (69, .isub, 1, 0, 0, 0, .null), (70, .iaload, 1, 0, 0, 0, .null), (71, .goto 5, 3, 76, 0, 0, .null), (74, .bipush (-6), 2, 0, 0, 0, .int (-6)), (76, .ireturn, 1, 0, 0, 0, .null), (77, .aload_n 0, 1, 0, 0, 0, .null), (78, .getfield 28, 3, 10, 2, 401, .null), (81, .invokevirtual 275, 3, 65, 0, 793, .null), (84, .istore_n 3, 1, 3, 0, 0, .null), (85, .iload_n 3, 1, 3, 0, 0, .null), (86, .iconst (-1), 1, 0, 0, 0, .int (-1)), (87, .if_icmp .ne 6, 3, 93, 0, 0, .null), (90, .bipush (-5), 2, 0, 0, 0, .int (-5)), (92, .ireturn, 1, 0, 0, 0, .null), (93, .iload_n 1, 1, 1, 0, 0, .null), (94, .ifCond .ne 7, 3, 101, 0, 0, .null), (97, .iload_n 3, 1, 3, 0, 0, .null), (98, .goto 7, 3, 105, 0, 0, .null), (101, .iload_n 3, 1, 3, 0, 0, .null), (102, .invokestatic 278, 3, 209, 1, 808, .null), (105, .ireturn, 1, 0, 0, 0, .null)]
def kc_97 : List (Nat × En) := [(0, .iload_n 1, 1, 1, 0, 0, .null), (1, .ifCond .eq 11, 3, 12, 0, 0, .null), (4, .iload_n 1, 1, 1, 0, 0, .null), (5, .iconst 1, 1, 0, 0, 0, .int (1)), (6, .if_icmp .eq 6, 3, 12, 0, 0, .null), (9, .bipush (-2), 2, 0, 0, 0, .int (-2)), (11, .ireturn, 1, 0, 0, 0, .null), (12, .iload_n 2, 1, 2, 0, 0, .null), (13, .iload_n 1, 1, 1, 0, 0, .null), (14, .ifCond .ne 8, 3, 22, 0, 0, .null), (17, .bipush 10, 2, 0, 0, 0, .int (10)), (19, .goto 6, 3, 25, 0, 0, .null), (22, .sipush 144, 3, 0, 0, 0, .int (144)), (25, .invokestatic 89, 3, 114, 2, 434, .null), (28, .ifCond .ne 5, 3, 33, 0, 0, .null), (31, .iconst (-1), 1, 0, 0, 0, .int (-1)), (32, .ireturn, 1, 0, 0, 0, .null), (33, .iload_n 3, 1, 3, 0, 0, .null), (34, .iconst 2, 1, 0, 0, 0, .int (2)), (35, .invokestatic 89, 3, 114, 2, 434, .null), (38, .ifCond .ne 6, 3, 44, 0, 0, .null), (41, .bipush (-2), 2, 0, 0, 0, .int (-2)), (43, .ireturn, 1, 0, 0, 0, .null), (44, .aload_n 0, 1, 0, 0, 0, .null), (45, .getfield 37, 3, 10, 3, 402, .null), (48, .iconst (-1), 1, 0, 0, 0, .int (-1)), (49, .invokevirtual 172, 3, 0, 1, 600, .null), (52, .ifCond .eq 6, 3, 58, 0, 0, .null), (55, .bipush (-5), 2, 0, 0, 0, .int (-5)), (57, .ireturn, 1, 0, 0, 0, .null), (58, .iload_n 1, 1, 1, 0, 0, .null), (59, .ifCond .ne 11, 3, 70, 0, 0, .null), (62, .sipush 144, 3, 0, 0, 0, .int (144)), (65, .iload_n 2, 1, 2, 0, 0, .null), (66, .iadd, 1, 0, 0, 0, .null), (67, .goto 4, 3, 71, 0, 0, .null), (70, .iload_n 2, 1, 2, 0, 0, .null), (71, .istore 4, 2, 4, 0, 0, .null), (73, .iload_n 3, 1, 3, 0, 0, .null), (74, .ifCond .ne 16, 3, 90, 0, 0, .null), (77, .aload_n 0, 1, 0, 0, 0, .null), (78, .getfield 37, 3, 10, 3, 402, .null), (81, .getfield 282, 3, 0, 3, 235, .null), (84, .iload 4, 2, 4, 0, 0, .null), (86, .iaload, 1, 0, 0, 0, .null), (87, .goto 13, 3, 100, 0, 0, .null), (90, .aload_n 0, 1, 0, 0, 0, .null), (91, .getfield 37, 3, 10, 3, 402, .null), (94, .getfield 283, 3, 0, 4, 237, .null), (97, .iload 4, 2, 4, 0, 0, .null), (99, .iaload, 1, 0, 0, 0, .null), (100, .ireturn, 1, 0, 0, 0, .null)]
def kc_98 : List (Nat × En) := [(0, .iload_n 1, 1, 1, 0, 0, .null), (1, .sipush 144, 3, 0, 0, 0, .int (144)), (4, .invokestatic 89, 3, 114, 2, 434, .null), (7, .ifCond .eq 14, 3, 21, 0, 0, .null), (10, .aload_n 0, 1, 0, 0, 0, .null), (11, .getfield 28, 3, 10, 2, 401, .null), (14, .iload_n 1, 1, 1, 0, 0, .null), (15, .invokevirtual 284, 3, 60, 1, 817, .null), (18, .ifCond .ne 5, 3, 23, 0, 0, .null), (21, .iconst (-1), 1, 0, 0, 0, .int (-1)), (22, .ireturn, 1, 0, 0, 0, .null), (23, .aload_n 0, 1, 0, 0, 0, .null), (24, .getfield 37, 3, 10, 3, 402, .null), (27, .iconst (-1), 1, 0, 0, 0, .int (-1)), (28, .invokevirtual 172, 3, 0, 1, 600, .null), (31, .ifCond .eq 6, 3, 37, 0, 0, .null), (34, .bipush (-5), 2, 0, 0, 0, .int (-5)), (36, .ireturn, 1, 0, 0, 0, .null), (37, .iload_n 1, 1, 1, 0, 0, .null), (38, .bipush 24, 2, 0, 0, 0, .int (24)), (40, .idiv, 1, 0, 0, 0, .null), (41, .istore_n 2, 1, 2, 0, 0, .null), (42, .aload_n 0, 1, 0, 0, 0, .null), (43, .getfield 37, 3, 10, 3, 402, .null), (46, .iload_n 2, 1, 2, 0, 0, .null), (47, .invokevirtual 287, 3, 7, 1, 818, .null), (50, .istore_n 3, 1, 3, 0, 0, .null), (51, .aload_n 0, 1, 0, 0, 0, .null), (52, .getfield 37, 3, 10, 3, 402, .null), (55, .iload_n 1, 1, 1, 0, 0, .null), (56, .invokevirtual 172, 3, 0, 1, 600, .null), (59, .ifCond .eq 6, 3, 65, 0, 0, .null), (62, .bipush (-5), 2, 0, 0, 0, .int (-5)), (64, .ireturn, 1, 0, 0, 0, .null), (65, .aload_n 0, 1, 0, 0, 0, .null), (66, .getfield 37, 3, 10, 3, 402, .null), (69, .iload_n 2, 1, 2, 0, 0, .null), (70, .invokevirtual 287, 3, 7, 1, 818, .null), (73, .iload_n 3, 1, 3, 0, 0, .null), (74, .isub, 1, 0, 0, 0, .null), (75, .ireturn, 1, 0, 0, 0, .null)]
def kc_99 : List (Nat × En) := [(0, .iload_n 1, 1, 1, 0, 0, .null), (1, .bipush 10, 2, 0, 0, 0, .int (10)), (3, .invokestatic 89, 3, 114, 2, 434, .null), (6, .ifCond .ne 5, 3, 11, 0, 0, .null), (9, .iconst (-1), 1, 0, 0, 0, .int (-1)), (10, .ireturn, 1, 0, 0, 0, .null), (11, .iload_n 2, 1, 2, 0, 0, .null), (12, .iconst (-1), 1, 0, 0, 0, .int (-1)), (13, .if_icmp .eq 16, 3, 29, 0, 0, .null), (16, .aload_n 0, 1, 0, 0, 0, .null), (17, .getfield 62, 3, 10, 6, 405, .null), (20, .iload_n 2, 1, 2, 0, 0, .null), (21, .invokevirtual 212, 3, 39, 1, 707, .null), (24, .ifCond .ne 5, 3, 29, 0, 0, .null), (27, .iconst (-1), 1, 0, 0, 0, .int (-1)), (28, .ireturn, 1, 0, 0, 0, .null), (29, .aload_n 0, 1, 0, 0, 0, .null), (30, .getfield 71, 3, 10, 7, 406, .null), (33, .getfield 290, 3, 1, 3, 353, .null), (36, .iload_n 1, 1, 1, 0, 0, .null), (37, .iaload, 1, 0, 0, 0, .null), (38, .istore_n 3, 1, 3, 0, 0, .null), (39, .aload_n 0, 1, 0, 0, 0, .null), (40, .getfield 71, 3, 10, 7, 406, .null), (43, .getfield 290, 3, 1, 3, 353, .null), (46, .iload_n 1, 1, 1, 0, 0, .null), (47, .iload_n 2, 1, 2, 0, 0, .null), (48, .iastore, 1, 0, 0, 0, .null), (49, .iload_n 3, 1, 3, 0, 0, .null), (50, .invokestatic 249, 3, 116, 1, 760, .null), (53, .ireturn, 1, 0, 0, 0, .null)]
def kc_100 : List (Nat × En) := [(0, .iload_n 1, 1, 1, 0, 0, .null), (1, .bipush 10, 2, 0, 0, 0, .int (10)), (3, .invokestatic 89, 3, 114, 2, 434, .null), (6, .ifCond .ne 5, 3, 11, 0, 0, .null), (9, .iconst (-1), 1, 0, 0, 0, .int (-1)), (10, .ireturn, 1, 0, 0, 0, .null), (11, .iload_n 2, 1, 2, 0, 0, .null), (12, .iconst 2, 1, 0, 0, 0, .int (2)), (13, .invokestatic 89, 3, 114, 2, 434, .null), (16, .ifCond .eq 19, 3, 35, 0, 0, .null), (19, .iload_n 3, 1, 3, 0, 0, .null), (20, .iconst 3, 1, 0, 0, 0, .int (3)), (21, .invokestatic 89, 3, 114, 2, 434, .null), (24, .ifCond .eq 11, 3, 35, 0, 0, .null), (27, .iload 4, 2, 4, 0, 0, .null), (29, .invokestatic 93, 3, 115, 1, 437, .null), (32, .ifCond .ne 6, 3, 38, 0, 0, .null), (35, .bipush (-2), 2, 0, 0, 0, .int (-2)), (37, .ireturn, 1, 0, 0, 0, .null), (38, .aload_n 0, 1, 0, 0, 0, .null), (39, .getfield 71, 3, 10, 7, 406, .null), (42, .iload_n 1, 1, 1, 0, 0, .null), (43, .iload_n 2, 1, 2, 0, 0, .null), (44, .iload_n 3, 1, 3, 0, 0, .null), (45, .invokevirtual 293, 3, 8, 3, 830, .null), (48, .istore 5, 2, 5, 0, 0, .null), (50, .aload_n 0, 1, 0, 0, 0, .null), (51, .getfield 71, 3, 10, 7, 406, .null), (54, .getfield 296, 3, 1, 4, 355, .null), (57, .iload 5, 2, 5, 0, 0, .null), (59, .iaload, 1, 0, 0, 0, .null), (60, .istore 6, 2, 6, 0, 0, .null), (62, .aload_n 0, 1, 0, 0, 0, .null), (63, .getfield 71, 3, 10, 7, 406, .null), (66, .getfield 296, 3, 1, 4, 355, .null), (69, .iload 5, 2, 5, 0, 0, .null), (71, .iload 4, 2, 4, 0, 0, .null), (73, .iastore, 1, 0, 0, 0, .null), (74, .iload 6, 2, 6, 0, 0, .null), (76, .ireturn, 1, 0, 0, 0, .null)]
def kc_101 : List (Nat × En) := [(0, .iload_n 1, 1, 1, 0, 0, .null), (1, .sipush 144, 3, 0, 0, 0, .int (144)), (4, .invokestatic 89, 3, 114, 2, 434, .null), (7, .ifCond .eq 16, 3, 23, 0, 0, .null), (10, .aload_n 0, 1, 0, 0, 0, .null), (11, .getfield 28, 3, 10, 2, 401, .null), (14, .getfield 246, 3, 9, 0, 195, .null), (17, .iload_n 1, 1, 1, 0, 0, .null), (18, .iaload, 1, 0, 0, 0, .null), (19, .iconst (-1), 1, 0, 0, 0, .int (-1)), (20, .if_icmp .ne 5, 3, 25, 0, 0, .null), (23, .iconst (-1), 1, 0, 0, 0, .int (-1)), (24, .ireturn, 1, 0, 0, 0, .null), (25, .aload_n 0, 1, 0, 0, 0, .null), (26, .getfield 71, 3, 10, 7, 406, .null), (29, .iload_n 1, 1, 1, 0, 0, .null), (30, .invokevirtual 299, 3, 9, 1, 838, .null), (33, .ireturn, 1, 0, 0, 0, .null)]
def kc_102 : List (Nat × En) := [(0, .aload_n 0, 1, 0, 0, 0, .null), (1, .getfield 62, 3, 10, 6, 405, .null), (4, .iload_n 1, 1, 1, 0, 0, .null), (5, .invokevirtual 212, 3, 39, 1, 707, .null), (8, .ifCond .eq 12, 3, 20, 0, 0, .null), (11, .iload_n 2, 1, 2, 0, 0, .null), (12, .bipush 6, 2, 0, 0, 0, .int (6)), (14, .invokestatic 89, 3, 114, 2, 434, .null), (17, .ifCond .ne 5, 3, 22, 0, 0, .null), (20, .iconst (-1), 1, 0, 0, 0, .int (-1)), (21, .ireturn, 1, 0, 0, 0, .null), (22, .aload_n 0, 1, 0, 0, 0, .null), (23, .getfield 62, 3, 10, 6, 405, .null), (26, .iload_n 1, 1, 1, 0, 0, .null), (27, .iload_n 2, 1, 2, 0, 0, .null), (28, .invokevirtual 302, 3, 43, 2, 855, .null), (31, .ireturn, 1, 0, 0, 0, .null)]
def kc_103 : List (Nat × En) := [(0, .iload_n 1, 1, 1, 0, 0, .null), (1, .bipush 10, 2, 0, 0, 0, .int (10)), (3, .invokestatic 89, 3, 114, 2, 434, .null), (6, .ifCond .ne 5, 3, 11, 0, 0, .null), (9, .iconst (-1), 1, 0, 0, 0, .int (-1)), (10, .ireturn, 1, 0, 0, 0, .null), (11, .iload_n 2, 1, 2, 0, 0, .null), (12, .iconst 2, 1, 0, 0, 0, .int (2)), (13, .invokestatic 89, 3, 114, 2, 434, .null), (16, .ifCond .ne 6, 3, 22, 0, 0, .null), (19, .bipush (-2), 2, 0, 0, 0, .int (-2)), (21, .ireturn, 1, 0, 0, 0, .null), (22, .aload_n 0, 1, 0, 0, 0, .null), (23, .getfield 71, 3, 10, 7, 406, .null), (26, .getfield 290, 3, 1, 3, 353, .null), (29, .iload_n 1, 1, 1, 0, 0, .null), (30, .iaload, 1, 0, 0, 0, .null), (31, .iconst (-1), 1, 0, 0, 0, .int (-1)), (32, .if_icmp .ne 6, 3, 38, 0, 0, .null), (35, .bipush (-3), 2, 0, 0, 0, .int (-3)), (37, .ireturn, 1, 0, 0, 0, .null), (38, .aload_n 0, 1, 0, 0, 0, .null), (39, .getfield 71, 3, 10, 7, 406, .null), (42, .iload_n 1, 1, 1, 0, 0, .null), (43, .iload_n 2, 1, 2, 0, 0, .null), (44, .invokevirtual 305, 3, 11, 2, 863, .null), (47, .ireturn, 1, 0, 0, 0, .null)]
def kc_104 : List (Nat × En) := [(0, .aload_n 0, 1, 0, 0, 0, .null), (1, .getfield 21, 3, 10, 1, 400, .null), (4, .iload_n 1, 1, 1, 0, 0, .null), (5, .invokevirtual 140, 3, 29, 1, 540, .null), (8, .ifCond .eq 14, 3, 22, 0, 0, .null), (11, .iload_n 2, 1, 2, 0, 0, .null), (12, .iconst (-1), 1, 0, 0, 0, .int (-1)), (13, .if_icmp .lt 9, 3, 22, 0, 0, .null), (16, .iload_n 2, 1, 2, 0, 0, .null), (17, .bipush 8, 2, 0, 0, 0, .int (8)), (19, .if_icmp .lt 5, 3, 24, 0, 0, .null), (22, .iconst (-1), 1, 0, 0, 0, .int (-1)), (23, .ireturn, 1, 0, 0, 0, .null), (24, .aload_n 0, 1, 0, 0, 0, .null), (25, .getfield 28, 3, 10, 2, 401, .null), (28, .getfield 308, 3, 9, 2, 201, .null), (31, .iload_n 1, 1, 1, 0, 0, .null), (32, .iaload, 1, 0, 0, 0, .null), (33, .istore_n 3, 1, 3, 0, 0, .null), (34, .aload_n 0, 1, 0, 0, 0, .null), (35, .getfield 28, 3, 10, 2, 401, .null), (38, .getfield 308, 3, 9, 2, 201, .null), (41, .iload_n 1, 1, 1, 0, 0, .null), (42, .iload_n 2, 1, 2, 0, 0, .null), (43, .iastore, 1, 0, 0, 0, .null), (44, .iload_n 3, 1, 3, 0, 0, .null), (45, .invokestatic 249, 3, 116, 1, 760, .null), (48, .ireturn, 1, 0, 0, 0, .null)]
def kc_105 : List (Nat × En) := [(0, .iconst 0, 1, 0, 0, 0, .int (0)), (1, .istore_n 1, 1, 1, 0, 0, .null), (2, .iconst 0, 1, 0, 0, 0, .int (0)), (3, .istore_n 2, 1, 2, 0, 0, .null), (4, .iload_n 2, 1, 2, 0, 0, .null), (5, .bipush 8, 2, 0, 0, 0, .int (8)), (7, .if_icmp .ge 30, 3, 37, 0, 0, .null), (10, .aload_n 0, 1, 0, 0, 0, .null), (11, .getfield 28, 3, 10, 2, 401, .null), (14, .iload_n 2, 1, 2, 0, 0, .null), (15, .invokevirtual 311, 3, 67, 1, 877, .null), (18, .invokestatic 278, 3, 209, 1, 808, .null), (21, .iconst 1, 1, 0, 0, 0, .int (1)), (22, .if_icmp .le 9, 3, 31, 0, 0, .null), (25, .iload_n 1, 1, 1, 0, 0, .null), (26, .iconst 1, 1, 0, 0, 0, .int (1)), (27, .iload_n 2, 1, 2, 0, 0, .null), (28, .ishl, 1, 0, 0, 0, .null), (29, .ior, 1, 0, 0, 0, .null), (30, .istore_n 1, 1, 1, 0, 0, .null), (31, .iinc 2 1, 3, 2, 0, 0, .int (1)), (34, .goto (-30), 3, 4, 0, 0, .null), (37, .iload_n 1, 1, 1, 0, 0, .null), (38, .ireturn, 1, 0, 0, 0, .null)]
def kc_106 : List (Nat × En) := [(0, .iload_n 1, 1, 1, 0, 0, .null), (1, .bipush 10, 2, 0, 0, 0, .int (10)), (3, .invokestatic 89, 3, 114, 2, 434, .null), (6, .ifCond .ne 5, 3, 11, 0, 0, .null), (9, .iconst (-1), 1, 0, 0, 0, .int (-1)), (10, .ireturn, 1, 0, 0, 0, .null), (11, .aload_n 0, 1, 0, 0, 0, .null), (12, .getfield 28, 3, 10, 2, 401, .null), (15, .iload_n 1, 1, 1, 0, 0, .null), (16, .invokevirtual 314, 3, 68, 1, 885, .null), (19, .invokestatic 278, 3, 209, 1, 808, .null), (22, .ireturn, 1, 0, 0, 0, .null)]
def kc_107 : List (Nat × En) := [(0, .iload_n 1, 1, 1, 0, 0, .null), (1, .sipush 144, 3, 0, 0, 0, .int (144)), (4, .invokestatic 89, 3, 114, 2, 434, .null), (7, .ifCond .eq 18, 3, 25, 0, 0, .null), (10, .iload_n 2, 1, 2, 0, 0, .null), (11, .sipush 144, 3, 0, 0, 0, .int (144)), (14, .invokestatic 89, 3, 114, 2, 434, .null), (17, .ifCond .eq 8, 3, 25, 0, 0, .null), (20, .iload_n 1, 1, 1, 0, 0, .null), (21, .iload_n 2, 1, 2, 0, 0, .null), (22, .if_icmp .ne 5, 3, 27, 0, 0, .null), (25, .iconst (-1), 1, 0, 0, 0, .int (-1)), (26, .ireturn, 1, 0, 0, 0, .null), (27, .aload_n 0, 1, 0, 0, 0, .null), (28, .getfield 37, 3, 10, 3, 402, .null), (31, .iconst (-1), 1, 0, 0, 0, .int (-1)), (32, .invokevirtual 172, 3, 0, 1, 600, .null), (35, .ifCond .eq 6, 3, 41, 0, 0, .null), (38, .bipush (-5), 2, 0, 0, 0, .int (-5)), (40, .ireturn, 1, 0, 0, 0, .null), (41, .aload_n 0, 1, 0, 0, 0, .null), (42, .getfield 28, 3, 10, 2, 401, .null), (45, .invokevirtual 256, 3, 62, 0, 771, .null), (48, .aload_n 0, 1, 0, 0, 0, .null), (49, .getfield 28, 3, 10, 2, 401, .null), (52, .iconst 0, 1, 0, 0, 0, .int (0)), (53, .invokevirtual 266, 3, 64, 1, 784, .null), (56, .ifCond .eq 6, 3, 62, 0, 0, .null), (59, .bipush (-5), 2, 0, 0, 0, .int (-5)), (61, .ireturn, 1, 0, 0, 0, .null), (62, .iconst 0, 1, 0, 0, 0, .int (0)), (63, .istore_n 3, 1, 3, 0, 0, .null), (64, .aload_n 0, 1, 0, 0, 0, .null), (65, .iload_n 1, 1, 1, 0, 0, .null), (66, .iload_n 2, 1, 2, 0, 0, .null), (67, .invokevirtual 317, 3, 108, 2, 893, .null), (70, .ifCond .eq 6, 3, 76, 0, 0, .null), (73, .iinc 3 1, 3, 3, 0, 0, .int (1)), (76, .aload_n 0, 1, 0, 0, 0, .null), (77, .iload_n 2, 1, 2, 0, 0, .null), (78, .iload_n 1, 1, 1, 0, 0, .null), (79, .invokevirtual 317, 3, 108, 2, 893, .null), (82, .ifCond .eq 6, 3, 88, 0, 0, .null), (85, .iinc 3 2, 3, 3, 0, 0, .int (2)), (88, .iload_n 3, 1, 3, 0, 0, .null), (89, .ireturn, 1, 0, 0, 0, .null)]
def kc_108 : List (Nat × En) := [(0, .aload_n 0, 1, 0, 0, 0, .null), (1, .getfield 37, 3, 10, 3, 402, .null), (4, .getfield 282, 3, 0, 3, 235, .null), (7, .iload_n 1, 1, 1, 0, 0, .null), (8, .iaload, 1, 0, 0, 0, .null), (9, .aload_n 0, 1, 0, 0, 0, .null), (10, .getfield 37, 3, 10, 3, 402, .null), (13, .getfield 283, 3, 0, 4, 237, .null), (16, .iload_n 2, 1, 2, 0, 0, .null), (17, .iaload, 1, 0, 0, 0, .null), (18, .if_icmp .gt 15, 3, 33, 0, 0, .null), (21, .aload_n 0, 1, 0, 0, 0, .null), (22, .getfield 78, 3, 10, 8, 407, .null), (25, .iload_n 1, 1, 1, 0, 0, .null), (26, .iload_n 2, 1, 2, 0, 0, .null), (27, .invokevirtual 320, 3, 56, 2, 897, .null), (30, .ifCond .eq 7, 3, 37, 0, 0, .null), (33, .iconst 1, 1, 0, 0, 0, .int (1)), (34, .goto 4, 3, 38, 0, 0, .null), (37, .iconst 0, 1, 0, 0, 0, .int (0)), (38, .ireturn, 1, 0, 0, 0, .int 1)]
def kc_109 : List (Nat × En) := [(0, .aload_n 0, 1, 0, 0, 0, .null), (1, .getfield 21, 3, 10, 1, 400, .null), (4, .iload_n 1, 1, 1, 0, 0, .null), (5, .invokevirtual 140, 3, 29, 1, 540, .null), (8, .ifCond .ne 5, 3, 13, 0, 0, .null), (11, .iconst (-1), 1, 0, 0, 0, .int (-1)), (12, .ireturn, 1, 0, 0, 0, .null), (13, .iload_n 1, 1, 1, 0, 0, .null), (14, .bipush 24, 2, 0, 0, 0, .int (24)), (16, .idiv, 1, 0, 0, 0, .null), (17, .iconst 1, 1, 0, 0, 0, .int (1)), (18, .iadd, 1, 0, 0, 0, .null), (19, .bipush 24, 2, 0, 0, 0, .int (24)), (21, .imul, 1, 0, 0, 0, .null), (22, .istore_n 2, 1, 2, 0, 0, .null), (23, .iload_n 1, 1, 1, 0, 0, .null), (24, .iconst 1, 1, 0, 0, 0, .int (1)), (25, .iadd, 1, 0, 0, 0, .null), (26, .istore_n 3, 1, 3, 0, 0, .null), (27, .iload_n 3, 1, 3, 0, 0, .null), (28, .iload_n 2, 1, 2, 0, 0, .null), (29, .if_icmp .ge 44, 3, 73, 0, 0, .null), (32, .aload_n 0, 1, 0, 0, 0, .null), (33, .getfield 21, 3, 10, 1, 400, .null), (36, .getfield 137, 3, 4, 4, 151, .null), (39, .iload_n 3, 1, 3, 0, 0, .null), (40, .iaload, 1, 0, 0, 0, .null), (41, .aload_n 0, 1, 0, 0, 0, .null), (42, .getfield 21, 3, 10, 1, 400, .null), (45, .getfield 137, 3, 4, 4, 151, .null), (48, .iload_n 1, 1, 1, 0, 0, .null), (49, .iaload, 1, 0, 0, 0, .null), (50, .if_icmp .le 17, 3, 67, 0, 0, .null), (53, .aload_n 0, 1, 0, 0, 0, .null), (54, .getfield 21, 3, 10, 1, 400, .null), (57, .iload_n 3, 1, 3, 0, 0, .null), (58, .iload_n 1, 1, 1, 0, 0, .null), (59, .invokevirtual 323, 3, 38, 2, 919, .null), (62, .ifCond .eq 5, 3, 67, 0, 0, .null), (65, .iconst 1, 1, 0, 0, 0, .int (1)), (66, .ireturn, 1, 0, 0, 0, .null), (67, .iinc 3 1, 3, 3, 0, 0, .int (1)), (70, .goto (-43), 3, 27, 0, 0, .null), (73, .iconst 0, 1, 0, 0, 0, .int (0)), (74, .ireturn, 1, 0, 0, 0, .null)]
def kc_110 : List (Nat × En) := [(0, .iload_n 1, 1, 1, 0, 0, .null), (1, .bipush 6, 2, 0, 0, 0, .int (6)), (3, .invokestatic 89, 3, 114, 2, 434, .null), (6, .ifCond .ne 5, 3, 11, 0, 0, .null), (9, .iconst (-1), 1, 0, 0, 0, .int (-1)), (10, .ireturn, 1, 0, 0, 0, .null), (11, .iload_n 2, 1, 2, 0, 0, .null), (12, .ifCond .lt 13, 3, 25, 0, 0, .null), (15, .iload_n 2, 1, 2, 0, 0, .null), (16, .bipush 10, 2, 0, 0, 0, .int (10)), (18, .if_icmp .gt 7, 3, 25, 0, 0, .null), (21, .iload_n 3, 1, 3, 0, 0, .null), (22, .ifCond .ge 6, 3, 28, 0, 0, .null), (25, .bipush (-2), 2, 0, 0, 0, .int (-2)), (27, .ireturn, 1, 0, 0, 0, .null), (28, .iload_n 3, 1, 3, 0, 0, .null), (29, .iload_n 2, 1, 2, 0, 0, .null), (30, .bipush 10, 2, 0, 0, 0, .int (10)), (32, .if_icmp .ne 8, 3, 40, 0, 0, .null), (35, .bipush 99, 2, 0, 0, 0, .int (99)), (37, .goto 5, 3, 42, 0, 0, .null), (40, .bipush 10, 2, 0, 0, 0, .int (10)), (42, .if_icmp .le 6, 3, 48, 0, 0, .null), (45, .bipush (-2), 2, 0, 0, 0, .int (-2)), (47, .ireturn, 1, 0, 0, 0, .null), (48, .aload_n 0, 1, 0, 0, 0, .null), (49, .getfield 85, 3, 10, 9, 408, .null), (52, .iload_n 1, 1, 1, 0, 0, .null), (53, .iload_n 2, 1, 2, 0, 0, .null), (54, .iload_n 3, 1, 3, 0, 0, .null), (55, .invokevirtual 326, 3, 52, 3, 927, .null), (58, .ireturn, 1, 0, 0, 0, .null)]
def kc_111 : List (Nat × En) := [(0, .iload_n 1, 1, 1, 0, 0, .null), (1, .bipush 64, 2, 0, 0, 0, .int (64)), (3, .invokestatic 89, 3, 114, 2, 434, .null), (6, .ifCond .eq 11, 3, 17, 0, 0, .null), (9, .iload_n 2, 1, 2, 0, 0, .null), (10, .iconst 2, 1, 0, 0, 0, .int (2)), (11, .invokestatic 89, 3, 114, 2, 434, .null), (14, .ifCond .ne 7, 3, 21, 0, 0, .null), (17, .ldc2_w 230, 3, 0, 0, 739, .long (-1000000000000000002)), (20, .lreturn, 1, 0, 0, 0, .null), (21, .aload_n 0, 1, 0, 0, 0, .null), (22, .getfield 85, 3, 10, 9, 408, .null), (25, .iload_n 1, 1, 1, 0, 0, .null), (26, .invokevirtual 328, 3, 53, 1, 935, .null), (29, .i2l, 1, 0, 0, 0, .null), (30, .ldc2_w 331, 3, 0, 0, 940, .long (1000000)), (33, .iload_n 2, 1, 2, 0, 0, .null), (34, .invokestatic 236, 3, 118, 3, 745, .null), (37, .lreturn, 1, 0, 0, 0, .null)]
def kc_112 : List (Nat × En) := [(0, .iload_n 1, 1, 1, 0, 0, .null), (1, .ifCond .lt 10, 3, 11, 0, 0, .null), (4, .iload_n 1, 1, 1, 0, 0, .null), (5, .sipush 600, 3, 0, 0, 0, .int (600)), (8, .if_icmp .le 6, 3, 14, 0, 0, .null), (11, .bipush (-2), 2, 0, 0, 0, .int (-2)), (13, .ireturn, 1, 0, 0, 0, .null), (14, .iload_n 2, 1, 2, 0, 0, .null), (15, .ifCond .eq 11, 3, 26, 0, 0, .null), (18, .iload_n 2, 1, 2, 0, 0, .null), (19, .iconst 1, 1, 0, 0, 0, .int (1)), (20, .if_icmp .eq 6, 3, 26, 0, 0, .null), (23, .bipush (-2), 2, 0, 0, 0, .int (-2)), (25, .ireturn, 1, 0, 0, 0, .null), (26, .aload_n 0, 1, 0, 0, 0, .null), (27, .getfield 85, 3, 10, 9, 408, .null), (30, .iload_n 1, 1, 1, 0, 0, .null), (31, .invokevirtual 333, 3, 55, 1, 945, .null), (34, .istore_n 3, 1, 3, 0, 0, .null), (35, .iload_n 2, 1, 2, 0, 0, .null), (36, .ifCond .ne 7, 3, 43, 0, 0, .null), (39, .iload_n 3, 1, 3, 0, 0, .null), (40, .goto 11, 3, 51, 0, 0, .null), (43, .aload_n 0, 1, 0, 0, 0, .null), (44, .getfield 85, 3, 10, 9, 408, .null), (47, .iload_n 3, 1, 3, 0, 0, .null), (48, .invokevirtual 336, 3, 54, 1, 954, .null), (51, .ireturn, 1, 0, 0, 0, .null)]
def kc_113 : List (Nat × En) := [(0, .iload_n 1, 1, 1, 0, 0, .null), (1, .tableswitch 120 0 7 #[47, 55, 63, 71, 79, 87, 95, 103], 47, 121, 0, 0, .null), (48, .aload_n 0, 1, 0, 0, 0, .null), (49, .getfield 21, 3, 10, 1, 400, .null), (52, .getfield 123, 3, 4, 7, 158, .null), (55, .ireturn, 1, 0, 0, 0, .null), (56, .aload_n 0, 1, 0, 0, 0, .null), (57, .getfield 12, 3, 10, 0, 399, .null), (60, .getfield 97, 3, 3, 9, 109, .null), (63, .ireturn, 1, 0, 0, 0, .null), (64, .aload_n 0, 1, 0, 0, 0, .null), (65, .getfield 44, 3, 10, 4, 403, .null), (68, .getfield 149, 3, 6, 1, 261, .null), (71, .ireturn, 1, 0, 0, 0, .null), (72, .aload_n 0, 1, 0, 0, 0, .null), (73, .getfield 12, 3, 10, 0, 399, .null), (76, .getfield 120, 3, 3, 10, 112, .null), (79, .ireturn, 1, 0, 0, 0, .null), (80, .aload_n 0, 1, 0, 0, 0, .null), (81, .getfield 28, 3, 10, 2, 401, .null), (84, .invokevirtual 339, 3, 61, 0, 959, .null), (87, .ireturn, 1, 0, 0, 0, .null), (88, .aload_n 0, 1, 0, 0, 0, .null), (89, .getfield 62, 3, 10, 6, 405, .null), (92, .getfield 342, 3, 5, 5, 328, .null), (95, .ireturn, 1, 0, 0, 0, .null), (96, .aload_n 0, 1, 0, 0, 0, .null), (97, .getfield 44, 3, 10, 4, 403, .null), (100, .getfield 162, 3, 6, 7, 272, .null), (103, .ireturn, 1, 0, 0, 0, .null), (104, .aload_n 0, 1, 0, 0, 0, .null), (105, .getfield 37, 3, 10, 3, 402, .null), (108, .iconst (-1), 1, 0, 0, 0, .int (-1)), (109, .invokevirtual 172, 3, 0, 1, 600, .null), (112, .ifCond .eq 7, 3, 119, 0, 0, .null), (115, .iconst 1, 1, 0, 0, 0, .int (1)), (116, .goto 4, 3, 120, 0, 0, .null), (119, .iconst 0, 1, 0, 0, 0, .int (0)), (120, .ireturn, 1, 0, 0, 0, .null), (121, .bipush (-2), 2, 0, 0, 0, .int (-2)), (123, .ireturn, 1, 0, 0, 0, .null)]
def kc_114 : List (Nat × En) := [(0, .iload_n 0, 1, 0, 0, 0, .null), (1, .ifCond .lt 12, 3, 13, 0, 0, .null), (4, .iload_n 0, 1, 0, 0, 0, .null), (5, .iload_n 1, 1, 1, 0, 0, .null), (6, .if_icmp .ge 7, 3, 13, 0, 0, .null), (9, .iconst 1, 1, 0, 0, 0, .int (1)), (10, .goto 4, 3, 14, 0, 0, .null), (13, .iconst 0, 1, 0, 0, 0, .int (0)), (14, .ireturn, 1, 0, 0, 0, .int 1)]
def kc_115 : List (Nat × En) := [(0, .iload_n 0, 1, 0, 0, 0, .null), (1, .ifCond .lt 13, 3, 14, 0, 0, .null), (4, .iload_n 0, 1, 0, 0, 0, .null), (5, .bipush 99, 2, 0, 0, 0, .int (99)), (7, .if_icmp .gt 7, 3, 14, 0, 0, .null), (10, .iconst 1, 1, 0, 0, 0, .int (1)), (11, .goto 4, 3, 15, 0, 0, .null), (14, .iconst 0, 1, 0, 0, 0, .int (0)), (15, .ireturn, 1, 0, 0, 0, .int 1)]
def kc_116 : List (Nat × En) := [(0, .iload_n 0, 1, 0, 0, 0, .null), (1, .iconst (-1), 1, 0, 0, 0, .int (-1)), (2, .if_icmp .ne 8, 3, 10, 0, 0, .null), (5, .bipush (-6), 2, 0, 0, 0, .int (-6)), (7, .goto 4, 3, 11, 0, 0, .null), (10, .iload_n 0, 1, 0, 0, 0, .null), (11, .ireturn, 1, 0, 0, 0, .null)]
def kc_117 : List (Nat × En) := [(0, .iload_n 0, 1, 0, 0, 0, .null), (1, .iload_n 3, 1, 3, 0, 0, .null), (2, .if_icmp .le 7, 3, 9, 0, 0, .null), (5, .iload_n 0, 1, 0, 0, 0, .null), (6, .iload_n 3, 1, 3, 0, 0, .null), (7, .isub, 1, 0, 0, 0, .null), (8, .ireturn, 1, 0, 0, 0, .null), (9, .iload_n 2, 1, 2, 0, 0, .null), (10, .iload_n 1, 1, 1, 0, 0, .null), (11, .if_icmp .le 7, 3, 18, 0, 0, .null), (14, .iload_n 2, 1, 2, 0, 0, .null), (15, .iload_n 1, 1, 1, 0, 0, .null), (16, .isub, 1, 0, 0, 0, .null), (17, .ireturn, 1, 0, 0, 0, .null), (18, .iconst 0, 1, 0, 0, 0, .int (0)), (19, .ireturn, 1, 0, 0, 0, .null)]
def kc_118 : List (Nat × En) := [(0, .lload_n 0, 1, 0, 0, 0, .null), (1, .lconst 0, 1, 0, 0, 0, .long 0), (2, .lcmp, 1, 0, 0, 0, .null), (3, .ifCond .le 9, 3, 12, 0, 0, .null), (6, .lload_n 2, 1, 2, 0, 0, .null), (7, .lconst 0, 1, 0, 0, 0, .long 0), (8, .lcmp, 1, 0, 0, 0, .null), (9, .ifCond .gt 14, 3, 23, 0, 0, .null), (12, .iload 4, 2, 4, 0, 0, .null), (14, .ifCond .ne 7, 3, 21, 0, 0, .null), (17, .lconst 0, 1, 0, 0, 0, .long 0), (18, .goto 4, 3, 22, 0, 0, .null), (21, .lconst 1, 1, 0, 0, 0, .long 1), (22, .lreturn, 1, 0, 0, 0, .null), (23, .lload_n 0, 1, 0, 0, 0, .null), (24, .lload_n 2, 1, 2, 0, 0, .null), (25, .invokestatic 345, 3, 119, 2, 748, .null), (28, .lstore 5, 2, 5, 0, 0, .null), (30, .lload 5, 2, 5, 0, 0, .null), (32, .lconst 0, 1, 0, 0, 0, .long 0), (33, .lcmp, 1, 0, 0, 0, .null), (34, .ifCond .gt 7, 3, 41, 0, 0, .null), (37, .ldc2_w 349, 3, 0, 0, 751, .long (-1000000000000000000)), (40, .lreturn, 1, 0, 0, 0, .null), (41, .iload 4, 2, 4, 0, 0, .null), (43, .ifCond .ne 7, 3, 50, 0, 0, .null), (46, .lload_n 0, 1, 0, 0, 0, .null), (47, .goto 4, 3, 51, 0, 0, .null), (50, .lload_n 2, 1, 2, 0, 0, .null), (51, .lload 5, 2, 5, 0, 0, .null), (53, .ldiv, 1, 0, 0, 0, .null), (54, .lreturn, 1, 0, 0, 0, .null)]
def kc_119 : List (Nat × En) := [(0, .lload_n 0, 1, 0, 0, 0, .null), (1, .lstore 4, 2, 4, 0, 0, .null), (3, .lload_n 2, 1, 2, 0, 0, .null), (4, .lstore 6, 2, 6, 0, 0, .null), (6, .iconst 0, 1, 0, 0, 0, .int (0)), (7, .istore 8, 2, 8, 0, 0, .null), (9, .iload 8, 2, 8, 0, 0, .null), (11, .sipush 1000, 3, 0, 0, 0, .int (1000)), (14, .if_icmp .ge 31, 3, 45, 0, 0, .null), (17, .lload 6, 2, 6, 0, 0, .null), (19, .lconst 0, 1, 0, 0, 0, .long 0), (20, .lcmp, 1, 0, 0, 0, .null), (21, .ifCond .eq 24, 3, 45, 0, 0, .null), (24, .lload 4, 2, 4, 0, 0, .null), (26, .lload 6, 2, 6, 0, 0, .null), (28, .lrem, 1, 0, 0, 0, .null), (29, .lstore 9, 2, 9, 0, 0, .null), (31, .lload 6, 2, 6, 0, 0, .null), (33, .lstore 4, 2, 4, 0, 0, .null), (35, .lload 9, 2, 9, 0, 0, .null), (37, .lstore 6, 2, 6, 0, 0, .null), (39, .iinc 8 1, 3, 8, 0, 0, .int (1)), (42, .goto (-33), 3, 9, 0, 0, .null), (45, .lload 4, 2, 4, 0, 0, .null), (47, .lreturn, 1, 0, 0, 0, .null)]
def kc_120 : List (Nat × En) := [(0, .iload_n 0, 1, 0, 0, 0, .null), (1, .iload_n 1, 1, 1, 0, 0, .null), (2, .if_icmp .lt 12, 3, 14, 0, 0, .null), (5, .iload_n 0, 1, 0, 0, 0, .null), (6, .iload_n 2, 1, 2, 0, 0, .null), (7, .if_icmp .gt 7, 3, 14, 0, 0, .null), (10, .iconst 1, 1, 0, 0, 0, .int (1)), (11, .goto 4, 3, 15, 0, 0, .null), (14, .iconst 0, 1, 0, 0, 0, .int (0)), (15, .ireturn, 1, 0, 0, 0, .int 1)]
def kc_121 : List (Nat × En) := [(0, .iload_n 0, 1, 0, 0, 0, .null), (1, .iconst 0, 1, 0, 0, 0, .int (0)), (2, .bipush 99, 2, 0, 0, 0, .int (99)), (4, .invokestatic 138, 3, 120, 3, 1121, .null), (7, .ireturn, 1, 0, 0, 0, .int 1)]
def kc_122 : List (Nat × En) := [(0, .iload_n 0, 1, 0, 0, 0, .null), (1, .iconst 0, 1, 0, 0, 0, .int (0)), (2, .iconst 2, 1, 0, 0, 0, .int (2)), (3, .invokestatic 138, 3, 120, 3, 1121, .null), (6, .ireturn, 1, 0, 0, 0, .int 1)]
def kc_123 : List (Nat × En) := [(0, .iload_n 0, 1, 0, 0, 0, .null), (1, .iconst 0, 1, 0, 0, 0, .int (0)), (2, .iconst 5, 1, 0, 0, 0, .int (5)), (3, .invokestatic 138, 3, 120, 3, 1121, .null), (6, .ireturn, 1, 0, 0, 0, .int 1)]
def kc_124 : List (Nat × En) := [(0, .iload_n 0, 1, 0, 0, 0, .null), (1, .iconst 0, 1, 0, 0, 0, .int (0)), (2, .sipush 143, 3, 0, 0, 0, .int (143)), (5, .invokestatic 138, 3, 120, 3, 1121, .null), (8, .ireturn, 1, 0, 0, 0, .int 1)]
def kc_125 : List (Nat × En) := [(0, .iload_n 0, 1, 0, 0, 0, .null), (1, .iconst 0, 1, 0, 0, 0, .int (0)), (2, .bipush 9, 2, 0, 0, 0, .int (9)), (4, .invokestatic 138, 3, 120, 3, 1121, .null), (7, .ireturn, 1, 0, 0, 0, .int 1)]
def kc_126 : List (Nat × En) := [(0, .iload_n 0, 1, 0, 0, 0, .null), (1, .iconst 0, 1, 0, 0, 0, .int (0)), (2, .iconst 1, 1, 0, 0, 0, .int (1)), (3, .invokestatic 138, 3, 120, 3, 1121, .null), (6, .ireturn, 1, 0, 0, 0, .int 1)]
def kc_127 : List (Nat × En) := [(0, .aload_n 0, 1, 0, 0, 0, .null), (1, .aload_n 0, 1, 0, 0, 0, .null), (2, .getfield 142, 3, 11, 36, 1005, .null), (5, .ifCond .ne 13, 3, 18, 0, 0, .null), (8, .iload_n 2, 1, 2, 0, 0, .null), (9, .aload_n 0, 1, 0, 0, 0, .null), (10, .getfield 13, 3, 11, 1, 970, .null), (13, .iload_n 1, 1, 1, 0, 0, .null), (14, .iaload, 1, 0, 0, 0, .null), (15, .if_icmp .le 7, 3, 22, 0, 0, .null), (18, .iconst 1, 1, 0, 0, 0, .int (1)), (19, .goto 4, 3, 23, 0, 0, .null), (22, .iconst 0, 1, 0, 0, 0, .int (0)), (23, .putfield 142, 3, 11, 36, 1005, .int 1), (26, .aload_n 0, 1, 0, 0, 0, .null), (27, .getfield 13, 3, 11, 1, 970, .null), (30, .iload_n 1, 1, 1, 0, 0, .null), (31, .iload_n 2, 1, 2, 0, 0, .null), (32, .aload_n 0, 1, 0, 0, 0, .null), (33, .getfield 13, 3, 11, 1, 970, .null), (36, .iload_n 1, 1, 1, 0, 0, .null), (37, .iaload, 1, 0, 0, 0, .null), (38, .if_icmp .le 7, 3, 45, 0, 0, .null), (41, .iload_n 2, 1, 2, 0, 0, .null), (42, .goto 9, 3, 51, 0, 0, .null), (45, .aload_n 0, 1, 0, 0, 0, .null), (46, .getfield 13, 3, 11, 1, 970, .null), (49, .iload_n 1, 1, 1, 0, 0, .null), (50, .iaload, 1, 0, 0, 0, .null), (51, .iastore, 1, 0, 0, 0, .null), (52, .return_, 1, 0, 0, 0, .null)]
def kc_128 : List (Nat × En) := [(0, .aload_n 0, 1, 0, 0, 0, .null), (1, .aload_n 0, 1, 0, 0, 0, .null), (2, .getfield 142, 3, 11, 36, 1005, .null), (5, .ifCond .ne 13, 3, 18, 0, 0, .null), (8, .iload_n 2, 1, 2, 0, 0, .null), (9, .aload_n 0, 1, 0, 0, 0, .null), (10, .getfield 17, 3, 11, 2, 971, .null), (13, .iload_n 1, 1, 1, 0, 0, .null), (14, .iaload, 1, 0, 0, 0, .null), (15, .if_icmp .ge 7, 3, 22, 0, 0, .null), (18, .iconst 1, 1, 0, 0, 0, .int (1)), (19, .goto 4, 3, 23, 0, 0, .null), (22, .iconst 0, 1, 0, 0, 0, .int (0)), (23, .putfield 142, 3, 11, 36, 1005, .int 1), (26, .aload_n 0, 1, 0, 0, 0, .null), (27, .getfield 17, 3, 11, 2, 971, .null), (30, .iload_n 1, 1, 1, 0, 0, .null), (31, .iload_n 2, 1, 2, 0, 0, .null), (32, .aload_n 0, 1, 0, 0, 0, .null), (33, .getfield 17, 3, 11, 2, 971, .null), (36, .iload_n 1, 1, 1, 0, 0, .null), (37, .iaload, 1, 0, 0, 0, .null), (38, .if_icmp .ge 7, 3, 45, 0, 0, .null), (41, .iload_n 2, 1, 2, 0, 0, .null), (42, .goto 9, 3, 51, 0, 0, .null), (45, .aload_n 0, 1, 0, 0, 0, .null), (46, .getfield 17, 3, 11, 2, 971, .null), (49, .iload_n 1, 1, 1, 0, 0, .null), (50, .iaload, 1, 0, 0, 0, .null), (51, .iastore, 1, 0, 0, 0, .null), (52, .return_, 1, 0, 0, 0, .null)]
def kc_129 : List (Nat × En) := [(0, .iconst 1, 1, 0, 0, 0, .int (1)), (1, .istore_n 1, 1, 1, 0, 0, .null), (2, .aload_n 0, 1, 0, 0, 0, .null), (3, .iconst 1, 1, 0, 0, 0, .int (1)), (4, .putfield 142, 3, 11, 36, 1005, .int 1), (7, .aload_n 0, 1, 0, 0, 0, .null), (8, .getfield 142, 3, 11, 36, 1005, .null), (11, .ifCond .eq 231, 3, 242, 0, 0, .null), (14, .iload_n 1, 1, 1, 0, 0, .null), (15, .ifCond .eq 227, 3, 242, 0, 0, .null), (18, .aload_n 0, 1, 0, 0, 0, .null), (19, .iconst 0, 1, 0, 0, 0, .int (0)), (20, .putfield 142, 3, 11, 36, 1005, .int 1), (23, .iconst 0, 1, 0, 0, 0, .int (0)), (24, .istore_n 2, 1, 2, 0, 0, .null), (25, .iload_n 2, 1, 2, 0, 0, .null), (26, .aload_n 0, 1, 0, 0, 0, .null), (27, .getfield 146, 3, 11, 3, 972, .null), (30, .if_icmp .ge 170, 3, 200, 0, 0, .null), (33, .iconst 3, 1, 0, 0, 0, .int (3)), (34, .aload_n 0, 1, 0, 0, 0, .null), (35, .getfield 20, 3, 11, 4, 973, .null), (38, .iload_n 2, 1, 2, 0, 0, .null), (39, .iaload, 1, 0, 0, 0, .null), (40, .imul, 1, 0, 0, 0, .null), (41, .aload_n 0, 1, 0, 0, 0, .null), (42, .getfield 26, 3, 11, 6, 975, .null), (45, .iload_n 2, 1, 2, 0, 0, .null), (46, .iaload, 1, 0, 0, 0, .null), (47, .iadd, 1, 0, 0, 0, .null), (48, .istore_n 3, 1, 3, 0, 0, .null), (49, .aload_n 0, 1, 0, 0, 0, .null), (50, .getfield 29, 3, 11, 7, 976, .null), (53, .iload_n 2, 1, 2, 0, 0, .null), (54, .iaload, 1, 0, 0, 0, .null), (55, .istore 4, 2, 4, 0, 0, .null), (57, .aload_n 0, 1, 0, 0, 0, .null), (58, .getfield 32, 3, 11, 8, 977, .null), (61, .iload_n 2, 1, 2, 0, 0, .null), (62, .iaload, 1, 0, 0, 0, .null), (63, .istore 5, 2, 5, 0, 0, .null), (65, .aload_n 0, 1, 0, 0, 0, .null), (66, .getfield 23, 3, 11, 5, 974, .null), (69, .iload_n 2, 1, 2, 0, 0, .null), (70, .iaload, 1, 0, 0, 0, .null), (71, .ifCond .ge 26, 3, 97, 0, 0, .null), (74, .aload_n 0, 1, 0, 0, 0, .null), (75, .iload_n 3, 1, 3, 0, 0, .null), (76, .iload 4, 2, 4, 0, 0, .null), (78, .iload 5, 2, 5, 0, 0, .null), (80, .isub, 1, 0, 0, 0, .null), (81, .invokevirtual 149, 3, 127, 2, 1135, .null), (84, .aload_n 0, 1, 0, 0, 0, .null), (85, .iload_n 3, 1, 3, 0, 0, .null), (86, .iload 4, 2, 4, 0, 0, .null), (88, .iload 5, 2, 5, 0, 0, .null), (90, .iadd, 1, 0, 0, 0, .null), (91, .invokevirtual 153, 3, 128, 2, 1139, .null), (94, .goto 100, 3, 194, 0, 0, .null), (97, .iconst 3, 1, 0, 0, 0, .int (3)), (98, .aload_n 0, 1, 0, 0, 0, .null), (99, .getfield 23, 3, 11, 5, 974, .null), (102, .iload_n 2, 1, 2, 0, 0, .null), (103, .iaload, 1, 0, 0, 0, .null), (104, .imul, 1, 0, 0, 0, .null), (105, .aload_n 0, 1, 0, 0, 0, .null), (106, .getfield 26, 3, 11, 6, 975, .null), (109, .iload_n 2, 1, 2, 0, 0, .null), (110, .iaload, 1, 0, 0, 0, .null), (111, .iadd, 1, 0, 0, 0, .null), (112, .istore 6, 2, 6, 0, 0, .null), (114, .aload_n 0, 1, 0, 0, 0, .null), (115, .iload_n 3, 1, 3, 0, 0, .null), (116, .aload_n 0, 1, 0, 0, 0, .null), (117, .getfield 13, 3, 11, 1, 970, .null), (120, .iload 6, 2, 6, 0, 0, .null), (122, .iaload, 1, 0, 0, 0, .null), (123, .iload 4, 2, 4, 0, 0, .null), (125, .iadd, 1, 0, 0, 0, .null), (126, .iconst 2, 1, 0, 0, 0, .int (2)), (127, .iload 5, 2, 5, 0, 0, .null), (129, .imul, 1, 0, 0, 0, .null), (130, .isub, 1, 0, 0, 0, .null), (131, .invokevirtual 149, 3, 127, 2, 1135, .null), (134, .aload_n 0, 1, 0, 0, 0, .null), (135, .iload_n 3, 1, 3, 0, 0, .null), (136, .aload_n 0, 1, 0, 0, 0, .null), (137, .getfield 17, 3, 11, 2, 971, .null), (140, .iload 6, 2, 6, 0, 0, .null), (142, .iaload, 1, 0, 0, 0, .null), (143, .iload 4, 2, 4, 0, 0, .null), (145, .iadd, 1, 0, 0, 0, .null), (146, .iconst 2, 1, 0, 0, 0, .int (2)), (147, .iload 5, 2, 5, 0, 0, .null), (149, .imul, 1, 0, 0, 0, .null), (150, .iadd, 1, 0, 0, 0, .null), (151, .invokevirtual 153, 3, 128, 2, 1139, .null), (154, .aload_n 0, 1, 0, 0, 0, .null), (155, .iload 6, 2, 6, 0, 0, .null), (157, .aload_n 0, 1, 0, 0, 0, .null), (158, .getfield 13, 3, 11, 1, 970, .null), (161, .iload_n 3, 1, 3, 0, 0, .null), (162, .iaload, 1, 0, 0, 0, .null), (163, .iload 4, 2, 4, 0, 0, .null), (165, .isub, 1, 0, 0, 0, .null), (166, .iconst 2, 1, 0, 0, 0, .int (2)), (167, .iload 5, 2, 5, 0, 0, .null), (169, .imul, 1, 0, 0, 0, .null), (170, .isub, 1, 0, 0, 0, .null), (171, .invokevirtual 149, 3, 127, 2, 1135, .null), (174, .aload_n 0, 1, 0, 0, 0, .null), (175, .iload 6, 2, 6, 0, 0, .null), (177, .aload_n 0, 1, 0, 0, 0, .null), (178, .getfield 17, 3, 11, 2, 971, .null), (181, .iload_n 3, 1, 3, 0, 0, .null), (182, .iaload, 1, 0, 0, 0, .null), (183, .iload 4, 2, 4, 0, 0, .null), (185, .isub, 1, 0, 0, 0, .null), (186, .iconst 2, 1, 0, 0, 0, .int (2)), (187, .iload 5, 2, 5, 0, 0, .null), (189, .imul, 1, 0, 0, 0, .null), (190, .iadd, 1, 0, 0, 0, .null), (191, .invokevirtual 153, 3, 128, 2, 1139, .null), (194, .iinc 2 1, 3, 2, 0, 0, .int (1)), (197, .goto (-172), 3, 25, 0, 0, .null), (200, .iconst 0, 1, 0, 0, 0, .int (0)), (201, .istore_n 2, 1, 2, 0, 0, .null), (202, .iload_n 2, 1, 2, 0, 0, .null), (203, .bipush 9, 2, 0, 0, 0, .int (9)), (205, .if_icmp .ge 34, 3, 239, 0, 0, .null), (208, .iload_n 1, 1, 1, 0, 0, .null), (209, .ifCond .eq 22, 3, 231, 0, 0, .null), (212, .aload_n 0, 1, 0, 0, 0, .null), (213, .getfield 13, 3, 11, 1, 970, .null), (216, .iload_n 2, 1, 2, 0, 0, .null), (217, .iaload, 1, 0, 0, 0, .null), (218, .aload_n 0, 1, 0, 0, 0, .null), (219, .getfield 17, 3, 11, 2, 971, .null), (222, .iload_n 2, 1, 2, 0, 0, .null), (223, .iaload, 1, 0, 0, 0, .null), (224, .if_icmp .gt 7, 3, 231, 0, 0, .null), (227, .iconst 1, 1, 0, 0, 0, .int (1)), (228, .goto 4, 3, 232, 0, 0, .null), (231, .iconst 0, 1, 0, 0, 0, .int (0)), (232, .istore_n 1, 1, 1, 0, 0, .null), (233, .iinc 2 1, 3, 2, 0, 0, .int (1)), (236, .goto (-34), 3, 202, 0, 0, .null), (239, .goto (-232), 3, 7, 0, 0, .null), (242, .iload_n 1, 1, 1, 0, 0, .null), (243, .ireturn, 1, 0, 0, 0, .int 1)]
def kc_130 : List (Nat × En) := [(0, .aload_n 0, 1, 0, 0, 0, .null), (1, .getfield 146, 3, 11, 3, 972, .null), (4, .bipush 30, 2, 0, 0, 0, .int (30)), (6, .if_icmp .ne 6, 3, 12, 0, 0, .null), (9, .bipush (-4), 2, 0, 0, 0, .int (-4)), (11, .ireturn, 1, 0, 0, 0, .null), (12, .iconst 0, 1, 0, 0, 0, .int (0)), (13, .istore 5, 2, 5, 0, 0, .null), (15, .iload 5, 2, 5, 0, 0, .null), (17, .bipush 9, 2, 0, 0, 0, .int (9)), (19, .if_icmp .ge 37, 3, 56, 0, 0, .null), (22, .aload_n 0, 1, 0, 0, 0, .null), (23, .getfield 102, 3, 11, 34, 1003, .null), (26, .iload 5, 2, 5, 0, 0, .null), (28, .aload_n 0, 1, 0, 0, 0, .null), (29, .getfield 13, 3, 11, 1, 970, .null), (32, .iload 5, 2, 5, 0, 0, .null), (34, .iaload, 1, 0, 0, 0, .null), (35, .iastore, 1, 0, 0, 0, .null), (36, .aload_n 0, 1, 0, 0, 0, .null), (37, .getfield 105, 3, 11, 35, 1004, .null), (40, .iload 5, 2, 5, 0, 0, .null), (42, .aload_n 0, 1, 0, 0, 0, .null), (43, .getfield 17, 3, 11, 2, 971, .null), (46, .iload 5, 2, 5, 0, 0, .null), (48, .iaload, 1, 0, 0, 0, .null), (49, .iastore, 1, 0, 0, 0, .null), (50, .iinc 5 1, 3, 5, 0, 0, .int (1)), (53, .goto (-38), 3, 15, 0, 0, .null), (56, .aload_n 0, 1, 0, 0, 0, .null), (57, .getfield 20, 3, 11, 4, 973, .null), (60, .aload_n 0, 1, 0, 0, 0, .null), (61, .getfield 146, 3, 11, 3, 972, .null), (64, .iload_n 1, 1, 1, 0, 0, .null), (65, .iastore, 1, 0, 0, 0, .null), (66, .aload_n 0, 1, 0, 0, 0, .null), (67, .getfield 23, 3, 11, 5, 974, .null), (70, .aload_n 0, 1, 0, 0, 0, .null), (71, .getfield 146, 3, 11, 3, 972, .null), (74, .iload_n 2, 1, 2, 0, 0, .null), (75, .iastore, 1, 0, 0, 0, .null), (76, .aload_n 0, 1, 0, 0, 0, .null), (77, .getfield 26, 3, 11, 6, 975, .null), (80, .aload_n 0, 1, 0, 0, 0, .null), (81, .getfield 146, 3, 11, 3, 972, .null), (84, .iload_n 3, 1, 3, 0, 0, .null), (85, .iastore, 1, 0, 0, 0, .null), (86, .aload_n 0, 1, 0, 0, 0, .null), (87, .getfield 29, 3, 11, 7, 976, .null), (90, .aload_n 0, 1, 0, 0, 0, .null), (91, .getfield 146, 3, 11, 3, 972, .null), (94, .iload 4, 2, 4, 0, 0, .null), (96, .iastore, 1, 0, 0, 0, .null), (97, .aload_n 0, 1, 0, 0, 0, .null), (98, .getfield 32, 3, 11, 8, 977, .null), (101, .aload_n 0, 1, 0, 0, 0, .null), (102, .getfield 146, 3, 11, 3, 972, .null), (105, .aload_n 0, 1, 0, 0, 0, .null), (106, .getfield 7, 3, 11, 0, 969, .null), (109, .iastore, 1, 0, 0, 0, .null), (110, .aload_n 0, 1, 0, 0, 0, .null), (111, .dup, 1, 0, 0, 0, .null), (112, .getfield 146, 3, 11, 3, 972, .null), (115, .iconst 1, 1, 0, 0, 0, .int (1)), (116, .iadd, 1, 0, 0, 0, .null), (117, .putfield 146, 3, 11, 3, 972, .null), (120, .aload_n 0, 1, 0, 0, 0, .null), (121, .invokevirtual 156, 3, 129, 0, 1131, .null), (124, .ifCond .eq 8, 3, 132, 0, 0, .null), (127, .aload_n 0, 1, 0, 0, 0, .null), (128, .getfield 146, 3, 11, 3, 972, .null), (131, .ireturn, 1, 0, 0, 0, .null), (132, .aload_n 0, 1, 0, 0, 0, .null), (133, .dup, 1, 0, 0, 0, .null), (134, .getfield 146, 3, 11, 3, 972, .null), (137, .iconst 1, 1, 0, 0, 0, .int (1)), (138, .isub, 1, 0, 0, 0, .null), (139, .putfield 146, 3, 11, 3, 972, .null), (142, .iconst 0, 1, 0, 0, 0, .int (0)), (143, .istore 5, 2, 5, 0, 0, .null), (145, .iload 5, 2, 5, 0, 0, .null), (147, .bipush 9, 2, 0, 0, 0, .int (9)), (149, .if_icmp .ge 37, 3, 186, 0, 0, .null), (152, .aload_n 0, 1, 0, 0, 0, .null), (153, .getfield 13, 3, 11, 1, 970, .null), (156, .iload 5, 2, 5, 0, 0, .null), (158, .aload_n 0, 1, 0, 0, 0, .null), (159, .getfield 102, 3, 11, 34, 1003, .null), (162, .iload 5, 2, 5, 0, 0, .null), (164, .iaload, 1, 0, 0, 0, .null), (165, .iastore, 1, 0, 0, 0, .null), (166, .aload_n 0, 1, 0, 0, 0, .null), (167, .getfield 17, 3, 11, 2, 971, .null), (170, .iload 5, 2, 5, 0, 0, .null), (172, .aload_n 0, 1, 0, 0, 0, .null), (173, .getfield 105, 3, 11, 35, 1004, .null), (176, .iload 5, 2, 5, 0, 0, .null), (178, .iaload, 1, 0, 0, 0, .null), (179, .iastore, 1, 0, 0, 0, .null), (180, .iinc 5 1, 3, 5, 0, 0, .int (1)), (183, .goto (-38), 3, 145, 0, 0, .null), (186, .bipush (-5), 2, 0, 0, 0, .int (-5)), (188, .ireturn, 1, 0, 0, 0, .null)]
def kc_131 : List (Nat × En) := [(0, .iload_n 1, 1, 1, 0, 0, .null), (1, .invokestatic 160, 3, 122, 1, 1118, .null), (4, .ifCond .ne 5, 3, 9, 0, 0, .null), (7, .iconst (-1), 1, 0, 0, 0, .int (-1)), (8, .ireturn, 1, 0, 0, 0, .null), (9, .iload_n 2, 1, 2, 0, 0, .null), (10, .iconst 0, 1, 0, 0, 0, .int (0)), (11, .iconst 2, 1, 0, 0, 0, .int (2)), (12, .invokestatic 138, 3, 120, 3, 1121, .null), (15, .ifCond .eq 18, 3, 33, 0, 0, .null), (18, .iload_n 3, 1, 3, 0, 0, .null), (19, .invokestatic 164, 3, 121, 1, 1124, .null), (22, .ifCond .eq 11, 3, 33, 0, 0, .null), (25, .iload 4, 2, 4, 0, 0, .null), (27, .invokestatic 164, 3, 121, 1, 1124, .null), (30, .ifCond .ne 6, 3, 36, 0, 0, .null), (33, .bipush (-2), 2, 0, 0, 0, .int (-2)), (35, .ireturn, 1, 0, 0, 0, .null), (36, .aload_n 0, 1, 0, 0, 0, .null), (37, .iload_n 1, 1, 1, 0, 0, .null), (38, .bipush (-6), 2, 0, 0, 0, .int (-6)), (40, .iload_n 2, 1, 2, 0, 0, .null), (41, .iload 4, 2, 4, 0, 0, .null), (43, .iload_n 3, 1, 3, 0, 0, .null), (44, .isub, 1, 0, 0, 0, .null), (45, .invokevirtual 167, 3, 130, 4, 1127, .null), (48, .ireturn, 1, 0, 0, 0, .null)]
def kc_132 : List (Nat × En) := [(0, .iload_n 1, 1, 1, 0, 0, .null), (1, .invokestatic 160, 3, 122, 1, 1118, .null), (4, .ifCond .eq 15, 3, 19, 0, 0, .null), (7, .iload_n 2, 1, 2, 0, 0, .null), (8, .invokestatic 160, 3, 122, 1, 1118, .null), (11, .ifCond .eq 8, 3, 19, 0, 0, .null), (14, .iload_n 1, 1, 1, 0, 0, .null), (15, .iload_n 2, 1, 2, 0, 0, .null), (16, .if_icmp .ne 5, 3, 21, 0, 0, .null), (19, .iconst (-1), 1, 0, 0, 0, .int (-1)), (20, .ireturn, 1, 0, 0, 0, .null), (21, .iload_n 3, 1, 3, 0, 0, .null), (22, .iconst 0, 1, 0, 0, 0, .int (0)), (23, .iconst 2, 1, 0, 0, 0, .int (2)), (24, .invokestatic 138, 3, 120, 3, 1121, .null), (27, .ifCond .eq 19, 3, 46, 0, 0, .null), (30, .iload 4, 2, 4, 0, 0, .null), (32, .invokestatic 164, 3, 121, 1, 1124, .null), (35, .ifCond .eq 11, 3, 46, 0, 0, .null), (38, .iload 5, 2, 5, 0, 0, .null), (40, .invokestatic 164, 3, 121, 1, 1124, .null), (43, .ifCond .ne 6, 3, 49, 0, 0, .null), (46, .bipush (-2), 2, 0, 0, 0, .int (-2)), (48, .ireturn, 1, 0, 0, 0, .null), (49, .aload_n 0, 1, 0, 0, 0, .null), (50, .iload_n 1, 1, 1, 0, 0, .null), (51, .iload_n 2, 1, 2, 0, 0, .null), (52, .iload_n 3, 1, 3, 0, 0, .null), (53, .iload 4, 2, 4, 0, 0, .null), (55, .iload 5, 2, 5, 0, 0, .null), (57, .isub, 1, 0, 0, 0, .null), (58, .invokevirtual 167, 3, 130, 4, 1127, .null), (61, .ireturn, 1, 0, 0, 0, .null)]
def kc_133 : List (Nat × En) := [(0, .iload_n 1, 1, 1, 0, 0, .null), (1, .invokestatic 160, 3, 122, 1, 1118, .null), (4, .ifCond .ne 6, 3, 10, 0, 0, .null), (7, .ldc 171, 2, 0, 0, 1151, .int (-1000001)), (9, .ireturn, 1, 0, 0, 0, .null), (10, .iload_n 2, 1, 2, 0, 0, .null), (11, .iconst 0, 1, 0, 0, 0, .int (0)), (12, .iconst 2, 1, 0, 0, 0, .int (2)), (13, .invokestatic 138, 3, 120, 3, 1121, .null), (16, .ifCond .eq 10, 3, 26, 0, 0, .null), (19, .iload_n 3, 1, 3, 0, 0, .null), (20, .invokestatic 172, 3, 126, 1, 1152, .null), (23, .ifCond .ne 6, 3, 29, 0, 0, .null), (26, .ldc 175, 2, 0, 0, 1155, .int (-1000002)), (28, .ireturn, 1, 0, 0, 0, .null), (29, .iload_n 3, 1, 3, 0, 0, .null), (30, .ifCond .ne 16, 3, 46, 0, 0, .null), (33, .aload_n 0, 1, 0, 0, 0, .null), (34, .getfield 13, 3, 11, 1, 970, .null), (37, .iconst 3, 1, 0, 0, 0, .int (3)), (38, .iload_n 1, 1, 1, 0, 0, .null), (39, .imul, 1, 0, 0, 0, .null), (40, .iload_n 2, 1, 2, 0, 0, .null), (41, .iadd, 1, 0, 0, 0, .null), (42, .iaload, 1, 0, 0, 0, .null), (43, .goto 13, 3, 56, 0, 0, .null), (46, .aload_n 0, 1, 0, 0, 0, .null), (47, .getfield 17, 3, 11, 2, 971, .null), (50, .iconst 3, 1, 0, 0, 0, .int (3)), (51, .iload_n 1, 1, 1, 0, 0, .null), (52, .imul, 1, 0, 0, 0, .null), (53, .iload_n 2, 1, 2, 0, 0, .null), (54, .iadd, 1, 0, 0, 0, .null), (55, .iaload, 1, 0, 0, 0, .null), (56, .ireturn, 1, 0, 0, 0, .null)]
def kc_134 : List (Nat × En) := [(0, .iload_n 1, 1, 1, 0, 0, .null), (1, .iconst 0, 1, 0, 0, 0, .int (0)), (2, .iconst 3, 1, 0, 0, 0, .int (3)), (3, .invokestatic 138, 3, 120, 3, 1121, .null), (6, .ifCond .ne 6, 3, 12, 0, 0, .null), (9, .bipush (-2), 2, 0, 0, 0, .int (-2)), (11, .ireturn, 1, 0, 0, 0, .null), (12, .aload_n 0, 1, 0, 0, 0, .null), (13, .getfield 7, 3, 11, 0, 969, .null), (16, .istore_n 2, 1, 2, 0, 0, .null), (17, .aload_n 0, 1, 0, 0, 0, .null), (18, .iload_n 1, 1, 1, 0, 0, .null), (19, .putfield 7, 3, 11, 0, 969, .null), (22, .iload_n 2, 1, 2, 0, 0, .null), (23, .ireturn, 1, 0, 0, 0, .null)]
def kc_135 : List (Nat × En) := [(0, .iload_n 1, 1, 1, 0, 0, .null), (1, .invokestatic 176, 3, 123, 1, 1164, .null), (4, .ifCond .eq 20, 3, 24, 0, 0, .null), (7, .iload_n 2, 1, 2, 0, 0, .null), (8, .iconst 0, 1, 0, 0, 0, .int (0)), (9, .bipush 23, 2, 0, 0, 0, .int (23)), (11, .invokestatic 138, 3, 120, 3, 1121, .null), (14, .ifCond .eq 10, 3, 24, 0, 0, .null), (17, .iload_n 3, 1, 3, 0, 0, .null), (18, .invokestatic 160, 3, 122, 1, 1118, .null), (21, .ifCond .ne 5, 3, 26, 0, 0, .null), (24, .iconst (-1), 1, 0, 0, 0, .int (-1)), (25, .ireturn, 1, 0, 0, 0, .null), (26, .iload 4, 2, 4, 0, 0, .null), (28, .invokestatic 164, 3, 121, 1, 1124, .null), (31, .ifCond .eq 19, 3, 50, 0, 0, .null), (34, .iload 5, 2, 5, 0, 0, .null), (36, .invokestatic 164, 3, 121, 1, 1124, .null), (39, .ifCond .eq 11, 3, 50, 0, 0, .null), (42, .iload 6, 2, 6, 0, 0, .null), (44, .invokestatic 164, 3, 121, 1, 1124, .null), (47, .ifCond .ne 6, 3, 53, 0, 0, .null), (50, .bipush (-2), 2, 0, 0, 0, .int (-2)), (52, .ireturn, 1, 0, 0, 0, .null), (53, .aload_n 0, 1, 0, 0, 0, .null), (54, .getfield 179, 3, 11, 9, 978, .null), (57, .bipush 60, 2, 0, 0, 0, .int (60)), (59, .if_icmp .ne 6, 3, 65, 0, 0, .null), (62, .bipush (-4), 2, 0, 0, 0, .int (-4)), (64, .ireturn, 1, 0, 0, 0, .null), (65, .aload_n 0, 1, 0, 0, 0, .null), (66, .getfield 35, 3, 11, 10, 979, .null), (69, .aload_n 0, 1, 0, 0, 0, .null), (70, .getfield 179, 3, 11, 9, 978, .null), (73, .bipush 24, 2, 0, 0, 0, .int (24)), (75, .iload_n 1, 1, 1, 0, 0, .null), (76, .imul, 1, 0, 0, 0, .null), (77, .iload_n 2, 1, 2, 0, 0, .null), (78, .iadd, 1, 0, 0, 0, .null), (79, .iastore, 1, 0, 0, 0, .null), (80, .aload_n 0, 1, 0, 0, 0, .null), (81, .getfield 38, 3, 11, 11, 980, .null), (84, .aload_n 0, 1, 0, 0, 0, .null), (85, .getfield 179, 3, 11, 9, 978, .null), (88, .iload_n 3, 1, 3, 0, 0, .null), (89, .iastore, 1, 0, 0, 0, .null), (90, .aload_n 0, 1, 0, 0, 0, .null), (91, .getfield 41, 3, 11, 12, 981, .null), (94, .iconst 3, 1, 0, 0, 0, .int (3)), (95, .aload_n 0, 1, 0, 0, 0, .null), (96, .getfield 179, 3, 11, 9, 978, .null), (99, .imul, 1, 0, 0, 0, .null), (100, .iload 4, 2, 4, 0, 0, .null), (102, .iastore, 1, 0, 0, 0, .null), (103, .aload_n 0, 1, 0, 0, 0, .null), (104, .getfield 41, 3, 11, 12, 981, .null), (107, .iconst 3, 1, 0, 0, 0, .int (3)), (108, .aload_n 0, 1, 0, 0, 0, .null), (109, .getfield 179, 3, 11, 9, 978, .null), (112, .imul, 1, 0, 0, 0, .null), (113, .iconst 1, 1, 0, 0, 0, .int (1)), (114, .iadd, 1, 0, 0, 0, .null), (115, .iload 5, 2, 5, 0, 0, .null), (117, .iastore, 1, 0, 0, 0, .null), (118, .aload_n 0, 1, 0, 0, 0, .null), (119, .getfield 41, 3, 11, 12, 981, .null), (122, .iconst 3, 1, 0, 0, 0, .int (3)), (123, .aload_n 0, 1, 0, 0, 0, .null), (124, .getfield 179, 3, 11, 9, 978, .null), (127, .imul, 1, 0, 0, 0, .null), (128, .iconst 2, 1, 0, 0, 0, .int (2)), (129, .iadd, 1, 0, 0, 0, .null), (130, .iload 6, 2, 6, 0, 0, .null), (132, .iastore, 1, 0, 0, 0, .null), (133, .aload_n 0, 1, 0, 0, 0, .null), (134, .dup, 1, 0, 0, 0, .null), (135, .getfield 179, 3, 11, 9, 978, .null), (138, .iconst 1, 1, 0, 0, 0, .int (1)), (139, .iadd, 1, 0, 0, 0, .null), (140, .putfield 179, 3, 11, 9, 978, .null), (143, .aload_n 0, 1, 0, 0, 0, .null), (144, .getfield 179, 3, 11, 9, 978, .null), (147, .iconst 1, 1, 0, 0, 0, .int (1)), (148, .isub, 1, 0, 0, 0, .null), (149, .ireturn, 1, 0, 0, 0, .null)]
def kc_136 : List (Nat × En) := [(0, .aload_n 0, 1, 0, 0, 0, .null), (1, .getfield 41, 3, 11, 12, 981, .null), (4, .iconst 3, 1, 0, 0, 0, .int (3)), (5, .iload_n 1, 1, 1, 0, 0, .null), (6, .imul, 1, 0, 0, 0, .null), (7, .iload_n 2, 1, 2, 0, 0, .null), (8, .iadd, 1, 0, 0, 0, .null), (9, .iaload, 1, 0, 0, 0, .null), (10, .istore 4, 2, 4, 0, 0, .null), (12, .iconst 3, 1, 0, 0, 0, .int (3)), (13, .aload_n 0, 1, 0, 0, 0, .null), (14, .getfield 38, 3, 11, 11, 980, .null), (17, .iload_n 1, 1, 1, 0, 0, .null), (18, .iaload, 1, 0, 0, 0, .null), (19, .imul, 1, 0, 0, 0, .null), (20, .iload_n 2, 1, 2, 0, 0, .null), (21, .iadd, 1, 0, 0, 0, .null), (22, .istore 5, 2, 5, 0, 0, .null), (24, .iload_n 3, 1, 3, 0, 0, .null), (25, .ifCond .ne 21, 3, 46, 0, 0, .null), (28, .iload 4, 2, 4, 0, 0, .null), (30, .aload_n 0, 1, 0, 0, 0, .null), (31, .getfield 17, 3, 11, 2, 971, .null), (34, .iload 5, 2, 5, 0, 0, .null), (36, .iaload, 1, 0, 0, 0, .null), (37, .isub, 1, 0, 0, 0, .null), (38, .aload_n 0, 1, 0, 0, 0, .null), (39, .getfield 7, 3, 11, 0, 969, .null), (42, .isub, 1, 0, 0, 0, .null), (43, .goto 18, 3, 61, 0, 0, .null), (46, .iload 4, 2, 4, 0, 0, .null), (48, .aload_n 0, 1, 0, 0, 0, .null), (49, .getfield 13, 3, 11, 1, 970, .null), (52, .iload 5, 2, 5, 0, 0, .null), (54, .iaload, 1, 0, 0, 0, .null), (55, .isub, 1, 0, 0, 0, .null), (56, .aload_n 0, 1, 0, 0, 0, .null), (57, .getfield 7, 3, 11, 0, 969, .null), (60, .iadd, 1, 0, 0, 0, .null), (61, .ireturn, 1, 0, 0, 0, .null)]
def kc_137 : List (Nat × En) := [(0, .iload_n 1, 1, 1, 0, 0, .null), (1, .iconst 0, 1, 0, 0, 0, .int (0)), (2, .aload_n 0, 1, 0, 0, 0, .null), (3, .getfield 179, 3, 11, 9, 978, .null), (6, .iconst 1, 1, 0, 0, 0, .int (1)), (7, .isub, 1, 0, 0, 0, .null), (8, .invokestatic 138, 3, 120, 3, 1121, .null), (11, .ireturn, 1, 0, 0, 0, .int 1)]
def kc_138 : List (Nat × En) := [(0, .aload_n 0, 1, 0, 0, 0, .null), (1, .iload_n 1, 1, 1, 0, 0, .null), (2, .invokevirtual 182, 3, 137, 1, 1171, .null), (5, .ifCond .ne 6, 3, 11, 0, 0, .null), (8, .ldc 171, 2, 0, 0, 1151, .int (-1000001)), (10, .ireturn, 1, 0, 0, 0, .null), (11, .iload_n 2, 1, 2, 0, 0, .null), (12, .iconst 0, 1, 0, 0, 0, .int (0)), (13, .iconst 2, 1, 0, 0, 0, .int (2)), (14, .invokestatic 138, 3, 120, 3, 1121, .null), (17, .ifCond .eq 20, 3, 37, 0, 0, .null), (20, .iload_n 3, 1, 3, 0, 0, .null), (21, .invokestatic 172, 3, 126, 1, 1152, .null), (24, .ifCond .eq 13, 3, 37, 0, 0, .null), (27, .aload_n 0, 1, 0, 0, 0, .null), (28, .iload_n 1, 1, 1, 0, 0, .null), (29, .iload_n 2, 1, 2, 0, 0, .null), (30, .iload_n 3, 1, 3, 0, 0, .null), (31, .invokevirtual 185, 3, 136, 3, 1175, .null), (34, .goto 5, 3, 39, 0, 0, .null), (37, .ldc 175, 2, 0, 0, 1155, .int (-1000002)), (39, .ireturn, 1, 0, 0, 0, .null)]
def kc_139 : List (Nat × En) := [(0, .iconst 0, 1, 0, 0, 0, .int (0)), (1, .istore_n 2, 1, 2, 0, 0, .null), (2, .iconst 0, 1, 0, 0, 0, .int (0)), (3, .istore_n 3, 1, 3, 0, 0, .null), (4, .iload_n 3, 1, 3, 0, 0, .null), (5, .aload_n 0, 1, 0, 0, 0, .null), (6, .getfield 179, 3, 11, 9, 978, .null), (9, .if_icmp .ge 27, 3, 36, 0, 0, .null), (12, .iload_n 2, 1, 2, 0, 0, .null), (13, .aload_n 0, 1, 0, 0, 0, .null), (14, .getfield 35, 3, 11, 10, 979, .null), (17, .iload_n 3, 1, 3, 0, 0, .null), (18, .iaload, 1, 0, 0, 0, .null), (19, .iload_n 1, 1, 1, 0, 0, .null), (20, .if_icmp .ne 7, 3, 27, 0, 0, .null), (23, .iconst 1, 1, 0, 0, 0, .int (1)), (24, .goto 4, 3, 28, 0, 0, .null), (27, .iconst 0, 1, 0, 0, 0, .int (0)), (28, .iadd, 1, 0, 0, 0, .null), (29, .istore_n 2, 1, 2, 0, 0, .null), (30, .iinc 3 1, 3, 3, 0, 0, .int (1)), (33, .goto (-29), 3, 4, 0, 0, .null), (36, .iload_n 2, 1, 2, 0, 0, .null), (37, .ireturn, 1, 0, 0, 0, .null)]
def kc_140 : List (Nat × En) := [(0, .iload_n 1, 1, 1, 0, 0, .null), (1, .invokestatic 189, 3, 124, 1, 1183, .null), (4, .ifCond .eq 15, 3, 19, 0, 0, .null), (7, .aload_n 0, 1, 0, 0, 0, .null), (8, .iload_n 1, 1, 1, 0, 0, .null), (9, .invokevirtual 192, 3, 139, 1, 1186, .null), (12, .ifCond .le 7, 3, 19, 0, 0, .null), (15, .iconst 1, 1, 0, 0, 0, .int (1)), (16, .goto 4, 3, 20, 0, 0, .null), (19, .iconst 0, 1, 0, 0, 0, .int (0)), (20, .ireturn, 1, 0, 0, 0, .int 1)]
def kc_141 : List (Nat × En) := [(0, .iload_n 1, 1, 1, 0, 0, .null), (1, .invokestatic 189, 3, 124, 1, 1183, .null), (4, .ifCond .eq 11, 3, 15, 0, 0, .null), (7, .aload_n 0, 1, 0, 0, 0, .null), (8, .iload_n 1, 1, 1, 0, 0, .null), (9, .invokevirtual 192, 3, 139, 1, 1186, .null), (12, .goto 4, 3, 16, 0, 0, .null), (15, .iconst (-1), 1, 0, 0, 0, .int (-1)), (16, .ireturn, 1, 0, 0, 0, .null)]
def kc_142 : List (Nat × En) := [(0, .iconst 0, 1, 0, 0, 0, .int (0)), (1, .istore 4, 2, 4, 0, 0, .null), (3, .iconst 0, 1, 0, 0, 0, .int (0)), (4, .istore 5, 2, 5, 0, 0, .null), (6, .iconst 0, 1, 0, 0, 0, .int (0)), (7, .istore 6, 2, 6, 0, 0, .null), (9, .iload 6, 2, 6, 0, 0, .null), (11, .aload_n 0, 1, 0, 0, 0, .null), (12, .getfield 179, 3, 11, 9, 978, .null), (15, .if_icmp .ge 68, 3, 83, 0, 0, .null), (18, .aload_n 0, 1, 0, 0, 0, .null), (19, .getfield 35, 3, 11, 10, 979, .null), (22, .iload 6, 2, 6, 0, 0, .null), (24, .iaload, 1, 0, 0, 0, .null), (25, .iload_n 1, 1, 1, 0, 0, .null), (26, .if_icmp .ne 51, 3, 77, 0, 0, .null), (29, .aload_n 0, 1, 0, 0, 0, .null), (30, .iload 6, 2, 6, 0, 0, .null), (32, .iload_n 2, 1, 2, 0, 0, .null), (33, .iload_n 3, 1, 3, 0, 0, .null), (34, .invokevirtual 185, 3, 136, 3, 1175, .null), (37, .istore 7, 2, 7, 0, 0, .null), (39, .iload 4, 2, 4, 0, 0, .null), (41, .ifCond .eq 24, 3, 65, 0, 0, .null), (44, .iload_n 3, 1, 3, 0, 0, .null), (45, .ifCond .ne 13, 3, 58, 0, 0, .null), (48, .iload 7, 2, 7, 0, 0, .null), (50, .iload 5, 2, 5, 0, 0, .null), (52, .if_icmp .ge 18, 3, 70, 0, 0, .null), (55, .goto 10, 3, 65, 0, 0, .null), (58, .iload 7, 2, 7, 0, 0, .null), (60, .iload 5, 2, 5, 0, 0, .null), (62, .if_icmp .le 8, 3, 70, 0, 0, .null), (65, .iload 7, 2, 7, 0, 0, .null), (67, .goto 5, 3, 72, 0, 0, .null), (70, .iload 5, 2, 5, 0, 0, .null), (72, .istore 5, 2, 5, 0, 0, .null), (74, .iconst 1, 1, 0, 0, 0, .int (1)), (75, .istore 4, 2, 4, 0, 0, .null), (77, .iinc 6 1, 3, 6, 0, 0, .int (1)), (80, .goto (-71), 3, 9, 0, 0, .null), (83, .iload 5, 2, 5, 0, 0, .null), (85, .ireturn, 1, 0, 0, 0, .null)]
def kc_143 : List (Nat × En) := [(0, .aload_n 0, 1, 0, 0, 0, .null), (1, .iload_n 1, 1, 1, 0, 0, .null), (2, .invokevirtual 196, 3, 140, 1, 1194, .null), (5, .ifCond .ne 6, 3, 11, 0, 0, .null), (8, .ldc 171, 2, 0, 0, 1151, .int (-1000001)), (10, .ireturn, 1, 0, 0, 0, .null), (11, .iload_n 2, 1, 2, 0, 0, .null), (12, .iconst 0, 1, 0, 0, 0, .int (0)), (13, .iconst 2, 1, 0, 0, 0, .int (2)), (14, .invokestatic 138, 3, 120, 3, 1121, .null), (17, .ifCond .eq 20, 3, 37, 0, 0, .null), (20, .iload_n 3, 1, 3, 0, 0, .null), (21, .invokestatic 172, 3, 126, 1, 1152, .null), (24, .ifCond .eq 13, 3, 37, 0, 0, .null), (27, .aload_n 0, 1, 0, 0, 0, .null), (28, .iload_n 1, 1, 1, 0, 0, .null), (29, .iload_n 2, 1, 2, 0, 0, .null), (30, .iload_n 3, 1, 3, 0, 0, .null), (31, .invokevirtual 199, 3, 142, 3, 1198, .null), (34, .goto 5, 3, 39, 0, 0, .null), (37, .ldc 175, 2, 0, 0, 1155, .int (-1000002)), (39, .ireturn, 1, 0, 0, 0, .null)]
def kc_144 : List (Nat × En) := [(0, .iload_n 1, 1, 1, 0, 0, .null), (1, .bipush 33, 2, 0, 0, 0, .int (33)), (3, .bipush 126, 2, 0, 0, 0, .int (126)), (5, .invokestatic 138, 3, 120, 3, 1121, .null), (8, .ifCond .ne 6, 3, 14, 0, 0, .null), (11, .bipush (-2), 2, 0, 0, 0, .int (-2)), (13, .ireturn, 1, 0, 0, 0, .null), (14, .aload_n 0, 1, 0, 0, 0, .null), (15, .getfield 202, 3, 11, 13, 982, .null), (18, .bipush 50, 2, 0, 0, 0, .int (50)), (20, .if_icmp .ne 6, 3, 26, 0, 0, .null), (23, .bipush (-4), 2, 0, 0, 0, .int (-4)), (25, .ireturn, 1, 0, 0, 0, .null), (26, .aload_n 0, 1, 0, 0, 0, .null), (27, .getfield 44, 3, 11, 14, 983, .null), (30, .aload_n 0, 1, 0, 0, 0, .null), (31, .getfield 202, 3, 11, 13, 982, .null), (34, .iload_n 1, 1, 1, 0, 0, .null), (35, .iastore, 1, 0, 0, 0, .null), (36, .aload_n 0, 1, 0, 0, 0, .null), (37, .dup, 1, 0, 0, 0, .null), (38, .getfield 202, 3, 11, 13, 982, .null), (41, .iconst 1, 1, 0, 0, 0, .int (1)), (42, .iadd, 1, 0, 0, 0, .null), (43, .putfield 202, 3, 11, 13, 982, .null), (46, .aload_n 0, 1, 0, 0, 0, .null), (47, .getfield 202, 3, 11, 13, 982, .null), (50, .ireturn, 1, 0, 0, 0, .null)]
def kc_145 : List (Nat × En) := [(0, .aload_n 0, 1, 0, 0, 0, .null), (1, .getfield 202, 3, 11, 13, 982, .null), (4, .istore_n 1, 1, 1, 0, 0, .null), (5, .aload_n 0, 1, 0, 0, 0, .null), (6, .iconst 0, 1, 0, 0, 0, .int (0)), (7, .putfield 202, 3, 11, 13, 982, .null), (10, .iload_n 1, 1, 1, 0, 0, .null), (11, .ireturn, 1, 0, 0, 0, .null)]
def kc_146 : List (Nat × En) := [(0, .iconst 0, 1, 0, 0, 0, .int (0)), (1, .istore_n 1, 1, 1, 0, 0, .null), (2, .iconst 0, 1, 0, 0, 0, .int (0)), (3, .istore_n 2, 1, 2, 0, 0, .null), (4, .iload_n 2, 1, 2, 0, 0, .null), (5, .aload_n 0, 1, 0, 0, 0, .null), (6, .getfield 202, 3, 11, 13, 982, .null), (9, .if_icmp .ge 153, 3, 162, 0, 0, .null), (12, .aload_n 0, 1, 0, 0, 0, .null), (13, .getfield 44, 3, 11, 14, 983, .null), (16, .iload_n 2, 1, 2, 0, 0, .null), (17, .iaload, 1, 0, 0, 0, .null), (18, .istore_n 3, 1, 3, 0, 0, .null), (19, .bipush (-6), 2, 0, 0, 0, .int (-6)), (21, .istore 4, 2, 4, 0, 0, .null), (23, .iload_n 1, 1, 1, 0, 0, .null), (24, .ifCond .ne 44, 3, 68, 0, 0, .null), (27, .iload_n 3, 1, 3, 0, 0, .null), (28, .bipush 103, 2, 0, 0, 0, .int (103)), (30, .if_icmp .eq 27, 3, 57, 0, 0, .null), (33, .iload_n 3, 1, 3, 0, 0, .null), (34, .bipush 97, 2, 0, 0, 0, .int (97)), (36, .if_icmp .eq 21, 3, 57, 0, 0, .null), (39, .iload_n 3, 1, 3, 0, 0, .null), (40, .bipush 98, 2, 0, 0, 0, .int (98)), (42, .if_icmp .eq 15, 3, 57, 0, 0, .null), (45, .iload_n 3, 1, 3, 0, 0, .null), (46, .bipush 99, 2, 0, 0, 0, .int (99)), (48, .if_icmp .eq 9, 3, 57, 0, 0, .null), (51, .iload_n 3, 1, 3, 0, 0, .null), (52, .bipush 121, 2, 0, 0, 0, .int (121)), (54, .if_icmp .ne 7, 3, 61, 0, 0, .null), (57, .iconst 1, 1, 0, 0, 0, .int (1)), (58, .goto 5, 3, 63, 0, 0, .null), (61, .bipush (-6), 2, 0, 0, 0, .int (-6)), (63, .istore 4, 2, 4, 0, 0, .null), (65, .goto 81, 3, 146, 0, 0, .null), (68, .iload_n 1, 1, 1, 0, 0, .null), (69, .iconst 1, 1, 0, 0, 0, .int (1)), (70, .if_icmp .ne 32, 3, 102, 0, 0, .null), (73, .iload_n 3, 1, 3, 0, 0, .null), (74, .bipush 60, 2, 0, 0, 0, .int (60)), (76, .if_icmp .eq 15, 3, 91, 0, 0, .null), (79, .iload_n 3, 1, 3, 0, 0, .null), (80, .bipush 62, 2, 0, 0, 0, .int (62)), (82, .if_icmp .eq 9, 3, 91, 0, 0, .null), (85, .iload_n 3, 1, 3, 0, 0, .null), (86, .bipush 61, 2, 0, 0, 0, .int (61)), (88, .if_icmp .ne 7, 3, 95, 0, 0, .null), (91, .iconst 2, 1, 0, 0, 0, .int (2)), (92, .goto 5, 3, 97, 0, 0, .null), (95, .bipush (-6), 2, 0, 0, 0, .int (-6)), (97, .istore 4, 2, 4, 0, 0, .null), (99, .goto 47, 3, 146, 0, 0, .null), (102, .iload_n 1, 1, 1, 0, 0, .null), (103, .iconst 5, 1, 0, 0, 0, .int (5)), (104, .if_icmp .ge 22, 3, 126, 0, 0, .null), (107, .iload_n 3, 1, 3, 0, 0, .null), (108, .bipush 48, 2, 0, 0, 0, .int (48)), (110, .bipush 57, 2, 0, 0, 0, .int (57)), (112, .invokestatic 138, 3, 120, 3, 1121, .null), (115, .ifCond .eq 11, 3, 126, 0, 0, .null), (118, .iload_n 1, 1, 1, 0, 0, .null), (119, .iconst 1, 1, 0, 0, 0, .int (1)), (120, .iadd, 1, 0, 0, 0, .null), (121, .istore 4, 2, 4, 0, 0, .null), (123, .goto 23, 3, 146, 0, 0, .null), (126, .iload_n 1, 1, 1, 0, 0, .null), (127, .iconst 2, 1, 0, 0, 0, .int (2)), (128, .if_icmp .le 18, 3, 146, 0, 0, .null), (131, .iload_n 3, 1, 3, 0, 0, .null), (132, .bipush 38, 2, 0, 0, 0, .int (38)), (134, .if_icmp .eq 9, 3, 143, 0, 0, .null), (137, .iload_n 3, 1, 3, 0, 0, .null), (138, .bipush 124, 2, 0, 0, 0, .int (124)), (140, .if_icmp .ne 6, 3, 146, 0, 0, .null), (143, .iconst 0, 1, 0, 0, 0, .int (0)), (144, .istore 4, 2, 4, 0, 0, .null), (146, .iload 4, 2, 4, 0, 0, .null), (148, .ifCond .ge 5, 3, 153, 0, 0, .null), (151, .iload_n 2, 1, 2, 0, 0, .null), (152, .ireturn, 1, 0, 0, 0, .null), (153, .iload 4, 2, 4, 0, 0, .null), (155, .istore_n 1, 1, 1, 0, 0, .null), (156, .iinc 2 1, 3, 2, 0, 0, .int (1)), (159, .goto (-155), 3, 4, 0, 0, .null), (162, .iload_n 1, 1, 1, 0, 0, .null), (163, .iconst 2, 1, 0, 0, 0, .int (2)), (164, .if_icmp .le 8, 3, 172, 0, 0, .null), (167, .bipush (-6), 2, 0, 0, 0, .int (-6)), (169, .goto 7, 3, 176, 0, 0, .null), (172, .aload_n 0, 1, 0, 0, 0, .null), (173, .getfield 202, 3, 11, 13, 982, .null), (176, .ireturn, 1, 0, 0, 0, .null)]
def kc_147 : List (Nat × En) := [(0, .aload_n 0, 1, 0, 0, 0, .null), (1, .invokevirtual 205, 3, 146, 0, 1214, .null), (4, .ireturn, 1, 0, 0, 0, .null)]
def kc_148 : List (Nat × En) := [(0, .aload_n 0, 1, 0, 0, 0, .null), (1, .getfield 209, 3, 11, 15, 984, .null), (4, .ifCond .le 7, 3, 11, 0, 0, .null), (7, .iconst 1, 1, 0, 0, 0, .int (1)), (8, .goto 4, 3, 12, 0, 0, .null), (11, .iconst 0, 1, 0, 0, 0, .int (0)), (12, .istore_n 1, 1, 1, 0, 0, .null), (13, .iconst 0, 1, 0, 0, 0, .int (0)), (14, .istore_n 2, 1, 2, 0, 0, .null), (15, .iload_n 2, 1, 2, 0, 0, .null), (16, .aload_n 0, 1, 0, 0, 0, .null), (17, .getfield 209, 3, 11, 15, 984, .null), (20, .if_icmp .ge 28, 3, 48, 0, 0, .null), (23, .iload_n 1, 1, 1, 0, 0, .null), (24, .aload_n 0, 1, 0, 0, 0, .null), (25, .getfield 47, 3, 11, 16, 985, .null), (28, .iload_n 2, 1, 2, 0, 0, .null), (29, .iaload, 1, 0, 0, 0, .null), (30, .bipush 124, 2, 0, 0, 0, .int (124)), (32, .if_icmp .ne 7, 3, 39, 0, 0, .null), (35, .iconst 1, 1, 0, 0, 0, .int (1)), (36, .goto 4, 3, 40, 0, 0, .null), (39, .iconst 0, 1, 0, 0, 0, .int (0)), (40, .iadd, 1, 0, 0, 0, .null), (41, .istore_n 1, 1, 1, 0, 0, .null), (42, .iinc 2 1, 3, 2, 0, 0, .int (1)), (45, .goto (-30), 3, 15, 0, 0, .null), (48, .iload_n 1, 1, 1, 0, 0, .null), (49, .ireturn, 1, 0, 0, 0, .null)]
def kc_149 : List (Nat × En) := [(0, .aload_n 0, 1, 0, 0, 0, .null), (1, .invokevirtual 205, 3, 146, 0, 1214, .null), (4, .ifCond .lt 6, 3, 10, 0, 0, .null), (7, .bipush (-5), 2, 0, 0, 0, .int (-5)), (9, .ireturn, 1, 0, 0, 0, .null), (10, .aload_n 0, 1, 0, 0, 0, .null), (11, .aload_n 0, 1, 0, 0, 0, .null), (12, .getfield 202, 3, 11, 13, 982, .null), (15, .putfield 209, 3, 11, 15, 984, .null), (18, .iconst 0, 1, 0, 0, 0, .int (0)), (19, .istore_n 1, 1, 1, 0, 0, .null), (20, .iload_n 1, 1, 1, 0, 0, .null), (21, .aload_n 0, 1, 0, 0, 0, .null), (22, .getfield 202, 3, 11, 13, 982, .null), (25, .if_icmp .ge 21, 3, 46, 0, 0, .null), (28, .aload_n 0, 1, 0, 0, 0, .null), (29, .getfield 47, 3, 11, 16, 985, .null), (32, .iload_n 1, 1, 1, 0, 0, .null), (33, .aload_n 0, 1, 0, 0, 0, .null), (34, .getfield 44, 3, 11, 14, 983, .null), (37, .iload_n 1, 1, 1, 0, 0, .null), (38, .iaload, 1, 0, 0, 0, .null), (39, .iastore, 1, 0, 0, 0, .null), (40, .iinc 1 1, 3, 1, 0, 0, .int (1)), (43, .goto (-23), 3, 20, 0, 0, .null), (46, .aload_n 0, 1, 0, 0, 0, .null), (47, .iconst 0, 1, 0, 0, 0, .int (0)), (48, .putfield 202, 3, 11, 13, 982, .null), (51, .aload_n 0, 1, 0, 0, 0, .null), (52, .invokevirtual 212, 3, 148, 0, 1222, .null), (55, .ireturn, 1, 0, 0, 0, .null)]
def kc_150 : List (Nat × En) := [(0, .iload_n 2, 1, 2, 0, 0, .null), (1, .iload_n 1, 1, 1, 0, 0, .null), (2, .if_icmp .le 9, 3, 11, 0, 0, .null), (5, .iload_n 2, 1, 2, 0, 0, .null), (6, .iload_n 1, 1, 1, 0, 0, .null), (7, .isub, 1, 0, 0, 0, .null), (8, .goto 15, 3, 23, 0, 0, .null), (11, .iload_n 0, 1, 0, 0, 0, .null), (12, .iload_n 3, 1, 3, 0, 0, .null), (13, .if_icmp .le 9, 3, 22, 0, 0, .null), (16, .iload_n 0, 1, 0, 0, 0, .null), (17, .iload_n 3, 1, 3, 0, 0, .null), (18, .isub, 1, 0, 0, 0, .null), (19, .goto 4, 3, 23, 0, 0, .null), (22, .iconst 0, 1, 0, 0, 0, .int (0)), (23, .ireturn, 1, 0, 0, 0, .null)]
def kc_151 : List (Nat × En) := [(0, .aload_n 0, 1, 0, 0, 0, .null), (1, .iload_n 1, 1, 1, 0, 0, .null), (2, .iload_n 3, 1, 3, 0, 0, .null), (3, .iconst 0, 1, 0, 0, 0, .int (0)), (4, .invokevirtual 199, 3, 142, 3, 1198, .null), (7, .aload_n 0, 1, 0, 0, 0, .null), (8, .iload_n 1, 1, 1, 0, 0, .null), (9, .iload_n 3, 1, 3, 0, 0, .null), (10, .iconst 1, 1, 0, 0, 0, .int (1)), (11, .invokevirtual 199, 3, 142, 3, 1198, .null), (14, .aload_n 0, 1, 0, 0, 0, .null), (15, .iload_n 2, 1, 2, 0, 0, .null), (16, .iload_n 3, 1, 3, 0, 0, .null), (17, .iconst 0, 1, 0, 0, 0, .int (0)), (18, .invokevirtual 199, 3, 142, 3, 1198, .null), (21, .aload_n 0, 1, 0, 0, 0, .null), (22, .iload_n 2, 1, 2, 0, 0, .null), (23, .iload_n 3, 1, 3, 0, 0, .null), (24, .iconst 1, 1, 0, 0, 0, .int (1)), (25, .invokevirtual 199, 3, 142, 3, 1198, .null), (28, .invokestatic 215, 3, 150, 4, 1234, .null), (31, .ireturn, 1, 0, 0, 0, .null)]
def kc_152 : List (Nat × En) := [(0, .aload_n 0, 1, 0, 0, 0, .null), (1, .getfield 123, 3, 11, 43, 1012, .null), (4, .iload_n 1, 1, 1, 0, 0, .null), (5, .iaload, 1, 0, 0, 0, .null), (6, .aload_n 0, 1, 0, 0, 0, .null), (7, .getfield 126, 3, 11, 44, 1013, .null), (10, .iload_n 1, 1, 1, 0, 0, .null), (11, .iaload, 1, 0, 0, 0, .null), (12, .aload_n 0, 1, 0, 0, 0, .null), (13, .getfield 123, 3, 11, 43, 1012, .null), (16, .iload_n 2, 1, 2, 0, 0, .null), (17, .iaload, 1, 0, 0, 0, .null), (18, .aload_n 0, 1, 0, 0, 0, .null), (19, .getfield 126, 3, 11, 44, 1013, .null), (22, .iload_n 2, 1, 2, 0, 0, .null), (23, .iaload, 1, 0, 0, 0, .null), (24, .invokestatic 215, 3, 150, 4, 1234, .null), (27, .ireturn, 1, 0, 0, 0, .null)]
def kc_153 : List (Nat × En) := [(0, .aload_n 0, 1, 0, 0, 0, .null), (1, .iload_n 1, 1, 1, 0, 0, .null), (2, .invokevirtual 196, 3, 140, 1, 1194, .null), (5, .ifCond .eq 16, 3, 21, 0, 0, .null), (8, .aload_n 0, 1, 0, 0, 0, .null), (9, .iload_n 2, 1, 2, 0, 0, .null), (10, .invokevirtual 196, 3, 140, 1, 1194, .null), (13, .ifCond .eq 8, 3, 21, 0, 0, .null), (16, .iload_n 1, 1, 1, 0, 0, .null), (17, .iload_n 2, 1, 2, 0, 0, .null), (18, .if_icmp .ne 5, 3, 23, 0, 0, .null), (21, .iconst (-1), 1, 0, 0, 0, .int (-1)), (22, .ireturn, 1, 0, 0, 0, .null), (23, .iload_n 3, 1, 3, 0, 0, .null), (24, .iconst 0, 1, 0, 0, 0, .int (0)), (25, .iconst 3, 1, 0, 0, 0, .int (3)), (26, .invokestatic 138, 3, 120, 3, 1121, .null), (29, .ifCond .ne 6, 3, 35, 0, 0, .null), (32, .bipush (-2), 2, 0, 0, 0, .int (-2)), (34, .ireturn, 1, 0, 0, 0, .null), (35, .iload_n 3, 1, 3, 0, 0, .null), (36, .iconst 3, 1, 0, 0, 0, .int (3)), (37, .if_icmp .ge 11, 3, 48, 0, 0, .null), (40, .aload_n 0, 1, 0, 0, 0, .null), (41, .iload_n 1, 1, 1, 0, 0, .null), (42, .iload_n 2, 1, 2, 0, 0, .null), (43, .iload_n 3, 1, 3, 0, 0, .null), (44, .invokevirtual 218, 3, 151, 3, 1230, .null), (47, .ireturn, 1, 0, 0, 0, .null), (48, .aload_n 0, 1, 0, 0, 0, .null), (49, .bipush (-6), 2, 0, 0, 0, .int (-6)), (51, .invokevirtual 221, 3, 183, 1, 1237, .null), (54, .ifCond .eq 12, 3, 66, 0, 0, .null), (57, .aload_n 0, 1, 0, 0, 0, .null), (58, .iload_n 1, 1, 1, 0, 0, .null), (59, .iload_n 2, 1, 2, 0, 0, .null), (60, .invokevirtual 224, 3, 152, 2, 1249, .null), (63, .goto 5, 3, 68, 0, 0, .null), (66, .bipush (-5), 2, 0, 0, 0, .int (-5)), (68, .ireturn, 1, 0, 0, 0, .null)]
def kc_154 : List (Nat × En) := [(0, .iconst 0, 1, 0, 0, 0, .int (0)), (1, .istore_n 1, 1, 1, 0, 0, .null), (2, .iconst 0, 1, 0, 0, 0, .int (0)), (3, .istore_n 2, 1, 2, 0, 0, .null), (4, .iload_n 2, 1, 2, 0, 0, .null), (5, .aload_n 0, 1, 0, 0, 0, .null), (6, .getfield 209, 3, 11, 15, 984, .null), (9, .if_icmp .ge 30, 3, 39, 0, 0, .null), (12, .iload_n 1, 1, 1, 0, 0, .null), (13, .ifCond .ne 14, 3, 27, 0, 0, .null), (16, .aload_n 0, 1, 0, 0, 0, .null), (17, .getfield 47, 3, 11, 16, 985, .null), (20, .iload_n 2, 1, 2, 0, 0, .null), (21, .iaload, 1, 0, 0, 0, .null), (22, .bipush 121, 2, 0, 0, 0, .int (121)), (24, .if_icmp .ne 7, 3, 31, 0, 0, .null), (27, .iconst 1, 1, 0, 0, 0, .int (1)), (28, .goto 4, 3, 32, 0, 0, .null), (31, .iconst 0, 1, 0, 0, 0, .int (0)), (32, .istore_n 1, 1, 1, 0, 0, .null), (33, .iinc 2 1, 3, 2, 0, 0, .int (1)), (36, .goto (-32), 3, 4, 0, 0, .null), (39, .iload_n 1, 1, 1, 0, 0, .null), (40, .ireturn, 1, 0, 0, 0, .int 1)]
def kc_155 : List (Nat × En) := [(0, .aload_n 0, 1, 0, 0, 0, .null), (1, .getfield 209, 3, 11, 15, 984, .null), (4, .ifCond .ne 8, 3, 12, 0, 0, .null), (7, .bipush (-3), 2, 0, 0, 0, .int (-3)), (9, .goto 25, 3, 34, 0, 0, .null), (12, .aload_n 0, 1, 0, 0, 0, .null), (13, .invokevirtual 228, 3, 154, 0, 1261, .null), (16, .ifCond .eq 17, 3, 33, 0, 0, .null), (19, .aload_n 0, 1, 0, 0, 0, .null), (20, .bipush (-6), 2, 0, 0, 0, .int (-6)), (22, .invokevirtual 221, 3, 183, 1, 1237, .null), (25, .ifCond .ne 8, 3, 33, 0, 0, .null), (28, .bipush (-5), 2, 0, 0, 0, .int (-5)), (30, .goto 4, 3, 34, 0, 0, .null), (33, .iconst 0, 1, 0, 0, 0, .int (0)), (34, .ireturn, 1, 0, 0, 0, .null)]
def kc_156 : List (Nat × En) := [(0, .iload_n 1, 1, 1, 0, 0, .null), (1, .bipush 103, 2, 0, 0, 0, .int (103)), (3, .if_icmp .ne 32, 3, 35, 0, 0, .null), (6, .aload_n 0, 1, 0, 0, 0, .null), (7, .iload_n 2, 1, 2, 0, 0, .null), (8, .invokevirtual 192, 3, 139, 1, 1186, .null), (11, .istore 4, 2, 4, 0, 0, .null), (13, .aload_n 0, 1, 0, 0, 0, .null), (14, .iload_n 3, 1, 3, 0, 0, .null), (15, .invokevirtual 192, 3, 139, 1, 1186, .null), (18, .istore 5, 2, 5, 0, 0, .null), (20, .iload 4, 2, 4, 0, 0, .null), (22, .iload 5, 2, 5, 0, 0, .null), (24, .if_icmp .ge 8, 3, 32, 0, 0, .null), (27, .iload 4, 2, 4, 0, 0, .null), (29, .goto 5, 3, 34, 0, 0, .null), (32, .iload 5, 2, 5, 0, 0, .null), (34, .ireturn, 1, 0, 0, 0, .null), (35, .iload_n 1, 1, 1, 0, 0, .null), (36, .bipush 121, 2, 0, 0, 0, .int (121)), (38, .if_icmp .ne 12, 3, 50, 0, 0, .null), (41, .aload_n 0, 1, 0, 0, 0, .null), (42, .iload_n 2, 1, 2, 0, 0, .null), (43, .iload_n 3, 1, 3, 0, 0, .null), (44, .invokevirtual 224, 3, 152, 2, 1249, .null), (47, .goto 13, 3, 60, 0, 0, .null), (50, .aload_n 0, 1, 0, 0, 0, .null), (51, .iload_n 2, 1, 2, 0, 0, .null), (52, .iload_n 3, 1, 3, 0, 0, .null), (53, .iload_n 1, 1, 1, 0, 0, .null), (54, .bipush 97, 2, 0, 0, 0, .int (97)), (56, .isub, 1, 0, 0, 0, .null), (57, .invokevirtual 218, 3, 151, 3, 1230, .null), (60, .ireturn, 1, 0, 0, 0, .null)]
def kc_157 : List (Nat × En) := [(0, .iconst 1, 1, 0, 0, 0, .int (1)), (1, .istore_n 3, 1, 3, 0, 0, .null), (2, .iconst 0, 1, 0, 0, 0, .int (0)), (3, .istore 4, 2, 4, 0, 0, .null), (5, .iload 4, 2, 4, 0, 0, .null), (7, .aload_n 0, 1, 0, 0, 0, .null), (8, .getfield 209, 3, 11, 15, 984, .null), (11, .if_icmp .ge 200, 3, 211, 0, 0, .null), (14, .aload_n 0, 1, 0, 0, 0, .null), (15, .aload_n 0, 1, 0, 0, 0, .null), (16, .getfield 47, 3, 11, 16, 985, .null), (19, .iload 4, 2, 4, 0, 0, .null), (21, .iaload, 1, 0, 0, 0, .null), (22, .iload_n 1, 1, 1, 0, 0, .null), (23, .iload_n 2, 1, 2, 0, 0, .null), (24, .invokevirtual 231, 3, 156, 3, 1269, .null), (27, .istore 5, 2, 5, 0, 0, .null), (29, .aload_n 0, 1, 0, 0, 0, .null), (30, .getfield 47, 3, 11, 16, 985, .null), (33, .iload 4, 2, 4, 0, 0, .null), (35, .iconst 1, 1, 0, 0, 0, .int (1)), (36, .iadd, 1, 0, 0, 0, .null), (37, .iaload, 1, 0, 0, 0, .null), (38, .istore 6, 2, 6, 0, 0, .null), (40, .iinc 4 2, 3, 4, 0, 0, .int (2)), (43, .iconst 0, 1, 0, 0, 0, .int (0)), (44, .istore 7, 2, 7, 0, 0, .null), (46, .iload 4, 2, 4, 0, 0, .null), (48, .aload_n 0, 1, 0, 0, 0, .null), (49, .getfield 209, 3, 11, 15, 984, .null), (52, .if_icmp .ge 44, 3, 96, 0, 0, .null), (55, .aload_n 0, 1, 0, 0, 0, .null), (56, .getfield 47, 3, 11, 16, 985, .null), (59, .iload 4, 2, 4, 0, 0, .null), (61, .iaload, 1, 0, 0, 0, .null), (62, .bipush 48, 2, 0, 0, 0, .int (48)), (64, .bipush 57, 2, 0, 0, 0, .int (57)), (66, .invokestatic 138, 3, 120, 3, 1121, .null), (69, .ifCond .eq 27, 3, 96, 0, 0, .null), (72, .bipush 10, 2, 0, 0, 0, .int (10)), (74, .iload 7, 2, 7, 0, 0, .null), (76, .imul, 1, 0, 0, 0, .null), (77, .aload_n 0, 1, 0, 0, 0, .null), (78, .getfield 47, 3, 11, 16, 985, .null), (81, .iload 4, 2, 4, 0, 0, .null), (83, .iaload, 1, 0, 0, 0, .null), (84, .iadd, 1, 0, 0, 0, .null), (85, .bipush 48, 2, 0, 0, 0, .int (48)), (87, .isub, 1, 0, 0, 0, .null), (88, .istore 7, 2, 7, 0, 0, .null), (90, .iinc 4 1, 3, 4, 0, 0, .int (1)), (93, .goto (-47), 3, 46, 0, 0, .null), (96, .iload_n 3, 1, 3, 0, 0, .null), (97, .ifCond .eq 48, 3, 145, 0, 0, .null), (100, .iload 6, 2, 6, 0, 0, .null), (102, .bipush 60, 2, 0, 0, 0, .int (60)), (104, .if_icmp .ne 13, 3, 117, 0, 0, .null), (107, .iload 5, 2, 5, 0, 0, .null), (109, .iload 7, 2, 7, 0, 0, .null), (111, .if_icmp .ge 34, 3, 145, 0, 0, .null), (114, .goto 27, 3, 141, 0, 0, .null), (117, .iload 6, 2, 6, 0, 0, .null), (119, .bipush 62, 2, 0, 0, 0, .int (62)), (121, .if_icmp .ne 13, 3, 134, 0, 0, .null), (124, .iload 5, 2, 5, 0, 0, .null), (126, .iload 7, 2, 7, 0, 0, .null), (128, .if_icmp .le 17, 3, 145, 0, 0, .null), (131, .goto 10, 3, 141, 0, 0, .null), (134, .iload 5, 2, 5, 0, 0, .null), (136, .iload 7, 2, 7, 0, 0, .null), (138, .if_icmp .ne 7, 3, 145, 0, 0, .null), (141, .iconst 1, 1, 0, 0, 0, .int (1)), (142, .goto 4, 3, 146, 0, 0, .null), (145, .iconst 0, 1, 0, 0, 0, .int (0)), (146, .istore_n 3, 1, 3, 0, 0, .null), (147, .iload_n 3, 1, 3, 0, 0, .null), (148, .ifCond .eq 26, 3, 174, 0, 0, .null), (151, .iload 4, 2, 4, 0, 0, .null), (153, .aload_n 0, 1, 0, 0, 0, .null), (154, .getfield 209, 3, 11, 15, 984, .null), (157, .if_icmp .eq 15, 3, 172, 0, 0, .null), (160, .aload_n 0, 1, 0, 0, 0, .null), (161, .getfield 47, 3, 11, 16, 985, .null), (164, .iload 4, 2, 4, 0, 0, .null), (166, .iaload, 1, 0, 0, 0, .null), (167, .bipush 124, 2, 0, 0, 0, .int (124)), (169, .if_icmp .ne 5, 3, 174, 0, 0, .null), (172, .iconst 1, 1, 0, 0, 0, .int (1)), (173, .ireturn, 1, 0, 0, 0, .int 1), (174, .iload_n 3, 1, 3, 0, 0, .null), (175, .ifCond .ne 24, 3, 199, 0, 0, .null), (178, .iload 4, 2, 4, 0, 0, .null), (180, .aload_n 0, 1, 0, 0, 0, .null), (181, .getfield 209, 3, 11, 15, 984, .null), (184, .if_icmp .ge 19, 3, 203, 0, 0, .null), (187, .aload_n 0, 1, 0, 0, 0, .null), (188, .getfield 47, 3, 11, 16, 985, .null), (191, .iload 4, 2, 4, 0, 0, .null), (193, .iaload, 1, 0, 0, 0, .null), (194, .bipush 124, 2, 0, 0, 0, .int (124)), (196, .if_icmp .ne 7, 3, 203, 0, 0, .null), (199, .iconst 1, 1, 0, 0, 0, .int (1)), (200, .goto 4, 3, 204, 0, 0, .null), (203, .iconst 0, 1, 0, 0, 0, .int (0)), (204, .istore_n 3, 1, 3, 0, 0, .null), (205, .iinc 4 1, 3, 4, 0, 0, .int (1)), (208, .goto (-203), 3, 5, 0, 0, .null), (211, .iconst 0, 1, 0, 0, 0, .int (0)), (212, .ireturn, 1, 0, 0, 0, .int 1)]
def kc_158 : List (Nat × En) := [(0, .aload_n 0, 1, 0, 0, 0, .null), (1, .iload_n 1, 1, 1, 0, 0, .null), (2, .invokevirtual 196, 3, 140, 1, 1194, .null), (5, .ifCond .eq 16, 3, 21, 0, 0, .null), (8, .aload_n 0, 1, 0, 0, 0, .null), (9, .iload_n 2, 1, 2, 0, 0, .null), (10, .invokevirtual 196, 3, 140, 1, 1194, .null), (13, .ifCond .eq 8, 3, 21, 0, 0, .null), (16, .iload_n 1, 1, 1, 0, 0, .null), (17, .iload_n 2, 1, 2, 0, 0, .null), (18, .if_icmp .ne 5, 3, 23, 0, 0, .null), (21, .iconst (-1), 1, 0, 0, 0, .int (-1)), (22, .ireturn, 1, 0, 0, 0, .null), (23, .aload_n 0, 1, 0, 0, 0, .null), (24, .invokevirtual 234, 3, 155, 0, 1257, .null), (27, .istore_n 3, 1, 3, 0, 0, .null), (28, .iload_n 3, 1, 3, 0, 0, .null), (29, .ifCond .ge 7, 3, 36, 0, 0, .null), (32, .iload_n 3, 1, 3, 0, 0, .null), (33, .goto 17, 3, 50, 0, 0, .null), (36, .aload_n 0, 1, 0, 0, 0, .null), (37, .iload_n 1, 1, 1, 0, 0, .null), (38, .iload_n 2, 1, 2, 0, 0, .null), (39, .invokevirtual 237, 3, 157, 2, 1265, .null), (42, .ifCond .eq 7, 3, 49, 0, 0, .null), (45, .iconst 1, 1, 0, 0, 0, .int (1)), (46, .goto 4, 3, 50, 0, 0, .null), (49, .iconst 0, 1, 0, 0, 0, .int (0)), (50, .ireturn, 1, 0, 0, 0, .null)]
def kc_159 : List (Nat × En) := [(0, .aload_n 0, 1, 0, 0, 0, .null), (1, .iconst 0, 1, 0, 0, 0, .int (0)), (2, .putfield 241, 3, 11, 37, 1006, .null), (5, .iconst 0, 1, 0, 0, 0, .int (0)), (6, .istore_n 1, 1, 1, 0, 0, .null), (7, .iload_n 1, 1, 1, 0, 0, .null), (8, .sipush 144, 3, 0, 0, 0, .int (144)), (11, .if_icmp .ge 37, 3, 48, 0, 0, .null), (14, .aload_n 0, 1, 0, 0, 0, .null), (15, .iload_n 1, 1, 1, 0, 0, .null), (16, .invokevirtual 192, 3, 139, 1, 1186, .null), (19, .ifCond .le 23, 3, 42, 0, 0, .null), (22, .aload_n 0, 1, 0, 0, 0, .null), (23, .getfield 108, 3, 11, 38, 1007, .null), (26, .aload_n 0, 1, 0, 0, 0, .null), (27, .getfield 241, 3, 11, 37, 1006, .null), (30, .iload_n 1, 1, 1, 0, 0, .null), (31, .iastore, 1, 0, 0, 0, .null), (32, .aload_n 0, 1, 0, 0, 0, .null), (33, .dup, 1, 0, 0, 0, .null), (34, .getfield 241, 3, 11, 37, 1006, .null), (37, .iconst 1, 1, 0, 0, 0, .int (1)), (38, .iadd, 1, 0, 0, 0, .null), (39, .putfield 241, 3, 11, 37, 1006, .null), (42, .iinc 1 1, 3, 1, 0, 0, .int (1)), (45, .goto (-38), 3, 7, 0, 0, .null), (48, .iconst 0, 1, 0, 0, 0, .int (0)), (49, .istore_n 1, 1, 1, 0, 0, .null), (50, .iload_n 1, 1, 1, 0, 0, .null), (51, .aload_n 0, 1, 0, 0, 0, .null), (52, .getfield 241, 3, 11, 37, 1006, .null), (55, .if_icmp .ge 63, 3, 118, 0, 0, .null), (58, .iconst 0, 1, 0, 0, 0, .int (0)), (59, .istore_n 2, 1, 2, 0, 0, .null), (60, .iload_n 2, 1, 2, 0, 0, .null), (61, .iload_n 1, 1, 1, 0, 0, .null), (62, .if_icmp .ge 50, 3, 112, 0, 0, .null), (65, .aload_n 0, 1, 0, 0, 0, .null), (66, .aload_n 0, 1, 0, 0, 0, .null), (67, .getfield 108, 3, 11, 38, 1007, .null), (70, .iload_n 1, 1, 1, 0, 0, .null), (71, .iaload, 1, 0, 0, 0, .null), (72, .aload_n 0, 1, 0, 0, 0, .null), (73, .getfield 108, 3, 11, 38, 1007, .null), (76, .iload_n 2, 1, 2, 0, 0, .null), (77, .iaload, 1, 0, 0, 0, .null), (78, .invokevirtual 237, 3, 157, 2, 1265, .null), (81, .istore_n 3, 1, 3, 0, 0, .null), (82, .aload_n 0, 1, 0, 0, 0, .null), (83, .getfield 111, 3, 11, 39, 1008, .null), (86, .bipush 60, 2, 0, 0, 0, .int (60)), (88, .iload_n 1, 1, 1, 0, 0, .null), (89, .imul, 1, 0, 0, 0, .null), (90, .iload_n 2, 1, 2, 0, 0, .null), (91, .iadd, 1, 0, 0, 0, .null), (92, .iload_n 3, 1, 3, 0, 0, .null), (93, .bastore, 1, 0, 0, 0, .null), (94, .aload_n 0, 1, 0, 0, 0, .null), (95, .getfield 111, 3, 11, 39, 1008, .null), (98, .bipush 60, 2, 0, 0, 0, .int (60)), (100, .iload_n 2, 1, 2, 0, 0, .null), (101, .imul, 1, 0, 0, 0, .null), (102, .iload_n 1, 1, 1, 0, 0, .null), (103, .iadd, 1, 0, 0, 0, .null), (104, .iload_n 3, 1, 3, 0, 0, .null), (105, .bastore, 1, 0, 0, 0, .null), (106, .iinc 2 1, 3, 2, 0, 0, .int (1)), (109, .goto (-49), 3, 60, 0, 0, .null), (112, .iinc 1 1, 3, 1, 0, 0, .int (1)), (115, .goto (-65), 3, 50, 0, 0, .null), (118, .return_, 1, 0, 0, 0, .null)]
def kc_160 : List (Nat × En) := [(0, .iconst 0, 1, 0, 0, 0, .int (0)), (1, .istore_n 2, 1, 2, 0, 0, .null), (2, .iload_n 2, 1, 2, 0, 0, .null), (3, .aload_n 0, 1, 0, 0, 0, .null), (4, .getfield 241, 3, 11, 37, 1006, .null), (7, .if_icmp .ge 25, 3, 32, 0, 0, .null), (10, .aload_n 0, 1, 0, 0, 0, .null), (11, .getfield 114, 3, 11, 40, 1009, .null), (14, .iload_n 2, 1, 2, 0, 0, .null), (15, .iload_n 2, 1, 2, 0, 0, .null), (16, .iload_n 1, 1, 1, 0, 0, .null), (17, .if_icmp .ne 7, 3, 24, 0, 0, .null), (20, .iconst 1, 1, 0, 0, 0, .int (1)), (21, .goto 4, 3, 25, 0, 0, .null), (24, .iconst 0, 1, 0, 0, 0, .int (0)), (25, .bastore, 1, 0, 0, 0, .null), (26, .iinc 2 1, 3, 2, 0, 0, .int (1)), (29, .goto (-27), 3, 2, 0, 0, .null), (32, .iconst 1, 1, 0, 0, 0, .int (1)), (33, .istore_n 2, 1, 2, 0, 0, .null), (34, .iload_n 2, 1, 2, 0, 0, .null), (35, .ifCond .eq 92, 3, 127, 0, 0, .null), (38, .iconst 0, 1, 0, 0, 0, .int (0)), (39, .istore_n 2, 1, 2, 0, 0, .null), (40, .iconst 0, 1, 0, 0, 0, .int (0)), (41, .istore_n 3, 1, 3, 0, 0, .null), (42, .iload_n 3, 1, 3, 0, 0, .null), (43, .aload_n 0, 1, 0, 0, 0, .null), (44, .getfield 241, 3, 11, 37, 1006, .null), (47, .if_icmp .ge 77, 3, 124, 0, 0, .null), (50, .iconst 0, 1, 0, 0, 0, .int (0)), (51, .istore 4, 2, 4, 0, 0, .null), (53, .iload 4, 2, 4, 0, 0, .null), (55, .aload_n 0, 1, 0, 0, 0, .null), (56, .getfield 241, 3, 11, 37, 1006, .null), (59, .if_icmp .ge 59, 3, 118, 0, 0, .null), (62, .aload_n 0, 1, 0, 0, 0, .null), (63, .getfield 114, 3, 11, 40, 1009, .null), (66, .iload_n 3, 1, 3, 0, 0, .null), (67, .baload, 1, 0, 0, 0, .null), (68, .ifCond .eq 50, 3, 118, 0, 0, .null), (71, .iload_n 3, 1, 3, 0, 0, .null), (72, .iload 4, 2, 4, 0, 0, .null), (74, .if_icmp .eq 38, 3, 112, 0, 0, .null), (77, .aload_n 0, 1, 0, 0, 0, .null), (78, .getfield 114, 3, 11, 40, 1009, .null), (81, .iload 4, 2, 4, 0, 0, .null), (83, .baload, 1, 0, 0, 0, .null), (84, .ifCond .ne 28, 3, 112, 0, 0, .null), (87, .aload_n 0, 1, 0, 0, 0, .null), (88, .getfield 111, 3, 11, 39, 1008, .null), (91, .bipush 60, 2, 0, 0, 0, .int (60)), (93, .iload_n 3, 1, 3, 0, 0, .null), (94, .imul, 1, 0, 0, 0, .null), (95, .iload 4, 2, 4, 0, 0, .null), (97, .iadd, 1, 0, 0, 0, .null), (98, .baload, 1, 0, 0, 0, .null), (99, .ifCond .eq 13, 3, 112, 0, 0, .null), (102, .aload_n 0, 1, 0, 0, 0, .null), (103, .getfield 114, 3, 11, 40, 1009, .null), (106, .iload 4, 2, 4, 0, 0, .null), (108, .iconst 1, 1, 0, 0, 0, .int (1)), (109, .bastore, 1, 0, 0, 0, .null), (110, .iconst 1, 1, 0, 0, 0, .int (1)), (111, .istore_n 2, 1, 2, 0, 0, .null), (112, .iinc 4 1, 3, 4, 0, 0, .int (1)), (115, .goto (-62), 3, 53, 0, 0, .null), (118, .iinc 3 1, 3, 3, 0, 0, .int (1)), (121, .goto (-79), 3, 42, 0, 0, .null), (124, .goto (-90), 3, 34, 0, 0, .null), (127, .return_, 1, 0, 0, 0, .null)]
def kc_161 : List (Nat × En) := [(0, .aload_n 0, 1, 0, 0, 0, .null), (1, .iload_n 1, 1, 1, 0, 0, .null), (2, .invokevirtual 196, 3, 140, 1, 1194, .null), (5, .ifCond .ne 5, 3, 10, 0, 0, .null), (8, .iconst (-1), 1, 0, 0, 0, .int (-1)), (9, .ireturn, 1, 0, 0, 0, .null), (10, .aload_n 0, 1, 0, 0, 0, .null), (11, .invokevirtual 234, 3, 155, 0, 1257, .null), (14, .istore_n 3, 1, 3, 0, 0, .null), (15, .iload_n 3, 1, 3, 0, 0, .null), (16, .ifCond .ge 5, 3, 21, 0, 0, .null), (19, .iload_n 3, 1, 3, 0, 0, .null), (20, .ireturn, 1, 0, 0, 0, .null), (21, .aload_n 0, 1, 0, 0, 0, .null), (22, .invokevirtual 244, 3, 159, 0, 1277, .null), (25, .iconst 0, 1, 0, 0, 0, .int (0)), (26, .istore 4, 2, 4, 0, 0, .null), (28, .aload_n 0, 1, 0, 0, 0, .null), (29, .getfield 108, 3, 11, 38, 1007, .null), (32, .iload 4, 2, 4, 0, 0, .null), (34, .iaload, 1, 0, 0, 0, .null), (35, .iload_n 1, 1, 1, 0, 0, .null), (36, .if_icmp .eq 9, 3, 45, 0, 0, .null), (39, .iinc 4 1, 3, 4, 0, 0, .int (1)), (42, .goto (-14), 3, 28, 0, 0, .null), (45, .aload_n 0, 1, 0, 0, 0, .null), (46, .iload 4, 2, 4, 0, 0, .null), (48, .invokevirtual 247, 3, 160, 1, 1281, .null), (51, .iconst 0, 1, 0, 0, 0, .int (0)), (52, .istore 5, 2, 5, 0, 0, .null), (54, .iconst 0, 1, 0, 0, 0, .int (0)), (55, .istore 6, 2, 6, 0, 0, .null), (57, .iload 6, 2, 6, 0, 0, .null), (59, .aload_n 0, 1, 0, 0, 0, .null), (60, .getfield 241, 3, 11, 37, 1006, .null), (63, .if_icmp .ge 36, 3, 99, 0, 0, .null), (66, .aload_n 0, 1, 0, 0, 0, .null), (67, .getfield 114, 3, 11, 40, 1009, .null), (70, .iload 6, 2, 6, 0, 0, .null), (72, .baload, 1, 0, 0, 0, .null), (73, .ifCond .eq 20, 3, 93, 0, 0, .null), (76, .iload 5, 2, 5, 0, 0, .null), (78, .iload_n 2, 1, 2, 0, 0, .null), (79, .if_icmp .ne 11, 3, 90, 0, 0, .null), (82, .aload_n 0, 1, 0, 0, 0, .null), (83, .getfield 108, 3, 11, 38, 1007, .null), (86, .iload 6, 2, 6, 0, 0, .null), (88, .iaload, 1, 0, 0, 0, .null), (89, .ireturn, 1, 0, 0, 0, .null), (90, .iinc 5 1, 3, 5, 0, 0, .int (1)), (93, .iinc 6 1, 3, 6, 0, 0, .int (1)), (96, .goto (-39), 3, 57, 0, 0, .null), (99, .iload_n 2, 1, 2, 0, 0, .null), (100, .iconst (-1), 1, 0, 0, 0, .int (-1)), (101, .if_icmp .ne 8, 3, 109, 0, 0, .null), (104, .iload 5, 2, 5, 0, 0, .null), (106, .goto 5, 3, 111, 0, 0, .null), (109, .bipush (-6), 2, 0, 0, 0, .int (-6)), (111, .ireturn, 1, 0, 0, 0, .null)]
def kc_162 : List (Nat × En) := [(0, .iconst 0, 1, 0, 0, 0, .int (0)), (1, .istore_n 1, 1, 1, 0, 0, .null), (2, .iconst 0, 1, 0, 0, 0, .int (0)), (3, .istore_n 2, 1, 2, 0, 0, .null), (4, .iload_n 2, 1, 2, 0, 0, .null), (5, .aload_n 0, 1, 0, 0, 0, .null), (6, .getfield 241, 3, 11, 37, 1006, .null), (9, .if_icmp .ge 64, 3, 73, 0, 0, .null), (12, .iconst 0, 1, 0, 0, 0, .int (0)), (13, .istore_n 3, 1, 3, 0, 0, .null), (14, .iload_n 3, 1, 3, 0, 0, .null), (15, .iload_n 2, 1, 2, 0, 0, .null), (16, .if_icmp .ge 51, 3, 67, 0, 0, .null), (19, .iload_n 1, 1, 1, 0, 0, .null), (20, .ifCond .ne 35, 3, 55, 0, 0, .null), (23, .aload_n 0, 1, 0, 0, 0, .null), (24, .getfield 114, 3, 11, 40, 1009, .null), (27, .iload_n 2, 1, 2, 0, 0, .null), (28, .baload, 1, 0, 0, 0, .null), (29, .ifCond .eq 30, 3, 59, 0, 0, .null), (32, .aload_n 0, 1, 0, 0, 0, .null), (33, .getfield 114, 3, 11, 40, 1009, .null), (36, .iload_n 3, 1, 3, 0, 0, .null), (37, .baload, 1, 0, 0, 0, .null), (38, .ifCond .eq 21, 3, 59, 0, 0, .null), (41, .aload_n 0, 1, 0, 0, 0, .null), (42, .getfield 111, 3, 11, 39, 1008, .null), (45, .bipush 60, 2, 0, 0, 0, .int (60)), (47, .iload_n 2, 1, 2, 0, 0, .null), (48, .imul, 1, 0, 0, 0, .null), (49, .iload_n 3, 1, 3, 0, 0, .null), (50, .iadd, 1, 0, 0, 0, .null), (51, .baload, 1, 0, 0, 0, .null), (52, .ifCond .ne 7, 3, 59, 0, 0, .null), (55, .iconst 1, 1, 0, 0, 0, .int (1)), (56, .goto 4, 3, 60, 0, 0, .null), (59, .iconst 0, 1, 0, 0, 0, .int (0)), (60, .istore_n 1, 1, 1, 0, 0, .null), (61, .iinc 3 1, 3, 3, 0, 0, .int (1)), (64, .goto (-50), 3, 14, 0, 0, .null), (67, .iinc 2 1, 3, 2, 0, 0, .int (1)), (70, .goto (-66), 3, 4, 0, 0, .null), (73, .iload_n 1, 1, 1, 0, 0, .null), (74, .ireturn, 1, 0, 0, 0, .int 1)]
def kc_163 : List (Nat × En) := [(0, .aload_n 0, 1, 0, 0, 0, .null), (1, .invokevirtual 234, 3, 155, 0, 1257, .null), (4, .istore_n 1, 1, 1, 0, 0, .null), (5, .iload_n 1, 1, 1, 0, 0, .null), (6, .ifCond .ge 5, 3, 11, 0, 0, .null), (9, .iload_n 1, 1, 1, 0, 0, .null), (10, .ireturn, 1, 0, 0, 0, .null), (11, .aload_n 0, 1, 0, 0, 0, .null), (12, .invokevirtual 244, 3, 159, 0, 1277, .null), (15, .iconst 0, 1, 0, 0, 0, .int (0)), (16, .istore_n 2, 1, 2, 0, 0, .null), (17, .iconst 0, 1, 0, 0, 0, .int (0)), (18, .istore_n 3, 1, 3, 0, 0, .null), (19, .iload_n 3, 1, 3, 0, 0, .null), (20, .aload_n 0, 1, 0, 0, 0, .null), (21, .getfield 241, 3, 11, 37, 1006, .null), (24, .if_icmp .ge 29, 3, 53, 0, 0, .null), (27, .aload_n 0, 1, 0, 0, 0, .null), (28, .iload_n 3, 1, 3, 0, 0, .null), (29, .invokevirtual 247, 3, 160, 1, 1281, .null), (32, .iload_n 2, 1, 2, 0, 0, .null), (33, .aload_n 0, 1, 0, 0, 0, .null), (34, .invokevirtual 251, 3, 162, 0, 1289, .null), (37, .ifCond .eq 7, 3, 44, 0, 0, .null), (40, .iconst 1, 1, 0, 0, 0, .int (1)), (41, .goto 4, 3, 45, 0, 0, .null), (44, .iconst 0, 1, 0, 0, 0, .int (0)), (45, .iadd, 1, 0, 0, 0, .null), (46, .istore_n 2, 1, 2, 0, 0, .null), (47, .iinc 3 1, 3, 3, 0, 0, .int (1)), (50, .goto (-31), 3, 19, 0, 0, .null), (53, .iload_n 2, 1, 2, 0, 0, .null), (54, .ireturn, 1, 0, 0, 0, .null)]
def kc_164 : List (Nat × En) := [(0, .iload_n 1, 1, 1, 0, 0, .null), (1, .iconst 0, 1, 0, 0, 0, .int (0)), (2, .iconst 5, 1, 0, 0, 0, .int (5)), (3, .invokestatic 138, 3, 120, 3, 1121, .null), (6, .ifCond .eq 16, 3, 22, 0, 0, .null), (9, .aload_n 0, 1, 0, 0, 0, .null), (10, .getfield 53, 3, 11, 18, 987, .null), (13, .iload_n 1, 1, 1, 0, 0, .null), (14, .iaload, 1, 0, 0, 0, .null), (15, .ifCond .lt 7, 3, 22, 0, 0, .null), (18, .iconst 1, 1, 0, 0, 0, .int (1)), (19, .goto 4, 3, 23, 0, 0, .null), (22, .iconst 0, 1, 0, 0, 0, .int (0)), (23, .ireturn, 1, 0, 0, 0, .int 1)]
def kc_165 : List (Nat × En) := [(0, .iload_n 1, 1, 1, 0, 0, .null), (1, .iconst 0, 1, 0, 0, 0, .int (0)), (2, .iconst 5, 1, 0, 0, 0, .int (5)), (3, .invokestatic 138, 3, 120, 3, 1121, .null), (6, .ifCond .ne 5, 3, 11, 0, 0, .null), (9, .iconst (-1), 1, 0, 0, 0, .int (-1)), (10, .ireturn, 1, 0, 0, 0, .null), (11, .iload_n 2, 1, 2, 0, 0, .null), (12, .invokestatic 164, 3, 121, 1, 1124, .null), (15, .ifCond .eq 28, 3, 43, 0, 0, .null), (18, .iload_n 3, 1, 3, 0, 0, .null), (19, .invokestatic 164, 3, 121, 1, 1124, .null), (22, .ifCond .eq 21, 3, 43, 0, 0, .null), (25, .iload 4, 2, 4, 0, 0, .null), (27, .invokestatic 164, 3, 121, 1, 1124, .null), (30, .ifCond .eq 13, 3, 43, 0, 0, .null), (33, .iload 5, 2, 5, 0, 0, .null), (35, .iconst 0, 1, 0, 0, 0, .int (0)), (36, .iconst 5, 1, 0, 0, 0, .int (5)), (37, .invokestatic 138, 3, 120, 3, 1121, .null), (40, .ifCond .ne 6, 3, 46, 0, 0, .null), (43, .bipush (-2), 2, 0, 0, 0, .int (-2)), (45, .ireturn, 1, 0, 0, 0, .null), (46, .aload_n 0, 1, 0, 0, 0, .null), (47, .getfield 53, 3, 11, 18, 987, .null), (50, .iload_n 1, 1, 1, 0, 0, .null), (51, .iaload, 1, 0, 0, 0, .null), (52, .ifCond .ge 7, 3, 59, 0, 0, .null), (55, .iconst 1, 1, 0, 0, 0, .int (1)), (56, .goto 4, 3, 60, 0, 0, .null), (59, .iconst 0, 1, 0, 0, 0, .int (0)), (60, .istore 6, 2, 6, 0, 0, .null), (62, .aload_n 0, 1, 0, 0, 0, .null), (63, .getfield 50, 3, 11, 17, 986, .null), (66, .iconst 3, 1, 0, 0, 0, .int (3)), (67, .iload_n 1, 1, 1, 0, 0, .null), (68, .imul, 1, 0, 0, 0, .null), (69, .iload_n 2, 1, 2, 0, 0, .null), (70, .iastore, 1, 0, 0, 0, .null), (71, .aload_n 0, 1, 0, 0, 0, .null), (72, .getfield 50, 3, 11, 17, 986, .null), (75, .iconst 3, 1, 0, 0, 0, .int (3)), (76, .iload_n 1, 1, 1, 0, 0, .null), (77, .imul, 1, 0, 0, 0, .null), (78, .iconst 1, 1, 0, 0, 0, .int (1)), (79, .iadd, 1, 0, 0, 0, .null), (80, .iload_n 3, 1, 3, 0, 0, .null), (81, .iastore, 1, 0, 0, 0, .null), (82, .aload_n 0, 1, 0, 0, 0, .null), (83, .getfield 50, 3, 11, 17, 986, .null), (86, .iconst 3, 1, 0, 0, 0, .int (3)), (87, .iload_n 1, 1, 1, 0, 0, .null), (88, .imul, 1, 0, 0, 0, .null), (89, .iconst 2, 1, 0, 0, 0, .int (2)), (90, .iadd, 1, 0, 0, 0, .null), (91, .iload 4, 2, 4, 0, 0, .null), (93, .iastore, 1, 0, 0, 0, .null), (94, .aload_n 0, 1, 0, 0, 0, .null), (95, .getfield 53, 3, 11, 18, 987, .null), (98, .iload_n 1, 1, 1, 0, 0, .null), (99, .iload 5, 2, 5, 0, 0, .null), (101, .iastore, 1, 0, 0, 0, .null), (102, .iload 6, 2, 6, 0, 0, .null), (104, .ireturn, 1, 0, 0, 0, .null)]
def kc_166 : List (Nat × En) := [(0, .iload_n 1, 1, 1, 0, 0, .null), (1, .iconst 0, 1, 0, 0, 0, .int (0)), (2, .iconst 1, 1, 0, 0, 0, .int (1)), (3, .invokestatic 138, 3, 120, 3, 1121, .null), (6, .ifCond .ne 6, 3, 12, 0, 0, .null), (9, .bipush (-2), 2, 0, 0, 0, .int (-2)), (11, .ireturn, 1, 0, 0, 0, .null), (12, .iload_n 2, 1, 2, 0, 0, .null), (13, .iconst 0, 1, 0, 0, 0, .int (0)), (14, .iconst 5, 1, 0, 0, 0, .int (5)), (15, .invokestatic 138, 3, 120, 3, 1121, .null), (18, .ifCond .ne 5, 3, 23, 0, 0, .null), (21, .iconst (-1), 1, 0, 0, 0, .int (-1)), (22, .ireturn, 1, 0, 0, 0, .null), (23, .iload_n 3, 1, 3, 0, 0, .null), (24, .iconst 0, 1, 0, 0, 0, .int (0)), (25, .bipush 20, 2, 0, 0, 0, .int (20)), (27, .invokestatic 138, 3, 120, 3, 1121, .null), (30, .ifCond .eq 14, 3, 44, 0, 0, .null), (33, .iload 4, 2, 4, 0, 0, .null), (35, .iconst 0, 1, 0, 0, 0, .int (0)), (36, .bipush 20, 2, 0, 0, 0, .int (20)), (38, .invokestatic 138, 3, 120, 3, 1121, .null), (41, .ifCond .ne 6, 3, 47, 0, 0, .null), (44, .bipush (-2), 2, 0, 0, 0, .int (-2)), (46, .ireturn, 1, 0, 0, 0, .null), (47, .iload_n 1, 1, 1, 0, 0, .null), (48, .ifCond .ne 22, 3, 70, 0, 0, .null), (51, .bipush 100, 2, 0, 0, 0, .int (100)), (53, .aload_n 0, 1, 0, 0, 0, .null), (54, .getfield 56, 3, 11, 19, 988, .null), (57, .iload_n 2, 1, 2, 0, 0, .null), (58, .iaload, 1, 0, 0, 0, .null), (59, .imul, 1, 0, 0, 0, .null), (60, .aload_n 0, 1, 0, 0, 0, .null), (61, .getfield 59, 3, 11, 20, 989, .null), (64, .iload_n 2, 1, 2, 0, 0, .null), (65, .iaload, 1, 0, 0, 0, .null), (66, .iadd, 1, 0, 0, 0, .null), (67, .goto 19, 3, 86, 0, 0, .null), (70, .bipush 100, 2, 0, 0, 0, .int (100)), (72, .aload_n 0, 1, 0, 0, 0, .null), (73, .getfield 62, 3, 11, 21, 990, .null), (76, .iload_n 2, 1, 2, 0, 0, .null), (77, .iaload, 1, 0, 0, 0, .null), (78, .imul, 1, 0, 0, 0, .null), (79, .aload_n 0, 1, 0, 0, 0, .null), (80, .getfield 65, 3, 11, 22, 991, .null), (83, .iload_n 2, 1, 2, 0, 0, .null), (84, .iaload, 1, 0, 0, 0, .null), (85, .iadd, 1, 0, 0, 0, .null), (86, .istore 5, 2, 5, 0, 0, .null), (88, .iload_n 1, 1, 1, 0, 0, .null), (89, .ifCond .ne 21, 3, 110, 0, 0, .null), (92, .aload_n 0, 1, 0, 0, 0, .null), (93, .getfield 56, 3, 11, 19, 988, .null), (96, .iload_n 2, 1, 2, 0, 0, .null), (97, .iload_n 3, 1, 3, 0, 0, .null), (98, .iastore, 1, 0, 0, 0, .null), (99, .aload_n 0, 1, 0, 0, 0, .null), (100, .getfield 59, 3, 11, 20, 989, .null), (103, .iload_n 2, 1, 2, 0, 0, .null), (104, .iload 4, 2, 4, 0, 0, .null), (106, .iastore, 1, 0, 0, 0, .null), (107, .goto 18, 3, 125, 0, 0, .null), (110, .aload_n 0, 1, 0, 0, 0, .null), (111, .getfield 62, 3, 11, 21, 990, .null), (114, .iload_n 2, 1, 2, 0, 0, .null), (115, .iload_n 3, 1, 3, 0, 0, .null), (116, .iastore, 1, 0, 0, 0, .null), (117, .aload_n 0, 1, 0, 0, 0, .null), (118, .getfield 65, 3, 11, 22, 991, .null), (121, .iload_n 2, 1, 2, 0, 0, .null), (122, .iload 4, 2, 4, 0, 0, .null), (124, .iastore, 1, 0, 0, 0, .null), (125, .iload 5, 2, 5, 0, 0, .null), (127, .ireturn, 1, 0, 0, 0, .null)]
def kc_167 : List (Nat × En) := [(0, .iload_n 0, 1, 0, 0, 0, .null), (1, .ifCond .ge 8, 3, 9, 0, 0, .null), (4, .iload_n 0, 1, 0, 0, 0, .null), (5, .ineg, 1, 0, 0, 0, .null), (6, .goto 4, 3, 10, 0, 0, .null), (9, .iload_n 0, 1, 0, 0, 0, .null), (10, .ireturn, 1, 0, 0, 0, .null)]
def kc_168 : List (Nat × En) := [(0, .iconst 1, 1, 0, 0, 0, .int (1)), (1, .istore_n 3, 1, 3, 0, 0, .null), (2, .iconst 0, 1, 0, 0, 0, .int (0)), (3, .istore 4, 2, 4, 0, 0, .null), (5, .iload 4, 2, 4, 0, 0, .null), (7, .iconst 3, 1, 0, 0, 0, .int (3)), (8, .if_icmp .ge 84, 3, 92, 0, 0, .null), (11, .aload_n 0, 1, 0, 0, 0, .null), (12, .iload_n 1, 1, 1, 0, 0, .null), (13, .iload 4, 2, 4, 0, 0, .null), (15, .iconst 0, 1, 0, 0, 0, .int (0)), (16, .invokevirtual 185, 3, 136, 3, 1175, .null), (19, .aload_n 0, 1, 0, 0, 0, .null), (20, .iload_n 1, 1, 1, 0, 0, .null), (21, .iload 4, 2, 4, 0, 0, .null), (23, .iconst 1, 1, 0, 0, 0, .int (1)), (24, .invokevirtual 185, 3, 136, 3, 1175, .null), (27, .iadd, 1, 0, 0, 0, .null), (28, .iconst 2, 1, 0, 0, 0, .int (2)), (29, .aload_n 0, 1, 0, 0, 0, .null), (30, .getfield 50, 3, 11, 17, 986, .null), (33, .iconst 3, 1, 0, 0, 0, .int (3)), (34, .iload_n 2, 1, 2, 0, 0, .null), (35, .imul, 1, 0, 0, 0, .null), (36, .iload 4, 2, 4, 0, 0, .null), (38, .iadd, 1, 0, 0, 0, .null), (39, .iaload, 1, 0, 0, 0, .null), (40, .imul, 1, 0, 0, 0, .null), (41, .isub, 1, 0, 0, 0, .null), (42, .invokestatic 254, 3, 167, 1, 1313, .null), (45, .iconst 2, 1, 0, 0, 0, .int (2)), (46, .idiv, 1, 0, 0, 0, .null), (47, .aload_n 0, 1, 0, 0, 0, .null), (48, .getfield 53, 3, 11, 18, 987, .null), (51, .iload_n 2, 1, 2, 0, 0, .null), (52, .iaload, 1, 0, 0, 0, .null), (53, .isub, 1, 0, 0, 0, .null), (54, .istore 5, 2, 5, 0, 0, .null), (56, .bipush 9, 2, 0, 0, 0, .int (9)), (58, .iload 5, 2, 5, 0, 0, .null), (60, .ifCond .ge 7, 3, 67, 0, 0, .null), (63, .iconst 0, 1, 0, 0, 0, .int (0)), (64, .goto 5, 3, 69, 0, 0, .null), (67, .iload 5, 2, 5, 0, 0, .null), (69, .isub, 1, 0, 0, 0, .null), (70, .istore 6, 2, 6, 0, 0, .null), (72, .iload_n 3, 1, 3, 0, 0, .null), (73, .iload 6, 2, 6, 0, 0, .null), (75, .ifCond .ge 7, 3, 82, 0, 0, .null), (78, .iconst 0, 1, 0, 0, 0, .int (0)), (79, .goto 5, 3, 84, 0, 0, .null), (82, .iload 6, 2, 6, 0, 0, .null), (84, .imul, 1, 0, 0, 0, .null), (85, .istore_n 3, 1, 3, 0, 0, .null), (86, .iinc 4 1, 3, 4, 0, 0, .int (1)), (89, .goto (-84), 3, 5, 0, 0, .null), (92, .iload_n 3, 1, 3, 0, 0, .null), (93, .ireturn, 1, 0, 0, 0, .null)]
def kc_169 : List (Nat × En) := [(0, .aload_n 0, 1, 0, 0, 0, .null), (1, .iload_n 1, 1, 1, 0, 0, .null), (2, .invokevirtual 182, 3, 137, 1, 1171, .null), (5, .ifCond .eq 20, 3, 25, 0, 0, .null), (8, .aload_n 0, 1, 0, 0, 0, .null), (9, .iload_n 2, 1, 2, 0, 0, .null), (10, .invokevirtual 257, 3, 164, 1, 1305, .null), (13, .ifCond .eq 12, 3, 25, 0, 0, .null), (16, .aload_n 0, 1, 0, 0, 0, .null), (17, .iload_n 1, 1, 1, 0, 0, .null), (18, .iload_n 2, 1, 2, 0, 0, .null), (19, .invokevirtual 260, 3, 168, 2, 1309, .null), (22, .goto 4, 3, 26, 0, 0, .null), (25, .iconst (-1), 1, 0, 0, 0, .int (-1)), (26, .ireturn, 1, 0, 0, 0, .null)]
def kc_170 : List (Nat × En) := [(0, .lconst 1, 1, 0, 0, 0, .long 1), (1, .lstore_n 3, 1, 3, 0, 0, .null), (2, .iconst 0, 1, 0, 0, 0, .int (0)), (3, .istore 5, 2, 5, 0, 0, .null), (5, .iconst 0, 1, 0, 0, 0, .int (0)), (6, .istore 6, 2, 6, 0, 0, .null), (8, .iload 6, 2, 6, 0, 0, .null), (10, .aload_n 0, 1, 0, 0, 0, .null), (11, .getfield 179, 3, 11, 9, 978, .null), (14, .if_icmp .ge 40, 3, 54, 0, 0, .null), (17, .iload 5, 2, 5, 0, 0, .null), (19, .iconst 5, 1, 0, 0, 0, .int (5)), (20, .if_icmp .ge 34, 3, 54, 0, 0, .null), (23, .aload_n 0, 1, 0, 0, 0, .null), (24, .getfield 35, 3, 11, 10, 979, .null), (27, .iload 6, 2, 6, 0, 0, .null), (29, .iaload, 1, 0, 0, 0, .null), (30, .iload_n 1, 1, 1, 0, 0, .null), (31, .if_icmp .ne 17, 3, 48, 0, 0, .null), (34, .lload_n 3, 1, 3, 0, 0, .null), (35, .aload_n 0, 1, 0, 0, 0, .null), (36, .iload 6, 2, 6, 0, 0, .null), (38, .iload_n 2, 1, 2, 0, 0, .null), (39, .invokevirtual 260, 3, 168, 2, 1309, .null), (42, .i2l, 1, 0, 0, 0, .null), (43, .lmul, 1, 0, 0, 0, .null), (44, .lstore_n 3, 1, 3, 0, 0, .null), (45, .iinc 5 1, 3, 5, 0, 0, .int (1)), (48, .iinc 6 1, 3, 6, 0, 0, .int (1)), (51, .goto (-43), 3, 8, 0, 0, .null), (54, .lload_n 3, 1, 3, 0, 0, .null), (55, .lreturn, 1, 0, 0, 0, .null)]
def kc_171 : List (Nat × En) := [(0, .lload_n 2, 1, 2, 0, 0, .null), (1, .lconst 0, 1, 0, 0, 0, .long 0), (2, .lcmp, 1, 0, 0, 0, .null), (3, .ifCond .ne 7, 3, 10, 0, 0, .null), (6, .iload 4, 2, 4, 0, 0, .null), (8, .i2l, 1, 0, 0, 0, .null), (9, .lreturn, 1, 0, 0, 0, .null), (10, .lload_n 0, 1, 0, 0, 0, .null), (11, .lstore 5, 2, 5, 0, 0, .null), (13, .lload_n 2, 1, 2, 0, 0, .null), (14, .lstore 7, 2, 7, 0, 0, .null), (16, .lload 7, 2, 7, 0, 0, .null), (18, .lconst 0, 1, 0, 0, 0, .long 0), (19, .lcmp, 1, 0, 0, 0, .null), (20, .ifCond .eq 21, 3, 41, 0, 0, .null), (23, .lload 5, 2, 5, 0, 0, .null), (25, .lload 7, 2, 7, 0, 0, .null), (27, .lrem, 1, 0, 0, 0, .null), (28, .lstore 9, 2, 9, 0, 0, .null), (30, .lload 7, 2, 7, 0, 0, .null), (32, .lstore 5, 2, 5, 0, 0, .null), (34, .lload 9, 2, 9, 0, 0, .null), (36, .lstore 7, 2, 7, 0, 0, .null), (38, .goto (-22), 3, 16, 0, 0, .null), (41, .iload 4, 2, 4, 0, 0, .null), (43, .ifCond .ne 10, 3, 53, 0, 0, .null), (46, .lload_n 0, 1, 0, 0, 0, .null), (47, .lload 5, 2, 5, 0, 0, .null), (49, .ldiv, 1, 0, 0, 0, .null), (50, .goto 7, 3, 57, 0, 0, .null), (53, .lload_n 2, 1, 2, 0, 0, .null), (54, .lload 5, 2, 5, 0, 0, .null), (56, .ldiv, 1, 0, 0, 0, .null), (57, .lreturn, 1, 0, 0, 0, .null)]
def kc_172 : List (Nat × En) := [(0, .aload_n 0, 1, 0, 0, 0, .null), (1, .iload_n 1, 1, 1, 0, 0, .null), (2, .invokevirtual 196, 3, 140, 1, 1194, .null), (5, .ifCond .eq 11, 3, 16, 0, 0, .null), (8, .aload_n 0, 1, 0, 0, 0, .null), (9, .iload_n 2, 1, 2, 0, 0, .null), (10, .invokevirtual 257, 3, 164, 1, 1305, .null), (13, .ifCond .ne 7, 3, 20, 0, 0, .null), (16, .ldc2_w 263, 3, 0, 0, 1320, .long (-1000000000000000001)), (19, .lreturn, 1, 0, 0, 0, .null), (20, .iload_n 3, 1, 3, 0, 0, .null), (21, .invokestatic 172, 3, 126, 1, 1152, .null), (24, .ifCond .ne 7, 3, 31, 0, 0, .null), (27, .ldc2_w 265, 3, 0, 0, 1321, .long (-1000000000000000002)), (30, .lreturn, 1, 0, 0, 0, .null), (31, .lconst 0, 1, 0, 0, 0, .long 0), (32, .lstore 4, 2, 4, 0, 0, .null), (34, .iconst 0, 1, 0, 0, 0, .int (0)), (35, .istore 6, 2, 6, 0, 0, .null), (37, .iload 6, 2, 6, 0, 0, .null), (39, .bipush 6, 2, 0, 0, 0, .int (6)), (41, .if_icmp .ge 34, 3, 75, 0, 0, .null), (44, .lload 4, 2, 4, 0, 0, .null), (46, .aload_n 0, 1, 0, 0, 0, .null), (47, .iload 6, 2, 6, 0, 0, .null), (49, .invokevirtual 257, 3, 164, 1, 1305, .null), (52, .ifCond .eq 13, 3, 65, 0, 0, .null), (55, .aload_n 0, 1, 0, 0, 0, .null), (56, .iload_n 1, 1, 1, 0, 0, .null), (57, .iload 6, 2, 6, 0, 0, .null), (59, .invokevirtual 267, 3, 170, 2, 1322, .null), (62, .goto 4, 3, 66, 0, 0, .null), (65, .lconst 0, 1, 0, 0, 0, .long 0), (66, .ladd, 1, 0, 0, 0, .null), (67, .lstore 4, 2, 4, 0, 0, .null), (69, .iinc 6 1, 3, 6, 0, 0, .int (1)), (72, .goto (-35), 3, 37, 0, 0, .null), (75, .aload_n 0, 1, 0, 0, 0, .null), (76, .iload_n 1, 1, 1, 0, 0, .null), (77, .iload_n 2, 1, 2, 0, 0, .null), (78, .invokevirtual 267, 3, 170, 2, 1322, .null), (81, .lload 4, 2, 4, 0, 0, .null), (83, .iload_n 3, 1, 3, 0, 0, .null), (84, .invokestatic 271, 3, 171, 3, 1326, .null), (87, .lreturn, 1, 0, 0, 0, .null)]
def kc_173 : List (Nat × En) := [(0, .iload_n 1, 1, 1, 0, 0, .null), (1, .invokestatic 172, 3, 126, 1, 1152, .null), (4, .ifCond .ne 6, 3, 10, 0, 0, .null), (7, .bipush (-2), 2, 0, 0, 0, .int (-2)), (9, .ireturn, 1, 0, 0, 0, .null), (10, .iload_n 1, 1, 1, 0, 0, .null), (11, .ifCond .ne 13, 3, 24, 0, 0, .null), (14, .iload_n 2, 1, 2, 0, 0, .null), (15, .invokestatic 275, 3, 125, 1, 1333, .null), (18, .ifCond .ne 15, 3, 33, 0, 0, .null), (21, .goto 10, 3, 31, 0, 0, .null), (24, .iload_n 2, 1, 2, 0, 0, .null), (25, .invokestatic 189, 3, 124, 1, 1183, .null), (28, .ifCond .ne 5, 3, 33, 0, 0, .null), (31, .iconst (-1), 1, 0, 0, 0, .int (-1)), (32, .ireturn, 1, 0, 0, 0, .null), (33, .iload_n 3, 1, 3, 0, 0, .null), (34, .iconst 0, 1, 0, 0, 0, .int (0)), (35, .sipush 9999, 3, 0, 0, 0, .int (9999)), (38, .invokestatic 138, 3, 120, 3, 1121, .null), (41, .ifCond .eq 21, 3, 62, 0, 0, .null), (44, .iload 4, 2, 4, 0, 0, .null), (46, .iconst 0, 1, 0, 0, 0, .int (0)), (47, .sipush 9999, 3, 0, 0, 0, .int (9999)), (50, .invokestatic 138, 3, 120, 3, 1121, .null), (53, .ifCond .eq 9, 3, 62, 0, 0, .null), (56, .iload_n 3, 1, 3, 0, 0, .null), (57, .iload 4, 2, 4, 0, 0, .null), (59, .if_icmp .le 6, 3, 65, 0, 0, .null), (62, .bipush (-2), 2, 0, 0, 0, .int (-2)), (64, .ireturn, 1, 0, 0, 0, .null), (65, .iload_n 1, 1, 1, 0, 0, .null), (66, .ifCond .ne 21, 3, 87, 0, 0, .null), (69, .aload_n 0, 1, 0, 0, 0, .null), (70, .getfield 68, 3, 11, 23, 992, .null), (73, .iload_n 2, 1, 2, 0, 0, .null), (74, .iload_n 3, 1, 3, 0, 0, .null), (75, .iastore, 1, 0, 0, 0, .null), (76, .aload_n 0, 1, 0, 0, 0, .null), (77, .getfield 71, 3, 11, 24, 993, .null), (80, .iload_n 2, 1, 2, 0, 0, .null), (81, .iload 4, 2, 4, 0, 0, .null), (83, .iastore, 1, 0, 0, 0, .null), (84, .goto 18, 3, 102, 0, 0, .null), (87, .aload_n 0, 1, 0, 0, 0, .null), (88, .getfield 74, 3, 11, 25, 994, .null), (91, .iload_n 2, 1, 2, 0, 0, .null), (92, .iload_n 3, 1, 3, 0, 0, .null), (93, .iastore, 1, 0, 0, 0, .null), (94, .aload_n 0, 1, 0, 0, 0, .null), (95, .getfield 77, 3, 11, 26, 995, .null), (98, .iload_n 2, 1, 2, 0, 0, .null), (99, .iload 4, 2, 4, 0, 0, .null), (101, .iastore, 1, 0, 0, 0, .null), (102, .iconst 1, 1, 0, 0, 0, .int (1)), (103, .ireturn, 1, 0, 0, 0, .null)]
def kc_174 : List (Nat × En) := [(0, .aload_n 0, 1, 0, 0, 0, .null), (1, .iload_n 1, 1, 1, 0, 0, .null), (2, .invokevirtual 196, 3, 140, 1, 1194, .null), (5, .ifCond .eq 13, 3, 18, 0, 0, .null), (8, .iload_n 2, 1, 2, 0, 0, .null), (9, .iconst (-1), 1, 0, 0, 0, .int (-1)), (10, .bipush 9, 2, 0, 0, 0, .int (9)), (12, .invokestatic 138, 3, 120, 3, 1121, .null), (15, .ifCond .ne 5, 3, 20, 0, 0, .null), (18, .iconst (-1), 1, 0, 0, 0, .int (-1)), (19, .ireturn, 1, 0, 0, 0, .null), (20, .aload_n 0, 1, 0, 0, 0, .null), (21, .getfield 80, 3, 11, 27, 996, .null), (24, .iload_n 1, 1, 1, 0, 0, .null), (25, .iaload, 1, 0, 0, 0, .null), (26, .istore_n 3, 1, 3, 0, 0, .null), (27, .aload_n 0, 1, 0, 0, 0, .null), (28, .getfield 80, 3, 11, 27, 996, .null), (31, .iload_n 1, 1, 1, 0, 0, .null), (32, .iload_n 2, 1, 2, 0, 0, .null), (33, .ifCond .ge 8, 3, 41, 0, 0, .null), (36, .bipush (-6), 2, 0, 0, 0, .int (-6)), (38, .goto 4, 3, 42, 0, 0, .null), (41, .iload_n 2, 1, 2, 0, 0, .null), (42, .iastore, 1, 0, 0, 0, .null), (43, .iload_n 3, 1, 3, 0, 0, .null), (44, .ireturn, 1, 0, 0, 0, .null)]
def kc_175 : List (Nat × En) := [(0, .aload_n 0, 1, 0, 0, 0, .null), (1, .iload_n 1, 1, 1, 0, 0, .null), (2, .invokevirtual 196, 3, 140, 1, 1194, .null), (5, .ifCond .ne 5, 3, 10, 0, 0, .null), (8, .iconst (-1), 1, 0, 0, 0, .int (-1)), (9, .ireturn, 1, 0, 0, 0, .null), (10, .aload_n 0, 1, 0, 0, 0, .null), (11, .getfield 83, 3, 11, 28, 997, .null), (14, .iload_n 1, 1, 1, 0, 0, .null), (15, .baload, 1, 0, 0, 0, .null), (16, .ifCond .eq 7, 3, 23, 0, 0, .null), (19, .iconst 1, 1, 0, 0, 0, .int (1)), (20, .goto 4, 3, 24, 0, 0, .null), (23, .iconst 0, 1, 0, 0, 0, .int (0)), (24, .istore_n 3, 1, 3, 0, 0, .null), (25, .aload_n 0, 1, 0, 0, 0, .null), (26, .getfield 83, 3, 11, 28, 997, .null), (29, .iload_n 1, 1, 1, 0, 0, .null), (30, .iload_n 2, 1, 2, 0, 0, .null), (31, .bastore, 1, 0, 0, 0, .null), (32, .iload_n 3, 1, 3, 0, 0, .null), (33, .ireturn, 1, 0, 0, 0, .null)]
def kc_176 : List (Nat × En) := [(0, .aload_n 0, 1, 0, 0, 0, .null), (1, .getfield 80, 3, 11, 27, 996, .null), (4, .iload_n 1, 1, 1, 0, 0, .null), (5, .iaload, 1, 0, 0, 0, .null), (6, .ifCond .lt 16, 3, 22, 0, 0, .null), (9, .aload_n 0, 1, 0, 0, 0, .null), (10, .getfield 83, 3, 11, 28, 997, .null), (13, .iload_n 1, 1, 1, 0, 0, .null), (14, .baload, 1, 0, 0, 0, .null), (15, .ifCond .ne 7, 3, 22, 0, 0, .null), (18, .iconst 1, 1, 0, 0, 0, .int (1)), (19, .goto 4, 3, 23, 0, 0, .null), (22, .iconst 0, 1, 0, 0, 0, .int (0)), (23, .ireturn, 1, 0, 0, 0, .int 1)]
def kc_177 : List (Nat × En) := [(0, .iload_n 1, 1, 1, 0, 0, .null), (1, .invokestatic 275, 3, 125, 1, 1333, .null), (4, .ifCond .eq 10, 3, 14, 0, 0, .null), (7, .iload_n 2, 1, 2, 0, 0, .null), (8, .invokestatic 275, 3, 125, 1, 1333, .null), (11, .ifCond .ne 5, 3, 16, 0, 0, .null), (14, .iconst (-1), 1, 0, 0, 0, .int (-1)), (15, .ireturn, 1, 0, 0, 0, .null), (16, .iconst 0, 1, 0, 0, 0, .int (0)), (17, .istore_n 3, 1, 3, 0, 0, .null), (18, .iload_n 3, 1, 3, 0, 0, .null), (19, .sipush 144, 3, 0, 0, 0, .int (144)), (22, .if_icmp .ge 74, 3, 96, 0, 0, .null), (25, .iload_n 3, 1, 3, 0, 0, .null), (26, .iconst 1, 1, 0, 0, 0, .int (1)), (27, .iadd, 1, 0, 0, 0, .null), (28, .istore 4, 2, 4, 0, 0, .null), (30, .iload 4, 2, 4, 0, 0, .null), (32, .iload_n 3, 1, 3, 0, 0, .null), (33, .iload_n 3, 1, 3, 0, 0, .null), (34, .bipush 24, 2, 0, 0, 0, .int (24)), (36, .irem, 1, 0, 0, 0, .null), (37, .isub, 1, 0, 0, 0, .null), (38, .bipush 24, 2, 0, 0, 0, .int (24)), (40, .iadd, 1, 0, 0, 0, .null), (41, .if_icmp .ge 49, 3, 90, 0, 0, .null), (44, .aload_n 0, 1, 0, 0, 0, .null), (45, .iload_n 3, 1, 3, 0, 0, .null), (46, .invokevirtual 278, 3, 176, 1, 1241, .null), (49, .ifCond .eq 35, 3, 84, 0, 0, .null), (52, .aload_n 0, 1, 0, 0, 0, .null), (53, .iload 4, 2, 4, 0, 0, .null), (55, .invokevirtual 278, 3, 176, 1, 1241, .null), (58, .ifCond .eq 26, 3, 84, 0, 0, .null), (61, .aload_n 0, 1, 0, 0, 0, .null), (62, .getfield 80, 3, 11, 27, 996, .null), (65, .iload_n 3, 1, 3, 0, 0, .null), (66, .iaload, 1, 0, 0, 0, .null), (67, .iload_n 1, 1, 1, 0, 0, .null), (68, .if_icmp .ne 16, 3, 84, 0, 0, .null), (71, .aload_n 0, 1, 0, 0, 0, .null), (72, .getfield 80, 3, 11, 27, 996, .null), (75, .iload 4, 2, 4, 0, 0, .null), (77, .iaload, 1, 0, 0, 0, .null), (78, .iload_n 2, 1, 2, 0, 0, .null), (79, .if_icmp .ne 5, 3, 84, 0, 0, .null), (82, .iconst 1, 1, 0, 0, 0, .int (1)), (83, .ireturn, 1, 0, 0, 0, .null), (84, .iinc 4 1, 3, 4, 0, 0, .int (1)), (87, .goto (-57), 3, 30, 0, 0, .null), (90, .iinc 3 1, 3, 3, 0, 0, .int (1)), (93, .goto (-75), 3, 18, 0, 0, .null), (96, .iconst 0, 1, 0, 0, 0, .int (0)), (97, .ireturn, 1, 0, 0, 0, .null)]
def kc_178 : List (Nat × En) := [(0, .iconst 0, 1, 0, 0, 0, .int (0)), (1, .istore_n 1, 1, 1, 0, 0, .null), (2, .iconst 0, 1, 0, 0, 0, .int (0)), (3, .istore_n 2, 1, 2, 0, 0, .null), (4, .iload_n 2, 1, 2, 0, 0, .null), (5, .sipush 144, 3, 0, 0, 0, .int (144)), (8, .if_icmp .ge 45, 3, 53, 0, 0, .null), (11, .aload_n 0, 1, 0, 0, 0, .null), (12, .getfield 120, 3, 11, 42, 1011, .null), (15, .iload_n 2, 1, 2, 0, 0, .null), (16, .aload_n 0, 1, 0, 0, 0, .null), (17, .iload_n 2, 1, 2, 0, 0, .null), (18, .invokevirtual 278, 3, 176, 1, 1241, .null), (21, .ifCond .eq 7, 3, 28, 0, 0, .null), (24, .iload_n 1, 1, 1, 0, 0, .null), (25, .goto 5, 3, 30, 0, 0, .null), (28, .bipush (-6), 2, 0, 0, 0, .int (-6)), (30, .iastore, 1, 0, 0, 0, .null), (31, .iload_n 1, 1, 1, 0, 0, .null), (32, .aload_n 0, 1, 0, 0, 0, .null), (33, .iload_n 2, 1, 2, 0, 0, .null), (34, .invokevirtual 278, 3, 176, 1, 1241, .null), (37, .ifCond .eq 7, 3, 44, 0, 0, .null), (40, .iconst 1, 1, 0, 0, 0, .int (1)), (41, .goto 4, 3, 45, 0, 0, .null), (44, .iconst 0, 1, 0, 0, 0, .int (0)), (45, .iadd, 1, 0, 0, 0, .null), (46, .istore_n 1, 1, 1, 0, 0, .null), (47, .iinc 2 1, 3, 2, 0, 0, .int (1)), (50, .goto (-46), 3, 4, 0, 0, .null), (53, .return_, 1, 0, 0, 0, .null)]
def kc_179 : List (Nat × En) := [(0, .iconst 0, 1, 0, 0, 0, .int (0)), (1, .istore_n 2, 1, 2, 0, 0, .null), (2, .iload_n 2, 1, 2, 0, 0, .null), (3, .bipush 10, 2, 0, 0, 0, .int (10)), (5, .if_icmp .ge 16, 3, 21, 0, 0, .null), (8, .aload_n 0, 1, 0, 0, 0, .null), (9, .getfield 117, 3, 11, 41, 1010, .null), (12, .iload_n 2, 1, 2, 0, 0, .null), (13, .iconst 0, 1, 0, 0, 0, .int (0)), (14, .iastore, 1, 0, 0, 0, .null), (15, .iinc 2 1, 3, 2, 0, 0, .int (1)), (18, .goto (-16), 3, 2, 0, 0, .null), (21, .bipush (-6), 2, 0, 0, 0, .int (-6)), (23, .istore_n 2, 1, 2, 0, 0, .null), (24, .iconst 0, 1, 0, 0, 0, .int (0)), (25, .istore_n 3, 1, 3, 0, 0, .null), (26, .iload_n 3, 1, 3, 0, 0, .null), (27, .sipush 144, 3, 0, 0, 0, .int (144)), (30, .if_icmp .ge 80, 3, 110, 0, 0, .null), (33, .iload_n 3, 1, 3, 0, 0, .null), (34, .bipush 24, 2, 0, 0, 0, .int (24)), (36, .irem, 1, 0, 0, 0, .null), (37, .ifCond .ne 8, 3, 45, 0, 0, .null), (40, .bipush (-6), 2, 0, 0, 0, .int (-6)), (42, .goto 4, 3, 46, 0, 0, .null), (45, .iload_n 2, 1, 2, 0, 0, .null), (46, .istore_n 2, 1, 2, 0, 0, .null), (47, .aload_n 0, 1, 0, 0, 0, .null), (48, .getfield 120, 3, 11, 42, 1011, .null), (51, .iload_n 3, 1, 3, 0, 0, .null), (52, .iaload, 1, 0, 0, 0, .null), (53, .istore 4, 2, 4, 0, 0, .null), (55, .iload 4, 2, 4, 0, 0, .null), (57, .ifCond .lt 47, 3, 104, 0, 0, .null), (60, .iload 4, 2, 4, 0, 0, .null), (62, .bipush 9, 2, 0, 0, 0, .int (9)), (64, .if_icmp .gt 12, 3, 76, 0, 0, .null), (67, .iload_n 1, 1, 1, 0, 0, .null), (68, .iload 4, 2, 4, 0, 0, .null), (70, .ishr, 1, 0, 0, 0, .null), (71, .iconst 1, 1, 0, 0, 0, .int (1)), (72, .iand, 1, 0, 0, 0, .null), (73, .ifCond .ne 31, 3, 104, 0, 0, .null), (76, .iload_n 2, 1, 2, 0, 0, .null), (77, .ifCond .lt 20, 3, 97, 0, 0, .null), (80, .aload_n 0, 1, 0, 0, 0, .null), (81, .getfield 117, 3, 11, 41, 1010, .null), (84, .iload_n 2, 1, 2, 0, 0, .null), (85, .dup2, 1, 0, 0, 0, .null), (86, .iaload, 1, 0, 0, 0, .null), (87, .iconst 1, 1, 0, 0, 0, .int (1)), (88, .aload_n 0, 1, 0, 0, 0, .null), (89, .getfield 80, 3, 11, 27, 996, .null), (92, .iload_n 3, 1, 3, 0, 0, .null), (93, .iaload, 1, 0, 0, 0, .null), (94, .ishl, 1, 0, 0, 0, .null), (95, .ior, 1, 0, 0, 0, .null), (96, .iastore, 1, 0, 0, 0, .null), (97, .aload_n 0, 1, 0, 0, 0, .null), (98, .getfield 80, 3, 11, 27, 996, .null), (101, .iload_n 3, 1, 3, 0, 0, .null), (102, .iaload, 1, 0, 0, 0, .null), (103, .istore_n 2, 1, 2, 0, 0, .null), (104, .iinc 3 1, 3, 3, 0, 0, .int (1)), (107, .goto (-81), 3, 26, 0, 0, .null), (110, .iconst 0, 1, 0, 0, 0, .int (0)), (111, .istore_n 3, 1, 3, 0, 0, .null), (112, .iload_n 3, 1, 3, 0, 0, .null), (113, .bipush 10, 2, 0, 0, 0, .int (10)), (115, .if_icmp .ge 60, 3, 175, 0, 0, .null), (118, .iconst 0, 1, 0, 0, 0, .int (0)), (119, .istore 4, 2, 4, 0, 0, .null), (121, .iload 4, 2, 4, 0, 0, .null), (123, .bipush 10, 2, 0, 0, 0, .int (10)), (125, .if_icmp .ge 44, 3, 169, 0, 0, .null), (128, .aload_n 0, 1, 0, 0, 0, .null), (129, .getfield 117, 3, 11, 41, 1010, .null), (132, .iload 4, 2, 4, 0, 0, .null), (134, .dup2, 1, 0, 0, 0, .null), (135, .iaload, 1, 0, 0, 0, .null), (136, .aload_n 0, 1, 0, 0, 0, .null), (137, .getfield 117, 3, 11, 41, 1010, .null), (140, .iload 4, 2, 4, 0, 0, .null), (142, .iaload, 1, 0, 0, 0, .null), (143, .iload_n 3, 1, 3, 0, 0, .null), (144, .ishr, 1, 0, 0, 0, .null), (145, .iconst 1, 1, 0, 0, 0, .int (1)), (146, .iand, 1, 0, 0, 0, .null), (147, .iconst 1, 1, 0, 0, 0, .int (1)), (148, .if_icmp .ne 12, 3, 160, 0, 0, .null), (151, .aload_n 0, 1, 0, 0, 0, .null), (152, .getfield 117, 3, 11, 41, 1010, .null), (155, .iload_n 3, 1, 3, 0, 0, .null), (156, .iaload, 1, 0, 0, 0, .null), (157, .goto 4, 3, 161, 0, 0, .null), (160, .iconst 0, 1, 0, 0, 0, .int (0)), (161, .ior, 1, 0, 0, 0, .null), (162, .iastore, 1, 0, 0, 0, .null), (163, .iinc 4 1, 3, 4, 0, 0, .int (1)), (166, .goto (-45), 3, 121, 0, 0, .null), (169, .iinc 3 1, 3, 3, 0, 0, .int (1)), (172, .goto (-60), 3, 112, 0, 0, .null), (175, .iconst 0, 1, 0, 0, 0, .int (0)), (176, .istore_n 3, 1, 3, 0, 0, .null), (177, .iconst 0, 1, 0, 0, 0, .int (0)), (178, .istore 4, 2, 4, 0, 0, .null), (180, .iload 4, 2, 4, 0, 0, .null), (182, .bipush 10, 2, 0, 0, 0, .int (10)), (184, .if_icmp .ge 24, 3, 208, 0, 0, .null), (187, .iload_n 3, 1, 3, 0, 0, .null), (188, .aload_n 0, 1, 0, 0, 0, .null), (189, .getfield 117, 3, 11, 41, 1010, .null), (192, .iload 4, 2, 4, 0, 0, .null), (194, .iaload, 1, 0, 0, 0, .null), (195, .iconst 1, 1, 0, 0, 0, .int (1)), (196, .iload 4, 2, 4, 0, 0, .null), (198, .ishl, 1, 0, 0, 0, .null), (199, .iand, 1, 0, 0, 0, .null), (200, .ior, 1, 0, 0, 0, .null), (201, .istore_n 3, 1, 3, 0, 0, .null), (202, .iinc 4 1, 3, 4, 0, 0, .int (1)), (205, .goto (-25), 3, 180, 0, 0, .null), (208, .iload_n 3, 1, 3, 0, 0, .null), (209, .ireturn, 1, 0, 0, 0, .null)]
def kc_180 : List (Nat × En) := [(0, .aload_n 0, 1, 0, 0, 0, .null), (1, .invokevirtual 281, 3, 178, 0, 1352, .null), (4, .aload_n 0, 1, 0, 0, 0, .null), (5, .iconst 0, 1, 0, 0, 0, .int (0)), (6, .invokevirtual 284, 3, 179, 1, 1356, .null), (9, .ireturn, 1, 0, 0, 0, .null)]
def kc_181 : List (Nat × En) := [(0, .iconst 0, 1, 0, 0, 0, .int (0)), (1, .istore_n 1, 1, 1, 0, 0, .null), (2, .iconst 0, 1, 0, 0, 0, .int (0)), (3, .istore_n 2, 1, 2, 0, 0, .null), (4, .iload_n 2, 1, 2, 0, 0, .null), (5, .bipush 12, 2, 0, 0, 0, .int (12)), (7, .if_icmp .ge 17, 3, 24, 0, 0, .null), (10, .iload_n 1, 1, 1, 0, 0, .null), (11, .iload_n 0, 1, 0, 0, 0, .null), (12, .iload_n 2, 1, 2, 0, 0, .null), (13, .ishr, 1, 0, 0, 0, .null), (14, .iconst 1, 1, 0, 0, 0, .int (1)), (15, .iand, 1, 0, 0, 0, .null), (16, .iadd, 1, 0, 0, 0, .null), (17, .istore_n 1, 1, 1, 0, 0, .null), (18, .iinc 2 1, 3, 2, 0, 0, .int (1)), (21, .goto (-17), 3, 4, 0, 0, .null), (24, .iload_n 1, 1, 1, 0, 0, .null), (25, .ireturn, 1, 0, 0, 0, .null)]
def kc_182 : List (Nat × En) := [(0, .iload_n 1, 1, 1, 0, 0, .null), (1, .invokestatic 172, 3, 126, 1, 1152, .null), (4, .ifCond .ne 17, 3, 21, 0, 0, .null), (7, .iload_n 1, 1, 1, 0, 0, .null), (8, .bipush 10, 2, 0, 0, 0, .int (10)), (10, .bipush 19, 2, 0, 0, 0, .int (19)), (12, .invokestatic 138, 3, 120, 3, 1121, .null), (15, .ifCond .ne 6, 3, 21, 0, 0, .null), (18, .bipush (-2), 2, 0, 0, 0, .int (-2)), (20, .ireturn, 1, 0, 0, 0, .null), (21, .aload_n 0, 1, 0, 0, 0, .null), (22, .invokevirtual 281, 3, 178, 0, 1352, .null), (25, .iconst 0, 1, 0, 0, 0, .int (0)), (26, .istore_n 2, 1, 2, 0, 0, .null), (27, .iconst 0, 1, 0, 0, 0, .int (0)), (28, .istore_n 3, 1, 3, 0, 0, .null), (29, .iload_n 3, 1, 3, 0, 0, .null), (30, .sipush 144, 3, 0, 0, 0, .int (144)), (33, .if_icmp .ge 36, 3, 69, 0, 0, .null), (36, .aload_n 0, 1, 0, 0, 0, .null), (37, .getfield 120, 3, 11, 42, 1011, .null), (40, .iload_n 3, 1, 3, 0, 0, .null), (41, .iaload, 1, 0, 0, 0, .null), (42, .ifCond .lt 21, 3, 63, 0, 0, .null), (45, .aload_n 0, 1, 0, 0, 0, .null), (46, .getfield 120, 3, 11, 42, 1011, .null), (49, .iload_n 3, 1, 3, 0, 0, .null), (50, .iaload, 1, 0, 0, 0, .null), (51, .iload_n 1, 1, 1, 0, 0, .null), (52, .bipush 10, 2, 0, 0, 0, .int (10)), (54, .isub, 1, 0, 0, 0, .null), (55, .if_icmp .ne 5, 3, 60, 0, 0, .null), (58, .iload_n 3, 1, 3, 0, 0, .null), (59, .ireturn, 1, 0, 0, 0, .null), (60, .iinc 2 1, 3, 2, 0, 0, .int (1)), (63, .iinc 3 1, 3, 3, 0, 0, .int (1)), (66, .goto (-37), 3, 29, 0, 0, .null), (69, .iload_n 1, 1, 1, 0, 0, .null), (70, .bipush 10, 2, 0, 0, 0, .int (10)), (72, .if_icmp .lt 6, 3, 78, 0, 0, .null), (75, .bipush (-6), 2, 0, 0, 0, .int (-6)), (77, .ireturn, 1, 0, 0, 0, .null), (78, .iconst 1, 1, 0, 0, 0, .int (1)), (79, .iload_n 2, 1, 2, 0, 0, .null), (80, .bipush 10, 2, 0, 0, 0, .int (10)), (82, .if_icmp .le 8, 3, 90, 0, 0, .null), (85, .bipush 10, 2, 0, 0, 0, .int (10)), (87, .goto 4, 3, 91, 0, 0, .null), (90, .iload_n 2, 1, 2, 0, 0, .null), (91, .ishl, 1, 0, 0, 0, .null), (92, .istore_n 3, 1, 3, 0, 0, .null), (93, .bipush (-6), 2, 0, 0, 0, .int (-6)), (95, .istore 4, 2, 4, 0, 0, .null), (97, .iconst 0, 1, 0, 0, 0, .int (0)), (98, .istore 5, 2, 5, 0, 0, .null), (100, .iload 5, 2, 5, 0, 0, .null), (102, .iload_n 3, 1, 3, 0, 0, .null), (103, .if_icmp .ge 40, 3, 143, 0, 0, .null), (106, .iload 4, 2, 4, 0, 0, .null), (108, .ifCond .lt 16, 3, 124, 0, 0, .null), (111, .iload 5, 2, 5, 0, 0, .null), (113, .invokestatic 287, 3, 181, 1, 1364, .null), (116, .iload 4, 2, 4, 0, 0, .null), (118, .invokestatic 287, 3, 181, 1, 1364, .null), (121, .if_icmp .ge 16, 3, 137, 0, 0, .null), (124, .aload_n 0, 1, 0, 0, 0, .null), (125, .iload 5, 2, 5, 0, 0, .null), (127, .invokevirtual 284, 3, 179, 1, 1356, .null), (130, .ifCond .ne 7, 3, 137, 0, 0, .null), (133, .iload 5, 2, 5, 0, 0, .null), (135, .istore 4, 2, 4, 0, 0, .null), (137, .iinc 5 1, 3, 5, 0, 0, .int (1)), (140, .goto (-40), 3, 100, 0, 0, .null), (143, .iload 4, 2, 4, 0, 0, .null), (145, .ifCond .ge 8, 3, 153, 0, 0, .null), (148, .bipush (-5), 2, 0, 0, 0, .int (-5)), (150, .goto 17, 3, 167, 0, 0, .null), (153, .iload_n 1, 1, 1, 0, 0, .null), (154, .ifCond .ne 8, 3, 162, 0, 0, .null), (157, .iload 4, 2, 4, 0, 0, .null), (159, .goto 8, 3, 167, 0, 0, .null), (162, .iload 4, 2, 4, 0, 0, .null), (164, .invokestatic 287, 3, 181, 1, 1364, .null), (167, .ireturn, 1, 0, 0, 0, .null)]
def kc_183 : List (Nat × En) := [(0, .iconst 0, 1, 0, 0, 0, .int (0)), (1, .istore_n 2, 1, 2, 0, 0, .null), (2, .iload_n 2, 1, 2, 0, 0, .null), (3, .sipush 144, 3, 0, 0, 0, .int (144)), (6, .if_icmp .ge 33, 3, 39, 0, 0, .null), (9, .aload_n 0, 1, 0, 0, 0, .null), (10, .getfield 123, 3, 11, 43, 1012, .null), (13, .iload_n 2, 1, 2, 0, 0, .null), (14, .aload_n 0, 1, 0, 0, 0, .null), (15, .getfield 74, 3, 11, 25, 994, .null), (18, .iload_n 2, 1, 2, 0, 0, .null), (19, .iaload, 1, 0, 0, 0, .null), (20, .iastore, 1, 0, 0, 0, .null), (21, .aload_n 0, 1, 0, 0, 0, .null), (22, .getfield 126, 3, 11, 44, 1013, .null), (25, .iload_n 2, 1, 2, 0, 0, .null), (26, .aload_n 0, 1, 0, 0, 0, .null), (27, .getfield 77, 3, 11, 26, 995, .null), (30, .iload_n 2, 1, 2, 0, 0, .null), (31, .iaload, 1, 0, 0, 0, .null), (32, .iastore, 1, 0, 0, 0, .null), (33, .iinc 2 1, 3, 2, 0, 0, .int (1)), (36, .goto (-34), 3, 2, 0, 0, .null), (39, .iconst 0, 1, 0, 0, 0, .int (0)), (40, .istore_n 2, 1, 2, 0, 0, .null), (41, .iload_n 2, 1, 2, 0, 0, .null), (42, .bipush 10, 2, 0, 0, 0, .int (10)), (44, .if_icmp .ge 33, 3, 77, 0, 0, .null), (47, .aload_n 0, 1, 0, 0, 0, .null), (48, .getfield 129, 3, 11, 45, 1014, .null), (51, .iload_n 2, 1, 2, 0, 0, .null), (52, .aload_n 0, 1, 0, 0, 0, .null), (53, .getfield 68, 3, 11, 23, 992, .null), (56, .iload_n 2, 1, 2, 0, 0, .null), (57, .iaload, 1, 0, 0, 0, .null), (58, .iastore, 1, 0, 0, 0, .null), (59, .aload_n 0, 1, 0, 0, 0, .null), (60, .getfield 132, 3, 11, 46, 1015, .null), (63, .iload_n 2, 1, 2, 0, 0, .null), (64, .aload_n 0, 1, 0, 0, 0, .null), (65, .getfield 71, 3, 11, 24, 993, .null), (68, .iload_n 2, 1, 2, 0, 0, .null), (69, .iaload, 1, 0, 0, 0, .null), (70, .iastore, 1, 0, 0, 0, .null), (71, .iinc 2 1, 3, 2, 0, 0, .int (1)), (74, .goto (-33), 3, 41, 0, 0, .null), (77, .iconst 1, 1, 0, 0, 0, .int (1)), (78, .istore_n 2, 1, 2, 0, 0, .null), (79, .iload_n 2, 1, 2, 0, 0, .null), (80, .ifCond .eq 237, 3, 317, 0, 0, .null), (83, .iconst 0, 1, 0, 0, 0, .int (0)), (84, .istore_n 2, 1, 2, 0, 0, .null), (85, .iconst 0, 1, 0, 0, 0, .int (0)), (86, .istore_n 3, 1, 3, 0, 0, .null), (87, .iload_n 3, 1, 3, 0, 0, .null), (88, .sipush 144, 3, 0, 0, 0, .int (144)), (91, .if_icmp .ge 188, 3, 279, 0, 0, .null), (94, .aload_n 0, 1, 0, 0, 0, .null), (95, .iload_n 3, 1, 3, 0, 0, .null), (96, .invokevirtual 278, 3, 176, 1, 1241, .null), (99, .ifCond .eq 174, 3, 273, 0, 0, .null), (102, .iload_n 3, 1, 3, 0, 0, .null), (103, .iload_n 1, 1, 1, 0, 0, .null), (104, .if_icmp .eq 169, 3, 273, 0, 0, .null), (107, .aload_n 0, 1, 0, 0, 0, .null), (108, .getfield 80, 3, 11, 27, 996, .null), (111, .iload_n 3, 1, 3, 0, 0, .null), (112, .iaload, 1, 0, 0, 0, .null), (113, .istore 4, 2, 4, 0, 0, .null), (115, .aload_n 0, 1, 0, 0, 0, .null), (116, .getfield 123, 3, 11, 43, 1012, .null), (119, .iload_n 3, 1, 3, 0, 0, .null), (120, .iaload, 1, 0, 0, 0, .null), (121, .aload_n 0, 1, 0, 0, 0, .null), (122, .getfield 129, 3, 11, 45, 1014, .null), (125, .iload 4, 2, 4, 0, 0, .null), (127, .iaload, 1, 0, 0, 0, .null), (128, .if_icmp .le 12, 3, 140, 0, 0, .null), (131, .aload_n 0, 1, 0, 0, 0, .null), (132, .getfield 123, 3, 11, 43, 1012, .null), (135, .iload_n 3, 1, 3, 0, 0, .null), (136, .iaload, 1, 0, 0, 0, .null), (137, .goto 10, 3, 147, 0, 0, .null), (140, .aload_n 0, 1, 0, 0, 0, .null), (141, .getfield 129, 3, 11, 45, 1014, .null), (144, .iload 4, 2, 4, 0, 0, .null), (146, .iaload, 1, 0, 0, 0, .null), (147, .istore 5, 2, 5, 0, 0, .null), (149, .aload_n 0, 1, 0, 0, 0, .null), (150, .getfield 126, 3, 11, 44, 1013, .null), (153, .iload_n 3, 1, 3, 0, 0, .null), (154, .iaload, 1, 0, 0, 0, .null), (155, .aload_n 0, 1, 0, 0, 0, .null), (156, .getfield 132, 3, 11, 46, 1015, .null), (159, .iload 4, 2, 4, 0, 0, .null), (161, .iaload, 1, 0, 0, 0, .null), (162, .if_icmp .ge 12, 3, 174, 0, 0, .null), (165, .aload_n 0, 1, 0, 0, 0, .null), (166, .getfield 126, 3, 11, 44, 1013, .null), (169, .iload_n 3, 1, 3, 0, 0, .null), (170, .iaload, 1, 0, 0, 0, .null), (171, .goto 10, 3, 181, 0, 0, .null), (174, .aload_n 0, 1, 0, 0, 0, .null), (175, .getfield 132, 3, 11, 46, 1015, .null), (178, .iload 4, 2, 4, 0, 0, .null), (180, .iaload, 1, 0, 0, 0, .null), (181, .istore 6, 2, 6, 0, 0, .null), (183, .iload_n 2, 1, 2, 0, 0, .null), (184, .ifCond .ne 49, 3, 233, 0, 0, .null), (187, .iload 5, 2, 5, 0, 0, .null), (189, .aload_n 0, 1, 0, 0, 0, .null), (190, .getfield 123, 3, 11, 43, 1012, .null), (193, .iload_n 3, 1, 3, 0, 0, .null), (194, .iaload, 1, 0, 0, 0, .null), (195, .if_icmp .gt 38, 3, 233, 0, 0, .null), (198, .iload 5, 2, 5, 0, 0, .null), (200, .aload_n 0, 1, 0, 0, 0, .null), (201, .getfield 129, 3, 11, 45, 1014, .null), (204, .iload 4, 2, 4, 0, 0, .null), (206, .iaload, 1, 0, 0, 0, .null), (207, .if_icmp .gt 26, 3, 233, 0, 0, .null), (210, .iload 6, 2, 6, 0, 0, .null), (212, .aload_n 0, 1, 0, 0, 0, .null), (213, .getfield 126, 3, 11, 44, 1013, .null), (216, .iload_n 3, 1, 3, 0, 0, .null), (217, .iaload, 1, 0, 0, 0, .null), (218, .if_icmp .lt 15, 3, 233, 0, 0, .null), (221, .iload 6, 2, 6, 0, 0, .null), (223, .aload_n 0, 1, 0, 0, 0, .null), (224, .getfield 132, 3, 11, 46, 1015, .null), (227, .iload 4, 2, 4, 0, 0, .null), (229, .iaload, 1, 0, 0, 0, .null), (230, .if_icmp .ge 7, 3, 237, 0, 0, .null), (233, .iconst 1, 1, 0, 0, 0, .int (1)), (234, .goto 4, 3, 238, 0, 0, .null), (237, .iconst 0, 1, 0, 0, 0, .int (0)), (238, .istore_n 2, 1, 2, 0, 0, .null), (239, .aload_n 0, 1, 0, 0, 0, .null), (240, .getfield 123, 3, 11, 43, 1012, .null), (243, .iload_n 3, 1, 3, 0, 0, .null), (244, .iload 5, 2, 5, 0, 0, .null), (246, .iastore, 1, 0, 0, 0, .null), (247, .aload_n 0, 1, 0, 0, 0, .null), (248, .getfield 129, 3, 11, 45, 1014, .null), (251, .iload 4, 2, 4, 0, 0, .null), (253, .iload 5, 2, 5, 0, 0, .null), (255, .iastore, 1, 0, 0, 0, .null), (256, .aload_n 0, 1, 0, 0, 0, .null), (257, .getfield 126, 3, 11, 44, 1013, .null), (260, .iload_n 3, 1, 3, 0, 0, .null), (261, .iload 6, 2, 6, 0, 0, .null), (263, .iastore, 1, 0, 0, 0, .null), (264, .aload_n 0, 1, 0, 0, 0, .null), (265, .getfield 132, 3, 11, 46, 1015, .null), (268, .iload 4, 2, 4, 0, 0, .null), (270, .iload 6, 2, 6, 0, 0, .null), (272, .iastore, 1, 0, 0, 0, .null), (273, .iinc 3 1, 3, 3, 0, 0, .int (1)), (276, .goto (-189), 3, 87, 0, 0, .null), (279, .iconst 0, 1, 0, 0, 0, .int (0)), (280, .istore_n 3, 1, 3, 0, 0, .null), (281, .iload_n 3, 1, 3, 0, 0, .null), (282, .bipush 6, 2, 0, 0, 0, .int (6)), (284, .if_icmp .ge 30, 3, 314, 0, 0, .null), (287, .aload_n 0, 1, 0, 0, 0, .null), (288, .bipush 24, 2, 0, 0, 0, .int (24)), (290, .iload_n 3, 1, 3, 0, 0, .null), (291, .imul, 1, 0, 0, 0, .null), (292, .invokevirtual 290, 3, 184, 1, 1245, .null), (295, .ifCond .ne 7, 3, 302, 0, 0, .null), (298, .iload_n 2, 1, 2, 0, 0, .null), (299, .ifCond .eq 7, 3, 306, 0, 0, .null), (302, .iconst 1, 1, 0, 0, 0, .int (1)), (303, .goto 4, 3, 307, 0, 0, .null), (306, .iconst 0, 1, 0, 0, 0, .int (0)), (307, .istore_n 2, 1, 2, 0, 0, .null), (308, .iinc 3 1, 3, 3, 0, 0, .int (1)), (311, .goto (-30), 3, 281, 0, 0, .null), (314, .goto (-235), 3, 79, 0, 0, .null), (317, .iconst 1, 1, 0, 0, 0, .int (1)), (318, .istore_n 3, 1, 3, 0, 0, .null), (319, .iconst 0, 1, 0, 0, 0, .int (0)), (320, .istore 4, 2, 4, 0, 0, .null), (322, .iload 4, 2, 4, 0, 0, .null), (324, .sipush 144, 3, 0, 0, 0, .int (144)), (327, .if_icmp .ge 36, 3, 363, 0, 0, .null), (330, .iload_n 3, 1, 3, 0, 0, .null), (331, .ifCond .eq 24, 3, 355, 0, 0, .null), (334, .aload_n 0, 1, 0, 0, 0, .null), (335, .getfield 123, 3, 11, 43, 1012, .null), (338, .iload 4, 2, 4, 0, 0, .null), (340, .iaload, 1, 0, 0, 0, .null), (341, .aload_n 0, 1, 0, 0, 0, .null), (342, .getfield 126, 3, 11, 44, 1013, .null), (345, .iload 4, 2, 4, 0, 0, .null), (347, .iaload, 1, 0, 0, 0, .null), (348, .if_icmp .gt 7, 3, 355, 0, 0, .null), (351, .iconst 1, 1, 0, 0, 0, .int (1)), (352, .goto 4, 3, 356, 0, 0, .null), (355, .iconst 0, 1, 0, 0, 0, .int (0)), (356, .istore_n 3, 1, 3, 0, 0, .null), (357, .iinc 4 1, 3, 4, 0, 0, .int (1)), (360, .goto (-38), 3, 322, 0, 0, .null), (363, .iconst 0, 1, 0, 0, 0, .int (0)), (364, .istore 4, 2, 4, 0, 0, .null), (366, .iload 4, 2, 4, 0, 0, .null), (368, .bipush 10, 2, 0, 0, 0, .int (10)), (370, .if_icmp .ge 36, 3, 406, 0, 0, .null), (373, .iload_n 3, 1, 3, 0, 0, .null), (374, .ifCond .eq 24, 3, 398, 0, 0, .null), (377, .aload_n 0, 1, 0, 0, 0, .null), (378, .getfield 129, 3, 11, 45, 1014, .null), (381, .iload 4, 2, 4, 0, 0, .null), (383, .iaload, 1, 0, 0, 0, .null), (384, .aload_n 0, 1, 0, 0, 0, .null), (385, .getfield 132, 3, 11, 46, 1015, .null), (388, .iload 4, 2, 4, 0, 0, .null), (390, .iaload, 1, 0, 0, 0, .null), (391, .if_icmp .gt 7, 3, 398, 0, 0, .null), (394, .iconst 1, 1, 0, 0, 0, .int (1)), (395, .goto 4, 3, 399, 0, 0, .null), (398, .iconst 0, 1, 0, 0, 0, .int (0)), (399, .istore_n 3, 1, 3, 0, 0, .null), (400, .iinc 4 1, 3, 4, 0, 0, .int (1)), (403, .goto (-37), 3, 366, 0, 0, .null), (406, .iload_n 3, 1, 3, 0, 0, .null), (407, .ireturn, 1, 0, 0, 0, .int 1)]
def kc_184 : List (Nat × En) := [(0, .iconst 0, 1, 0, 0, 0, .int (0)), (1, .istore_n 2, 1, 2, 0, 0, .null), (2, .iconst 0, 1, 0, 0, 0, .int (0)), (3, .istore_n 3, 1, 3, 0, 0, .null), (4, .iload_n 1, 1, 1, 0, 0, .null), (5, .istore 4, 2, 4, 0, 0, .null), (7, .iload 4, 2, 4, 0, 0, .null), (9, .iload_n 1, 1, 1, 0, 0, .null), (10, .bipush 24, 2, 0, 0, 0, .int (24)), (12, .iadd, 1, 0, 0, 0, .null), (13, .if_icmp .ge 77, 3, 90, 0, 0, .null), (16, .aload_n 0, 1, 0, 0, 0, .null), (17, .getfield 83, 3, 11, 28, 997, .null), (20, .iload 4, 2, 4, 0, 0, .null), (22, .baload, 1, 0, 0, 0, .null), (23, .ifCond .ne 61, 3, 84, 0, 0, .null), (26, .iload_n 2, 1, 2, 0, 0, .null), (27, .ifCond .ne 14, 3, 41, 0, 0, .null), (30, .aload_n 0, 1, 0, 0, 0, .null), (31, .getfield 123, 3, 11, 43, 1012, .null), (34, .iload 4, 2, 4, 0, 0, .null), (36, .iaload, 1, 0, 0, 0, .null), (37, .iload_n 3, 1, 3, 0, 0, .null), (38, .if_icmp .ge 7, 3, 45, 0, 0, .null), (41, .iconst 1, 1, 0, 0, 0, .int (1)), (42, .goto 4, 3, 46, 0, 0, .null), (45, .iconst 0, 1, 0, 0, 0, .int (0)), (46, .istore_n 2, 1, 2, 0, 0, .null), (47, .aload_n 0, 1, 0, 0, 0, .null), (48, .getfield 123, 3, 11, 43, 1012, .null), (51, .iload 4, 2, 4, 0, 0, .null), (53, .aload_n 0, 1, 0, 0, 0, .null), (54, .getfield 123, 3, 11, 43, 1012, .null), (57, .iload 4, 2, 4, 0, 0, .null), (59, .iaload, 1, 0, 0, 0, .null), (60, .iload_n 3, 1, 3, 0, 0, .null), (61, .if_icmp .ge 7, 3, 68, 0, 0, .null), (64, .iload_n 3, 1, 3, 0, 0, .null), (65, .goto 10, 3, 75, 0, 0, .null), (68, .aload_n 0, 1, 0, 0, 0, .null), (69, .getfield 123, 3, 11, 43, 1012, .null), (72, .iload 4, 2, 4, 0, 0, .null), (74, .iaload, 1, 0, 0, 0, .null), (75, .iastore, 1, 0, 0, 0, .null), (76, .aload_n 0, 1, 0, 0, 0, .null), (77, .getfield 123, 3, 11, 43, 1012, .null), (80, .iload 4, 2, 4, 0, 0, .null), (82, .iaload, 1, 0, 0, 0, .null), (83, .istore_n 3, 1, 3, 0, 0, .null), (84, .iinc 4 1, 3, 4, 0, 0, .int (1)), (87, .goto (-80), 3, 7, 0, 0, .null), (90, .sipush 9999, 3, 0, 0, 0, .int (9999)), (93, .istore 4, 2, 4, 0, 0, .null), (95, .iload_n 1, 1, 1, 0, 0, .null), (96, .bipush 23, 2, 0, 0, 0, .int (23)), (98, .iadd, 1, 0, 0, 0, .null), (99, .istore 5, 2, 5, 0, 0, .null), (101, .iload 5, 2, 5, 0, 0, .null), (103, .iload_n 1, 1, 1, 0, 0, .null), (104, .if_icmp .lt 81, 3, 185, 0, 0, .null), (107, .aload_n 0, 1, 0, 0, 0, .null), (108, .getfield 83, 3, 11, 28, 997, .null), (111, .iload 5, 2, 5, 0, 0, .null), (113, .baload, 1, 0, 0, 0, .null), (114, .ifCond .ne 65, 3, 179, 0, 0, .null), (117, .iload_n 2, 1, 2, 0, 0, .null), (118, .ifCond .ne 15, 3, 133, 0, 0, .null), (121, .aload_n 0, 1, 0, 0, 0, .null), (122, .getfield 126, 3, 11, 44, 1013, .null), (125, .iload 5, 2, 5, 0, 0, .null), (127, .iaload, 1, 0, 0, 0, .null), (128, .iload 4, 2, 4, 0, 0, .null), (130, .if_icmp .le 7, 3, 137, 0, 0, .null), (133, .iconst 1, 1, 0, 0, 0, .int (1)), (134, .goto 4, 3, 138, 0, 0, .null), (137, .iconst 0, 1, 0, 0, 0, .int (0)), (138, .istore_n 2, 1, 2, 0, 0, .null), (139, .aload_n 0, 1, 0, 0, 0, .null), (140, .getfield 126, 3, 11, 44, 1013, .null), (143, .iload 5, 2, 5, 0, 0, .null), (145, .aload_n 0, 1, 0, 0, 0, .null), (146, .getfield 126, 3, 11, 44, 1013, .null), (149, .iload 5, 2, 5, 0, 0, .null), (151, .iaload, 1, 0, 0, 0, .null), (152, .iload 4, 2, 4, 0, 0, .null), (154, .if_icmp .le 8, 3, 162, 0, 0, .null), (157, .iload 4, 2, 4, 0, 0, .null), (159, .goto 10, 3, 169, 0, 0, .null), (162, .aload_n 0, 1, 0, 0, 0, .null), (163, .getfield 126, 3, 11, 44, 1013, .null), (166, .iload 5, 2, 5, 0, 0, .null), (168, .iaload, 1, 0, 0, 0, .null), (169, .iastore, 1, 0, 0, 0, .null), (170, .aload_n 0, 1, 0, 0, 0, .null), (171, .getfield 126, 3, 11, 44, 1013, .null), (174, .iload 5, 2, 5, 0, 0, .null), (176, .iaload, 1, 0, 0, 0, .null), (177, .istore 4, 2, 4, 0, 0, .null), (179, .iinc 5 (-1), 3, 5, 0, 0, .int (-1)), (182, .goto (-81), 3, 101, 0, 0, .null), (185, .iload_n 2, 1, 2, 0, 0, .null), (186, .ireturn, 1, 0, 0, 0, .int 1)]
def kc_185 : List (Nat × En) := [(0, .iload_n 1, 1, 1, 0, 0, .null), (1, .invokestatic 172, 3, 126, 1, 1152, .null), (4, .ifCond .ne 6, 3, 10, 0, 0, .null), (7, .bipush (-2), 2, 0, 0, 0, .int (-2)), (9, .ireturn, 1, 0, 0, 0, .null), (10, .iload_n 1, 1, 1, 0, 0, .null), (11, .ifCond .ne 13, 3, 24, 0, 0, .null), (14, .iload_n 2, 1, 2, 0, 0, .null), (15, .invokestatic 275, 3, 125, 1, 1333, .null), (18, .ifCond .ne 15, 3, 33, 0, 0, .null), (21, .goto 10, 3, 31, 0, 0, .null), (24, .iload_n 2, 1, 2, 0, 0, .null), (25, .invokestatic 189, 3, 124, 1, 1183, .null), (28, .ifCond .ne 5, 3, 33, 0, 0, .null), (31, .iconst (-1), 1, 0, 0, 0, .int (-1)), (32, .ireturn, 1, 0, 0, 0, .null), (33, .iload_n 3, 1, 3, 0, 0, .null), (34, .invokestatic 172, 3, 126, 1, 1152, .null), (37, .ifCond .ne 6, 3, 43, 0, 0, .null), (40, .bipush (-2), 2, 0, 0, 0, .int (-2)), (42, .ireturn, 1, 0, 0, 0, .null), (43, .aload_n 0, 1, 0, 0, 0, .null), (44, .bipush (-6), 2, 0, 0, 0, .int (-6)), (46, .invokevirtual 221, 3, 183, 1, 1237, .null), (49, .ifCond .ne 6, 3, 55, 0, 0, .null), (52, .bipush (-5), 2, 0, 0, 0, .int (-5)), (54, .ireturn, 1, 0, 0, 0, .null), (55, .iload_n 1, 1, 1, 0, 0, .null), (56, .ifCond .ne 25, 3, 81, 0, 0, .null), (59, .iload_n 3, 1, 3, 0, 0, .null), (60, .ifCond .ne 12, 3, 72, 0, 0, .null), (63, .aload_n 0, 1, 0, 0, 0, .null), (64, .getfield 129, 3, 11, 45, 1014, .null), (67, .iload_n 2, 1, 2, 0, 0, .null), (68, .iaload, 1, 0, 0, 0, .null), (69, .goto 31, 3, 100, 0, 0, .null), (72, .aload_n 0, 1, 0, 0, 0, .null), (73, .getfield 132, 3, 11, 46, 1015, .null), (76, .iload_n 2, 1, 2, 0, 0, .null), (77, .iaload, 1, 0, 0, 0, .null), (78, .goto 22, 3, 100, 0, 0, .null), (81, .iload_n 3, 1, 3, 0, 0, .null), (82, .ifCond .ne 12, 3, 94, 0, 0, .null), (85, .aload_n 0, 1, 0, 0, 0, .null), (86, .getfield 123, 3, 11, 43, 1012, .null), (89, .iload_n 2, 1, 2, 0, 0, .null), (90, .iaload, 1, 0, 0, 0, .null), (91, .goto 9, 3, 100, 0, 0, .null), (94, .aload_n 0, 1, 0, 0, 0, .null), (95, .getfield 126, 3, 11, 44, 1013, .null), (98, .iload_n 2, 1, 2, 0, 0, .null), (99, .iaload, 1, 0, 0, 0, .null), (100, .ireturn, 1, 0, 0, 0, .null)]
def kc_186 : List (Nat × En) := [(0, .iconst 0, 1, 0, 0, 0, .int (0)), (1, .istore_n 2, 1, 2, 0, 0, .null), (2, .iload_n 1, 1, 1, 0, 0, .null), (3, .istore_n 3, 1, 3, 0, 0, .null), (4, .iload_n 3, 1, 3, 0, 0, .null), (5, .iload_n 1, 1, 1, 0, 0, .null), (6, .bipush 24, 2, 0, 0, 0, .int (24)), (8, .iadd, 1, 0, 0, 0, .null), (9, .if_icmp .ge 25, 3, 34, 0, 0, .null), (12, .iload_n 2, 1, 2, 0, 0, .null), (13, .aload_n 0, 1, 0, 0, 0, .null), (14, .getfield 126, 3, 11, 44, 1013, .null), (17, .iload_n 3, 1, 3, 0, 0, .null), (18, .iaload, 1, 0, 0, 0, .null), (19, .aload_n 0, 1, 0, 0, 0, .null), (20, .getfield 123, 3, 11, 43, 1012, .null), (23, .iload_n 3, 1, 3, 0, 0, .null), (24, .iaload, 1, 0, 0, 0, .null), (25, .isub, 1, 0, 0, 0, .null), (26, .iadd, 1, 0, 0, 0, .null), (27, .istore_n 2, 1, 2, 0, 0, .null), (28, .iinc 3 1, 3, 3, 0, 0, .int (1)), (31, .goto (-27), 3, 4, 0, 0, .null), (34, .iload_n 2, 1, 2, 0, 0, .null), (35, .ireturn, 1, 0, 0, 0, .null)]
def kc_187 : List (Nat × En) := [(0, .aload_n 0, 1, 0, 0, 0, .null), (1, .iload_n 1, 1, 1, 0, 0, .null), (2, .invokevirtual 196, 3, 140, 1, 1194, .null), (5, .ifCond .eq 11, 3, 16, 0, 0, .null), (8, .aload_n 0, 1, 0, 0, 0, .null), (9, .iload_n 1, 1, 1, 0, 0, .null), (10, .invokevirtual 278, 3, 176, 1, 1241, .null), (13, .ifCond .ne 5, 3, 18, 0, 0, .null), (16, .iconst (-1), 1, 0, 0, 0, .int (-1)), (17, .ireturn, 1, 0, 0, 0, .null), (18, .iload_n 1, 1, 1, 0, 0, .null), (19, .iload_n 1, 1, 1, 0, 0, .null), (20, .bipush 24, 2, 0, 0, 0, .int (24)), (22, .irem, 1, 0, 0, 0, .null), (23, .isub, 1, 0, 0, 0, .null), (24, .istore_n 2, 1, 2, 0, 0, .null), (25, .aload_n 0, 1, 0, 0, 0, .null), (26, .iload_n 1, 1, 1, 0, 0, .null), (27, .invokevirtual 221, 3, 183, 1, 1237, .null), (30, .ifCond .ne 6, 3, 36, 0, 0, .null), (33, .bipush (-5), 2, 0, 0, 0, .int (-5)), (35, .ireturn, 1, 0, 0, 0, .null), (36, .aload_n 0, 1, 0, 0, 0, .null), (37, .iload_n 2, 1, 2, 0, 0, .null), (38, .invokevirtual 293, 3, 186, 1, 1375, .null), (41, .istore_n 3, 1, 3, 0, 0, .null), (42, .aload_n 0, 1, 0, 0, 0, .null), (43, .bipush (-6), 2, 0, 0, 0, .int (-6)), (45, .invokevirtual 221, 3, 183, 1, 1237, .null), (48, .ifCond .eq 13, 3, 61, 0, 0, .null), (51, .iload_n 3, 1, 3, 0, 0, .null), (52, .aload_n 0, 1, 0, 0, 0, .null), (53, .iload_n 2, 1, 2, 0, 0, .null), (54, .invokevirtual 293, 3, 186, 1, 1375, .null), (57, .isub, 1, 0, 0, 0, .null), (58, .goto 5, 3, 63, 0, 0, .null), (61, .bipush (-5), 2, 0, 0, 0, .int (-5)), (63, .ireturn, 1, 0, 0, 0, .null)]
def kc_188 : List (Nat × En) := [(0, .iload_n 1, 1, 1, 0, 0, .null), (1, .invokestatic 275, 3, 125, 1, 1333, .null), (4, .ifCond .eq 16, 3, 20, 0, 0, .null), (7, .iload_n 2, 1, 2, 0, 0, .null), (8, .iconst (-1), 1, 0, 0, 0, .int (-1)), (9, .if_icmp .eq 13, 3, 22, 0, 0, .null), (12, .aload_n 0, 1, 0, 0, 0, .null), (13, .iload_n 2, 1, 2, 0, 0, .null), (14, .invokevirtual 257, 3, 164, 1, 1305, .null), (17, .ifCond .ne 5, 3, 22, 0, 0, .null), (20, .iconst (-1), 1, 0, 0, 0, .int (-1)), (21, .ireturn, 1, 0, 0, 0, .null), (22, .aload_n 0, 1, 0, 0, 0, .null), (23, .getfield 90, 3, 11, 30, 999, .null), (26, .iload_n 1, 1, 1, 0, 0, .null), (27, .iaload, 1, 0, 0, 0, .null), (28, .istore_n 3, 1, 3, 0, 0, .null), (29, .aload_n 0, 1, 0, 0, 0, .null), (30, .getfield 90, 3, 11, 30, 999, .null), (33, .iload_n 1, 1, 1, 0, 0, .null), (34, .iload_n 2, 1, 2, 0, 0, .null), (35, .ifCond .ge 8, 3, 43, 0, 0, .null), (38, .bipush (-6), 2, 0, 0, 0, .int (-6)), (40, .goto 4, 3, 44, 0, 0, .null), (43, .iload_n 2, 1, 2, 0, 0, .null), (44, .iastore, 1, 0, 0, 0, .null), (45, .iload_n 3, 1, 3, 0, 0, .null), (46, .ireturn, 1, 0, 0, 0, .null)]
def kc_189 : List (Nat × En) := [(0, .iload_n 1, 1, 1, 0, 0, .null), (1, .invokestatic 275, 3, 125, 1, 1333, .null), (4, .ifCond .ne 5, 3, 9, 0, 0, .null), (7, .iconst (-1), 1, 0, 0, 0, .int (-1)), (8, .ireturn, 1, 0, 0, 0, .null), (9, .iload_n 2, 1, 2, 0, 0, .null), (10, .invokestatic 172, 3, 126, 1, 1152, .null), (13, .ifCond .eq 20, 3, 33, 0, 0, .null), (16, .iload_n 3, 1, 3, 0, 0, .null), (17, .iconst 0, 1, 0, 0, 0, .int (0)), (18, .iconst 2, 1, 0, 0, 0, .int (2)), (19, .invokestatic 138, 3, 120, 3, 1121, .null), (22, .ifCond .eq 11, 3, 33, 0, 0, .null), (25, .iload 4, 2, 4, 0, 0, .null), (27, .invokestatic 164, 3, 121, 1, 1124, .null), (30, .ifCond .ne 6, 3, 36, 0, 0, .null), (33, .bipush (-2), 2, 0, 0, 0, .int (-2)), (35, .ireturn, 1, 0, 0, 0, .null), (36, .bipush 6, 2, 0, 0, 0, .int (6)), (38, .iload_n 1, 1, 1, 0, 0, .null), (39, .imul, 1, 0, 0, 0, .null), (40, .iconst 3, 1, 0, 0, 0, .int (3)), (41, .iload_n 2, 1, 2, 0, 0, .null), (42, .imul, 1, 0, 0, 0, .null), (43, .iadd, 1, 0, 0, 0, .null), (44, .iload_n 3, 1, 3, 0, 0, .null), (45, .iadd, 1, 0, 0, 0, .null), (46, .istore 5, 2, 5, 0, 0, .null), (48, .aload_n 0, 1, 0, 0, 0, .null), (49, .getfield 93, 3, 11, 31, 1000, .null), (52, .iload 5, 2, 5, 0, 0, .null), (54, .iaload, 1, 0, 0, 0, .null), (55, .istore 6, 2, 6, 0, 0, .null), (57, .aload_n 0, 1, 0, 0, 0, .null), (58, .getfield 93, 3, 11, 31, 1000, .null), (61, .iload 5, 2, 5, 0, 0, .null), (63, .iload 4, 2, 4, 0, 0, .null), (65, .iastore, 1, 0, 0, 0, .null), (66, .iload 6, 2, 6, 0, 0, .null), (68, .ireturn, 1, 0, 0, 0, .null)]
def kc_190 : List (Nat × En) := [(0, .iconst 0, 1, 0, 0, 0, .int (0)), (1, .istore_n 2, 1, 2, 0, 0, .null), (2, .iconst 0, 1, 0, 0, 0, .int (0)), (3, .istore_n 3, 1, 3, 0, 0, .null), (4, .iload_n 3, 1, 3, 0, 0, .null), (5, .iconst 2, 1, 0, 0, 0, .int (2)), (6, .if_icmp .ge 87, 3, 93, 0, 0, .null), (9, .iconst 0, 1, 0, 0, 0, .int (0)), (10, .istore 4, 2, 4, 0, 0, .null), (12, .iload 4, 2, 4, 0, 0, .null), (14, .iconst 3, 1, 0, 0, 0, .int (3)), (15, .if_icmp .ge 72, 3, 87, 0, 0, .null), (18, .aload_n 0, 1, 0, 0, 0, .null), (19, .getfield 93, 3, 11, 31, 1000, .null), (22, .bipush 6, 2, 0, 0, 0, .int (6)), (24, .aload_n 0, 1, 0, 0, 0, .null), (25, .getfield 80, 3, 11, 27, 996, .null), (28, .iload_n 1, 1, 1, 0, 0, .null), (29, .iaload, 1, 0, 0, 0, .null), (30, .imul, 1, 0, 0, 0, .null), (31, .iconst 3, 1, 0, 0, 0, .int (3)), (32, .iload_n 3, 1, 3, 0, 0, .null), (33, .imul, 1, 0, 0, 0, .null), (34, .iadd, 1, 0, 0, 0, .null), (35, .iload 4, 2, 4, 0, 0, .null), (37, .iadd, 1, 0, 0, 0, .null), (38, .iaload, 1, 0, 0, 0, .null), (39, .istore 5, 2, 5, 0, 0, .null), (41, .aload_n 0, 1, 0, 0, 0, .null), (42, .iload_n 1, 1, 1, 0, 0, .null), (43, .iload 4, 2, 4, 0, 0, .null), (45, .iconst 0, 1, 0, 0, 0, .int (0)), (46, .invokevirtual 199, 3, 142, 3, 1198, .null), (49, .aload_n 0, 1, 0, 0, 0, .null), (50, .iload_n 1, 1, 1, 0, 0, .null), (51, .iload 4, 2, 4, 0, 0, .null), (53, .iconst 1, 1, 0, 0, 0, .int (1)), (54, .invokevirtual 199, 3, 142, 3, 1198, .null), (57, .iload 5, 2, 5, 0, 0, .null), (59, .iload 5, 2, 5, 0, 0, .null), (61, .invokestatic 215, 3, 150, 4, 1234, .null), (64, .istore 6, 2, 6, 0, 0, .null), (66, .iload_n 2, 1, 2, 0, 0, .null), (67, .iload_n 3, 1, 3, 0, 0, .null), (68, .ifCond .ne 8, 3, 76, 0, 0, .null), (71, .iload 6, 2, 6, 0, 0, .null), (73, .goto 6, 3, 79, 0, 0, .null), (76, .iload 6, 2, 6, 0, 0, .null), (78, .ineg, 1, 0, 0, 0, .null), (79, .iadd, 1, 0, 0, 0, .null), (80, .istore_n 2, 1, 2, 0, 0, .null), (81, .iinc 4 1, 3, 4, 0, 0, .int (1)), (84, .goto (-72), 3, 12, 0, 0, .null), (87, .iinc 3 1, 3, 3, 0, 0, .int (1)), (90, .goto (-86), 3, 4, 0, 0, .null), (93, .iload_n 2, 1, 2, 0, 0, .null), (94, .ifCond .ge 7, 3, 101, 0, 0, .null), (97, .iconst 0, 1, 0, 0, 0, .int (0)), (98, .goto 12, 3, 110, 0, 0, .null), (101, .iload_n 2, 1, 2, 0, 0, .null), (102, .ifCond .le 7, 3, 109, 0, 0, .null), (105, .iconst 1, 1, 0, 0, 0, .int (1)), (106, .goto 4, 3, 110, 0, 0, .null), (109, .iconst 2, 1, 0, 0, 0, .int (2)), (110, .ireturn, 1, 0, 0, 0, .null)]
def kc_191 : List (Nat × En) := [(0, .aload_n 0, 1, 0, 0, 0, .null), (1, .iload_n 1, 1, 1, 0, 0, .null), (2, .invokevirtual 196, 3, 140, 1, 1194, .null), (5, .ifCond .eq 16, 3, 21, 0, 0, .null), (8, .aload_n 0, 1, 0, 0, 0, .null), (9, .getfield 80, 3, 11, 27, 996, .null), (12, .iload_n 1, 1, 1, 0, 0, .null), (13, .iaload, 1, 0, 0, 0, .null), (14, .ifCond .lt 7, 3, 21, 0, 0, .null), (17, .iconst 1, 1, 0, 0, 0, .int (1)), (18, .goto 4, 3, 22, 0, 0, .null), (21, .iconst 0, 1, 0, 0, 0, .int (0)), (22, .ireturn, 1, 0, 0, 0, .int 1)]
def kc_192 : List (Nat × En) := [(0, .aload_n 0, 1, 0, 0, 0, .null), (1, .iload_n 1, 1, 1, 0, 0, .null), (2, .invokevirtual 296, 3, 191, 1, 1391, .null), (5, .ifCond .eq 11, 3, 16, 0, 0, .null), (8, .aload_n 0, 1, 0, 0, 0, .null), (9, .iload_n 1, 1, 1, 0, 0, .null), (10, .invokevirtual 299, 3, 190, 1, 1395, .null), (13, .goto 4, 3, 17, 0, 0, .null), (16, .iconst (-1), 1, 0, 0, 0, .int (-1)), (17, .ireturn, 1, 0, 0, 0, .null)]
def kc_193 : List (Nat × En) := [(0, .aload_n 0, 1, 0, 0, 0, .null), (1, .getfield 62, 3, 11, 21, 990, .null), (4, .iload_n 2, 1, 2, 0, 0, .null), (5, .iaload, 1, 0, 0, 0, .null), (6, .aload_n 0, 1, 0, 0, 0, .null), (7, .getfield 56, 3, 11, 19, 988, .null), (10, .iload_n 1, 1, 1, 0, 0, .null), (11, .iaload, 1, 0, 0, 0, .null), (12, .isub, 1, 0, 0, 0, .null), (13, .istore_n 3, 1, 3, 0, 0, .null), (14, .aload_n 0, 1, 0, 0, 0, .null), (15, .getfield 65, 3, 11, 22, 991, .null), (18, .iload_n 2, 1, 2, 0, 0, .null), (19, .iaload, 1, 0, 0, 0, .null), (20, .aload_n 0, 1, 0, 0, 0, .null), (21, .getfield 59, 3, 11, 20, 989, .null), (24, .iload_n 1, 1, 1, 0, 0, .null), (25, .iaload, 1, 0, 0, 0, .null), (26, .isub, 1, 0, 0, 0, .null), (27, .istore 4, 2, 4, 0, 0, .null), (29, .iload_n 3, 1, 3, 0, 0, .null), (30, .ifCond .ne 11, 3, 41, 0, 0, .null), (33, .iload 4, 2, 4, 0, 0, .null), (35, .ifCond .ne 6, 3, 41, 0, 0, .null), (38, .bipush (-6), 2, 0, 0, 0, .int (-6)), (40, .ireturn, 1, 0, 0, 0, .null), (41, .iload_n 3, 1, 3, 0, 0, .null), (42, .invokestatic 254, 3, 167, 1, 1313, .null), (45, .iconst 2, 1, 0, 0, 0, .int (2)), (46, .iload 4, 2, 4, 0, 0, .null), (48, .invokestatic 254, 3, 167, 1, 1313, .null), (51, .imul, 1, 0, 0, 0, .null), (52, .if_icmp .le 14, 3, 66, 0, 0, .null), (55, .iload_n 3, 1, 3, 0, 0, .null), (56, .ifCond .le 7, 3, 63, 0, 0, .null), (59, .iconst 2, 1, 0, 0, 0, .int (2)), (60, .goto 5, 3, 65, 0, 0, .null), (63, .bipush 6, 2, 0, 0, 0, .int (6)), (65, .ireturn, 1, 0, 0, 0, .null), (66, .iload 4, 2, 4, 0, 0, .null), (68, .invokestatic 254, 3, 167, 1, 1313, .null), (71, .iconst 2, 1, 0, 0, 0, .int (2)), (72, .iload_n 3, 1, 3, 0, 0, .null), (73, .invokestatic 254, 3, 167, 1, 1313, .null), (76, .imul, 1, 0, 0, 0, .null), (77, .if_icmp .le 14, 3, 91, 0, 0, .null), (80, .iload 4, 2, 4, 0, 0, .null), (82, .ifCond .le 7, 3, 89, 0, 0, .null), (85, .iconst 4, 1, 0, 0, 0, .int (4)), (86, .goto 4, 3, 90, 0, 0, .null), (89, .iconst 0, 1, 0, 0, 0, .int (0)), (90, .ireturn, 1, 0, 0, 0, .null), (91, .iload_n 3, 1, 3, 0, 0, .null), (92, .ifCond .le 16, 3, 108, 0, 0, .null), (95, .iload 4, 2, 4, 0, 0, .null), (97, .ifCond .le 7, 3, 104, 0, 0, .null), (100, .iconst 3, 1, 0, 0, 0, .int (3)), (101, .goto 18, 3, 119, 0, 0, .null), (104, .iconst 1, 1, 0, 0, 0, .int (1)), (105, .goto 14, 3, 119, 0, 0, .null), (108, .iload 4, 2, 4, 0, 0, .null), (110, .ifCond .le 7, 3, 117, 0, 0, .null), (113, .iconst 5, 1, 0, 0, 0, .int (5)), (114, .goto 5, 3, 119, 0, 0, .null), (117, .bipush 7, 2, 0, 0, 0, .int (7)), (119, .ireturn, 1, 0, 0, 0, .null)]
def kc_194 : List (Nat × En) := [(0, .aload_n 0, 1, 0, 0, 0, .null), (1, .iload_n 1, 1, 1, 0, 0, .null), (2, .invokevirtual 257, 3, 164, 1, 1305, .null), (5, .ifCond .eq 19, 3, 24, 0, 0, .null), (8, .iload_n 2, 1, 2, 0, 0, .null), (9, .invokestatic 176, 3, 123, 1, 1164, .null), (12, .ifCond .eq 12, 3, 24, 0, 0, .null), (15, .aload_n 0, 1, 0, 0, 0, .null), (16, .iload_n 1, 1, 1, 0, 0, .null), (17, .iload_n 2, 1, 2, 0, 0, .null), (18, .invokevirtual 302, 3, 193, 2, 1403, .null), (21, .goto 4, 3, 25, 0, 0, .null), (24, .iconst (-1), 1, 0, 0, 0, .int (-1)), (25, .ireturn, 1, 0, 0, 0, .null)]
def kc_195 : List (Nat × En) := [(0, .iload_n 1, 1, 1, 0, 0, .null), (1, .invokestatic 275, 3, 125, 1, 1333, .null), (4, .ifCond .ne 5, 3, 9, 0, 0, .null), (7, .iconst (-1), 1, 0, 0, 0, .int (-1)), (8, .ireturn, 1, 0, 0, 0, .null), (9, .iload_n 2, 1, 2, 0, 0, .null), (10, .invokestatic 172, 3, 126, 1, 1152, .null), (13, .ifCond .ne 6, 3, 19, 0, 0, .null), (16, .bipush (-2), 2, 0, 0, 0, .int (-2)), (18, .ireturn, 1, 0, 0, 0, .null), (19, .aload_n 0, 1, 0, 0, 0, .null), (20, .getfield 90, 3, 11, 30, 999, .null), (23, .iload_n 1, 1, 1, 0, 0, .null), (24, .iaload, 1, 0, 0, 0, .null), (25, .ifCond .ge 6, 3, 31, 0, 0, .null), (28, .bipush (-3), 2, 0, 0, 0, .int (-3)), (30, .ireturn, 1, 0, 0, 0, .null), (31, .iconst 0, 1, 0, 0, 0, .int (0)), (32, .istore_n 3, 1, 3, 0, 0, .null), (33, .iconst 0, 1, 0, 0, 0, .int (0)), (34, .istore 4, 2, 4, 0, 0, .null), (36, .iload 4, 2, 4, 0, 0, .null), (38, .sipush 144, 3, 0, 0, 0, .int (144)), (41, .if_icmp .ge 74, 3, 115, 0, 0, .null), (44, .aload_n 0, 1, 0, 0, 0, .null), (45, .iload 4, 2, 4, 0, 0, .null), (47, .invokevirtual 296, 3, 191, 1, 1391, .null), (50, .ifCond .eq 59, 3, 109, 0, 0, .null), (53, .aload_n 0, 1, 0, 0, 0, .null), (54, .getfield 80, 3, 11, 27, 996, .null), (57, .iload 4, 2, 4, 0, 0, .null), (59, .iaload, 1, 0, 0, 0, .null), (60, .iload_n 1, 1, 1, 0, 0, .null), (61, .if_icmp .ne 48, 3, 109, 0, 0, .null), (64, .aload_n 0, 1, 0, 0, 0, .null), (65, .iload 4, 2, 4, 0, 0, .null), (67, .invokevirtual 299, 3, 190, 1, 1395, .null), (70, .iconst 1, 1, 0, 0, 0, .int (1)), (71, .iload_n 2, 1, 2, 0, 0, .null), (72, .isub, 1, 0, 0, 0, .null), (73, .if_icmp .eq 36, 3, 109, 0, 0, .null), (76, .aload_n 0, 1, 0, 0, 0, .null), (77, .aload_n 0, 1, 0, 0, 0, .null), (78, .getfield 90, 3, 11, 30, 999, .null), (81, .iload_n 1, 1, 1, 0, 0, .null), (82, .iaload, 1, 0, 0, 0, .null), (83, .iload 4, 2, 4, 0, 0, .null), (85, .bipush 24, 2, 0, 0, 0, .int (24)), (87, .idiv, 1, 0, 0, 0, .null), (88, .invokevirtual 302, 3, 193, 2, 1403, .null), (91, .istore 5, 2, 5, 0, 0, .null), (93, .iload_n 3, 1, 3, 0, 0, .null), (94, .iload 5, 2, 5, 0, 0, .null), (96, .ifCond .ge 7, 3, 103, 0, 0, .null), (99, .iconst 0, 1, 0, 0, 0, .int (0)), (100, .goto 7, 3, 107, 0, 0, .null), (103, .iconst 1, 1, 0, 0, 0, .int (1)), (104, .iload 5, 2, 5, 0, 0, .null), (106, .ishl, 1, 0, 0, 0, .null), (107, .ior, 1, 0, 0, 0, .null), (108, .istore_n 3, 1, 3, 0, 0, .null), (109, .iinc 4 1, 3, 4, 0, 0, .int (1)), (112, .goto (-76), 3, 36, 0, 0, .null), (115, .iload_n 3, 1, 3, 0, 0, .null), (116, .ireturn, 1, 0, 0, 0, .null)]
def kc_196 : List (Nat × En) := [(0, .aload_n 0, 1, 0, 0, 0, .null), (1, .iload_n 1, 1, 1, 0, 0, .null), (2, .invokevirtual 196, 3, 140, 1, 1194, .null), (5, .ifCond .eq 13, 3, 18, 0, 0, .null), (8, .iload_n 2, 1, 2, 0, 0, .null), (9, .iconst (-1), 1, 0, 0, 0, .int (-1)), (10, .bipush 7, 2, 0, 0, 0, .int (7)), (12, .invokestatic 138, 3, 120, 3, 1121, .null), (15, .ifCond .ne 5, 3, 20, 0, 0, .null), (18, .iconst (-1), 1, 0, 0, 0, .int (-1)), (19, .ireturn, 1, 0, 0, 0, .null), (20, .aload_n 0, 1, 0, 0, 0, .null), (21, .getfield 87, 3, 11, 29, 998, .null), (24, .iload_n 1, 1, 1, 0, 0, .null), (25, .iaload, 1, 0, 0, 0, .null), (26, .istore_n 3, 1, 3, 0, 0, .null), (27, .aload_n 0, 1, 0, 0, 0, .null), (28, .getfield 87, 3, 11, 29, 998, .null), (31, .iload_n 1, 1, 1, 0, 0, .null), (32, .iload_n 2, 1, 2, 0, 0, .null), (33, .ifCond .ge 8, 3, 41, 0, 0, .null), (36, .bipush (-6), 2, 0, 0, 0, .int (-6)), (38, .goto 4, 3, 42, 0, 0, .null), (41, .iload_n 2, 1, 2, 0, 0, .null), (42, .iastore, 1, 0, 0, 0, .null), (43, .iload_n 3, 1, 3, 0, 0, .null), (44, .ireturn, 1, 0, 0, 0, .null)]
def kc_197 : List (Nat × En) := [(0, .iconst 0, 1, 0, 0, 0, .int (0)), (1, .istore_n 1, 1, 1, 0, 0, .null), (2, .iconst 0, 1, 0, 0, 0, .int (0)), (3, .istore_n 2, 1, 2, 0, 0, .null), (4, .iload_n 2, 1, 2, 0, 0, .null), (5, .sipush 144, 3, 0, 0, 0, .int (144)), (8, .if_icmp .ge 106, 3, 114, 0, 0, .null), (11, .iconst 0, 1, 0, 0, 0, .int (0)), (12, .istore_n 3, 1, 3, 0, 0, .null), (13, .iload_n 3, 1, 3, 0, 0, .null), (14, .iload_n 2, 1, 2, 0, 0, .null), (15, .if_icmp .ge 93, 3, 108, 0, 0, .null), (18, .aload_n 0, 1, 0, 0, 0, .null), (19, .getfield 87, 3, 11, 29, 998, .null), (22, .iload_n 2, 1, 2, 0, 0, .null), (23, .iaload, 1, 0, 0, 0, .null), (24, .ifCond .lt 40, 3, 64, 0, 0, .null), (27, .aload_n 0, 1, 0, 0, 0, .null), (28, .getfield 87, 3, 11, 29, 998, .null), (31, .iload_n 2, 1, 2, 0, 0, .null), (32, .iaload, 1, 0, 0, 0, .null), (33, .aload_n 0, 1, 0, 0, 0, .null), (34, .getfield 87, 3, 11, 29, 998, .null), (37, .iload_n 3, 1, 3, 0, 0, .null), (38, .iaload, 1, 0, 0, 0, .null), (39, .if_icmp .ne 25, 3, 64, 0, 0, .null), (42, .aload_n 0, 1, 0, 0, 0, .null), (43, .getfield 80, 3, 11, 27, 996, .null), (46, .iload_n 2, 1, 2, 0, 0, .null), (47, .iaload, 1, 0, 0, 0, .null), (48, .ifCond .lt 16, 3, 64, 0, 0, .null), (51, .aload_n 0, 1, 0, 0, 0, .null), (52, .getfield 80, 3, 11, 27, 996, .null), (55, .iload_n 3, 1, 3, 0, 0, .null), (56, .iaload, 1, 0, 0, 0, .null), (57, .ifCond .lt 7, 3, 64, 0, 0, .null), (60, .iconst 1, 1, 0, 0, 0, .int (1)), (61, .goto 4, 3, 65, 0, 0, .null), (64, .iconst 0, 1, 0, 0, 0, .int (0)), (65, .istore 4, 2, 4, 0, 0, .null), (67, .iload_n 1, 1, 1, 0, 0, .null), (68, .iload 4, 2, 4, 0, 0, .null), (70, .ifCond .eq 29, 3, 99, 0, 0, .null), (73, .aload_n 0, 1, 0, 0, 0, .null), (74, .getfield 80, 3, 11, 27, 996, .null), (77, .iload_n 2, 1, 2, 0, 0, .null), (78, .iaload, 1, 0, 0, 0, .null), (79, .aload_n 0, 1, 0, 0, 0, .null), (80, .getfield 80, 3, 11, 27, 996, .null), (83, .iload_n 3, 1, 3, 0, 0, .null), (84, .iaload, 1, 0, 0, 0, .null), (85, .if_icmp .eq 14, 3, 99, 0, 0, .null), (88, .iconst 1, 1, 0, 0, 0, .int (1)), (89, .aload_n 0, 1, 0, 0, 0, .null), (90, .getfield 87, 3, 11, 29, 998, .null), (93, .iload_n 2, 1, 2, 0, 0, .null), (94, .iaload, 1, 0, 0, 0, .null), (95, .ishl, 1, 0, 0, 0, .null), (96, .goto 4, 3, 100, 0, 0, .null), (99, .iconst 0, 1, 0, 0, 0, .int (0)), (100, .ior, 1, 0, 0, 0, .null), (101, .istore_n 1, 1, 1, 0, 0, .null), (102, .iinc 3 1, 3, 3, 0, 0, .int (1)), (105, .goto (-92), 3, 13, 0, 0, .null), (108, .iinc 2 1, 3, 2, 0, 0, .int (1)), (111, .goto (-107), 3, 4, 0, 0, .null), (114, .iload_n 1, 1, 1, 0, 0, .null), (115, .ireturn, 1, 0, 0, 0, .null)]
def kc_198 : List (Nat × En) := [(0, .iload_n 1, 1, 1, 0, 0, .null), (1, .invokestatic 275, 3, 125, 1, 1333, .null), (4, .ifCond .ne 5, 3, 9, 0, 0, .null), (7, .iconst (-1), 1, 0, 0, 0, .int (-1)), (8, .ireturn, 1, 0, 0, 0, .null), (9, .iconst 0, 1, 0, 0, 0, .int (0)), (10, .istore_n 2, 1, 2, 0, 0, .null), (11, .iconst 0, 1, 0, 0, 0, .int (0)), (12, .istore_n 3, 1, 3, 0, 0, .null), (13, .iload_n 3, 1, 3, 0, 0, .null), (14, .sipush 144, 3, 0, 0, 0, .int (144)), (17, .if_icmp .ge 43, 3, 60, 0, 0, .null), (20, .iload_n 2, 1, 2, 0, 0, .null), (21, .aload_n 0, 1, 0, 0, 0, .null), (22, .getfield 80, 3, 11, 27, 996, .null), (25, .iload_n 3, 1, 3, 0, 0, .null), (26, .iaload, 1, 0, 0, 0, .null), (27, .iload_n 1, 1, 1, 0, 0, .null), (28, .if_icmp .ne 23, 3, 51, 0, 0, .null), (31, .aload_n 0, 1, 0, 0, 0, .null), (32, .getfield 87, 3, 11, 29, 998, .null), (35, .iload_n 3, 1, 3, 0, 0, .null), (36, .iaload, 1, 0, 0, 0, .null), (37, .ifCond .lt 14, 3, 51, 0, 0, .null), (40, .iconst 1, 1, 0, 0, 0, .int (1)), (41, .aload_n 0, 1, 0, 0, 0, .null), (42, .getfield 87, 3, 11, 29, 998, .null), (45, .iload_n 3, 1, 3, 0, 0, .null), (46, .iaload, 1, 0, 0, 0, .null), (47, .ishl, 1, 0, 0, 0, .null), (48, .goto 4, 3, 52, 0, 0, .null), (51, .iconst 0, 1, 0, 0, 0, .int (0)), (52, .ior, 1, 0, 0, 0, .null), (53, .istore_n 2, 1, 2, 0, 0, .null), (54, .iinc 3 1, 3, 3, 0, 0, .int (1)), (57, .goto (-44), 3, 13, 0, 0, .null), (60, .iload_n 2, 1, 2, 0, 0, .null), (61, .invokestatic 287, 3, 181, 1, 1364, .null), (64, .ireturn, 1, 0, 0, 0, .null)]
def kc_199 : List (Nat × En) := [(0, .iconst 0, 1, 0, 0, 0, .int (0)), (1, .istore_n 3, 1, 3, 0, 0, .null), (2, .iload_n 3, 1, 3, 0, 0, .null), (3, .sipush 144, 3, 0, 0, 0, .int (144)), (6, .if_icmp .ge 25, 3, 31, 0, 0, .null), (9, .aload_n 0, 1, 0, 0, 0, .null), (10, .getfield 135, 3, 11, 47, 1016, .null), (13, .iload_n 3, 1, 3, 0, 0, .null), (14, .iload_n 3, 1, 3, 0, 0, .null), (15, .iload_n 1, 1, 1, 0, 0, .null), (16, .if_icmp .ne 7, 3, 23, 0, 0, .null), (19, .iconst 1, 1, 0, 0, 0, .int (1)), (20, .goto 4, 3, 24, 0, 0, .null), (23, .iconst 0, 1, 0, 0, 0, .int (0)), (24, .iastore, 1, 0, 0, 0, .null), (25, .iinc 3 1, 3, 3, 0, 0, .int (1)), (28, .goto (-26), 3, 2, 0, 0, .null), (31, .aload_n 0, 1, 0, 0, 0, .null), (32, .getfield 83, 3, 11, 28, 997, .null), (35, .iload_n 1, 1, 1, 0, 0, .null), (36, .baload, 1, 0, 0, 0, .null), (37, .ifCond .ne 7, 3, 44, 0, 0, .null), (40, .iconst 1, 1, 0, 0, 0, .int (1)), (41, .goto 4, 3, 45, 0, 0, .null), (44, .iconst 0, 1, 0, 0, 0, .int (0)), (45, .istore_n 3, 1, 3, 0, 0, .null), (46, .iload_n 3, 1, 3, 0, 0, .null), (47, .ifCond .eq 188, 3, 235, 0, 0, .null), (50, .iconst 0, 1, 0, 0, 0, .int (0)), (51, .istore_n 3, 1, 3, 0, 0, .null), (52, .iconst 0, 1, 0, 0, 0, .int (0)), (53, .istore 4, 2, 4, 0, 0, .null), (55, .iload 4, 2, 4, 0, 0, .null), (57, .sipush 144, 3, 0, 0, 0, .int (144)), (60, .if_icmp .ge 172, 3, 232, 0, 0, .null), (63, .iconst 0, 1, 0, 0, 0, .int (0)), (64, .istore 5, 2, 5, 0, 0, .null), (66, .iload 5, 2, 5, 0, 0, .null), (68, .sipush 144, 3, 0, 0, 0, .int (144)), (71, .if_icmp .ge 155, 3, 226, 0, 0, .null), (74, .aload_n 0, 1, 0, 0, 0, .null), (75, .getfield 135, 3, 11, 47, 1016, .null), (78, .iload 4, 2, 4, 0, 0, .null), (80, .iaload, 1, 0, 0, 0, .null), (81, .ifCond .le 145, 3, 226, 0, 0, .null), (84, .iload 5, 2, 5, 0, 0, .null), (86, .bipush 24, 2, 0, 0, 0, .int (24)), (88, .idiv, 1, 0, 0, 0, .null), (89, .iload 4, 2, 4, 0, 0, .null), (91, .bipush 24, 2, 0, 0, 0, .int (24)), (93, .idiv, 1, 0, 0, 0, .null), (94, .if_icmp .ne 24, 3, 118, 0, 0, .null), (97, .iload 5, 2, 5, 0, 0, .null), (99, .iload 4, 2, 4, 0, 0, .null), (101, .if_icmp .ge 17, 3, 118, 0, 0, .null), (104, .aload_n 0, 1, 0, 0, 0, .null), (105, .getfield 83, 3, 11, 28, 997, .null), (108, .iload 5, 2, 5, 0, 0, .null), (110, .baload, 1, 0, 0, 0, .null), (111, .ifCond .ne 7, 3, 118, 0, 0, .null), (114, .iconst 1, 1, 0, 0, 0, .int (1)), (115, .goto 4, 3, 119, 0, 0, .null), (118, .iconst 0, 1, 0, 0, 0, .int (0)), (119, .istore 6, 2, 6, 0, 0, .null), (121, .iload 5, 2, 5, 0, 0, .null), (123, .iload 4, 2, 4, 0, 0, .null), (125, .if_icmp .eq 42, 3, 167, 0, 0, .null), (128, .aload_n 0, 1, 0, 0, 0, .null), (129, .iload 4, 2, 4, 0, 0, .null), (131, .invokevirtual 278, 3, 176, 1, 1241, .null), (134, .ifCond .eq 33, 3, 167, 0, 0, .null), (137, .aload_n 0, 1, 0, 0, 0, .null), (138, .iload 5, 2, 5, 0, 0, .null), (140, .invokevirtual 278, 3, 176, 1, 1241, .null), (143, .ifCond .eq 24, 3, 167, 0, 0, .null), (146, .aload_n 0, 1, 0, 0, 0, .null), (147, .getfield 80, 3, 11, 27, 996, .null), (150, .iload 4, 2, 4, 0, 0, .null), (152, .iaload, 1, 0, 0, 0, .null), (153, .aload_n 0, 1, 0, 0, 0, .null), (154, .getfield 80, 3, 11, 27, 996, .null), (157, .iload 5, 2, 5, 0, 0, .null), (159, .iaload, 1, 0, 0, 0, .null), (160, .if_icmp .ne 7, 3, 167, 0, 0, .null), (163, .iconst 1, 1, 0, 0, 0, .int (1)), (164, .goto 4, 3, 168, 0, 0, .null), (167, .iconst 0, 1, 0, 0, 0, .int (0)), (168, .istore 7, 2, 7, 0, 0, .null), (170, .iload 6, 2, 6, 0, 0, .null), (172, .ifCond .eq 7, 3, 179, 0, 0, .null), (175, .iconst 2, 1, 0, 0, 0, .int (2)), (176, .goto 19, 3, 195, 0, 0, .null), (179, .iload 7, 2, 7, 0, 0, .null), (181, .ifCond .eq 13, 3, 194, 0, 0, .null), (184, .aload_n 0, 1, 0, 0, 0, .null), (185, .getfield 135, 3, 11, 47, 1016, .null), (188, .iload 4, 2, 4, 0, 0, .null), (190, .iaload, 1, 0, 0, 0, .null), (191, .goto 4, 3, 195, 0, 0, .null), (194, .iconst 0, 1, 0, 0, 0, .int (0)), (195, .istore 8, 2, 8, 0, 0, .null), (197, .iload 8, 2, 8, 0, 0, .null), (199, .aload_n 0, 1, 0, 0, 0, .null), (200, .getfield 135, 3, 11, 47, 1016, .null), (203, .iload 5, 2, 5, 0, 0, .null), (205, .iaload, 1, 0, 0, 0, .null), (206, .if_icmp .le 14, 3, 220, 0, 0, .null), (209, .aload_n 0, 1, 0, 0, 0, .null), (210, .getfield 135, 3, 11, 47, 1016, .null), (213, .iload 5, 2, 5, 0, 0, .null), (215, .iload 8, 2, 8, 0, 0, .null), (217, .iastore, 1, 0, 0, 0, .null), (218, .iconst 1, 1, 0, 0, 0, .int (1)), (219, .istore_n 3, 1, 3, 0, 0, .null), (220, .iinc 5 1, 3, 5, 0, 0, .int (1)), (223, .goto (-157), 3, 66, 0, 0, .null), (226, .iinc 4 1, 3, 4, 0, 0, .int (1)), (229, .goto (-174), 3, 55, 0, 0, .null), (232, .goto (-186), 3, 46, 0, 0, .null), (235, .aload_n 0, 1, 0, 0, 0, .null), (236, .getfield 135, 3, 11, 47, 1016, .null), (239, .iload_n 2, 1, 2, 0, 0, .null), (240, .iaload, 1, 0, 0, 0, .null), (241, .iconst 2, 1, 0, 0, 0, .int (2)), (242, .if_icmp .ne 7, 3, 249, 0, 0, .null), (245, .iconst 1, 1, 0, 0, 0, .int (1)), (246, .goto 4, 3, 250, 0, 0, .null), (249, .iconst 0, 1, 0, 0, 0, .int (0)), (250, .ireturn, 1, 0, 0, 0, .int 1)]
def kc_200 : List (Nat × En) := [(0, .iload_n 1, 1, 1, 0, 0, .null), (1, .invokestatic 189, 3, 124, 1, 1183, .null), (4, .ifCond .eq 15, 3, 19, 0, 0, .null), (7, .iload_n 2, 1, 2, 0, 0, .null), (8, .invokestatic 189, 3, 124, 1, 1183, .null), (11, .ifCond .eq 8, 3, 19, 0, 0, .null), (14, .iload_n 1, 1, 1, 0, 0, .null), (15, .iload_n 2, 1, 2, 0, 0, .null), (16, .if_icmp .ne 5, 3, 21, 0, 0, .null), (19, .iconst (-1), 1, 0, 0, 0, .int (-1)), (20, .ireturn, 1, 0, 0, 0, .null), (21, .aload_n 0, 1, 0, 0, 0, .null), (22, .bipush (-6), 2, 0, 0, 0, .int (-6)), (24, .invokevirtual 221, 3, 183, 1, 1237, .null), (27, .ifCond .eq 10, 3, 37, 0, 0, .null), (30, .aload_n 0, 1, 0, 0, 0, .null), (31, .invokevirtual 305, 3, 180, 0, 1427, .null), (34, .ifCond .eq 6, 3, 40, 0, 0, .null), (37, .bipush (-5), 2, 0, 0, 0, .int (-5)), (39, .ireturn, 1, 0, 0, 0, .null), (40, .aload_n 0, 1, 0, 0, 0, .null), (41, .iload_n 1, 1, 1, 0, 0, .null), (42, .iload_n 2, 1, 2, 0, 0, .null), (43, .invokevirtual 308, 3, 199, 2, 1428, .null), (46, .ifCond .ne 18, 3, 64, 0, 0, .null), (49, .aload_n 0, 1, 0, 0, 0, .null), (50, .getfield 123, 3, 11, 43, 1012, .null), (53, .iload_n 1, 1, 1, 0, 0, .null), (54, .iaload, 1, 0, 0, 0, .null), (55, .aload_n 0, 1, 0, 0, 0, .null), (56, .getfield 126, 3, 11, 44, 1013, .null), (59, .iload_n 2, 1, 2, 0, 0, .null), (60, .iaload, 1, 0, 0, 0, .null), (61, .if_icmp .le 7, 3, 68, 0, 0, .null), (64, .iconst 1, 1, 0, 0, 0, .int (1)), (65, .goto 4, 3, 69, 0, 0, .null), (68, .iconst 0, 1, 0, 0, 0, .int (0)), (69, .istore_n 3, 1, 3, 0, 0, .null), (70, .aload_n 0, 1, 0, 0, 0, .null), (71, .iload_n 2, 1, 2, 0, 0, .null), (72, .iload_n 1, 1, 1, 0, 0, .null), (73, .invokevirtual 308, 3, 199, 2, 1428, .null), (76, .ifCond .ne 18, 3, 94, 0, 0, .null), (79, .aload_n 0, 1, 0, 0, 0, .null), (80, .getfield 123, 3, 11, 43, 1012, .null), (83, .iload_n 2, 1, 2, 0, 0, .null), (84, .iaload, 1, 0, 0, 0, .null), (85, .aload_n 0, 1, 0, 0, 0, .null), (86, .getfield 126, 3, 11, 44, 1013, .null), (89, .iload_n 1, 1, 1, 0, 0, .null), (90, .iaload, 1, 0, 0, 0, .null), (91, .if_icmp .le 7, 3, 98, 0, 0, .null), (94, .iconst 1, 1, 0, 0, 0, .int (1)), (95, .goto 4, 3, 99, 0, 0, .null), (98, .iconst 0, 1, 0, 0, 0, .int (0)), (99, .istore 4, 2, 4, 0, 0, .null), (101, .iload_n 3, 1, 3, 0, 0, .null), (102, .ifCond .eq 7, 3, 109, 0, 0, .null), (105, .iconst 1, 1, 0, 0, 0, .int (1)), (106, .goto 4, 3, 110, 0, 0, .null), (109, .iconst 0, 1, 0, 0, 0, .int (0)), (110, .iload 4, 2, 4, 0, 0, .null), (112, .ifCond .eq 7, 3, 119, 0, 0, .null), (115, .iconst 2, 1, 0, 0, 0, .int (2)), (116, .goto 4, 3, 120, 0, 0, .null), (119, .iconst 0, 1, 0, 0, 0, .int (0)), (120, .iadd, 1, 0, 0, 0, .null), (121, .ireturn, 1, 0, 0, 0, .null)]
def kc_201 : List (Nat × En) := [(0, .iconst 1, 1, 0, 0, 0, .int (1)), (1, .istore_n 3, 1, 3, 0, 0, .null), (2, .iconst 0, 1, 0, 0, 0, .int (0)), (3, .istore 4, 2, 4, 0, 0, .null), (5, .iload 4, 2, 4, 0, 0, .null), (7, .iconst 3, 1, 0, 0, 0, .int (3)), (8, .if_icmp .ge 57, 3, 65, 0, 0, .null), (11, .iload_n 3, 1, 3, 0, 0, .null), (12, .ifCond .eq 45, 3, 57, 0, 0, .null), (15, .aload_n 0, 1, 0, 0, 0, .null), (16, .iload_n 1, 1, 1, 0, 0, .null), (17, .iload 4, 2, 4, 0, 0, .null), (19, .iconst 0, 1, 0, 0, 0, .int (0)), (20, .invokevirtual 199, 3, 142, 3, 1198, .null), (23, .aload_n 0, 1, 0, 0, 0, .null), (24, .iload_n 2, 1, 2, 0, 0, .null), (25, .iload 4, 2, 4, 0, 0, .null), (27, .iconst 0, 1, 0, 0, 0, .int (0)), (28, .invokevirtual 199, 3, 142, 3, 1198, .null), (31, .if_icmp .gt 26, 3, 57, 0, 0, .null), (34, .aload_n 0, 1, 0, 0, 0, .null), (35, .iload_n 1, 1, 1, 0, 0, .null), (36, .iload 4, 2, 4, 0, 0, .null), (38, .iconst 1, 1, 0, 0, 0, .int (1)), (39, .invokevirtual 199, 3, 142, 3, 1198, .null), (42, .aload_n 0, 1, 0, 0, 0, .null), (43, .iload_n 2, 1, 2, 0, 0, .null), (44, .iload 4, 2, 4, 0, 0, .null), (46, .iconst 1, 1, 0, 0, 0, .int (1)), (47, .invokevirtual 199, 3, 142, 3, 1198, .null), (50, .if_icmp .lt 7, 3, 57, 0, 0, .null), (53, .iconst 1, 1, 0, 0, 0, .int (1)), (54, .goto 4, 3, 58, 0, 0, .null), (57, .iconst 0, 1, 0, 0, 0, .int (0)), (58, .istore_n 3, 1, 3, 0, 0, .null), (59, .iinc 4 1, 3, 4, 0, 0, .int (1)), (62, .goto (-57), 3, 5, 0, 0, .null), (65, .iload_n 3, 1, 3, 0, 0, .null), (66, .ireturn, 1, 0, 0, 0, .int 1)]
def kc_202 : List (Nat × En) := [(0, .aload_n 0, 1, 0, 0, 0, .null), (1, .iload_n 1, 1, 1, 0, 0, .null), (2, .invokevirtual 196, 3, 140, 1, 1194, .null), (5, .ifCond .ne 5, 3, 10, 0, 0, .null), (8, .iconst (-1), 1, 0, 0, 0, .int (-1)), (9, .ireturn, 1, 0, 0, 0, .null), (10, .iload_n 1, 1, 1, 0, 0, .null), (11, .iconst 1, 1, 0, 0, 0, .int (1)), (12, .iadd, 1, 0, 0, 0, .null), (13, .istore_n 2, 1, 2, 0, 0, .null), (14, .iload_n 2, 1, 2, 0, 0, .null), (15, .iload_n 1, 1, 1, 0, 0, .null), (16, .iload_n 1, 1, 1, 0, 0, .null), (17, .bipush 24, 2, 0, 0, 0, .int (24)), (19, .irem, 1, 0, 0, 0, .null), (20, .isub, 1, 0, 0, 0, .null), (21, .bipush 24, 2, 0, 0, 0, .int (24)), (23, .iadd, 1, 0, 0, 0, .null), (24, .if_icmp .ge 33, 3, 57, 0, 0, .null), (27, .aload_n 0, 1, 0, 0, 0, .null), (28, .iload_n 2, 1, 2, 0, 0, .null), (29, .invokevirtual 192, 3, 139, 1, 1186, .null), (32, .aload_n 0, 1, 0, 0, 0, .null), (33, .iload_n 1, 1, 1, 0, 0, .null), (34, .invokevirtual 192, 3, 139, 1, 1186, .null), (37, .if_icmp .le 14, 3, 51, 0, 0, .null), (40, .aload_n 0, 1, 0, 0, 0, .null), (41, .iload_n 2, 1, 2, 0, 0, .null), (42, .iload_n 1, 1, 1, 0, 0, .null), (43, .invokevirtual 311, 3, 201, 2, 1436, .null), (46, .ifCond .eq 5, 3, 51, 0, 0, .null), (49, .iconst 1, 1, 0, 0, 0, .int (1)), (50, .ireturn, 1, 0, 0, 0, .null), (51, .iinc 2 1, 3, 2, 0, 0, .int (1)), (54, .goto (-40), 3, 14, 0, 0, .null), (57, .iconst 0, 1, 0, 0, 0, .int (0)), (58, .ireturn, 1, 0, 0, 0, .null)]
def kc_203 : List (Nat × En) := [(0, .iload_n 1, 1, 1, 0, 0, .null), (1, .invokestatic 176, 3, 123, 1, 1164, .null), (4, .ifCond .ne 5, 3, 9, 0, 0, .null), (7, .iconst (-1), 1, 0, 0, 0, .int (-1)), (8, .ireturn, 1, 0, 0, 0, .null), (9, .iload_n 2, 1, 2, 0, 0, .null), (10, .iconst 0, 1, 0, 0, 0, .int (0)), (11, .bipush 10, 2, 0, 0, 0, .int (10)), (13, .invokestatic 138, 3, 120, 3, 1121, .null), (16, .ifCond .eq 24, 3, 40, 0, 0, .null), (19, .iload_n 3, 1, 3, 0, 0, .null), (20, .iconst 0, 1, 0, 0, 0, .int (0)), (21, .iload_n 2, 1, 2, 0, 0, .null), (22, .bipush 10, 2, 0, 0, 0, .int (10)), (24, .if_icmp .ne 8, 3, 32, 0, 0, .null), (27, .bipush 99, 2, 0, 0, 0, .int (99)), (29, .goto 5, 3, 34, 0, 0, .null), (32, .bipush 10, 2, 0, 0, 0, .int (10)), (34, .invokestatic 138, 3, 120, 3, 1121, .null), (37, .ifCond .ne 6, 3, 43, 0, 0, .null), (40, .bipush (-2), 2, 0, 0, 0, .int (-2)), (42, .ireturn, 1, 0, 0, 0, .null), (43, .iload_n 2, 1, 2, 0, 0, .null), (44, .bipush 10, 2, 0, 0, 0, .int (10)), (46, .if_icmp .ne 12, 3, 58, 0, 0, .null), (49, .aload_n 0, 1, 0, 0, 0, .null), (50, .getfield 99, 3, 11, 33, 1002, .null), (53, .iload_n 1, 1, 1, 0, 0, .null), (54, .iaload, 1, 0, 0, 0, .null), (55, .goto 14, 3, 69, 0, 0, .null), (58, .aload_n 0, 1, 0, 0, 0, .null), (59, .getfield 96, 3, 11, 32, 1001, .null), (62, .bipush 10, 2, 0, 0, 0, .int (10)), (64, .iload_n 1, 1, 1, 0, 0, .null), (65, .imul, 1, 0, 0, 0, .null), (66, .iload_n 2, 1, 2, 0, 0, .null), (67, .iadd, 1, 0, 0, 0, .null), (68, .iaload, 1, 0, 0, 0, .null), (69, .istore 4, 2, 4, 0, 0, .null), (71, .iload_n 2, 1, 2, 0, 0, .null), (72, .bipush 10, 2, 0, 0, 0, .int (10)), (74, .if_icmp .ne 13, 3, 87, 0, 0, .null), (77, .aload_n 0, 1, 0, 0, 0, .null), (78, .getfield 99, 3, 11, 33, 1002, .null), (81, .iload_n 1, 1, 1, 0, 0, .null), (82, .iload_n 3, 1, 3, 0, 0, .null), (83, .iastore, 1, 0, 0, 0, .null), (84, .goto 15, 3, 99, 0, 0, .null), (87, .aload_n 0, 1, 0, 0, 0, .null), (88, .getfield 96, 3, 11, 32, 1001, .null), (91, .bipush 10, 2, 0, 0, 0, .int (10)), (93, .iload_n 1, 1, 1, 0, 0, .null), (94, .imul, 1, 0, 0, 0, .null), (95, .iload_n 2, 1, 2, 0, 0, .null), (96, .iadd, 1, 0, 0, 0, .null), (97, .iload_n 3, 1, 3, 0, 0, .null), (98, .iastore, 1, 0, 0, 0, .null), (99, .iload 4, 2, 4, 0, 0, .null), (101, .ireturn, 1, 0, 0, 0, .null)]
def kc_204 : List (Nat × En) := [(0, .lconst 0, 1, 0, 0, 0, .long 0), (1, .lstore_n 2, 1, 2, 0, 0, .null), (2, .iconst 0, 1, 0, 0, 0, .int (0)), (3, .istore 4, 2, 4, 0, 0, .null), (5, .iload 4, 2, 4, 0, 0, .null), (7, .bipush 10, 2, 0, 0, 0, .int (10)), (9, .if_icmp .ge 76, 3, 85, 0, 0, .null), (12, .lconst 1, 1, 0, 0, 0, .long 1), (13, .lstore 5, 2, 5, 0, 0, .null), (15, .iconst 0, 1, 0, 0, 0, .int (0)), (16, .istore 7, 2, 7, 0, 0, .null), (18, .iload 7, 2, 7, 0, 0, .null), (20, .bipush 6, 2, 0, 0, 0, .int (6)), (22, .if_icmp .ge 48, 3, 70, 0, 0, .null), (25, .lload 5, 2, 5, 0, 0, .null), (27, .iload_n 1, 1, 1, 0, 0, .null), (28, .iload 7, 2, 7, 0, 0, .null), (30, .ishr, 1, 0, 0, 0, .null), (31, .iconst 1, 1, 0, 0, 0, .int (1)), (32, .iand, 1, 0, 0, 0, .null), (33, .iconst 1, 1, 0, 0, 0, .int (1)), (34, .if_icmp .ne 24, 3, 58, 0, 0, .null), (37, .ldc2_w 314, 3, 0, 0, 1452, .long (10)), (40, .aload_n 0, 1, 0, 0, 0, .null), (41, .getfield 96, 3, 11, 32, 1001, .null), (44, .bipush 10, 2, 0, 0, 0, .int (10)), (46, .iload 7, 2, 7, 0, 0, .null), (48, .imul, 1, 0, 0, 0, .null), (49, .iload 4, 2, 4, 0, 0, .null), (51, .iadd, 1, 0, 0, 0, .null), (52, .iaload, 1, 0, 0, 0, .null), (53, .i2l, 1, 0, 0, 0, .null), (54, .lsub, 1, 0, 0, 0, .null), (55, .goto 6, 3, 61, 0, 0, .null), (58, .ldc2_w 314, 3, 0, 0, 1452, .long (10)), (61, .lmul, 1, 0, 0, 0, .null), (62, .lstore 5, 2, 5, 0, 0, .null), (64, .iinc 7 1, 3, 7, 0, 0, .int (1)), (67, .goto (-49), 3, 18, 0, 0, .null), (70, .lload_n 2, 1, 2, 0, 0, .null), (71, .ldc2_w 316, 3, 0, 0, 1453, .long (1000000)), (74, .lload 5, 2, 5, 0, 0, .null), (76, .lsub, 1, 0, 0, 0, .null), (77, .ladd, 1, 0, 0, 0, .null), (78, .lstore_n 2, 1, 2, 0, 0, .null), (79, .iinc 4 1, 3, 4, 0, 0, .int (1)), (82, .goto (-77), 3, 5, 0, 0, .null), (85, .lload_n 2, 1, 2, 0, 0, .null), (86, .lreturn, 1, 0, 0, 0, .null)]
def kc_205 : List (Nat × En) := [(0, .iload_n 1, 1, 1, 0, 0, .null), (1, .iconst 0, 1, 0, 0, 0, .int (0)), (2, .bipush 63, 2, 0, 0, 0, .int (63)), (4, .invokestatic 138, 3, 120, 3, 1121, .null), (7, .ifCond .eq 25, 3, 32, 0, 0, .null), (10, .iload_n 2, 1, 2, 0, 0, .null), (11, .invokestatic 172, 3, 126, 1, 1152, .null), (14, .ifCond .eq 18, 3, 32, 0, 0, .null), (17, .aload_n 0, 1, 0, 0, 0, .null), (18, .iload_n 1, 1, 1, 0, 0, .null), (19, .invokevirtual 318, 3, 204, 1, 1448, .null), (22, .ldc2_w 316, 3, 0, 0, 1453, .long (1000000)), (25, .iload_n 2, 1, 2, 0, 0, .null), (26, .invokestatic 271, 3, 171, 3, 1326, .null), (29, .goto 6, 3, 35, 0, 0, .null), (32, .ldc2_w 265, 3, 0, 0, 1321, .long (-1000000000000000002)), (35, .lreturn, 1, 0, 0, 0, .null)]
def kc_206 : List (Nat × En) := [(0, .iconst 0, 1, 0, 0, 0, .int (0)), (1, .istore_n 2, 1, 2, 0, 0, .null), (2, .iconst 0, 1, 0, 0, 0, .int (0)), (3, .istore_n 3, 1, 3, 0, 0, .null), (4, .iload_n 3, 1, 3, 0, 0, .null), (5, .bipush 6, 2, 0, 0, 0, .int (6)), (7, .if_icmp .ge 24, 3, 31, 0, 0, .null), (10, .iload_n 2, 1, 2, 0, 0, .null), (11, .iload_n 1, 1, 1, 0, 0, .null), (12, .iload_n 3, 1, 3, 0, 0, .null), (13, .ishr, 1, 0, 0, 0, .null), (14, .iconst 1, 1, 0, 0, 0, .int (1)), (15, .iand, 1, 0, 0, 0, .null), (16, .aload_n 0, 1, 0, 0, 0, .null), (17, .getfield 99, 3, 11, 33, 1002, .null), (20, .iload_n 3, 1, 3, 0, 0, .null), (21, .iaload, 1, 0, 0, 0, .null), (22, .imul, 1, 0, 0, 0, .null), (23, .iadd, 1, 0, 0, 0, .null), (24, .istore_n 2, 1, 2, 0, 0, .null), (25, .iinc 3 1, 3, 3, 0, 0, .int (1)), (28, .goto (-24), 3, 4, 0, 0, .null), (31, .iload_n 2, 1, 2, 0, 0, .null), (32, .ireturn, 1, 0, 0, 0, .null)]
def kc_207 : List (Nat × En) := [(0, .iload_n 1, 1, 1, 0, 0, .null), (1, .iconst 0, 1, 0, 0, 0, .int (0)), (2, .sipush 600, 3, 0, 0, 0, .int (600)), (5, .invokestatic 138, 3, 120, 3, 1121, .null), (8, .ifCond .eq 10, 3, 18, 0, 0, .null), (11, .iload_n 2, 1, 2, 0, 0, .null), (12, .invokestatic 172, 3, 126, 1, 1152, .null), (15, .ifCond .ne 6, 3, 21, 0, 0, .null), (18, .bipush (-2), 2, 0, 0, 0, .int (-2)), (20, .ireturn, 1, 0, 0, 0, .null), (21, .iconst 0, 1, 0, 0, 0, .int (0)), (22, .istore_n 3, 1, 3, 0, 0, .null), (23, .iconst 1, 1, 0, 0, 0, .int (1)), (24, .istore 4, 2, 4, 0, 0, .null), (26, .iload 4, 2, 4, 0, 0, .null), (28, .bipush 64, 2, 0, 0, 0, .int (64)), (30, .if_icmp .ge 80, 3, 110, 0, 0, .null), (33, .aload_n 0, 1, 0, 0, 0, .null), (34, .iload 4, 2, 4, 0, 0, .null), (36, .invokevirtual 318, 3, 204, 1, 1448, .null), (39, .aload_n 0, 1, 0, 0, 0, .null), (40, .iload_n 3, 1, 3, 0, 0, .null), (41, .invokevirtual 318, 3, 204, 1, 1448, .null), (44, .lsub, 1, 0, 0, 0, .null), (45, .lstore 5, 2, 5, 0, 0, .null), (47, .lload 5, 2, 5, 0, 0, .null), (49, .lconst 0, 1, 0, 0, 0, .long 0), (50, .lcmp, 1, 0, 0, 0, .null), (51, .ifCond .gt 24, 3, 75, 0, 0, .null), (54, .lload 5, 2, 5, 0, 0, .null), (56, .lconst 0, 1, 0, 0, 0, .long 0), (57, .lcmp, 1, 0, 0, 0, .null), (58, .ifCond .ne 21, 3, 79, 0, 0, .null), (61, .aload_n 0, 1, 0, 0, 0, .null), (62, .iload 4, 2, 4, 0, 0, .null), (64, .invokevirtual 322, 3, 206, 1, 1458, .null), (67, .aload_n 0, 1, 0, 0, 0, .null), (68, .iload_n 3, 1, 3, 0, 0, .null), (69, .invokevirtual 322, 3, 206, 1, 1458, .null), (72, .if_icmp .ge 7, 3, 79, 0, 0, .null), (75, .iconst 1, 1, 0, 0, 0, .int (1)), (76, .goto 4, 3, 80, 0, 0, .null), (79, .iconst 0, 1, 0, 0, 0, .int (0)), (80, .istore 7, 2, 7, 0, 0, .null), (82, .iload 7, 2, 7, 0, 0, .null), (84, .ifCond .eq 18, 3, 102, 0, 0, .null), (87, .aload_n 0, 1, 0, 0, 0, .null), (88, .iload 4, 2, 4, 0, 0, .null), (90, .invokevirtual 322, 3, 206, 1, 1458, .null), (93, .iload_n 1, 1, 1, 0, 0, .null), (94, .if_icmp .gt 8, 3, 102, 0, 0, .null), (97, .iload 4, 2, 4, 0, 0, .null), (99, .goto 4, 3, 103, 0, 0, .null), (102, .iload_n 3, 1, 3, 0, 0, .null), (103, .istore_n 3, 1, 3, 0, 0, .null), (104, .iinc 4 1, 3, 4, 0, 0, .int (1)), (107, .goto (-81), 3, 26, 0, 0, .null), (110, .iload_n 2, 1, 2, 0, 0, .null), (111, .ifCond .ne 7, 3, 118, 0, 0, .null), (114, .iload_n 3, 1, 3, 0, 0, .null), (115, .goto 8, 3, 123, 0, 0, .null), (118, .aload_n 0, 1, 0, 0, 0, .null), (119, .iload_n 3, 1, 3, 0, 0, .null), (120, .invokevirtual 322, 3, 206, 1, 1458, .null), (123, .ireturn, 1, 0, 0, 0, .null)]
def kc_208 : List (Nat × En) := [(0, .iconst 0, 1, 0, 0, 0, .int (0)), (1, .istore_n 2, 1, 2, 0, 0, .null), (2, .iconst 0, 1, 0, 0, 0, .int (0)), (3, .istore_n 3, 1, 3, 0, 0, .null), (4, .iconst 0, 1, 0, 0, 0, .int (0)), (5, .istore 4, 2, 4, 0, 0, .null), (7, .iload 4, 2, 4, 0, 0, .null), (9, .sipush 144, 3, 0, 0, 0, .int (144)), (12, .if_icmp .ge 27, 3, 39, 0, 0, .null), (15, .iload_n 2, 1, 2, 0, 0, .null), (16, .aload_n 0, 1, 0, 0, 0, .null), (17, .getfield 80, 3, 11, 27, 996, .null), (20, .iload 4, 2, 4, 0, 0, .null), (22, .iaload, 1, 0, 0, 0, .null), (23, .ifCond .lt 7, 3, 30, 0, 0, .null), (26, .iconst 1, 1, 0, 0, 0, .int (1)), (27, .goto 4, 3, 31, 0, 0, .null), (30, .iconst 0, 1, 0, 0, 0, .int (0)), (31, .iadd, 1, 0, 0, 0, .null), (32, .istore_n 2, 1, 2, 0, 0, .null), (33, .iinc 4 1, 3, 4, 0, 0, .int (1)), (36, .goto (-29), 3, 7, 0, 0, .null), (39, .iconst 0, 1, 0, 0, 0, .int (0)), (40, .istore 4, 2, 4, 0, 0, .null), (42, .iload 4, 2, 4, 0, 0, .null), (44, .bipush 6, 2, 0, 0, 0, .int (6)), (46, .if_icmp .ge 29, 3, 75, 0, 0, .null), (49, .iload_n 3, 1, 3, 0, 0, .null), (50, .aload_n 0, 1, 0, 0, 0, .null), (51, .iload 4, 2, 4, 0, 0, .null), (53, .invokevirtual 257, 3, 164, 1, 1305, .null), (56, .ifCond .eq 10, 3, 66, 0, 0, .null), (59, .iconst 1, 1, 0, 0, 0, .int (1)), (60, .iload 4, 2, 4, 0, 0, .null), (62, .ishl, 1, 0, 0, 0, .null), (63, .goto 4, 3, 67, 0, 0, .null), (66, .iconst 0, 1, 0, 0, 0, .int (0)), (67, .ior, 1, 0, 0, 0, .null), (68, .istore_n 3, 1, 3, 0, 0, .null), (69, .iinc 4 1, 3, 4, 0, 0, .int (1)), (72, .goto (-30), 3, 42, 0, 0, .null), (75, .iload_n 1, 1, 1, 0, 0, .null), (76, .tableswitch 92 0 7 #[48, 53, 58, 63, 68, 70, 72, 77], 48, 168, 0, 0, .null), (124, .aload_n 0, 1, 0, 0, 0, .null), (125, .getfield 179, 3, 11, 9, 978, .null), (128, .ireturn, 1, 0, 0, 0, .null), (129, .aload_n 0, 1, 0, 0, 0, .null), (130, .getfield 146, 3, 11, 3, 972, .null), (133, .ireturn, 1, 0, 0, 0, .null), (134, .aload_n 0, 1, 0, 0, 0, .null), (135, .getfield 202, 3, 11, 13, 982, .null), (138, .ireturn, 1, 0, 0, 0, .null), (139, .aload_n 0, 1, 0, 0, 0, .null), (140, .getfield 7, 3, 11, 0, 969, .null), (143, .ireturn, 1, 0, 0, 0, .null), (144, .iload_n 2, 1, 2, 0, 0, .null), (145, .ireturn, 1, 0, 0, 0, .null), (146, .iload_n 3, 1, 3, 0, 0, .null), (147, .ireturn, 1, 0, 0, 0, .null), (148, .aload_n 0, 1, 0, 0, 0, .null), (149, .invokevirtual 212, 3, 148, 0, 1222, .null), (152, .ireturn, 1, 0, 0, 0, .null), (153, .aload_n 0, 1, 0, 0, 0, .null), (154, .bipush (-6), 2, 0, 0, 0, .int (-6)), (156, .invokevirtual 221, 3, 183, 1, 1237, .null), (159, .ifCond .eq 7, 3, 166, 0, 0, .null), (162, .iconst 0, 1, 0, 0, 0, .int (0)), (163, .goto 4, 3, 167, 0, 0, .null), (166, .iconst 1, 1, 0, 0, 0, .int (1)), (167, .ireturn, 1, 0, 0, 0, .null), (168, .bipush (-2), 2, 0, 0, 0, .int (-2)), (170, .ireturn, 1, 0, 0, 0, .null)]
def kc_209 : List (Nat × En) := [(0, .iload_n 0, 1, 0, 0, 0, .null), (1, .iload_n 0, 1, 0, 0, 0, .null), (2, .iconst 1, 1, 0, 0, 0, .int (1)), (3, .iushr, 1, 0, 0, 0, .null), (4, .ldc_w 265, 3, 0, 0, 805, .int (1431655765)), (7, .iand, 1, 0, 0, 0, .null), (8, .isub, 1, 0, 0, 0, .null), (9, .istore_n 0, 1, 0, 0, 0, .null), (10, .iload_n 0, 1, 0, 0, 0, .null), (11, .ldc_w 266, 3, 0, 0, 806, .int (858993459)), (14, .iand, 1, 0, 0, 0, .null), (15, .iload_n 0, 1, 0, 0, 0, .null), (16, .iconst 2, 1, 0, 0, 0, .int (2)), (17, .iushr, 1, 0, 0, 0, .null), (18, .ldc_w 266, 3, 0, 0, 806, .int (858993459)), (21, .iand, 1, 0, 0, 0, .null), (22, .iadd, 1, 0, 0, 0, .null), (23, .istore_n 0, 1, 0, 0, 0, .null), (24, .iload_n 0, 1, 0, 0, 0, .null), (25, .iload_n 0, 1, 0, 0, 0, .null), (26, .iconst 4, 1, 0, 0, 0, .int (4)), (27, .iushr, 1, 0, 0, 0, .null), (28, .iadd, 1, 0, 0, 0, .null), (29, .ldc_w 267, 3, 0, 0, 807, .int (252645135)), (32, .iand, 1, 0, 0, 0, .null), (33, .istore_n 0, 1, 0, 0, 0, .null), (34, .iload_n 0, 1, 0, 0, 0, .null), (35, .iload_n 0, 1, 0, 0, 0, .null), (36, .bipush 8, 2, 0, 0, 0, .int (8)), (38, .iushr, 1, 0, 0, 0, .null), (39, .iadd, 1, 0, 0, 0, .null), (40, .istore_n 0, 1, 0, 0, 0, .null), (41, .iload_n 0, 1, 0, 0, 0, .null), (42, .iload_n 0, 1, 0, 0, 0, .null), (43, .bipush 16, 2, 0, 0, 0, .int (16)), (45, .iushr, 1, 0, 0, 0, .null), (46, .iadd, 1, 0, 0, 0, .null), (47, .istore_n 0, 1, 0, 0, 0, .null), (48, .iload_n 0, 1, 0, 0, 0, .null), (49, .bipush 63, 2, 0, 0, 0, .int (63)), (51, .iand, 1, 0, 0, 0, .null), (52, .ireturn, 1, 0, 0, 0, .null)]
def kc_210 : List (Nat × En) := [(0, .lload_n 0, 1, 0, 0, 0, .null), (1, .lload_n 0, 1, 0, 0, 0, .null), (2, .iconst 1, 1, 0, 0, 0, .int (1)), (3, .lushr, 1, 0, 0, 0, .null), (4, .ldc2_w 314, 3, 0, 0, 681, .long (6148914691236517205)), (7, .land, 1, 0, 0, 0, .null), (8, .lsub, 1, 0, 0, 0, .null), (9, .lstore_n 0, 1, 0, 0, 0, .null), (10, .lload_n 0, 1, 0, 0, 0, .null), (11, .ldc2_w 316, 3, 0, 0, 682, .long (3689348814741910323)), (14, .land, 1, 0, 0, 0, .null), (15, .lload_n 0, 1, 0, 0, 0, .null), (16, .iconst 2, 1, 0, 0, 0, .int (2)), (17, .lushr, 1, 0, 0, 0, .null), (18, .ldc2_w 316, 3, 0, 0, 682, .long (3689348814741910323)), (21, .land, 1, 0, 0, 0, .null), (22, .ladd, 1, 0, 0, 0, .null), (23, .lstore_n 0, 1, 0, 0, 0, .null), (24, .lload_n 0, 1, 0, 0, 0, .null), (25, .lload_n 0, 1, 0, 0, 0, .null), (26, .iconst 4, 1, 0, 0, 0, .int (4)), (27, .lushr, 1, 0, 0, 0, .null), (28, .ladd, 1, 0, 0, 0, .null), (29, .ldc2_w 318, 3, 0, 0, 683, .long (1085102592571150095)), (32, .land, 1, 0, 0, 0, .null), (33, .lstore_n 0, 1, 0, 0, 0, .null), (34, .lload_n 0, 1, 0, 0, 0, .null), (35, .lload_n 0, 1, 0, 0, 0, .null), (36, .bipush 8, 2, 0, 0, 0, .int (8)), (38, .lushr, 1, 0, 0, 0, .null), (39, .ladd, 1, 0, 0, 0, .null), (40, .lstore_n 0, 1, 0, 0, 0, .null), (41, .lload_n 0, 1, 0, 0, 0, .null), (42, .lload_n 0, 1, 0, 0, 0, .null), (43, .bipush 16, 2, 0, 0, 0, .int (16)), (45, .lushr, 1, 0, 0, 0, .null), (46, .ladd, 1, 0, 0, 0, .null), (47, .lstore_n 0, 1, 0, 0, 0, .null), (48, .lload_n 0, 1, 0, 0, 0, .null), (49, .lload_n 0, 1, 0, 0, 0, .null), (50, .bipush 32, 2, 0, 0, 0, .int (32)), (52, .lushr, 1, 0, 0, 0, .null), (53, .ladd, 1, 0, 0, 0, .null), (54, .lstore_n 0, 1, 0, 0, 0, .null), (55, .lload_n 0, 1, 0, 0, 0, .null), (56, .l2i, 1, 0, 0, 0, .null), (57, .bipush 127, 2, 0, 0, 0, .int (127)), (59, .iand, 1, 0, 0, 0, .null), (60, .ireturn, 1, 0, 0, 0, .null)]
def kc_211 : List (Nat × En) := [(0, .iconst 0, 1, 0, 0, 0, .int (0)), (1, .istore_n 2, 1, 2, 0, 0, .null), (2, .aload_n 0, 1, 0, 0, 0, .null), (3, .arraylength, 1, 0, 0, 0, .null), (4, .istore_n 3, 1, 3, 0, 0, .null), (5, .iload_n 2, 1, 2, 0, 0, .null), (6, .iload_n 3, 1, 3, 0, 0, .null), (7, .if_icmp .ge 13, 3, 20, 0, 0, .null), (10, .aload_n 0, 1, 0, 0, 0, .null), (11, .iload_n 2, 1, 2, 0, 0, .null), (12, .iload_n 1, 1, 1, 0, 0, .null), (13, .iastore, 1, 0, 0, 0, .null), (14, .iinc 2 1, 3, 2, 0, 0, .int (1)), (17, .goto (-12), 3, 5, 0, 0, .null), (20, .return_, 1, 0, 0, 0, .null)]
def codeL : List (List (Nat × En)) := [kc_0, kc_1, kc_2, kc_3, kc_4, kc_5, kc_6, kc_7, kc_8, kc_9, kc_10, kc_11, kc_12, kc_13, kc_14, kc_15, kc_16, kc_17, kc_18, kc_19, kc_20, kc_21, kc_22, kc_23, kc_24, kc_25, kc_26, kc_27, kc_28, kc_29, kc_30, kc_31, kc_32, kc_33, kc_34, kc_35, kc_36, kc_37, kc_38, kc_39, kc_40, kc_41, kc_42, kc_43, kc_44, kc_45, kc_46, kc_47, kc_48, kc_49, kc_50, kc_51, kc_52, kc_53, kc_54, kc_55, kc_56, kc_57, kc_58, kc_59, kc_60, kc_61, kc_62, kc_63, kc_64, kc_65, kc_66, kc_67, kc_68, kc_69, kc_70, kc_71, kc_72, kc_73, kc_74, kc_75, kc_76, kc_77, kc_78, kc_79, kc_80, kc_81, kc_82, kc_83, kc_84, kc_85, kc_86, kc_87, kc_88, kc_89, kc_90, kc_91, kc_92, kc_93, kc_94, kc_95, kc_96, kc_97, kc_98, kc_99, kc_100, kc_101, kc_102, kc_103, kc_104, kc_105, kc_106, kc_107, kc_108, kc_109, kc_110, kc_111, kc_112, kc_113, kc_114, kc_115, kc_116, kc_117, kc_118, kc_119, kc_120, kc_121, kc_122, kc_123, kc_124, kc_125, kc_126, kc_127, kc_128, kc_129, kc_130, kc_131, kc_132, kc_133, kc_134, kc_135, kc_136, kc_137, kc_138, kc_139, kc_140, kc_141, kc_142, kc_143, kc_144, kc_145, kc_146, kc_147, kc_148, kc_149, kc_150, kc_151, kc_152, kc_153, kc_154, kc_155, kc_156, kc_157, kc_158, kc_159, kc_160, kc_161, kc_162, kc_163, kc_164, kc_165, kc_166, kc_167, kc_168, kc_169, kc_170, kc_171, kc_172, kc_173, kc_174, kc_175, kc_176, kc_177, kc_178, kc_179, kc_180, kc_181, kc_182, kc_183, kc_184, kc_185, kc_186, kc_187, kc_188, kc_189, kc_190, kc_191, kc_192, kc_193, kc_194, kc_195, kc_196, kc_197, kc_198, kc_199, kc_200, kc_201, kc_202, kc_203, kc_204, kc_205, kc_206, kc_207, kc_208, kc_209, kc_210, kc_211]
def codeOf (y pc : Nat) : Option En := lk (codeL.getD y []) pc
end
section
/-! The least relation that is closed under the instructions: from here the method comes to its end with R, the cells then hold S. -/
def stepA (P : AP) (y pc : Nat) (lv st : List Value) (σ : St) (R : List Value) (S : St) : Prop := match codeOf y pc with
  | some en => stepC P y en pc lv st σ R S
  | none => False
def Go (y pc : Nat) (lv st : List Value) (σ : St) (R : List Value) (S : St) : Prop :=
  ∀ P : AP, (∀ y pc lv st σ R S, stepA P y pc lv st σ R S → P y pc lv st σ R S) → P y pc lv st σ R S
theorem brC_mono {c A B A' B' : Prop} (ha : A → A') (hb : B → B') (h : brC c A B) : brC c A' B' := ⟨fun q => ha (h.1 q), fun q => hb (h.2 q)⟩
theorem callC_mono {P P' : AP} (h : ∀ y pc lv st σ R S, P y pc lv st σ R S → P' y pc lv st σ R S) {y z n pc : Nat} {lv st : List Value} {σ : St} {R : List Value} {S : St} (q : callC P y z n pc lv st σ R S) : callC P' y z n pc lv st σ R S := by
  unfold callC at q ⊢
  rw [cond_eq_ite] at q ⊢
  split at q
  · rw [if_pos (by assumption)]
    split at q
    · obtain ⟨σ1, h1, h2⟩ := q
      exact ⟨σ1, h _ _ _ _ _ _ _ h1, h _ _ _ _ _ _ _ h2⟩
    · obtain ⟨r, σ1, h1, h2⟩ := q
      exact ⟨r, σ1, h _ _ _ _ _ _ _ h1, h _ _ _ _ _ _ _ h2⟩
    · obtain ⟨r, σ1, h1, h2⟩ := q
      exact ⟨r, σ1, h _ _ _ _ _ _ _ h1, h _ _ _ _ _ _ _ h2⟩
  · exact q.elim
theorem callC_spec {P : AP} {y z n pc : Nat} {lv st : List Value} {σ : St} {R : List Value} {S : St} (q : callC P y z n pc lv st σ R S) : n ≤ st.length ∧ catS (st.drop n) ≤ 8 ∧ (flatV (st.take n).reverse).length ≤ mL z ∧ ∃ (rs : List Value) (σ1 : St), P z 0 (entL (st.take n).reverse (mL z)) [] σ rs σ1 ∧ P y pc lv (rs ++ st.drop n) σ1 R S := by
  unfold callC at q
  rw [cond_eq_ite] at q
  split at q
  · rename_i hg
    simp only [Bool.and_eq_true] at hg
    refine ⟨Nat.le_of_ble_eq_true hg.1, Nat.le_of_ble_eq_true hg.2.1, Nat.le_of_ble_eq_true hg.2.2, ?_⟩
    split at q
    · obtain ⟨σ1, h1, h2⟩ := q
      exact ⟨[], σ1, h1, h2⟩
    · obtain ⟨r, σ1, h1, h2⟩ := q
      exact ⟨[.long r], σ1, h1, h2⟩
    · obtain ⟨r, σ1, h1, h2⟩ := q
      exact ⟨[.int r], σ1, h1, h2⟩
  · exact q.elim
set_option maxHeartbeats 4000000 in
theorem stepC_mono {P P' : AP} (h : ∀ y pc lv st σ R S, P y pc lv st σ R S → P' y pc lv st σ R S) {y : Nat} {en : En} {pc : Nat} {lv st : List Value} {σ : St} {R : List Value} {S : St} (q : stepC P y en pc lv st σ R S) : stepC P' y en pc lv st σ R S := by
  obtain ⟨ins, ln, a, b, c, v⟩ := en
  cases ins
  all_goals first
    | exact q
    | exact h _ _ _ _ _ _ _ q
    | exact callC_mono h q
    | skip
  all_goals simp only [stepC, cond_eq_ite] at q ⊢
  all_goals repeat' (first
    | exact q.elim
    | exact h _ _ _ _ _ _ _ q
    | exact callC_mono h q
    | exact ⟨q.1, h _ _ _ _ _ _ _ q.2⟩
    | exact ⟨q.1, q.2.1, h _ _ _ _ _ _ _ q.2.2⟩
    | exact q
    | exact brC_mono (h _ _ _ _ _ _ _) (h _ _ _ _ _ _ _) q
    | exact brC_mono (h _ _ _ _ _ _ _) (fun g off ho tgt ht => h _ _ _ _ _ _ _ (g off ho tgt ht)) q
    | (rw [if_neg (by assumption)]; exact callC_mono h q)
    | split at q
    | (split <;> simp_all))
  all_goals exact callC_mono (fun y pc lv st σ R S g => h y pc lv st σ.1 σ.2 R S.1 S.2 g) q
/-- closed under the instructions -/
theorem Go.step {y pc : Nat} {lv st : List Value} {σ : St} {R : List Value} {S : St} (q : stepA Go y pc lv st σ R S) : Go y pc lv st σ R S := by
  intro P hP
  refine hP _ _ _ _ _ _ _ ?_
  unfold stepA at q ⊢
  split at q
  · exact stepC_mono (fun _ _ _ _ _ _ _ g => g P hP) q
  · exact q.elim
/-- the same, with the instruction's row at hand -/
theorem Go.one {y pc : Nat} {lv st : List Value} {σ : St} {R : List Value} {S : St} {en : En} (he : codeOf y pc = some en) (q : stepC Go y en pc lv st σ R S) : Go y pc lv st σ R S := by
  refine Go.step ?_
  unfold stepA
  rw [he]
  exact q
/-! LOCALS THAT NOBODY READS: fewer known values do -/
def leV (lv lv' : List Value) : Prop := lv.length = lv'.length ∧ ∀ i, lv.getD i .null = .null ∨ lv.getD i .null = lv'.getD i .null
theorem leV.get {lv lv' : List Value} (h : leV lv lv') {a : Nat} {v : Value} (hv : lv.getD a .null = v) (hn : v ≠ .null) : lv'.getD a .null = v := by
  rcases h.2 a with q | q
  · rw [q] at hv; exact absurd hv.symm hn
  · rw [← q]; exact hv
theorem getD_set {l : List Value} {a i : Nat} {v : Value} : (l.set a v).getD i .null = if a = i ∧ i < l.length then v else l.getD i .null := by
  rw [List.getD_eq_getElem?_getD, List.getElem?_set, List.getD_eq_getElem?_getD]
  by_cases h : a = i
  · subst h
    by_cases h2 : a < l.length
    · simp [h2]
    · simp [h2]
  · simp [h]
theorem leV.set {lv lv' : List Value} (h : leV lv lv') (a : Nat) (v : Value) : leV (lv.set a v) (lv'.set a v) := by
  refine ⟨by simpa using h.1, fun i => ?_⟩
  rw [getD_set, getD_set, ← h.1]
  split
  · exact Or.inr rfl
  · exact h.2 i
theorem leV.setN {lv lv' : List Value} (h : leV lv lv') (a : Nat) : leV (lv.set a .null) lv' := by
  refine ⟨by simpa using h.1, fun i => ?_⟩
  rw [getD_set]
  split
  · exact Or.inl rfl
  · exact h.2 i
theorem leV.clr {lv lv' : List Value} (h : leV lv lv') (a : Nat) : leV (clrV lv a) (clrV lv' a) := by
  unfold clrV
  split
  · exact h
  · rename_i b
    have key : lv.getD b .null = .null → leV lv (lv'.set b .null) := by
      intro q
      refine ⟨by simpa using h.1, fun i => ?_⟩
      rw [getD_set]
      split
      · rename_i hi
        rw [← hi.1]
        exact Or.inl q
      · exact h.2 i
    rcases h.2 b with q | q
    · rw [q]
      show leV lv (match lv'.getD b .null with | .long _ => lv'.set b .null | .double _ => lv'.set b .null | _ => lv')
      split
      · exact key q
      · exact key q
      · exact h
    · rw [q]
      split
      · exact h.set b .null
      · exact h.set b .null
      · exact h
theorem leV.st1 {lv lv' : List Value} (h : leV lv lv') (a : Nat) (v : Value) : leV (st1V lv a v) (st1V lv' a v) := (h.clr a).set a v
theorem leV.st2 {lv lv' : List Value} (h : leV lv lv') (a : Nat) (v : Value) : leV (st2V lv a v) (st2V lv' a v) := ((h.clr a).set a v).set (a + 1) .null
set_option maxHeartbeats 4000000 in
theorem stepC_weak {P P' : AP} (hP : ∀ y pc lv lv' st σ R S, leV lv lv' → P y pc lv st σ R S → P' y pc lv' st σ R S) (hR : ∀ lv, leV lv lv) {y : Nat} {en : En} {pc : Nat} {lv lv' st : List Value} {σ : St} {R : List Value} {S : St} (hl : leV lv lv') (q : stepC P y en pc lv st σ R S) : stepC P' y en pc lv' st σ R S := by
  obtain ⟨ins, ln, a, b, c, v⟩ := en
  have hc : ∀ {z n pc}, callC P y z n pc lv st σ R S → callC P' y z n pc lv' st σ R S := by
    intro z n pc q
    unfold callC at q ⊢
    rw [cond_eq_ite] at q ⊢
    split at q
    · rw [if_pos (by assumption)]
      split at q
      · obtain ⟨σ1, h1, h2⟩ := q
        exact ⟨σ1, hP _ _ _ _ _ _ _ _ (hR _) h1, hP _ _ _ _ _ _ _ _ hl h2⟩
      · obtain ⟨r, σ1, h1, h2⟩ := q
        exact ⟨r, σ1, hP _ _ _ _ _ _ _ _ (hR _) h1, hP _ _ _ _ _ _ _ _ hl h2⟩
      · obtain ⟨r, σ1, h1, h2⟩ := q
        exact ⟨r, σ1, hP _ _ _ _ _ _ _ _ (hR _) h1, hP _ _ _ _ _ _ _ _ hl h2⟩
    · exact q.elim
  have h : ∀ {pc st σ}, P y pc lv st σ R S → P' y pc lv' st σ R S := fun q => hP _ _ _ _ _ _ _ _ hl q
  have h1 : ∀ {pc st σ v}, P y pc (st1V lv a v) st σ R S → P' y pc (st1V lv' a v) st σ R S := fun q => hP _ _ _ _ _ _ _ _ (hl.st1 _ _) q
  have h2 : ∀ {pc st σ v}, P y pc (st2V lv a v) st σ R S → P' y pc (st2V lv' a v) st σ R S := fun q => hP _ _ _ _ _ _ _ _ (hl.st2 _ _) q
  have hg : ∀ {x : Value}, lv.getD a .null = x → x ≠ .null → lv'.getD a .null = x := fun e n => hl.get e n
  clear hP hR hl
  cases ins
  all_goals first
    | exact q
    | exact h q
    | exact hc q
    | skip
  all_goals simp only [stepC, cond_eq_ite] at q ⊢
  all_goals repeat' (first
    | exact q.elim
    | exact h q
    | exact h1 q
    | exact h2 q
    | exact hc q
    | exact ⟨q.1, h q.2⟩
    | exact ⟨q.1, q.2.1, h q.2.2⟩
    | exact q
    | exact brC_mono h h q
    | exact brC_mono h (fun g off ho tgt ht => h (g off ho tgt ht)) q
    | (rw [if_neg (by assumption)]; exact hc q)
    | (rw [hg (by assumption) (fun e => by cases e)]; first | exact h q | exact h1 q)
    | (rw [hg (by assumption) (fun e => by cases e)]; simp only []; first | exact h q | exact h1 q)
    | split at q
    | (split <;> simp_all))
theorem leV.rf (lv : List Value) : leV lv lv := ⟨rfl, fun _ => Or.inr rfl⟩
theorem leV.tr {a b c : List Value} (h : leV a b) (k : leV b c) : leV a c := ⟨h.1.trans k.1, fun i => by
  rcases h.2 i with q | q
  · exact Or.inl q
  · rcases k.2 i with r | r
    · exact Or.inl (by rw [q, r])
    · exact Or.inr (by rw [q, r])⟩
theorem Go.weak {y pc : Nat} {lv lv' st : List Value} {σ : St} {R : List Value} {S : St} (hl : leV lv lv') (q : Go y pc lv st σ R S) : Go y pc lv' st σ R S := by
  refine q (fun y pc lv st σ R S => ∀ lv', leV lv lv' → Go y pc lv' st σ R S) ?_ lv' hl
  intro y pc lv st σ R S q lv' hl
  refine Go.step ?_
  unfold stepA at q ⊢
  split at q
  · exact stepC_weak (fun _ _ _ _ _ _ _ _ hl q => q _ hl) leV.rf hl q
  · exact q.elim
def maskV : List Bool → List Value → List Value
  | true :: m, v :: r => v :: maskV m r
  | false :: m, _ :: r => .null :: maskV m r
  | [], r => r
  | _, [] => []
theorem maskV_le : ∀ (m : List Bool) (lv : List Value), leV (maskV m lv) lv := by
  have cons : ∀ {v w : Value} {a b : List Value}, leV a b → (v = .null ∨ v = w) → leV (v :: a) (w :: b) := by
    intro v w a b h hv
    refine ⟨by simp [h.1], fun i => ?_⟩
    rcases i with _ | i
    · simpa using hv
    · simpa using h.2 i
  intro m
  induction m with
  | nil => intro lv; cases lv <;> exact leV.rf _
  | cons x m ih =>
    intro lv
    cases lv with
    | nil => cases x <;> exact leV.rf _
    | cons v r =>
      cases x
      · exact cons (ih r) (Or.inl rfl)
      · exact cons (ih r) (Or.inr rfl)
/-- a place of a list, and which locals are read from there on -/
def cutAt : List (Nat × List Bool) → Nat → Option (List Bool)
  | [], _ => none
  | (q, m) :: r, pc => bif Nat.beq q pc then some m else cutAt r pc
/-- n instructions, but no further than to a place of the list -/
def runC (P : AP) (cut : List (Nat × List Bool)) : Nat → AP
  | 0 => P
  | n + 1 => fun y pc lv st σ R S => match cutAt cut pc with
    | some m => P y pc (maskV m lv) st σ R S
    | none => match codeOf y pc with
      | some en => stepC (fun y' pc' lv' st' σ' R' S' => bif Nat.beq y' y && !(Nat.beq pc' 0) then runC P cut n y' pc' lv' st' σ' R' S' else P y' pc' lv' st' σ' R' S') y en pc lv st σ R S
      | none => False
theorem Go.of_runC (cut : List (Nat × List Bool)) : ∀ (n : Nat) {y pc : Nat} {lv st : List Value} {σ : St} {R : List Value} {S : St}, runC Go cut n y pc lv st σ R S → Go y pc lv st σ R S := by
  intro n
  induction n with
  | zero => exact fun q => q
  | succ n ih =>
    intro y pc lv st σ R S q
    simp only [runC, cond_eq_ite] at q
    split at q
    · exact Go.weak (maskV_le _ _) q
    · split at q
      · rename_i en he
        refine Go.one he (stepC_mono ?_ q)
        intro y' pc' lv' st' σ' R' S' g
        split at g
        · exact ih g
        · exact g
      · exact q.elim
/-- one instruction at least, then on to a place of the list -/
theorem Go.run (cut : List (Nat × List Bool)) (n : Nat) {y pc : Nat} {lv st : List Value} {σ : St} {R : List Value} {S : St} {en : En} (he : codeOf y pc = some en) (q : stepC (fun y' pc' lv' st' σ' R' S' => bif Nat.beq y' y && !(Nat.beq pc' 0) then runC Go cut n y' pc' lv' st' σ' R' S' else Go y' pc' lv' st' σ' R' S') y en pc lv st σ R S) : Go y pc lv st σ R S := by
  refine Go.one he (stepC_mono ?_ q)
  intro y' pc' lv' st' σ' R' S' g
  rw [cond_eq_ite] at g
  split at g
  · exact Go.of_runC cut n g
  · exact g
/-- what a method answers: its whole way from its entry -/
def Ret (z : Nat) (as : List Value) (σ : St) (rs : List Value) (σ1 : St) : Prop := Go z 0 (entL as (mL z)) [] σ rs σ1
end
section
/-! The tables hold: each instruction's row against the bytecode and the words. -/
def lw_g : List Cond := lw_tbl.filter goodWord
def inG (c : Nat) (w : Cond) : Bool := decide (lw_tbl[c]? = some w) && goodWord w
theorem inG_mem {c : Nat} {w : Cond} (h : inG c w = true) : w ∈ lw_g := by
  unfold inG at h
  rw [Bool.and_eq_true, decide_eq_true_iff] at h
  exact List.mem_filter.mpr ⟨List.mem_of_getElem? h.1, h.2⟩
def lnI : Instr → Nat
  | .bipush _ => 2
  | .sipush _ => 3
  | .ldc _ => 2
  | .ldc_w _ => 3
  | .ldc2_w _ => 3
  | .iload _ => 2
  | .lload _ => 2
  | .aload _ => 2
  | .istore _ => 2
  | .lstore _ => 2
  | .iinc _ _ => 3
  | .goto _ => 3
  | .ifCond _ _ => 3
  | .if_icmp _ _ => 3
  | .getfield _ => 3
  | .putfield _ => 3
  | .invokestatic _ => 3
  | .invokevirtual _ => 3
  | _ => 1
def okC (y i z n c : Nat) (v : Value) : Bool := Nat.blt z 212 && Nat.beq n (mA z) && Nat.ble (mF z + 1) (mF y) && Nat.ble (8 + (mL z + 11) + mW z) (mW y) && (match v with
  | .int _ => decide (lw_tbl[c]? = some (.methodLinkNest (mN y).cls i (mN z) "AshLines"))
  | _ => inG c (.methodLink (mN y).cls i (mN z)))
def okL (ins : Instr) (ln : Nat) : Bool := match ins with
  | .tableswitch _ _ _ _ => true
  | ins => Nat.beq ln (lnI ins)
def okX (y pc : Nat) (ins : Instr) (a b c : Nat) (v : Value) : Bool := match ins with
      | .tableswitch d lo hi offs => decide ((pc : Int) + d = (a : Int)) && decide (offs.size = (hi - lo + 1).toNat) && offs.toList.all (fun o => decide (0 ≤ (pc : Int) + o))
      | .iconst n => decide (v = .int (Int32.ofInt n))
      | .bipush n => decide (v = .int (Int8.ofInt n).toInt32)
      | .sipush n => decide (v = .int (Int16.ofInt n).toInt32)
      | .lconst n => decide (v = .long (Int64.ofNat (n : Nat)))
      | .ldc i => (match v with | .int x => inG c (.constant (mN y).cls i x) | _ => false)
      | .ldc_w i => (match v with | .int x => inG c (.constant (mN y).cls i x) | _ => false)
      | .ldc2_w i => (match v with | .long x => inG c (.constantLong (mN y).cls i x) | _ => false)
      | .iload i => Nat.beq i a
      | .iload_n i => Nat.beq i a
      | .lload i => Nat.beq i a
      | .lload_n i => Nat.beq i a
      | .aload i => Nat.beq i a
      | .aload_n i => Nat.beq i a
      | .istore i => Nat.beq i a && Nat.blt a (mL y)
      | .istore_n i => Nat.beq i a && Nat.blt a (mL y)
      | .lstore i => Nat.beq i a && Nat.blt (a + 1) (mL y)
      | .lstore_n i => Nat.beq i a && Nat.blt (a + 1) (mL y)
      | .iinc i n => Nat.beq i a && Nat.blt a (mL y) && decide (v = .int (Int32.ofInt n))
      | .goto off => decide ((pc : Int) + off = (a : Int))
      | .ifCond _ off => decide ((pc : Int) + off = (a : Int))
      | .if_icmp _ off => decide ((pc : Int) + off = (a : Int))
      | .getfield i => Nat.blt a 12 && Nat.blt b (nF a) && inG c (.fieldLink (mN y).cls i (RC a) (fld a b).1 (fld a b).2.1)
      | .putfield i => Nat.blt a 12 && Nat.blt b (nF a) && inG c (.fieldLink (mN y).cls i (RC a) (fld a b).1 (fld a b).2.1) && decide (hr a b = none) && decide ((fld a b).2.2.1 = false) && (match v with | .int _ => decide (tyF a b = .boolean) | _ => decide (tyF a b = .int))
      | .invokestatic i => bif Nat.beq b 100 then inG c (.methodLink (mN y).cls i arraycopyName) && Nat.ble 1 (mF y) && Nat.ble 40 (mW y)
        else bif Nat.beq b 101 then inG c (.methodLink (mN y).cls i Lib.Math.abs.name) && Nat.ble 1 (mF y) && Nat.ble 40 (mW y)
        else bif Nat.beq b 102 then inG c (.methodLink (mN y).cls i Lib.Math.max.name) && Nat.ble 1 (mF y) && Nat.ble 40 (mW y)
        else bif Nat.beq b 103 then inG c (.methodLink (mN y).cls i Lib.Math.min.name) && Nat.ble 1 (mF y) && Nat.ble 40 (mW y)
        else okC y i a b c v && Nat.beq (mP a).2.2.2 9999
      | .invokevirtual i => okC y i a b c v && !(Nat.beq (mP a).2.2.2 9999)
      | .ireturn => (match v with | .int _ => decide (mR y = some .boolean) | _ => decide (mR y = some .int))
      | .lreturn => decide (mR y = some .long)
      | .return_ => decide (mR y = none)
      | _ => true
def okE (y pc : Nat) (e : En) : Bool := match e with
  | (ins, ln, a, b, c, v) => decide (decode (mB y) pc = .ok (ins, ln)) && (okL ins ln && okX y pc ins a b c v)
def okM (z : Nat) : Bool := inG (mP z).2.1 (.initialized (mN z).cls) && Jvm.plainName (mN z).cls && decide ((mN z).cls ≠ "java/lang/invoke/MethodHandle") && decide ((mN z).cls ≠ "java/lang/invoke/VarHandle") && decide ((parseMethodDescriptor (mN z).desc).map (fun d => d.parameters.length) = some (mA z)) &&
  (bif Nat.beq (mP z).2.2.2 9999 then inG (mP z).2.2.1 (.static (mN z)) else inG (mP z).2.2.1 (.instanceMethod (mN z)) && inG (mP z).2.2.2 (.selects (mN z).cls (mN z) (mN z)) && Nat.blt (mC z) 12 && decide (RC (mC z) = (mN z).cls))
def okK (y : Nat) : Bool := (codeL.getD y []).all (fun q => okE y q.1 q.2)
end
section
set_option maxRecDepth 100000 in
set_option maxHeartbeats 4000000 in
theorem okW_all : (List.range 212).map (fun z => lw_tbl[(mP z).1]?) = (List.range 212).map (fun z => some (Cond.code (mN z) (mB z) (mL z) (mR z))) := rfl
end
section
set_option maxRecDepth 100000 in
theorem okM_c0 : (List.range 20).all (fun k => okM (0 + k)) = true := by decide +kernel
set_option maxRecDepth 100000 in
theorem okM_c20 : (List.range 20).all (fun k => okM (20 + k)) = true := by decide +kernel
set_option maxRecDepth 100000 in
theorem okM_c40 : (List.range 20).all (fun k => okM (40 + k)) = true := by decide +kernel
set_option maxRecDepth 100000 in
theorem okM_c60 : (List.range 20).all (fun k => okM (60 + k)) = true := by decide +kernel
set_option maxRecDepth 100000 in
theorem okM_c80 : (List.range 20).all (fun k => okM (80 + k)) = true := by decide +kernel
set_option maxRecDepth 100000 in
theorem okM_c100 : (List.range 20).all (fun k => okM (100 + k)) = true := by decide +kernel
set_option maxRecDepth 100000 in
theorem okM_c120 : (List.range 20).all (fun k => okM (120 + k)) = true := by decide +kernel
set_option maxRecDepth 100000 in
theorem okM_c140 : (List.range 20).all (fun k => okM (140 + k)) = true := by decide +kernel
set_option maxRecDepth 100000 in
theorem okM_c160 : (List.range 20).all (fun k => okM (160 + k)) = true := by decide +kernel
set_option maxRecDepth 100000 in
theorem okM_c180 : (List.range 20).all (fun k => okM (180 + k)) = true := by decide +kernel
set_option maxRecDepth 100000 in
theorem okM_c200 : (List.range 12).all (fun k => okM (200 + k)) = true := by decide +kernel
theorem okM_all {z : Nat} (h : z < 212) : okM z = true := by
  rcases Nat.lt_or_ge z 20 with h0 | h0
  · have := List.all_eq_true.mp okM_c0 (z - 0) (List.mem_range.mpr (by omega))
    rwa [show 0 + (z - 0) = z by omega] at this
  rcases Nat.lt_or_ge z 40 with h20 | h20
  · have := List.all_eq_true.mp okM_c20 (z - 20) (List.mem_range.mpr (by omega))
    rwa [show 20 + (z - 20) = z by omega] at this
  rcases Nat.lt_or_ge z 60 with h40 | h40
  · have := List.all_eq_true.mp okM_c40 (z - 40) (List.mem_range.mpr (by omega))
    rwa [show 40 + (z - 40) = z by omega] at this
  rcases Nat.lt_or_ge z 80 with h60 | h60
  · have := List.all_eq_true.mp okM_c60 (z - 60) (List.mem_range.mpr (by omega))
    rwa [show 60 + (z - 60) = z by omega] at this
  rcases Nat.lt_or_ge z 100 with h80 | h80
  · have := List.all_eq_true.mp okM_c80 (z - 80) (List.mem_range.mpr (by omega))
    rwa [show 80 + (z - 80) = z by omega] at this
  rcases Nat.lt_or_ge z 120 with h100 | h100
  · have := List.all_eq_true.mp okM_c100 (z - 100) (List.mem_range.mpr (by omega))
    rwa [show 100 + (z - 100) = z by omega] at this
  rcases Nat.lt_or_ge z 140 with h120 | h120
  · have := List.all_eq_true.mp okM_c120 (z - 120) (List.mem_range.mpr (by omega))
    rwa [show 120 + (z - 120) = z by omega] at this
  rcases Nat.lt_or_ge z 160 with h140 | h140
  · have := List.all_eq_true.mp okM_c140 (z - 140) (List.mem_range.mpr (by omega))
    rwa [show 140 + (z - 140) = z by omega] at this
  rcases Nat.lt_or_ge z 180 with h160 | h160
  · have := List.all_eq_true.mp okM_c160 (z - 160) (List.mem_range.mpr (by omega))
    rwa [show 160 + (z - 160) = z by omega] at this
  rcases Nat.lt_or_ge z 200 with h180 | h180
  · have := List.all_eq_true.mp okM_c180 (z - 180) (List.mem_range.mpr (by omega))
    rwa [show 180 + (z - 180) = z by omega] at this
  rcases Nat.lt_or_ge z 212 with h200 | h200
  · have := List.all_eq_true.mp okM_c200 (z - 200) (List.mem_range.mpr (by omega))
    rwa [show 200 + (z - 200) = z by omega] at this
  omega
end
section
set_option maxRecDepth 100000 in
theorem okK_c0 : (List.range 10).all (fun k => okK (0 + k)) = true := by decide +kernel
set_option maxRecDepth 100000 in
theorem okK_c10 : (List.range 10).all (fun k => okK (10 + k)) = true := by decide +kernel
set_option maxRecDepth 100000 in
theorem okK_c20 : (List.range 10).all (fun k => okK (20 + k)) = true := by decide +kernel
set_option maxRecDepth 100000 in
theorem okK_c30 : (List.range 10).all (fun k => okK (30 + k)) = true := by decide +kernel
set_option maxRecDepth 100000 in
theorem okK_c40 : (List.range 10).all (fun k => okK (40 + k)) = true := by decide +kernel
set_option maxRecDepth 100000 in
theorem okK_c50 : (List.range 10).all (fun k => okK (50 + k)) = true := by decide +kernel
set_option maxRecDepth 100000 in
theorem okK_c60 : (List.range 10).all (fun k => okK (60 + k)) = true := by decide +kernel
set_option maxRecDepth 100000 in
theorem okK_c70 : (List.range 10).all (fun k => okK (70 + k)) = true := by decide +kernel
set_option maxRecDepth 100000 in
theorem okK_c80 : (List.range 10).all (fun k => okK (80 + k)) = true := by decide +kernel
set_option maxRecDepth 100000 in
theorem okK_c90 : (List.range 10).all (fun k => okK (90 + k)) = true := by decide +kernel
set_option maxRecDepth 100000 in
theorem okK_c100 : (List.range 10).all (fun k => okK (100 + k)) = true := by decide +kernel
set_option maxRecDepth 100000 in
theorem okK_c110 : (List.range 10).all (fun k => okK (110 + k)) = true := by decide +kernel
set_option maxRecDepth 100000 in
theorem okK_c120 : (List.range 10).all (fun k => okK (120 + k)) = true := by decide +kernel
set_option maxRecDepth 100000 in
theorem okK_c130 : (List.range 10).all (fun k => okK (130 + k)) = true := by decide +kernel
set_option maxRecDepth 100000 in
theorem okK_c140 : (List.range 10).all (fun k => okK (140 + k)) = true := by decide +kernel
set_option maxRecDepth 100000 in
theorem okK_c150 : (List.range 10).all (fun k => okK (150 + k)) = true := by decide +kernel
set_option maxRecDepth 100000 in
theorem okK_c160 : (List.range 10).all (fun k => okK (160 + k)) = true := by decide +kernel
set_option maxRecDepth 100000 in
theorem okK_c170 : (List.range 10).all (fun k => okK (170 + k)) = true := by decide +kernel
set_option maxRecDepth 100000 in
theorem okK_c180 : (List.range 10).all (fun k => okK (180 + k)) = true := by decide +kernel
set_option maxRecDepth 100000 in
theorem okK_c190 : (List.range 10).all (fun k => okK (190 + k)) = true := by decide +kernel
set_option maxRecDepth 100000 in
theorem okK_c200 : (List.range 10).all (fun k => okK (200 + k)) = true := by decide +kernel
set_option maxRecDepth 100000 in
theorem okK_c210 : (List.range 2).all (fun k => okK (210 + k)) = true := by decide +kernel
theorem okK_all {z : Nat} (h : z < 212) : okK z = true := by
  rcases Nat.lt_or_ge z 10 with h0 | h0
  · have := List.all_eq_true.mp okK_c0 (z - 0) (List.mem_range.mpr (by omega))
    rwa [show 0 + (z - 0) = z by omega] at this
  rcases Nat.lt_or_ge z 20 with h10 | h10
  · have := List.all_eq_true.mp okK_c10 (z - 10) (List.mem_range.mpr (by omega))
    rwa [show 10 + (z - 10) = z by omega] at this
  rcases Nat.lt_or_ge z 30 with h20 | h20
  · have := List.all_eq_true.mp okK_c20 (z - 20) (List.mem_range.mpr (by omega))
    rwa [show 20 + (z - 20) = z by omega] at this
  rcases Nat.lt_or_ge z 40 with h30 | h30
  · have := List.all_eq_true.mp okK_c30 (z - 30) (List.mem_range.mpr (by omega))
    rwa [show 30 + (z - 30) = z by omega] at this
  rcases Nat.lt_or_ge z 50 with h40 | h40
  · have := List.all_eq_true.mp okK_c40 (z - 40) (List.mem_range.mpr (by omega))
    rwa [show 40 + (z - 40) = z by omega] at this
  rcases Nat.lt_or_ge z 60 with h50 | h50
  · have := List.all_eq_true.mp okK_c50 (z - 50) (List.mem_range.mpr (by omega))
    rwa [show 50 + (z - 50) = z by omega] at this
  rcases Nat.lt_or_ge z 70 with h60 | h60
  · have := List.all_eq_true.mp okK_c60 (z - 60) (List.mem_range.mpr (by omega))
    rwa [show 60 + (z - 60) = z by omega] at this
  rcases Nat.lt_or_ge z 80 with h70 | h70
  · have := List.all_eq_true.mp okK_c70 (z - 70) (List.mem_range.mpr (by omega))
    rwa [show 70 + (z - 70) = z by omega] at this
  rcases Nat.lt_or_ge z 90 with h80 | h80
  · have := List.all_eq_true.mp okK_c80 (z - 80) (List.mem_range.mpr (by omega))
    rwa [show 80 + (z - 80) = z by omega] at this
  rcases Nat.lt_or_ge z 100 with h90 | h90
  · have := List.all_eq_true.mp okK_c90 (z - 90) (List.mem_range.mpr (by omega))
    rwa [show 90 + (z - 90) = z by omega] at this
  rcases Nat.lt_or_ge z 110 with h100 | h100
  · have := List.all_eq_true.mp okK_c100 (z - 100) (List.mem_range.mpr (by omega))
    rwa [show 100 + (z - 100) = z by omega] at this
  rcases Nat.lt_or_ge z 120 with h110 | h110
  · have := List.all_eq_true.mp okK_c110 (z - 110) (List.mem_range.mpr (by omega))
    rwa [show 110 + (z - 110) = z by omega] at this
  rcases Nat.lt_or_ge z 130 with h120 | h120
  · have := List.all_eq_true.mp okK_c120 (z - 120) (List.mem_range.mpr (by omega))
    rwa [show 120 + (z - 120) = z by omega] at this
  rcases Nat.lt_or_ge z 140 with h130 | h130
  · have := List.all_eq_true.mp okK_c130 (z - 130) (List.mem_range.mpr (by omega))
    rwa [show 130 + (z - 130) = z by omega] at this
  rcases Nat.lt_or_ge z 150 with h140 | h140
  · have := List.all_eq_true.mp okK_c140 (z - 140) (List.mem_range.mpr (by omega))
    rwa [show 140 + (z - 140) = z by omega] at this
  rcases Nat.lt_or_ge z 160 with h150 | h150
  · have := List.all_eq_true.mp okK_c150 (z - 150) (List.mem_range.mpr (by omega))
    rwa [show 150 + (z - 150) = z by omega] at this
  rcases Nat.lt_or_ge z 170 with h160 | h160
  · have := List.all_eq_true.mp okK_c160 (z - 160) (List.mem_range.mpr (by omega))
    rwa [show 160 + (z - 160) = z by omega] at this
  rcases Nat.lt_or_ge z 180 with h170 | h170
  · have := List.all_eq_true.mp okK_c170 (z - 170) (List.mem_range.mpr (by omega))
    rwa [show 170 + (z - 170) = z by omega] at this
  rcases Nat.lt_or_ge z 190 with h180 | h180
  · have := List.all_eq_true.mp okK_c180 (z - 180) (List.mem_range.mpr (by omega))
    rwa [show 180 + (z - 180) = z by omega] at this
  rcases Nat.lt_or_ge z 200 with h190 | h190
  · have := List.all_eq_true.mp okK_c190 (z - 190) (List.mem_range.mpr (by omega))
    rwa [show 190 + (z - 190) = z by omega] at this
  rcases Nat.lt_or_ge z 210 with h200 | h200
  · have := List.all_eq_true.mp okK_c200 (z - 200) (List.mem_range.mpr (by omega))
    rwa [show 200 + (z - 200) = z by omega] at this
  rcases Nat.lt_or_ge z 212 with h210 | h210
  · have := List.all_eq_true.mp okK_c210 (z - 210) (List.mem_range.mpr (by omega))
    rwa [show 210 + (z - 210) = z by omega] at this
  omega
end
section
/-! the fields of each kind of object: their words, their types, their names apart -/
def fPL : List (List Nat) := [[239, 241, 243, 245, 247, 249], [356, 358, 360, 362, 364], [304, 306, 308, 310], [114, 116, 118, 120, 122, 124, 126, 128, 130, 132, 134], [163, 165, 167, 169, 171, 173, 175, 177, 179, 181], [329, 331, 333, 335, 337, 339], [275, 277, 279, 281, 283, 285, 287, 289, 291], [394, 396], [377, 379, 381, 383], [208, 210, 212, 214, 216, 218], [409, 411, 413, 415, 417, 419, 421, 423, 425, 427], [1017, 1019, 1021, 1023, 1025, 1027, 1029, 1031, 1033, 1035, 1037, 1039, 1041, 1043, 1045, 1047, 1049, 1051, 1053, 1055, 1057, 1059, 1061, 1063, 1065, 1067, 1069, 1071, 1073, 1075, 1077, 1079, 1081, 1083, 1085, 1087, 1089, 1091, 1093, 1095, 1097, 1099, 1101, 1103, 1105, 1107, 1109, 1111]]
def okF (c : Nat) : Bool := (List.range (nF c)).all (fun k => inG ((fPL.getD c []).getD k 0) (u_lay (RC c) (TW c) k) && decide (parseFieldDescriptor (TW c k).2.2.1 = some (tyF c k)) && (List.range (nF c)).all (fun j => Nat.beq j k || decide ((TW c j).2.1 ≠ (TW c k).2.1)) && decide (hk c = (3, nF c)))
set_option maxRecDepth 100000 in
theorem okF_all : (List.range 12).all okF = true := by decide +kernel
theorem okF_k {c k : Nat} (hc : c < 12) (hq : k < nF c) : u_lay (RC c) (TW c) k ∈ lw_g ∧ parseFieldDescriptor (TW c k).2.2.1 = some (tyF c k) ∧ (∀ j, j < nF c → j ≠ k → (TW c j).2.1 ≠ (TW c k).2.1) ∧ hk c = (3, nF c) := by
  have h1 := List.all_eq_true.mp (List.all_eq_true.mp okF_all c (List.mem_range.mpr hc)) k (List.mem_range.mpr hq)
  simp only [Bool.and_eq_true, decide_eq_true_iff] at h1
  refine ⟨inG_mem h1.1.1.1, h1.1.1.2, fun j hj hn => ?_, h1.2⟩
  have h2 := List.all_eq_true.mp h1.1.2 j (List.mem_range.mpr hj)
  rcases Bool.or_eq_true _ _ |>.mp h2 with h3 | h3
  · exact absurd (Nat.eq_of_beq_eq_true h3) hn
  · exact of_decide_eq_true h3
theorem u_inW {c : Nat} (hc : c < 12) : ∀ w ∈ u_ws (RC c) (TW c) (nF c), w ∈ lw_g := by
  intro w hw
  obtain ⟨k, hk, rfl⟩ := List.mem_map.mp hw
  exact (okF_k hc (List.mem_range.mp hk)).1
theorem okW_z {z : Nat} (h : z < 212) : Cond.code (mN z) (mB z) (mL z) (mR z) ∈ lw_g := by
  have h1 := congrArg (fun l => l[z]?) okW_all
  simp only [List.getElem?_map, List.getElem?_range h, Option.map_some, Option.some.injEq] at h1
  exact List.mem_filter.mpr ⟨List.mem_of_getElem? h1, rfl⟩
theorem lk_mem {l : List (Nat × En)} {pc : Nat} {e : En} (h : lk l pc = some e) : (pc, e) ∈ l := by
  induction l with
  | nil => exact absurd h (by simp [lk])
  | cons x r ih =>
    obtain ⟨q, e'⟩ := x
    simp only [lk, cond_eq_ite] at h
    split at h
    · rename_i hq
      have := Nat.eq_of_beq_eq_true hq
      cases h
      subst this
      exact List.mem_cons_self
    · exact List.mem_cons_of_mem _ (ih h)
theorem codeOf_ok {y pc : Nat} {e : En} (h : codeOf y pc = some e) (hy : y < 212) : okE y pc e = true := by
  have h1 := okK_all hy
  unfold okK at h1
  exact List.all_eq_true.mp h1 (pc, e) (lk_mem h)
end
section
/-! THE CELLS of the heap, as the abstract machine has them. -/
def cv (ad : Nat → Nat) : Value → Value
  | .ref i => .ref (ad i)
  | v => v
def fv (ad : Nat → Nat) (σ : St) (i k : Nat) : Value := match hr i k with
  | some j => .ref (ad j)
  | none => .int (σ.1 i k)
def ent (ad : Nat → Nat) (cy : Nat → ClassId) (σ : St) (i : Nat) : va_E :=
  if (hk i).1 = 0 then .inl (cy 0, (hk i).2, .inl (σ.1 i)) else
  if (hk i).1 = 1 then .inl (cy 1, (hk i).2, .inl (σ.1 i)) else
  if (hk i).1 = 2 then .inl (cy 2, (hk i).2, .inr (.inl σ.2)) else
  .inr (i, (List.range (hk i).2).map (fv ad σ i))
def wsW (ad : Nat → Nat) (cy : Nat → ClassId) (σ : St) : va_W := (List.range 93).map fun i => (ad i, ent ad cy σ i)
def tyW (cy : Nat → ClassId) : List (ClassId × FieldType) := [(cy 0, .int), (cy 1, .boolean), (cy 2, .long)]
def adA (ad : Nat → Nat) : Nat → Prop := fun q => ∃ i, i < 93 ∧ q = ad i
def injW (ad : Nat → Nat) : Prop := ∀ i j, i < 93 → j < 93 → ad i = ad j → i = j
theorem wsW_get {ad : Nat → Nat} {cy : Nat → ClassId} {σ : St} {i : Nat} (h : i < 93) : (wsW ad cy σ)[i]? = some (ad i, ent ad cy σ i) := by
  simp [wsW, h]
theorem wsW_set {ad : Nat → Nat} {cy : Nat → ClassId} {σ σ' : St} {i : Nat} (hs : ∀ j, j ≠ i → ent ad cy σ' j = ent ad cy σ j) : (wsW ad cy σ).set i (ad i, ent ad cy σ' i) = wsW ad cy σ' := by
  apply List.ext_getElem?
  intro j
  rw [List.getElem?_set]
  by_cases hj : i = j
  · subst hj
    by_cases h : i < 93
    · rw [if_pos rfl, if_pos (by simpa [wsW] using h), wsW_get h]
    · rw [if_pos rfl, if_neg (by simpa [wsW] using h)]
      simp [wsW, h]
  · rw [if_neg hj]
    by_cases h : j < 93
    · rw [wsW_get h, wsW_get h, hs j (Ne.symm hj)]
    · simp [wsW, h]
theorem vaD_wsW {ad : Nat → Nat} {cy : Nat → ClassId} (hi : injW ad) (σ : St) : va_D (adA ad) (wsW ad cy σ) := by
  have key : ∀ (k : Nat) (q : Nat × va_E), (wsW ad cy σ)[k]? = some q → k < 93 ∧ q.1 = ad k := by
    intro k q h
    by_cases hk : k < 93
    · rw [wsW_get hk] at h
      cases h
      exact ⟨hk, rfl⟩
    · simp [wsW, hk] at h
  constructor
  · intro i j p q h1 h2 he
    obtain ⟨a1, a2⟩ := key i p h1
    obtain ⟨b1, b2⟩ := key j q h2
    exact hi i j a1 b1 (by rw [← a2, ← b2, he])
  · intro k q h
    obtain ⟨a1, a2⟩ := key k q h
    exact ⟨k, a1, a2⟩
theorem setR_ne {σ : St} {c j : Nat} {f : Nat → Int32} (h : j ≠ c) : (setR σ c f).1 j = σ.1 j := by simp [setR, h]
theorem setR_eq {σ : St} {c : Nat} {f : Nat → Int32} : (setR σ c f).1 c = f := by simp [setR]
theorem ent_setR {ad : Nat → Nat} {cy : Nat → ClassId} {σ : St} {c j : Nat} {f : Nat → Int32} (h : j ≠ c) : ent ad cy (setR σ c f) j = ent ad cy σ j := by
  have h1 := setR_ne (σ := σ) (f := f) h
  have h2 : fv ad (setR σ c f) j = fv ad σ j := by funext k; simp only [fv, h1]
  unfold ent
  rw [h1, h2]
  rfl
theorem hk_lt {j : Nat} (h : (hk j).1 ≤ 3) : j < 93 := by
  rcases Nat.lt_or_ge j 93 with q | q
  · exact q
  · exfalso
    have : hk j = (9, 0) := by
      unfold hk
      rw [List.getD_eq_getElem?_getD, List.getElem?_eq_none (by exact q)]
      rfl
    rw [this] at h
    exact absurd h (by decide)
theorem hk_long : ∀ j, j < 93 → (hk j).1 = 2 → j = 18 := by decide +kernel
theorem hk_obj : ∀ j, j < 93 → (hk j).1 = 3 → j < 12 := by decide +kernel
/-- a row of ints -/
theorem ent_i {ad : Nat → Nat} {cy : Nat → ClassId} {σ : St} {c : Nat} (h : (hk c).1 = 0) : ent ad cy σ c = .inl (cy 0, (hk c).2, .inl (σ.1 c)) := by simp [ent, h]
theorem ent_z {ad : Nat → Nat} {cy : Nat → ClassId} {σ : St} {c : Nat} (h : (hk c).1 = 1) : ent ad cy σ c = .inl (cy 1, (hk c).2, .inl (σ.1 c)) := by simp [ent, h]
theorem ent_l {ad : Nat → Nat} {cy : Nat → ClassId} {σ : St} {c : Nat} (h : (hk c).1 = 2) : ent ad cy σ c = .inl (cy 2, (hk c).2, .inr (.inl σ.2)) := by simp [ent, h]
theorem ent_o {ad : Nat → Nat} {cy : Nat → ClassId} {σ : St} {c : Nat} (h : (hk c).1 = 3) : ent ad cy σ c = .inr (c, (List.range (hk c).2).map (fv ad σ c)) := by simp [ent, h]
theorem set_i {ad : Nat → Nat} {cy : Nat → ClassId} {σ : St} {c : Nat} {f : Nat → Int32} (h : (hk c).1 = 0) : (wsW ad cy σ).set c (ad c, .inl (cy 0, (hk c).2, .inl f)) = wsW ad cy (setR σ c f) := by
  rw [← wsW_set (σ := σ) (σ' := setR σ c f) (i := c) (fun j hj => ent_setR hj), ent_i h, setR_eq]
theorem set_z {ad : Nat → Nat} {cy : Nat → ClassId} {σ : St} {c : Nat} {f : Nat → Int32} (h : (hk c).1 = 1) : (wsW ad cy σ).set c (ad c, .inl (cy 1, (hk c).2, .inl f)) = wsW ad cy (setR σ c f) := by
  rw [← wsW_set (σ := σ) (σ' := setR σ c f) (i := c) (fun j hj => ent_setR hj), ent_z h, setR_eq]
theorem set_l {ad : Nat → Nat} {cy : Nat → ClassId} {σ : St} {c k : Nat} {x : Int64} (h : (hk c).1 = 2) : (wsW ad cy σ).set c (ad c, .inl (cy 2, (hk c).2, .inr (.inl (vp_updL σ.2 k x)))) = wsW ad cy (wrL σ k x) := by
  have hc := hk_long c (hk_lt (by omega)) h
  rw [← wsW_set (σ := σ) (σ' := wrL σ k x) (i := c) ?_, ent_l h]
  · rfl
  · intro j hj
    have h2 : ¬ (hk j).1 = 2 := fun q => hj (by rw [hc]; exact hk_long j (hk_lt (by omega)) q)
    unfold ent
    rw [if_neg h2, if_neg h2]
    rfl
theorem set_o {ad : Nat → Nat} {cy : Nat → ClassId} {σ : St} {c k : Nat} {x : Int32} (h : (hk c).1 = 3) (hn : hr c k = none) : (wsW ad cy σ).set c (ad c, .inr (c, ((List.range (hk c).2).map (fv ad σ c)).set k (.int x))) = wsW ad cy (wr σ c k x) := by
  rw [← wsW_set (σ := σ) (σ' := wr σ c k x) (i := c) (fun j hj => ent_setR hj), ent_o h]
  congr 4
  apply List.ext_getElem?
  intro j
  rw [List.getElem?_set]
  by_cases hj : k = j
  · subst hj
    by_cases hl : k < (hk c).2
    · simp [hl, fv, hn, wr, setR, upd]
    · simp [hl]
  · rw [if_neg hj]
    by_cases hl : j < (hk c).2
    · have : fv ad (wr σ c k x) c j = fv ad σ c j := by
        have h9 : ¬ j = k := fun q => hj q.symm
        simp [fv, wr, setR, upd, h9]
      simp [hl, this]
    · simp [hl]
/-! LOCALS -/
def LV (ad : Nat → Nat) (ls : Array Slot) (lv : List Value) : Prop := ls.size = lv.length ∧ lv_wf ls ∧ ∀ (i : Nat) (v : Value), lv[i]? = some v → v ≠ .null → ls[i]? = some (.val (cv ad v))
def prV (ad : Nat → Nat) (lv : List Value) : List (Nat × Value) := (List.range lv.length).filterMap fun i => if lv.getD i .null = .null then none else some (i, cv ad (lv.getD i .null))
theorem LV.at {ad : Nat → Nat} {ls : Array Slot} {lv : List Value} (h : LV ad ls lv) {a : Nat} {v : Value} (hv : lv.getD a .null = v) (hn : v ≠ .null) : ls[a]? = some (.val (cv ad v)) := by
  refine h.2.2 a v ?_ hn
  rw [List.getD_eq_getElem?_getD] at hv
  cases hq : lv[a]? with
  | none => rw [hq] at hv; exact absurd hv.symm hn
  | some w => rw [hq] at hv; cases hv; rfl
theorem prV_mem {ad : Nat → Nat} {lv : List Value} {i : Nat} {w : Value} : (i, w) ∈ prV ad lv ↔ ∃ v, lv[i]? = some v ∧ v ≠ .null ∧ w = cv ad v := by
  unfold prV
  rw [List.mem_filterMap]
  constructor
  · rintro ⟨j, hj, h⟩
    rw [List.mem_range] at hj
    split at h
    · cases h
    · rename_i hn
      cases h
      refine ⟨lv.getD i .null, ?_, hn, rfl⟩
      rw [List.getD_eq_getElem?_getD, List.getElem?_eq_getElem hj]
      rfl
  · rintro ⟨v, h1, h2, rfl⟩
    have hj : i < lv.length := (List.getElem?_eq_some_iff.mp h1).1
    have h3 : lv.getD i .null = v := by rw [List.getD_eq_getElem?_getD, h1]; rfl
    refine ⟨i, List.mem_range.mpr hj, ?_⟩
    rw [h3, if_neg h2]
theorem LV.has {ad : Nat → Nat} {ls : Array Slot} {lv : List Value} (h : LV ad ls lv) : lv_has ls lv.length (prV ad lv) := by
  refine ⟨h.1, h.2.1, ?_⟩
  rintro ⟨i, w⟩ hq
  obtain ⟨v, h1, h2, rfl⟩ := prV_mem.mp hq
  exact h.2.2 i v h1 h2
theorem cv_cat (ad : Nat → Nat) (v : Value) : (cv ad v).category = v.category := by cases v <;> rfl
theorem clrV_len (lv : List Value) (a : Nat) : (clrV lv a).length = lv.length := by
  unfold clrV
  split
  · rfl
  · split <;> simp
theorem st1V_len (lv : List Value) (a : Nat) (v : Value) : (st1V lv a v).length = lv.length := by
  unfold st1V
  rw [List.length_set, clrV_len]
theorem st2V_len (lv : List Value) (a : Nat) (v : Value) : (st2V lv a v).length = lv.length := by
  unfold st2V
  rw [List.length_set, List.length_set, clrV_len]
theorem clrV_get {lv : List Value} {a j : Nat} {w : Value} (h : (clrV lv a)[j]? = some w) (hn : w ≠ .null) : lv[j]? = some w ∧ ¬ (j + 1 = a ∧ w.category = 2) := by
  unfold clrV at h
  split at h
  · exact ⟨h, fun q => by omega⟩
  · rename_i b
    have key : (lv.set b .null)[j]? = some w → lv[j]? = some w ∧ ¬ (j + 1 = b + 1 ∧ w.category = 2) := by
      intro h
      rw [List.getElem?_set] at h
      split at h
      · split at h
        · cases h; exact absurd rfl hn
        · cases h
      · exact ⟨h, fun q => by omega⟩
    split at h
    · exact key h
    · exact key h
    · rename_i h1 h2
      refine ⟨h, fun q => ?_⟩
      have hjb : j = b := by omega
      subst hjb
      have h3 : lv.getD j .null = w := by rw [List.getD_eq_getElem?_getD, h]; rfl
      rw [h3] at h1 h2
      cases w with
      | long x => exact h1 x rfl
      | double x => exact h2 x rfl
      | int x => exact absurd q.2 (by simp [Value.category])
      | float x => exact absurd q.2 (by simp [Value.category])
      | null => exact hn rfl
      | ref x => exact absurd q.2 (by simp [Value.category])
      | retAddr x => exact absurd q.2 (by simp [Value.category])
theorem LV.st1 {ad : Nat → Nat} {ls' : Array Slot} {lv : List Value} {a : Nat} {v : Value} (h' : lv_has ls' lv.length ((a, cv ad v) :: (prV ad lv).filter (fun q => !(q.1 == a) && !(q.1 + 1 == a && q.2.category == 2)))) : LV ad ls' (st1V lv a v) := by
  refine ⟨by rw [st1V_len]; exact h'.1, h'.2.1, fun j w hj hn => ?_⟩
  unfold st1V at hj
  rw [List.getElem?_set] at hj
  split at hj
  · rename_i haj
    subst haj
    split at hj
    · cases hj
      exact h'.2.2 (a, cv ad v) List.mem_cons_self
    · cases hj
  · rename_i haj
    obtain ⟨h1, h2⟩ := clrV_get hj hn
    refine h'.2.2 (j, cv ad w) (List.mem_cons_of_mem _ (List.mem_filter.mpr ⟨prV_mem.mpr ⟨w, h1, hn, rfl⟩, ?_⟩))
    simp only [cv_cat]
    have : ¬ j = a := fun q => haj q.symm
    simp only [Bool.and_eq_true, Bool.not_eq_true', Bool.and_eq_false_imp, beq_iff_eq, beq_eq_false_iff_ne, ne_eq]
    exact ⟨this, fun q => by intro z; exact h2 ⟨q, z⟩⟩
theorem LV.st2 {ad : Nat → Nat} {ls' : Array Slot} {lv : List Value} {a : Nat} {v : Value} (h' : lv_has ls' lv.length ((a, cv ad v) :: (prV ad lv).filter (fun q => !(q.1 == a) && (!(q.1 == a + 1) && !(q.1 + 1 == a && q.2.category == 2))))) : LV ad ls' (st2V lv a v) := by
  refine ⟨by rw [st2V_len]; exact h'.1, h'.2.1, fun j w hj hn => ?_⟩
  unfold st2V at hj
  rw [List.getElem?_set] at hj
  split at hj
  · split at hj
    · cases hj; exact absurd rfl hn
    · cases hj
  rename_i ha1
  rw [List.getElem?_set] at hj
  split at hj
  · rename_i haj
    subst haj
    split at hj
    · cases hj
      exact h'.2.2 (a, cv ad v) List.mem_cons_self
    · cases hj
  · rename_i haj
    obtain ⟨h1, h2⟩ := clrV_get hj hn
    refine h'.2.2 (j, cv ad w) (List.mem_cons_of_mem _ (List.mem_filter.mpr ⟨prV_mem.mpr ⟨w, h1, hn, rfl⟩, ?_⟩))
    simp only [cv_cat]
    have : ¬ j = a := fun q => haj q.symm
    have h4 : ¬ j = a + 1 := fun q => ha1 q.symm
    simp only [Bool.and_eq_true, Bool.not_eq_true', Bool.and_eq_false_imp, beq_iff_eq, beq_eq_false_iff_ne, ne_eq]
    exact ⟨this, h4, fun q => by intro z; exact h2 ⟨q, z⟩⟩
theorem lgs_cons (a : Value) (r : List Value) : lg_sl (a :: r) = (if a.category = 2 then [Slot.val a, Slot.second] else [Slot.val a]) ++ lg_sl r := rfl
theorem flat_1 {ad : Nat → Nat} {a : Value} {r : List Value} (h : a.category = 1) (ih : ∀ (i : Nat) (w : Value), (flatV r)[i]? = some w → w ≠ .null → (lg_sl (r.map (cv ad)))[i]? = some (.val (cv ad w))) (i : Nat) (w : Value) (hi : (a :: flatV r)[i]? = some w) (hn : w ≠ .null) : (lg_sl ((a :: r).map (cv ad)))[i]? = some (.val (cv ad w)) := by
  rw [List.map_cons, lgs_cons, if_neg (by rw [cv_cat, h]; decide)]
  rcases i with _ | i
  · cases hi; rfl
  · exact ih i w hi hn
theorem flat_2 {ad : Nat → Nat} {a : Value} {r : List Value} (h : a.category = 2) (ih : ∀ (i : Nat) (w : Value), (flatV r)[i]? = some w → w ≠ .null → (lg_sl (r.map (cv ad)))[i]? = some (.val (cv ad w))) (i : Nat) (w : Value) (hi : (a :: .null :: flatV r)[i]? = some w) (hn : w ≠ .null) : (lg_sl ((a :: r).map (cv ad)))[i]? = some (.val (cv ad w)) := by
  rw [List.map_cons, lgs_cons, if_pos (by rw [cv_cat, h])]
  rcases i with _ | _ | i
  · cases hi; rfl
  · cases hi; exact absurd rfl hn
  · exact ih i w hi hn
theorem flat_sl {ad : Nat → Nat} (as : List Value) : ∀ (i : Nat) (w : Value), (flatV as)[i]? = some w → w ≠ .null → (lg_sl (as.map (cv ad)))[i]? = some (.val (cv ad w)) := by
  induction as with
  | nil => intro i w h; simp [flatV] at h
  | cons a r ih =>
    intro i w h hn
    cases a
    all_goals first
      | exact flat_1 rfl ih i w h hn
      | exact flat_2 rfl ih i w h hn
theorem flat_len {ad : Nat → Nat} (as : List Value) : (lg_sl (as.map (cv ad))).length = (flatV as).length := by
  induction as with
  | nil => rfl
  | cons a r ih =>
    rw [List.map_cons, lgs_cons, List.length_append, ih, cv_cat]
    cases a <;> simp [Value.category, flatV] <;> omega
theorem LV.entry {ad : Nat → Nat} {as : List Value} {n : Nat} (h : (flatV as).length ≤ n) : LV ad ((lg_sl (as.map (cv ad)) ++ List.replicate (n - (lg_sl (as.map (cv ad))).length) Slot.unset).toArray) (entL as n) := by
  have h0 := lv_entry (as.map (cv ad)) (n := n) (by rw [flat_len]; exact h)
  refine ⟨by rw [h0.1]; simp [entL]; omega, h0.2.1, fun i w hi hn => ?_⟩
  unfold entL at hi
  rw [List.getElem?_append] at hi
  split at hi
  · rename_i hl
    have h1 := flat_sl (ad := ad) as i w hi hn
    rw [List.getElem?_toArray, List.getElem?_append_left (by rw [flat_len]; exact hl)]
    exact h1
  · rw [List.getElem?_replicate] at hi
    split at hi
    · cases hi; exact absurd rfl hn
    · cases hi
theorem entL_len {as : List Value} {n : Nat} (h : (flatV as).length ≤ n) : (entL as n).length = n := by
  simp [entL]; omega
theorem catS_eq (ad : Nat → Nat) (r : List Value) : ((r.map (cv ad)).map fun v => v.category).sum = catS r := by
  induction r with
  | nil => rfl
  | cons a r ih => simp only [List.map_cons, List.sum_cons, catS, cv_cat, ih]
theorem prV_getD {ad : Nat → Nat} {lv : List Value} {i : Nat} {v : Value} (h : lv.getD i .null = v) (hn : v ≠ .null) : (i, cv ad v) ∈ prV ad lv := by
  refine prV_mem.mpr ⟨v, ?_, hn, rfl⟩
  rw [List.getD_eq_getElem?_getD] at h
  cases hq : lv[i]? with
  | none => rw [hq] at h; exact absurd h.symm hn
  | some w => rw [hq] at h; cases h; rfl
end
section
/-! THE REAL MACHINE FOLLOWS THE ABSTRACT ONE -/
def NW (U : State) : Prop := ∀ (a : String) (i : Nat) (x : MethodName) (h : String), Cond.methodLinkNest a i x h ∈ lw_tbl → va_Nw (.methodLinkNest a i x h) U
theorem NW.warm {s U : State} (hW : s.WarmedH U.vm) (h : NW s) : NW U := fun a i x q m => va_Nw.warmM hW (h a i x q m)
theorem NW.same {s U : State} (e : s.vm = U.vm) (h : NW s) : NW U := fun a i x q m => va_Nw.same rfl e (h a i x q m)
def Ctx (D : va_G) (cy : Nat → ClassId) (y : Nat) (p : Program) (s : State) (m : MethodId) (args : Array Value) (c : Code) (Rm : Room) (cells slots : Nat) : Prop :=
  p.tables.exec = Jvm.exec ∧ c.code = mB y ∧ c.maxLocals = mL y ∧ s.vm.findClass (mN y).cls = some m.cls ∧ (∀ w ∈ lw_g, w.before args s = true) ∧ NW s ∧ (mF y ≤ Rm.frames ∧ mW y ≤ Rm.locals ∧ cells ≤ Rm.cells ∧ slots ≤ Rm.slots) ∧ va_K D vwCl (tyW cy) s
def RetAt (y : Nat) (R : List Value) (pc : Nat) : Prop := match R with
  | [.int v] => decode (mB y) pc = .ok (.ireturn, 1) ∧ (mR y = some .int ∨ (mR y = some .boolean ∧ (v = 0 ∨ v = 1)))
  | [.long _] => decode (mB y) pc = .ok (.lreturn, 1) ∧ mR y = some .long
  | [] => decode (mB y) pc = .ok (.return_, 1) ∧ mR y = none
  | _ => False
def PM (l : Launch) (D : va_G) (ad : Nat → Nat) (cy : Nat → ClassId) : AP := fun y pc lv st σ R S => y < 212 → lv.length = mL y →
  ∀ (p : Program) (e : Env) (s : State) (m : MethodId) (args : Array Value) (below : List Frame) (meth : Method) (c : Code) (H : Heap) (locs : List Loc) (ls : Array Slot) (Rm : Room) (cells slots : Nat) (Qf : State → Prop),
    Ctx D cy y p s m args c Rm cells slots → va_P D vwCl (wsW ad cy σ) H → va_S (adA ad) s.heap H locs → LV ad ls lv →
    (∀ (H1 : Heap) (locs1 : List Loc) (ls1 : Array Slot) (pc1 : Nat), va_P D vwCl (wsW ad cy S) H1 → va_S (adA ad) s.heap H1 locs1 → RetAt y R pc1 → W p l e Rm s m args below meth c H1 locs1 cells slots Qf (F0 m pc1 ls1 (R.map (cv ad)))) →
    W p l e Rm s m args below meth c H locs cells slots Qf (F0 m pc ls (st.map (cv ad)))
/-! a method's contract out of its way -/
def wsM (z : Nat) : List Cond := Cond.code (mN z) (mB z) (mL z) (mR z) :: lw_g
def rmM (z : Nat) : Room := { frames := mF z, cells := 0, slots := 0, locals := mW z }
def PcW (D : va_G) (ad : Nat → Nat) (cy : Nat → ClassId) (σ : St) (as : List Value) : Array Value → State → Prop := va_Pc (as.map (cv ad)) (fun U => va_P D vwCl (wsW ad cy σ) U.heap ∧ va_K D vwCl (tyW cy) U ∧ NW U)
def QcW (D : va_G) (ad : Nat → Nat) (cy : Nat → ClassId) (R : List Value) (S : St) : Array Value → State → Outcome → State → Prop := fun _ st o t => (o = .returned (R.map (cv ad)).head? ∧ R.length ≤ 1 ∧ va_P D vwCl (wsW ad cy S) t.heap) ∧ va_F (adA ad) st t
theorem blindW {D : va_G} {ad : Nat → Nat} {cy : Nat → ClassId} {σ : St} {as : List Value} : FrameBlind (PcW D ad cy σ as) := by
  intro a U g mk q
  obtain ⟨q0, qP, qK, qN⟩ := q
  exact ⟨q0, qP, va_K.moved (u := U) (U := U.calling g mk a) (Vm.Alike.refl U.vm) qK, qN.same rfl⟩
theorem goodM {z : Nat} (hz : z < 212) : GoodIn lw_g (wsM z) := by
  intro w hw
  have h1 : w ∈ lw_g := by
    rcases List.mem_cons.mp hw with rfl | h
    · exact okW_z hz
    · exact h
  exact ⟨h1, good_of_word (List.mem_filter.mp h1).2⟩
theorem okM_spec {z : Nat} (hz : z < 212) : Cond.initialized (mN z).cls ∈ lw_g ∧ Jvm.plainName (mN z).cls = true ∧ ((mN z).cls ≠ "java/lang/invoke/MethodHandle" ∧ (mN z).cls ≠ "java/lang/invoke/VarHandle" ∧ (parseMethodDescriptor (mN z).desc).map (fun d => d.parameters.length) = some (mA z)) ∧
    (if (mP z).2.2.2 = 9999 then Cond.static (mN z) ∈ lw_g else Cond.instanceMethod (mN z) ∈ lw_g ∧ Cond.selects (mN z).cls (mN z) (mN z) ∈ lw_g ∧ mC z < 12 ∧ RC (mC z) = (mN z).cls) := by
  have h := okM_all hz
  simp only [okM, Bool.and_eq_true, decide_eq_true_iff] at h
  refine ⟨inG_mem h.1.1.1.1.1, h.1.1.1.1.2, ⟨h.1.1.1.2, h.1.1.2, h.1.2⟩, ?_⟩
  have h2 := h.2
  rw [cond_eq_ite] at h2
  split at h2
  · rename_i q
    rw [if_pos (Nat.eq_of_beq_eq_true q)]
    exact inG_mem h2
  · rename_i q
    rw [if_neg (fun e => q (by rw [e]; rfl))]
    simp only [Bool.and_eq_true, decide_eq_true_iff] at h2
    exact ⟨inG_mem h2.1.1.1, inG_mem h2.1.1.2, Nat.le_of_ble_eq_true h2.1.2, h2.2⟩
theorem metW {l : Launch} {D : va_G} {ad : Nat → Nat} {cy : Nat → ClassId} {z : Nat} {as : List Value} {σ : St} {R : List Value} {S : St} (hz : z < 212) (hfl : (flatV as).length ≤ mL z) (h : PM l D ad cy z 0 (entL as (mL z)) [] σ R S) :
    Met l (mN z) (wsM z) (rmM z) (PcW D ad cy σ as) (QcW D ad cy R S) 0 0 (adA ad) := by
  refine Met.ofW (cc := mB z) (maxL := mL z) (ret := mR z) (okM_spec hz).2.1 rfl ?_
  intro p e s m args below meth c s₁ B hml hv
  obtain ⟨rfl, hP, hK, hN⟩ := hv
  have hts := atoms_spec (ws := wsM z) B.pre
  have hown : s.vm.findClass (mN z).cls = some m.cls := findClass_of_methodNamed B.named
  have hx := B.exec
  have hb := B.bytes
  have hr := B.returns
  have hlocks := B.notSynchronized
  rw [lg_entry_eq]
  refine h hz (entL_len hfl) p e s m _ below meth c s.heap [] _ (headSpec (wsM z) (rmM z)).room 0 0 _ ⟨hx, hb, hml, hown, fun w hw => hts w (List.mem_cons_of_mem _ hw), hN, ⟨Nat.le_refl _, Nat.le_refl _, Nat.le_refl _, Nat.le_refl _⟩, hK⟩ hP va_S.rf (LV.entry hfl) ?_
  intro H1 locs1 ls1 pc1 hP1 hS1 hR
  unfold RetAt at hR
  split at hR
  · rename_i v
    obtain ⟨hd, hty⟩ := hR
    rcases hty with hty | ⟨hty, hv⟩
    · exact W.iret (v := v) hx hb (by rw [hr, hty]) (fun t ht hW => ⟨⟨rfl, Nat.le_refl 1, by rw [ht]; exact hP1⟩, hS1.F ht⟩) hS1.2.2 hd
    · exact W.zret (v := v) (ty := .boolean) hx hb (by rw [hr, hty]) (by rcases hv with rfl | rfl <;> rfl) (fun t ht hW => ⟨⟨rfl, Nat.le_refl 1, by rw [ht]; exact hP1⟩, hS1.F ht⟩) hS1.2.2 hd
  · rename_i v
    obtain ⟨hd, hty⟩ := hR
    exact W.lret (v := v) hx hb (by rw [hr, hty]) (fun t ht hW => ⟨⟨rfl, Nat.le_refl 1, by rw [ht]; exact hP1⟩, hS1.F ht⟩) hS1.2.2 hd
  · obtain ⟨hd, hty⟩ := hR
    exact W.vret hx hb (by rw [hr, hty]) (fun t ht hW => ⟨⟨rfl, Nat.zero_le 1, by rw [ht]; exact hP1⟩, hS1.F ht⟩) hS1.2.2 hd
  · exact hR.elim
/-- behind a call -/
theorem callG {p : Program} {l : Launch} {e : Env} {R0 : Room} {s : State} {m : MethodId} {args : Array Value} {below : List Frame} {meth : Method} {c : Code} {H H0 : Heap} {locs : List Loc} {cells slots : Nat} {Q : State → Prop} {D : va_G} {ad : Nat → Nat} {cy : Nat → ClassId} {rs : List Value} {σ1 : St} {a : Array Value} {pc : Nat} {ls : Array Slot} {st0 rest : List Value}
    (hr : va_Run p l e R0 s m args below meth c H locs cells slots 0 0 (F0 m pc ls st0) rest (QcW D ad cy rs σ1 a) (adA ad)) (hS : va_S (adA ad) H0 H locs)
    (kk : ∀ (H1 : Heap) (locs1 : List Loc), va_P D vwCl (wsW ad cy σ1) H1 → va_S (adA ad) H0 H1 locs1 → W p l e R0 s m args below meth c H1 locs1 cells slots Q (F0 m (pc + 3) ls (rs.map (cv ad) ++ rest))) : W p l e R0 s m args below meth c H locs cells slots Q (F0 m pc ls st0) := by
  intro T hT X
  obtain ⟨v, st₀, t, T', L, h0, X', hL, e1, e2, ⟨⟨hv, hlen, hP⟩, hz, hk⟩, st⟩ := hr T hT X
  cases hv
  rw [h0] at hz hk
  have hS1 : va_S (adA ad) H0 T'.heap (locs ++ L) := ⟨Nat.le_trans hS.1 (by rw [e1]; exact hz), fun q h1 h2 => by rw [e1, hk q (Nat.lt_of_lt_of_le h1 hS.1) h2]; exact hS.2.1 q h1 h2, fun q hq => by
      rcases List.mem_append.mp hq with h | h
      · exact hS.2.2 q h
      · exact hL q h⟩
  obtain ⟨t2, a1, b1⟩ := kk T'.heap (locs ++ L) (by rw [e1]; exact hP) hS1 T' rfl X'
  refine ⟨t2, st t2 ?_, b1⟩
  have hl : ((rs.map (cv ad)).head?).toList = rs.map (cv ad) := by
    rcases rs with _ | ⟨r, _ | ⟨r2, rs⟩⟩
    · rfl
    · rfl
    · simp at hlen
  rw [hl]
  exact a1
/-- the callee's words and room -/
theorem callB_W {y z i n c : Nat} {v : Value} {s : State} {args : Array Value} {Rm : Room} (hz : z < 212) (hts : ∀ w ∈ lw_g, w.before args s = true) (hrm : mF y ≤ Rm.frames ∧ mW y ≤ Rm.locals) (hok : okC y i z n c v = true) :
    (Cond.initialized (mN z).cls).before args s = true ∧ n = mA z ∧ (rmM z).frames + 1 ≤ Rm.frames ∧ 8 + (mL z + 11) + (rmM z).locals ≤ Rm.locals := by
  simp only [okC, Bool.and_eq_true] at hok
  refine ⟨hts _ (okM_spec hz).1, Nat.eq_of_beq_eq_true hok.1.1.1.2, Nat.le_trans (Nat.le_of_ble_eq_true hok.1.1.2) hrm.1, Nat.le_trans (Nat.le_of_ble_eq_true hok.1.2) hrm.2⟩
theorem okC_lt {y z i n c : Nat} {v : Value} (hok : okC y i z n c v = true) : z < 212 := by
  simp only [okC, Bool.and_eq_true] at hok
  exact Nat.le_of_ble_eq_true hok.1.1.1.1
end
section
/-! the words of the JDK's own that are not walked -/
theorem jw_nat : Cond.native arraycopyName ∈ lw_g := List.mem_filter.mpr ⟨List.mem_of_getElem? (i := 450) (by decide +kernel), by decide +kernel⟩
theorem jw_sta : Cond.static arraycopyName ∈ lw_g := List.mem_filter.mpr ⟨List.mem_of_getElem? (i := 449) (by decide +kernel), by decide +kernel⟩
theorem jw_sys : Cond.initialized "java/lang/System" ∈ lw_g := List.mem_filter.mpr ⟨List.mem_of_getElem? (i := 75) (by decide +kernel), by decide +kernel⟩
theorem jw_mat : Cond.initialized "java/lang/Math" ∈ lw_g := List.mem_filter.mpr ⟨List.mem_of_getElem? (i := 76) (by decide +kernel), by decide +kernel⟩
theorem jw_sabs : Cond.static Lib.Math.abs.name ∈ lw_g := List.mem_filter.mpr ⟨List.mem_of_getElem? (i := 731) (by decide +kernel), by decide +kernel⟩
theorem jw_cabs : Cond.code Lib.Math.abs.name Lib.Math.abs.code 1 (some .int) ∈ lw_g := List.mem_filter.mpr ⟨List.mem_of_getElem? (i := 732) (by decide +kernel), by decide +kernel⟩
theorem jw_smax : Cond.static Lib.Math.max.name ∈ lw_g := List.mem_filter.mpr ⟨List.mem_of_getElem? (i := 494) (by decide +kernel), by decide +kernel⟩
theorem jw_cmax : Cond.code Lib.Math.max.name Lib.Math.max.code 2 (some .int) ∈ lw_g := List.mem_filter.mpr ⟨List.mem_of_getElem? (i := 495) (by decide +kernel), by decide +kernel⟩
theorem jw_smin : Cond.static Lib.Math.min.name ∈ lw_g := List.mem_filter.mpr ⟨List.mem_of_getElem? (i := 487) (by decide +kernel), by decide +kernel⟩
theorem jw_cmin : Cond.code Lib.Math.min.name Lib.Math.min.code 2 (some .int) ∈ lw_g := List.mem_filter.mpr ⟨List.mem_of_getElem? (i := 488) (by decide +kernel), by decide +kernel⟩
end
section
/-! ONE INSTRUCTION -/
theorem okE_spec {y pc : Nat} {ins : Instr} {ln a b c : Nat} {v : Value} (h : okE y pc (ins, ln, a, b, c, v) = true) : decode (mB y) pc = .ok (ins, ln) ∧ okL ins ln = true ∧ okX y pc ins a b c v = true := by
  simp only [okE, Bool.and_eq_true, decide_eq_true_iff] at h
  exact ⟨h.1, h.2.1, h.2.2⟩
theorem lt_ge {x z : Int32} : ¬ z ≤ x → x < z := fun h => Int32.not_le.mp h
theorem ge_lt {x z : Int32} : z ≤ x → ¬ x < z := fun h => Int32.not_lt.mpr h
theorem le_gt {x z : Int32} : ¬ z < x → x ≤ z := fun h => Int32.not_lt.mp h
theorem gt_le {x z : Int32} : z < x → ¬ x ≤ z := fun h => Int32.not_le.mpr h
set_option maxHeartbeats 4000000 in
set_option maxRecDepth 100000 in
theorem simI (l : Launch) (D : va_G) (ad : Nat → Nat) (cy : Nat → ClassId) (hi : injW ad) : ∀ (y pc : Nat) (lv st : List Value) (σ : St) (R : List Value) (S : St), stepA (PM l D ad cy) y pc lv st σ R S → PM l D ad cy y pc lv st σ R S := by
  intro y pc lv st σ R S h hy hlv p e s m args below meth c H locs ls Rm cells slots Qf hC hP hS hL hfin
  unfold stepA at h
  split at h
  case h_2 => exact h.elim
  rename_i en he
  have hok := codeOf_ok he hy
  clear he
  obtain ⟨hx, hb, hml, hown, hts, hnw, hrm, hK⟩ := id hC
  have hD : ∀ σ1, va_D (adA ad) (wsW ad cy σ1) := vaD_wsW hi
  have K : ∀ {pc1 : Nat} {lv1 st1 : List Value} {σ1 : St} {H1 : Heap} {locs1 : List Loc} {ls1 : Array Slot}, PM l D ad cy y pc1 lv1 st1 σ1 R S → lv1.length = mL y → va_P D vwCl (wsW ad cy σ1) H1 → va_S (adA ad) s.heap H1 locs1 → LV ad ls1 lv1 → W p l e Rm s m args below meth c H1 locs1 cells slots Qf (F0 m pc1 ls1 (st1.map (cv ad))) := fun q a1 b1 c1 d1 => q hy a1 p e s m args below meth c _ _ _ Rm cells slots Qf hC b1 c1 d1 hfin
  obtain ⟨ins, ln, a, b, cp, v⟩ := en
  have hok2 := okE_spec hok
  clear hok
  obtain ⟨hdg, hln, hok⟩ := hok2
  cases ins
  case iconst n => 
    have hln : ln = 1 := Nat.eq_of_beq_eq_true hln
    subst hln
    have hok := of_decide_eq_true hok
    subst hok
    exact lv_iconst hx hb hdg rfl (K h hlv hP hS hL)
  case bipush n => 
    have hln : ln = 2 := Nat.eq_of_beq_eq_true hln
    subst hln
    have hok := of_decide_eq_true hok
    subst hok
    exact lv_bipush hx hb hdg rfl (K h hlv hP hS hL)
  case sipush n => 
    have hln : ln = 3 := Nat.eq_of_beq_eq_true hln
    subst hln
    have hok := of_decide_eq_true hok
    subst hok
    exact lv_sipush hx hb hdg rfl (K h hlv hP hS hL)
  case lconst n => 
    have hln : ln = 1 := Nat.eq_of_beq_eq_true hln
    subst hln
    have hok := of_decide_eq_true hok
    subst hok
    exact lv_lconst hx hb hdg rfl (K h hlv hP hS hL)
  case ldc n => 
    have hln : ln = 2 := Nat.eq_of_beq_eq_true hln
    subst hln
    cases v <;> first | exact lv_ldc hx hb hown (hts _ (inG_mem hok)) hdg (K h hlv hP hS hL) | exact absurd hok (by simp [okX])
  case ldc_w n => 
    have hln : ln = 3 := Nat.eq_of_beq_eq_true hln
    subst hln
    cases v <;> first | exact lv_ldcw hx hb hown (hts _ (inG_mem hok)) hdg (K h hlv hP hS hL) | exact absurd hok (by simp [okX])
  case ldc2_w n => 
    have hln : ln = 3 := Nat.eq_of_beq_eq_true hln
    subst hln
    cases v <;> first | exact lv_ldc2 hx hb hown (hts _ (inG_mem hok)) hdg (K h hlv hP hS hL) | exact absurd hok (by simp [okX])
  case iload n => 
    have hln : ln = 2 := Nat.eq_of_beq_eq_true hln
    subst hln
    have hok : _ = a := Nat.eq_of_beq_eq_true hok
    subst hok
    simp only [stepC] at h
    split at h
    case h_2 => exact h.elim
    rename_i x hv
    exact lv_iload hx hb hdg (LV.at hL hv (fun q => by cases q)) (K h hlv hP hS hL)
  case lload n => 
    have hln : ln = 2 := Nat.eq_of_beq_eq_true hln
    subst hln
    have hok : _ = a := Nat.eq_of_beq_eq_true hok
    subst hok
    simp only [stepC] at h
    split at h
    case h_2 => exact h.elim
    rename_i x hv
    exact lv_lload hx hb hdg (LV.at hL hv (fun q => by cases q)) (K h hlv hP hS hL)
  case aload n => 
    have hln : ln = 2 := Nat.eq_of_beq_eq_true hln
    subst hln
    have hok : _ = a := Nat.eq_of_beq_eq_true hok
    subst hok
    simp only [stepC] at h
    split at h
    case h_2 => exact h.elim
    rename_i x hv
    exact lv_aload hx hb hdg (LV.at hL hv (fun q => by cases q)) (K h hlv hP hS hL)
  case iload_n n => 
    have hln : ln = 1 := Nat.eq_of_beq_eq_true hln
    subst hln
    have hok : _ = a := Nat.eq_of_beq_eq_true hok
    subst hok
    simp only [stepC] at h
    split at h
    case h_2 => exact h.elim
    rename_i x hv
    exact lv_iload_n hx hb hdg rfl (LV.at hL hv (fun q => by cases q)) (K h hlv hP hS hL)
  case lload_n n => 
    have hln : ln = 1 := Nat.eq_of_beq_eq_true hln
    subst hln
    have hok : _ = a := Nat.eq_of_beq_eq_true hok
    subst hok
    simp only [stepC] at h
    split at h
    case h_2 => exact h.elim
    rename_i x hv
    exact lv_lload_n hx hb hdg rfl (LV.at hL hv (fun q => by cases q)) (K h hlv hP hS hL)
  case aload_n n => 
    have hln : ln = 1 := Nat.eq_of_beq_eq_true hln
    subst hln
    have hok : _ = a := Nat.eq_of_beq_eq_true hok
    subst hok
    simp only [stepC] at h
    split at h
    case h_2 => exact h.elim
    rename_i x hv
    exact lv_aload_n hx hb hdg rfl (LV.at hL hv (fun q => by cases q)) (K h hlv hP hS hL)
  case istore n => 
    have hln : ln = 2 := Nat.eq_of_beq_eq_true hln
    subst hln
    have hok := (Bool.and_eq_true _ _).mp hok
    have ha : _ = a := Nat.eq_of_beq_eq_true hok.1
    subst ha
    have hlt := Nat.le_of_ble_eq_true hok.2
    simp only [stepC] at h
    split at h
    case h_2 => exact h.elim
    exact lv_istore hx hb hdg hL.has (by rw [hlv]; exact hlt) rfl (fun ls1 hl1 => K h (by rw [st1V_len]; exact hlv) hP hS (LV.st1 hl1))
  case istore_n n => 
    have hln : ln = 1 := Nat.eq_of_beq_eq_true hln
    subst hln
    have hok := (Bool.and_eq_true _ _).mp hok
    have ha : _ = a := Nat.eq_of_beq_eq_true hok.1
    subst ha
    have hlt := Nat.le_of_ble_eq_true hok.2
    simp only [stepC] at h
    split at h
    case h_2 => exact h.elim
    exact lv_istore_n hx hb hdg rfl hL.has (by rw [hlv]; exact hlt) rfl (fun ls1 hl1 => K h (by rw [st1V_len]; exact hlv) hP hS (LV.st1 hl1))
  case lstore n => 
    have hln : ln = 2 := Nat.eq_of_beq_eq_true hln
    subst hln
    have hok := (Bool.and_eq_true _ _).mp hok
    have ha : _ = a := Nat.eq_of_beq_eq_true hok.1
    subst ha
    have hlt := Nat.le_of_ble_eq_true hok.2
    simp only [stepC] at h
    split at h
    case h_2 => exact h.elim
    exact lv_lstore hx hb hdg hL.has (by rw [hlv]; exact hlt) rfl (fun ls1 hl1 => K h (by rw [st2V_len]; exact hlv) hP hS (LV.st2 hl1))
  case lstore_n n => 
    have hln : ln = 1 := Nat.eq_of_beq_eq_true hln
    subst hln
    have hok := (Bool.and_eq_true _ _).mp hok
    have ha : _ = a := Nat.eq_of_beq_eq_true hok.1
    subst ha
    have hlt := Nat.le_of_ble_eq_true hok.2
    simp only [stepC] at h
    split at h
    case h_2 => exact h.elim
    exact lv_lstore_n hx hb hdg rfl hL.has (by rw [hlv]; exact hlt) rfl (fun ls1 hl1 => K h (by rw [st2V_len]; exact hlv) hP hS (LV.st2 hl1))
  case iinc i n => 
    have hln : ln = 3 := Nat.eq_of_beq_eq_true hln
    subst hln
    have hok := (Bool.and_eq_true _ _).mp hok
    have hok1 := (Bool.and_eq_true _ _).mp hok.1
    have ha : _ = a := Nat.eq_of_beq_eq_true hok1.1
    subst ha
    have hlt := Nat.le_of_ble_eq_true hok1.2
    have hv := of_decide_eq_true hok.2
    subst hv
    simp only [stepC] at h
    split at h
    case h_2 => exact h.elim
    rename_i x hvx
    have hmem : (i, Value.int x) ∈ prV ad lv := prV_getD hvx (fun q => by cases q)
    obtain ⟨k, hk⟩ := List.mem_iff_getElem?.mp hmem
    exact lv_iinc hx hb hdg hL.has hk rfl (by rw [hlv]; exact hlt) rfl (fun ls1 hl1 => K h (by rw [st1V_len]; exact hlv) hP hS (LV.st1 hl1))
  case iadd => 
    have hln : ln = 1 := Nat.eq_of_beq_eq_true hln
    subst hln
    simp only [stepC] at h
    split at h
    case h_2 => exact h.elim
    exact lv_iadd hx hb hdg (K h hlv hP hS hL)
  case isub => 
    have hln : ln = 1 := Nat.eq_of_beq_eq_true hln
    subst hln
    simp only [stepC] at h
    split at h
    case h_2 => exact h.elim
    exact lv_isub hx hb hdg (K h hlv hP hS hL)
  case imul => 
    have hln : ln = 1 := Nat.eq_of_beq_eq_true hln
    subst hln
    simp only [stepC] at h
    split at h
    case h_2 => exact h.elim
    exact lv_imul hx hb hdg (K h hlv hP hS hL)
  case iand => 
    have hln : ln = 1 := Nat.eq_of_beq_eq_true hln
    subst hln
    simp only [stepC] at h
    split at h
    case h_2 => exact h.elim
    exact lv_iand hx hb hdg (K h hlv hP hS hL)
  case ior => 
    have hln : ln = 1 := Nat.eq_of_beq_eq_true hln
    subst hln
    simp only [stepC] at h
    split at h
    case h_2 => exact h.elim
    exact lv_ior hx hb hdg (K h hlv hP hS hL)
  case ixor => 
    have hln : ln = 1 := Nat.eq_of_beq_eq_true hln
    subst hln
    simp only [stepC] at h
    split at h
    case h_2 => exact h.elim
    exact lv_ixor hx hb hdg (K h hlv hP hS hL)
  case ishl => 
    have hln : ln = 1 := Nat.eq_of_beq_eq_true hln
    subst hln
    simp only [stepC] at h
    split at h
    case h_2 => exact h.elim
    exact lv_ishl hx hb hdg (K h hlv hP hS hL)
  case ishr => 
    have hln : ln = 1 := Nat.eq_of_beq_eq_true hln
    subst hln
    simp only [stepC] at h
    split at h
    case h_2 => exact h.elim
    exact lv_ishr hx hb hdg (K h hlv hP hS hL)
  case ladd => 
    have hln : ln = 1 := Nat.eq_of_beq_eq_true hln
    subst hln
    simp only [stepC] at h
    split at h
    case h_2 => exact h.elim
    exact lv_ladd hx hb hdg (K h hlv hP hS hL)
  case lsub => 
    have hln : ln = 1 := Nat.eq_of_beq_eq_true hln
    subst hln
    simp only [stepC] at h
    split at h
    case h_2 => exact h.elim
    exact lv_lsub hx hb hdg (K h hlv hP hS hL)
  case lmul => 
    have hln : ln = 1 := Nat.eq_of_beq_eq_true hln
    subst hln
    simp only [stepC] at h
    split at h
    case h_2 => exact h.elim
    exact lv_lmul hx hb hdg (K h hlv hP hS hL)
  case land => 
    have hln : ln = 1 := Nat.eq_of_beq_eq_true hln
    subst hln
    simp only [stepC] at h
    split at h
    case h_2 => exact h.elim
    exact lv_land hx hb hdg (K h hlv hP hS hL)
  case lor => 
    have hln : ln = 1 := Nat.eq_of_beq_eq_true hln
    subst hln
    simp only [stepC] at h
    split at h
    case h_2 => exact h.elim
    exact lv_lor hx hb hdg (K h hlv hP hS hL)
  case lxor => 
    have hln : ln = 1 := Nat.eq_of_beq_eq_true hln
    subst hln
    simp only [stepC] at h
    split at h
    case h_2 => exact h.elim
    exact lv_lxor hx hb hdg (K h hlv hP hS hL)
  case ineg => 
    have hln : ln = 1 := Nat.eq_of_beq_eq_true hln
    subst hln
    simp only [stepC] at h
    split at h
    case h_2 => exact h.elim
    exact lv_ineg hx hb hdg (K h hlv hP hS hL)
  case iushr => 
    have hln : ln = 1 := Nat.eq_of_beq_eq_true hln
    subst hln
    simp only [stepC] at h
    split at h
    case h_2 => exact h.elim
    exact lv_iushr hx hb hdg rfl (K h hlv hP hS hL)
  case lshl => 
    have hln : ln = 1 := Nat.eq_of_beq_eq_true hln
    subst hln
    simp only [stepC] at h
    split at h
    case h_2 => exact h.elim
    exact lv_lshl hx hb hdg rfl (K h hlv hP hS hL)
  case lshr => 
    have hln : ln = 1 := Nat.eq_of_beq_eq_true hln
    subst hln
    simp only [stepC] at h
    split at h
    case h_2 => exact h.elim
    exact lv_lshr hx hb hdg rfl (K h hlv hP hS hL)
  case lushr => 
    have hln : ln = 1 := Nat.eq_of_beq_eq_true hln
    subst hln
    simp only [stepC] at h
    split at h
    case h_2 => exact h.elim
    exact lv_lushr hx hb hdg rfl (K h hlv hP hS hL)
  case i2l => 
    have hln : ln = 1 := Nat.eq_of_beq_eq_true hln
    subst hln
    simp only [stepC] at h
    split at h
    case h_2 => exact h.elim
    exact lv_i2l hx hb hdg rfl (K h hlv hP hS hL)
  case l2i => 
    have hln : ln = 1 := Nat.eq_of_beq_eq_true hln
    subst hln
    simp only [stepC] at h
    split at h
    case h_2 => exact h.elim
    exact lv_l2i hx hb hdg rfl (K h hlv hP hS hL)
  case lcmp => 
    have hln : ln = 1 := Nat.eq_of_beq_eq_true hln
    subst hln
    simp only [stepC] at h
    split at h
    case h_2 => exact h.elim
    exact W.lcmp hx hb hdg (K h hlv hP hS hL)
  case idiv => 
    have hln : ln = 1 := Nat.eq_of_beq_eq_true hln
    subst hln
    simp only [stepC] at h
    split at h
    case h_2 => exact h.elim
    exact lv_idiv hx hb hdg h.1 (K h.2 hlv hP hS hL)
  case irem => 
    have hln : ln = 1 := Nat.eq_of_beq_eq_true hln
    subst hln
    simp only [stepC] at h
    split at h
    case h_2 => exact h.elim
    exact lv_irem hx hb hdg h.1 (K h.2 hlv hP hS hL)
  case ldiv => 
    have hln : ln = 1 := Nat.eq_of_beq_eq_true hln
    subst hln
    simp only [stepC] at h
    split at h
    case h_2 => exact h.elim
    exact lv_ldiv hx hb hdg h.1 (K h.2 hlv hP hS hL)
  case lrem => 
    have hln : ln = 1 := Nat.eq_of_beq_eq_true hln
    subst hln
    simp only [stepC] at h
    split at h
    case h_2 => exact h.elim
    exact lv_lrem hx hb hdg h.1 (K h.2 hlv hP hS hL)
  case dup => 
    have hln : ln = 1 := Nat.eq_of_beq_eq_true hln
    subst hln
    simp only [stepC] at h
    split at h
    case h_3 => exact h.elim
    all_goals exact lv_dup hx hb hdg rfl (K h hlv hP hS hL)
  case dup2 => 
    have hln : ln = 1 := Nat.eq_of_beq_eq_true hln
    subst hln
    simp only [stepC] at h
    split at h
    case h_2 => exact h.elim
    exact lv_dup2_11 hx hb hdg rfl rfl (K h hlv hP hS hL)
  case pop => 
    have hln : ln = 1 := Nat.eq_of_beq_eq_true hln
    subst hln
    simp only [stepC] at h
    split at h
    case h_2 => exact h.elim
    exact lv_pop hx hb hdg rfl (K h hlv hP hS hL)
  case goto off => 
    have hln : ln = 3 := Nat.eq_of_beq_eq_true hln
    subst hln
    exact lv_goto hx hb hdg (of_decide_eq_true hok) (K h hlv hP hS hL)
  case ifCond cc off => 
    have hln : ln = 3 := Nat.eq_of_beq_eq_true hln
    subst hln
    have ht := of_decide_eq_true hok
    simp only [stepC] at h
    split at h
    case h_2 => exact h.elim
    cases cc
    case eq => exact lv_if_eq hx hb hdg ht (fun q => K (h.1 q) hlv hP hS hL) (fun q => K (h.2 q) hlv hP hS hL)
    case ne => exact lv_if_ne hx hb hdg ht (fun q => K (h.2 q) hlv hP hS hL) (fun q => K (h.1 q) hlv hP hS hL)
    case lt => exact lv_if_lt hx hb hdg ht (fun q => K (h.1 q) hlv hP hS hL) (fun q => K (h.2 q) hlv hP hS hL)
    case ge => exact lv_if_ge hx hb hdg ht (fun q => K (h.2 (ge_lt q)) hlv hP hS hL) (fun q => K (h.1 (lt_ge q)) hlv hP hS hL)
    case gt => exact lv_if_gt hx hb hdg ht (fun q => K (h.2 (gt_le q)) hlv hP hS hL) (fun q => K (h.1 (le_gt q)) hlv hP hS hL)
    case le => exact lv_if_le hx hb hdg ht (fun q => K (h.1 q) hlv hP hS hL) (fun q => K (h.2 q) hlv hP hS hL)
  case if_icmp cc off => 
    have hln : ln = 3 := Nat.eq_of_beq_eq_true hln
    subst hln
    have ht := of_decide_eq_true hok
    simp only [stepC] at h
    split at h
    case h_2 => exact h.elim
    cases cc
    case eq => exact lv_icmp_eq hx hb hdg ht (fun q => K (h.1 q) hlv hP hS hL) (fun q => K (h.2 q) hlv hP hS hL)
    case ne => exact lv_icmp_ne hx hb hdg ht (fun q => K (h.2 q) hlv hP hS hL) (fun q => K (h.1 q) hlv hP hS hL)
    case lt => exact lv_icmp_lt hx hb hdg ht (fun q => K (h.1 q) hlv hP hS hL) (fun q => K (h.2 q) hlv hP hS hL)
    case ge => exact lv_icmp_ge hx hb hdg ht (fun q => K (h.2 (ge_lt q)) hlv hP hS hL) (fun q => K (h.1 (lt_ge q)) hlv hP hS hL)
    case gt => exact lv_icmp_gt hx hb hdg ht (fun q => K (h.2 (gt_le q)) hlv hP hS hL) (fun q => K (h.1 (le_gt q)) hlv hP hS hL)
    case le => exact lv_icmp_le hx hb hdg ht (fun q => K (h.1 q) hlv hP hS hL) (fun q => K (h.2 q) hlv hP hS hL)
  case tableswitch d lo hi offs => 
    simp only [okX, Bool.and_eq_true, decide_eq_true_iff] at hok
    simp only [stepC] at h
    split at h
    case h_2 => exact h.elim
    rename_i x r
    by_cases hq : x.toInt < lo ∨ hi < x.toInt
    · exact lv_tableOut hx hb hdg hq hok.1.1 (K (h.1 hq) hlv hP hS hL)
    · have h1 : ¬ x.toInt < lo := fun z => hq (Or.inl z)
      have h2 : ¬ hi < x.toInt := fun z => hq (Or.inr z)
      have hlt : (x.toInt - lo).toNat < offs.size := by rw [hok.1.2]; omega
      have ho : offs[(x.toInt - lo).toNat]? = some offs[(x.toInt - lo).toNat] := Array.getElem?_eq_getElem hlt
      have hpos := of_decide_eq_true (List.all_eq_true.mp hok.2 offs[(x.toInt - lo).toNat] (by simp))
      have ht : (pc : Int) + offs[(x.toInt - lo).toNat] = (((pc : Int) + offs[(x.toInt - lo).toNat]).toNat : Int) := (Int.toNat_of_nonneg hpos).symm
      exact lv_tableIn hx hb hdg h1 h2 ho ht (K (h.2 hq _ ho _ ht) hlv hP hS hL)
  case getfield n => 
    have hln : ln = 3 := Nat.eq_of_beq_eq_true hln
    subst hln
    simp only [okX, Bool.and_eq_true] at hok
    have ha := Nat.le_of_ble_eq_true hok.1.1
    have hbb := Nat.le_of_ble_eq_true hok.1.2
    have hkc := (okF_k ha hbb).2.2.2
    have hk3 : (hk a).1 = 3 := by rw [hkc]
    simp only [stepC, cond_eq_ite] at h
    split at h
    case h_2 => exact h.elim
    rename_i i r
    split at h
    case isFalse => exact h.elim
    rename_i hia
    have hia := Nat.eq_of_beq_eq_true hia
    subst hia
    have he : (wsW ad cy σ)[i]? = some (ad i, .inr (i, (List.range (hk i).2).map (fv ad σ i))) := by rw [wsW_get (by omega), ent_o hk3]
    have hc : vwCl[i]? = some (RC i, TW i, nF i) := by rw [vwCl, List.getElem?_map, List.getElem?_range (show i < 12 from ha)]; rfl
    have hv : ((List.range (hk i).2).map (fv ad σ i))[b]? = some (fv ad σ i b) := by rw [hkc, List.getElem?_map, List.getElem?_range (show b < nF i from hbb)]; rfl
    have W1 : W p l e Rm s m args below meth c H locs cells slots Qf (F0 m (pc + 3) ls (fv ad σ i b :: r.map (cv ad))) := by
      split at h
      · rename_i j hj
        have e1 : fv ad σ i b = .ref (ad j) := by simp [fv, hj]
        rw [e1]
        exact K h hlv hP hS hL
      · rename_i hj
        have e1 : fv ad σ i b = .int (σ.1 i b) := by simp [fv, hj]
        rw [e1]
        exact K h hlv hP hS hL
    exact va_get hx hb hts (u_inW ha) hown hK hP i he hc b hbb (hts _ (inG_mem hok.2)) (fun _ h9 => h9) hv hdg W1
  case putfield n => 
    have hln : ln = 3 := Nat.eq_of_beq_eq_true hln
    subst hln
    simp only [okX, Bool.and_eq_true, decide_eq_true_iff] at hok
    have ha := Nat.le_of_ble_eq_true hok.1.1.1.1.1
    have hbb := Nat.le_of_ble_eq_true hok.1.1.1.1.2
    have hkc := (okF_k ha hbb).2.2.2
    have hk3 : (hk a).1 = 3 := by rw [hkc]
    simp only [stepC, cond_eq_ite] at h
    split at h
    case h_2 => exact h.elim
    rename_i x i r
    split at h
    case isFalse => exact h.elim
    rename_i hia
    have hia := Nat.eq_of_beq_eq_true hia
    subst hia
    have he : (wsW ad cy σ)[i]? = some (ad i, .inr (i, (List.range (hk i).2).map (fv ad σ i))) := by rw [wsW_get (by omega), ent_o hk3]
    have hc : vwCl[i]? = some (RC i, TW i, nF i) := by rw [vwCl, List.getElem?_map, List.getElem?_range (show i < 12 from ha)]; rfl
    have hll : b < ((List.range (hk i).2).map (fv ad σ i)).length := by rw [hkc, List.length_map, List.length_range]; exact hbb
    have go : ∀ ty, tyF i b = ty → narrow ty (.int x) = .int x → fits ty (.int x) = true → PM l D ad cy y (pc + 3) lv r (wr σ i b x) R S → W p l e Rm s m args below meth c H locs cells slots Qf (F0 m pc ls ((Value.int x :: Value.ref i :: r).map (cv ad))) := by
      intro ty hty hn hf hh
      refine va_put (v := .int x) (ty := ty) hx hb hts (u_inW ha) (tyF i) (fun k hk => (okF_k ha hk).2.1) (fun a1 h1 b1 h2 hne => (okF_k ha h2).2.2.1 a1 h1 hne) hown hK hP (hD σ) hS i he hc b hbb (hts _ (inG_mem hok.1.1.1.2)) (fun _ h9 => h9) hok.1.2 (by rw [(okF_k ha hbb).2.1, hty]) hn hf hll hdg ?_
      intro H1 locs1 hP1 _ hS1
      rw [set_o hk3 hok.1.1.2] at hP1
      exact K hh hlv hP1 hS1 hL
    cases v
    case int q =>
      refine go .boolean (of_decide_eq_true hok.2) ?_ ?_ h.2
      · rcases h.1 with rfl | rfl <;> rfl
      · rcases h.1 with rfl | rfl <;> rfl
    all_goals exact go .int (of_decide_eq_true hok.2) rfl rfl h
  case iaload => 
    have hln : ln = 1 := Nat.eq_of_beq_eq_true hln
    subst hln
    simp only [stepC, cond_eq_ite] at h
    split at h
    case h_2 => exact h.elim
    rename_i i j r
    split at h
    case isFalse => exact h.elim
    rename_i hkb
    have hk0 := Nat.eq_of_beq_eq_true hkb
    have hj := hk_lt (j := j) (by omega)
    have he : (wsW ad cy σ)[j]? = some (ad j, .inl (cy 0, (hk j).2, .inl (σ.1 j))) := by rw [wsW_get hj, ent_i hk0]
    exact va_iald hx hb hK hP j 0 he rfl h.1 hdg (K h.2 hlv hP hS hL)
  case baload => 
    have hln : ln = 1 := Nat.eq_of_beq_eq_true hln
    subst hln
    simp only [stepC, cond_eq_ite] at h
    split at h
    case h_2 => exact h.elim
    rename_i i j r
    split at h
    case isFalse => exact h.elim
    rename_i hkb
    have hk0 := Nat.eq_of_beq_eq_true hkb
    have hj := hk_lt (j := j) (by omega)
    have he : (wsW ad cy σ)[j]? = some (ad j, .inl (cy 1, (hk j).2, .inl (σ.1 j))) := by rw [wsW_get hj, ent_z hk0]
    exact va_zald hx hb hK hP j 1 he rfl h.1 hdg (K h.2 hlv hP hS hL)
  case laload => 
    have hln : ln = 1 := Nat.eq_of_beq_eq_true hln
    subst hln
    simp only [stepC, cond_eq_ite] at h
    split at h
    case h_2 => exact h.elim
    rename_i i j r
    split at h
    case isFalse => exact h.elim
    rename_i hkb
    have hk0 := Nat.eq_of_beq_eq_true hkb
    have hj := hk_lt (j := j) (by omega)
    have he : (wsW ad cy σ)[j]? = some (ad j, .inl (cy 2, (hk j).2, .inr (.inl σ.2))) := by rw [wsW_get hj, ent_l hk0]
    exact va_lald hx hb hK hP j 2 he rfl h.1 hdg (K h.2 hlv hP hS hL)
  case iastore => 
    have hln : ln = 1 := Nat.eq_of_beq_eq_true hln
    subst hln
    simp only [stepC, cond_eq_ite] at h
    split at h
    case h_2 => exact h.elim
    rename_i x i j r
    split at h
    case isFalse => exact h.elim
    rename_i hkb
    have hk0 := Nat.eq_of_beq_eq_true hkb
    have hj := hk_lt (j := j) (by omega)
    have he : (wsW ad cy σ)[j]? = some (ad j, .inl (cy 0, (hk j).2, .inl (σ.1 j))) := by rw [wsW_get hj, ent_i hk0]
    refine va_iast hx hb hK hP (hD σ) hS j 0 he rfl h.1 hdg ?_
    intro H1 locs1 hP1 _ hS1
    rw [set_i hk0] at hP1
    exact K h.2 hlv hP1 hS1 hL
  case bastore => 
    have hln : ln = 1 := Nat.eq_of_beq_eq_true hln
    subst hln
    simp only [stepC, cond_eq_ite] at h
    split at h
    case h_2 => exact h.elim
    rename_i x i j r
    split at h
    case isFalse => exact h.elim
    rename_i hkb
    have hk0 := Nat.eq_of_beq_eq_true hkb
    have hj := hk_lt (j := j) (by omega)
    have he : (wsW ad cy σ)[j]? = some (ad j, .inl (cy 1, (hk j).2, .inl (σ.1 j))) := by rw [wsW_get hj, ent_z hk0]
    refine va_zast hx hb hK hP (hD σ) hS j 1 he rfl h.1 hdg ?_
    intro H1 locs1 hP1 _ hS1
    have hnar : vp_nar .boolean x = x := by rcases h.2.1 with rfl | rfl <;> rfl
    rw [hnar] at hP1
    rw [set_z hk0] at hP1
    exact K h.2.2 hlv hP1 hS1 hL
  case lastore => 
    have hln : ln = 1 := Nat.eq_of_beq_eq_true hln
    subst hln
    simp only [stepC, cond_eq_ite] at h
    split at h
    case h_2 => exact h.elim
    rename_i x i j r
    split at h
    case isFalse => exact h.elim
    rename_i hkb
    have hk0 := Nat.eq_of_beq_eq_true hkb
    have hj := hk_lt (j := j) (by omega)
    have he : (wsW ad cy σ)[j]? = some (ad j, .inl (cy 2, (hk j).2, .inr (.inl σ.2))) := by rw [wsW_get hj, ent_l hk0]
    refine va_last hx hb hK hP (hD σ) hS j 2 he rfl h.1 hdg ?_
    intro H1 locs1 hP1 _ hS1
    rw [set_l hk0] at hP1
    exact K h.2 hlv hP1 hS1 hL
  case arraylength => 
    have hln : ln = 1 := Nat.eq_of_beq_eq_true hln
    subst hln
    simp only [stepC, cond_eq_ite] at h
    split at h
    case h_2 => exact h.elim
    rename_i j r
    split at h
    case isFalse => exact h.elim
    rename_i hkb
    have hk0 := Nat.le_of_ble_eq_true hkb
    have hj := hk_lt (j := j) (by omega)
    have h3 : (hk j).1 = 0 ∨ (hk j).1 = 1 ∨ (hk j).1 = 2 := by omega
    rcases h3 with h3 | h3 | h3
    · exact va_alen (x := ((hk j).2, .inl (σ.1 j))) hx hb hK hP j 0 (by rw [wsW_get hj, ent_i h3]) rfl rfl hdg (K h hlv hP hS hL)
    · exact va_alen (x := ((hk j).2, .inl (σ.1 j))) hx hb hK hP j 1 (by rw [wsW_get hj, ent_z h3]) rfl rfl hdg (K h hlv hP hS hL)
    · exact va_alen (x := ((hk j).2, .inr (.inl σ.2))) hx hb hK hP j 2 (by rw [wsW_get hj, ent_l h3]) rfl rfl hdg (K h hlv hP hS hL)
  case ireturn => 
    have hln : ln = 1 := Nat.eq_of_beq_eq_true hln
    subst hln
    simp only [stepC] at h
    split at h
    case h_2 => exact h.elim
    rename_i x
    cases v
    case int q => obtain ⟨h1, rfl, rfl⟩ := h; exact hfin _ _ _ _ hP hS ⟨hdg, Or.inr ⟨of_decide_eq_true hok, h1⟩⟩
    all_goals (obtain ⟨rfl, rfl⟩ := h; exact hfin _ _ _ _ hP hS ⟨hdg, Or.inl (of_decide_eq_true hok)⟩)
  case lreturn => 
    have hln : ln = 1 := Nat.eq_of_beq_eq_true hln
    subst hln
    simp only [stepC] at h
    split at h
    case h_2 => exact h.elim
    obtain ⟨rfl, rfl⟩ := h
    exact hfin _ _ _ _ hP hS ⟨hdg, of_decide_eq_true hok⟩
  case return_ => 
    have hln : ln = 1 := Nat.eq_of_beq_eq_true hln
    subst hln
    simp only [stepC] at h
    split at h
    case h_2 => exact h.elim
    obtain ⟨rfl, rfl⟩ := h
    exact hfin _ _ _ _ hP hS ⟨hdg, of_decide_eq_true hok⟩
  case invokestatic n => 
    have hln : ln = 3 := Nat.eq_of_beq_eq_true hln
    subst hln
    simp only [okX, cond_eq_ite] at hok
    simp only [stepC, cond_eq_ite] at h
    split at hok
    case isTrue q0 =>
      rw [if_pos q0] at h
      simp only [Bool.and_eq_true] at hok
      have f1 := Nat.le_trans (Nat.le_of_ble_eq_true hok.1.2) hrm.1
      have f2 := Nat.le_trans (Nat.le_of_ble_eq_true hok.2) hrm.2.1
      split at h
      case h_2 => exact h.elim
      rename_i nn dp d sp sr r
      split at h
      case isFalse => exact h.elim
      rename_i hg
      simp only [Bool.and_eq_true] at hg
      have k0 := Nat.eq_of_beq_eq_true hg.1
      have k1 := Nat.eq_of_beq_eq_true hg.2.1
      have g2 := Nat.le_of_ble_eq_true hg.2.2
      obtain ⟨⟨c1, c2, c3, c4, c5⟩, hcont⟩ := h
      refine va_copyi (ty := .int) hx hb (by rw [hml, ← hlv]; exact hL.1.symm) hown (hts _ (inG_mem hok.1.1)) (hts _ jw_nat) (hts _ jw_sta) (hts _ jw_sys) hK hP (hD σ) hS sr d 0 0 (by rw [wsW_get (hk_lt (by omega)), ent_i k0]) (by rw [wsW_get (hk_lt (by omega)), ent_i k1]) rfl rfl rfl c1 c2 c3 c4 c5 (fun i hi => rfl) f1 ?_ hdg ?_
      · rw [catS_eq]
        have e1 : nativeFrameWords "java/lang/System" "arraycopy" 5 = 7 := by decide +kernel
        rw [e1]
        omega
      · intro H1 locs1 hP1 _ hS1
        rw [set_i k1] at hP1
        exact K hcont hlv hP1 hS1 hL
    case isFalse q0 =>
    rw [if_neg q0] at h
    split at hok
    case isTrue q1 =>
      rw [if_pos q1] at h
      simp only [Bool.and_eq_true] at hok
      have f1 := Nat.le_trans (Nat.le_of_ble_eq_true hok.1.2) hrm.1
      have f2 := Nat.le_trans (Nat.le_of_ble_eq_true hok.2) hrm.2.1
      split at h
      case h_2 => exact h.elim
      split at h
      case isFalse => exact h.elim
      rename_i hg
      have g2 := Nat.le_of_ble_eq_true hg
      exact va_mabs hx hb (by rw [hml, ← hlv]; exact hL.1.symm) hown (hts _ (inG_mem hok.1.1)) (hts _ jw_sabs) (hts _ jw_mat) (hts _ jw_cabs) f1 (by rw [catS_eq]; omega) hrm.2.2.1 hrm.2.2.2 hdg (K h hlv hP hS hL)
    case isFalse q1 =>
    rw [if_neg q1] at h
    split at hok
    case isTrue q2 =>
      rw [if_pos q2] at h
      simp only [Bool.and_eq_true] at hok
      have f1 := Nat.le_trans (Nat.le_of_ble_eq_true hok.1.2) hrm.1
      have f2 := Nat.le_trans (Nat.le_of_ble_eq_true hok.2) hrm.2.1
      split at h
      case h_2 => exact h.elim
      split at h
      case isFalse => exact h.elim
      rename_i hg
      have g2 := Nat.le_of_ble_eq_true hg
      exact va_mmax hx hb (by rw [hml, ← hlv]; exact hL.1.symm) hown (hts _ (inG_mem hok.1.1)) (hts _ jw_smax) (hts _ jw_mat) (hts _ jw_cmax) f1 (by rw [catS_eq]; omega) hrm.2.2.1 hrm.2.2.2 hdg (K h hlv hP hS hL)
    case isFalse q2 =>
    rw [if_neg q2] at h
    split at hok
    case isTrue q3 =>
      rw [if_pos q3] at h
      simp only [Bool.and_eq_true] at hok
      have f1 := Nat.le_trans (Nat.le_of_ble_eq_true hok.1.2) hrm.1
      have f2 := Nat.le_trans (Nat.le_of_ble_eq_true hok.2) hrm.2.1
      split at h
      case h_2 => exact h.elim
      split at h
      case isFalse => exact h.elim
      rename_i hg
      have g2 := Nat.le_of_ble_eq_true hg
      exact va_mmin hx hb (by rw [hml, ← hlv]; exact hL.1.symm) hown (hts _ (inG_mem hok.1.1)) (hts _ jw_smin) (hts _ jw_mat) (hts _ jw_cmin) f1 (by rw [catS_eq]; omega) hrm.2.2.1 hrm.2.2.2 hdg (K h hlv hP hS hL)
    case isFalse q3 =>
    rw [if_neg q3] at h
    have hok1 := (Bool.and_eq_true _ _).mp hok
    have hz := okC_lt hok1.1
    have hnine := Nat.eq_of_beq_eq_true hok1.2
    have hspec := (okM_spec hz).2.2.2
    rw [if_pos hnine] at hspec
    obtain ⟨hb1, hb2, hb3, hb4⟩ := callB_W hz hts ⟨hrm.1, hrm.2.1⟩ hok1.1
    obtain ⟨g1, g2, g3, rs, σ1, hcal, hcont⟩ := callC_spec h
    have hM := metW (l := l) (D := D) (ad := ad) (cy := cy) hz g3 hcal
    have hstk : st.map (cv ad) = (((st.take b).reverse).map (cv ad)).reverse ++ (st.drop b).map (cv ad) := by
      conv => lhs; rw [← List.take_append_drop b st]
      simp
    have hlen : (((st.take b).reverse).map (cv ad)).length = b := by
      simp
      omega
    have hpre : PreS s H (PcW D ad cy σ ((st.take b).reverse)) (((st.take b).reverse).map (cv ad)) := ⟨blindW, fun U hU hW => ⟨rfl, by rw [hU]; exact hP, va_K.moved hW.alike hK, hnw.warm hW⟩⟩
    have hroom : 2 * (F0 m pc ls (st.map (cv ad))).monitorRoom + (((st.drop b).map (cv ad)).map fun v => v.category).sum ≤ 8 := lv_room (by rw [catS_eq]; exact g2)
    refine callG (rest := (st.drop b).map (cv ad)) (rs := rs) (σ1 := σ1) (a := (((st.take b).reverse).map (cv ad)).toArray) ?_ hS (fun H1 locs1 hP1 hS1 => by have := K hcont hlv hP1 hS1 hL; rwa [List.map_append] at this)
    cases v
    case int q => 
      have hnl : Cond.methodLinkNest (mN y).cls n (mN a) "AshLines" ∈ lw_tbl := by
        have h2 := hok1.1
        simp only [okC, Bool.and_eq_true, decide_eq_true_iff] at h2
        exact List.mem_of_getElem? h2.2
      exact va_runSN ⟨hx, hb, hml, hown, hts⟩ hM ⟨va_cnB b hts (goodM hz) rfl rfl rfl (hnw _ _ _ _ hnl) hb1 ⟨(okM_spec hz).2.2.1.1, (okM_spec hz).2.2.1.2.1, by rw [hb2]; exact (okM_spec hz).2.2.1.2.2⟩ ⟨hb3, hb4⟩, hts _ hspec, trivial⟩ hpre rfl hlen (by show ls.size = _; rw [hL.1, hlv]) hstk hroom hdg ⟨hrm.2.2.1, hrm.2.2.2⟩
    all_goals (
      have hnl : Cond.methodLink (mN y).cls n (mN a) ∈ lw_g := by
        have h2 := hok1.1
        simp only [okC, Bool.and_eq_true] at h2
        exact inG_mem h2.2
      exact va_runS ⟨hx, hb, hml, hown, hts⟩ hM ⟨callB_of b hts (goodM hz) rfl rfl rfl hb1 (hts _ hnl) ⟨(okM_spec hz).2.2.1.1, (okM_spec hz).2.2.1.2.1, by rw [hb2]; exact (okM_spec hz).2.2.1.2.2⟩ ⟨hb3, hb4⟩, hts _ hspec⟩ hpre rfl hlen (by show ls.size = _; rw [hL.1, hlv]) hstk hroom hdg ⟨hrm.2.2.1, hrm.2.2.2⟩)
  case invokevirtual n => 
    have hln : ln = 3 := Nat.eq_of_beq_eq_true hln
    subst hln
    have hok1 := (Bool.and_eq_true _ _).mp hok
    have hz := okC_lt hok1.1
    have hnine : ¬ (mP a).2.2.2 = 9999 := by
      intro q
      have h2 := hok1.2
      rw [q] at h2
      exact absurd h2 (by decide)
    have hspec := (okM_spec hz).2.2.2
    rw [if_neg hnine] at hspec
    obtain ⟨hb1, hb2, hb3, hb4⟩ := callB_W hz hts ⟨hrm.1, hrm.2.1⟩ hok1.1
    simp only [stepC, cond_eq_ite] at h
    split at h
    case h_2 => exact h.elim
    rename_i i r hst
    split at h
    case isFalse => exact h.elim
    rename_i hib
    have hib := Nat.eq_of_beq_eq_true hib
    subst hib
    obtain ⟨g1, g2, g3, rs, σ1, hcal, hcont⟩ := callC_spec h
    have hdrop : st.drop (b + 1) = r := by rw [← List.drop_drop, hst]; rfl
    have htk : (st.take (b + 1)).reverse = .ref (mC a) :: (st.take b).reverse := by
      have h1 : st.take (b + 1) = st.take b ++ [.ref (mC a)] := by
        have h3 : st[b]? = some (.ref (mC a)) := by
          have h4 := congrArg (fun l => l[0]?) hst
          simpa using h4
        rw [List.take_succ, h3]
        rfl
      rw [h1]
      simp
    have hM := metW (l := l) (D := D) (ad := ad) (cy := cy) hz g3 hcal
    rw [htk] at hM
    rw [hdrop] at hcont g2
    have hstk : st.map (cv ad) = (((st.take b).reverse).map (cv ad)).reverse ++ Value.ref (ad (mC a)) :: r.map (cv ad) := by
      conv => lhs; rw [← List.take_append_drop b st, hst]
      simp [cv]
    have hlen : (((st.take b).reverse).map (cv ad)).length = b := by
      simp
      omega
    have hk3 : (hk (mC a)).1 = 3 := by
      have : ∀ j, j < 12 → (hk j).1 = 3 := by decide +kernel
      exact this _ hspec.2.2.1
    have hrec := va_recv (q := (RC (mC a), TW (mC a), nF (mC a))) hK hP (show vwCl[mC a]? = _ by rw [vwCl, List.getElem?_map, List.getElem?_range hspec.2.2.1]; rfl) (show (wsW ad cy σ)[mC a]? = some (ad (mC a), .inr (mC a, _)) by rw [wsW_get (by omega), ent_o hk3])
    have hpre : PreV s H (mN a).cls (ad (mC a)) (PcW D ad cy σ (.ref (mC a) :: (st.take b).reverse)) (((st.take b).reverse).map (cv ad)) := ⟨blindW, by rw [← hspec.2.2.2]; exact hrec, fun U hU hW => ⟨rfl, by rw [hU]; exact hP, va_K.moved hW.alike hK, hnw.warm hW⟩⟩
    have hroom : 2 * (F0 m pc ls (st.map (cv ad))).monitorRoom + ((r.map (cv ad)).map fun v => v.category).sum ≤ 8 := lv_room (by rw [catS_eq]; exact g2)
    refine callG (rest := r.map (cv ad)) (rs := rs) (σ1 := σ1) (a := (Value.ref (ad (mC a)) :: ((st.take b).reverse).map (cv ad)).toArray) ?_ hS (fun H1 locs1 hP1 hS1 => by have := K hcont hlv hP1 hS1 hL; rwa [List.map_append] at this)
    cases v
    case int q => 
      have hnl : Cond.methodLinkNest (mN y).cls n (mN a) "AshLines" ∈ lw_tbl := by
        have h2 := hok1.1
        simp only [okC, Bool.and_eq_true, decide_eq_true_iff] at h2
        exact List.mem_of_getElem? h2.2
      exact va_runVN ⟨hx, hb, hml, hown, hts⟩ hM ⟨va_cnB b hts (goodM hz) rfl rfl rfl (hnw _ _ _ _ hnl) hb1 ⟨(okM_spec hz).2.2.1.1, (okM_spec hz).2.2.1.2.1, by rw [hb2]; exact (okM_spec hz).2.2.1.2.2⟩ ⟨hb3, hb4⟩, hts _ hspec.1, hts _ hspec.2.1⟩ hpre rfl hlen (by show ls.size = _; rw [hL.1, hlv]) hstk hroom hdg ⟨hrm.2.2.1, hrm.2.2.2⟩
    all_goals (
      have hnl : Cond.methodLink (mN y).cls n (mN a) ∈ lw_g := by
        have h2 := hok1.1
        simp only [okC, Bool.and_eq_true] at h2
        exact inG_mem h2.2
      exact va_runV ⟨hx, hb, hml, hown, hts⟩ hM ⟨callB_of b hts (goodM hz) rfl rfl rfl hb1 (hts _ hnl) ⟨(okM_spec hz).2.2.1.1, (okM_spec hz).2.2.1.2.1, by rw [hb2]; exact (okM_spec hz).2.2.1.2.2⟩ ⟨hb3, hb4⟩, hts _ hspec.1, hts _ hspec.2.1⟩ hpre rfl hlen (by show ls.size = _; rw [hL.1, hlv]) hstk hroom hdg ⟨hrm.2.2.1, hrm.2.2.2⟩)
  all_goals exact h.elim
/-- what the abstract machine does, the real one does -/
theorem simG (l : Launch) (D : va_G) (ad : Nat → Nat) (cy : Nat → ClassId) (hi : injW ad) {y pc : Nat} {lv st : List Value} {σ : St} {R : List Value} {S : St} (h : Go y pc lv st σ R S) : PM l D ad cy y pc lv st σ R S := h _ (simI l D ad cy hi)
/-- a method's contract -/
theorem metG (l : Launch) (D : va_G) (ad : Nat → Nat) (cy : Nat → ClassId) (hi : injW ad) {z : Nat} {as : List Value} {σ : St} {R : List Value} {S : St} (hz : z < 212) (hfl : (flatV as).length ≤ mL z) (h : Ret z as σ R S) : Met l (mN z) (wsM z) (rmM z) (PcW D ad cy σ as) (QcW D ad cy R S) 0 0 (adA ad) := metW hz hfl (simG l D ad cy hi h)
end
