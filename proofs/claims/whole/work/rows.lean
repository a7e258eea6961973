section
-- ===== PART A: goes FIRST, ahead of the names: the tables' words, and 'selects' of the private methods out of them =====
/-- a private method of a class that the tables say can be made, by its rows of tables_1 -/
def lw_okq (q : MethodName × Nat) : Prop := (q.1.cls ≠ "java/lang/invoke/MethodHandle" ∧ q.1.cls ≠ "java/lang/invoke/VarHandle") ∧ Cond.instantiable q.1.cls q.2 ∈ tables_1 ∧ Cond.privateMethod q.1 ∈ tables_1 ∧ Cond.instanceMethod q.1 ∈ tables_1
theorem lw_p0 : lw_okq (⟨"IceLaw$Reader", "skipBlanks", "()V"⟩, 5) := ⟨⟨by decide +kernel, by decide +kernel⟩, List.mem_of_getElem? (i := 23) (by decide +kernel), List.mem_of_getElem? (i := 300) (by decide +kernel), List.mem_of_getElem? (i := 301) (by decide +kernel)⟩
theorem lw_p1 : lw_okq (⟨"IceLaw$Reader", "sign", "()I"⟩, 5) := ⟨⟨by decide +kernel, by decide +kernel⟩, List.mem_of_getElem? (i := 23) (by decide +kernel), List.mem_of_getElem? (i := 304) (by decide +kernel), List.mem_of_getElem? (i := 305) (by decide +kernel)⟩
theorem lw_p2 : lw_okq (⟨"IceLaw$Reader", "readClause", "(LIceLaw$River;)V"⟩, 5) := ⟨⟨by decide +kernel, by decide +kernel⟩, List.mem_of_getElem? (i := 23) (by decide +kernel), List.mem_of_getElem? (i := 308) (by decide +kernel), List.mem_of_getElem? (i := 309) (by decide +kernel)⟩
theorem lw_p3 : lw_okq (⟨"IceLaw$Reader", "blame", "(II)V"⟩, 5) := ⟨⟨by decide +kernel, by decide +kernel⟩, List.mem_of_getElem? (i := 23) (by decide +kernel), List.mem_of_getElem? (i := 312) (by decide +kernel), List.mem_of_getElem? (i := 313) (by decide +kernel)⟩
theorem lw_p4 : lw_okq (⟨"IceLaw$Reader", "readSize", "(LIceLaw$River;)V"⟩, 5) := ⟨⟨by decide +kernel, by decide +kernel⟩, List.mem_of_getElem? (i := 23) (by decide +kernel), List.mem_of_getElem? (i := 316) (by decide +kernel), List.mem_of_getElem? (i := 317) (by decide +kernel)⟩
theorem lw_p5 : lw_okq (⟨"IceLaw$Reader", "readNumber", "(II)I"⟩, 5) := ⟨⟨by decide +kernel, by decide +kernel⟩, List.mem_of_getElem? (i := 23) (by decide +kernel), List.mem_of_getElem? (i := 320) (by decide +kernel), List.mem_of_getElem? (i := 321) (by decide +kernel)⟩
theorem lw_p6 : lw_okq (⟨"IceLaw$Reader", "readEnd", "()V"⟩, 5) := ⟨⟨by decide +kernel, by decide +kernel⟩, List.mem_of_getElem? (i := 23) (by decide +kernel), List.mem_of_getElem? (i := 327) (by decide +kernel), List.mem_of_getElem? (i := 328) (by decide +kernel)⟩
theorem lw_p7 : lw_okq (⟨"IceLaw$Reader", "readList", "([III)I"⟩, 5) := ⟨⟨by decide +kernel, by decide +kernel⟩, List.mem_of_getElem? (i := 23) (by decide +kernel), List.mem_of_getElem? (i := 335) (by decide +kernel), List.mem_of_getElem? (i := 336) (by decide +kernel)⟩
theorem lw_p8 : lw_okq (⟨"IceLaw$Reader", "readPerson", "(LIceLaw$River;)V"⟩, 5) := ⟨⟨by decide +kernel, by decide +kernel⟩, List.mem_of_getElem? (i := 23) (by decide +kernel), List.mem_of_getElem? (i := 339) (by decide +kernel), List.mem_of_getElem? (i := 340) (by decide +kernel)⟩
theorem lw_p9 : lw_okq (⟨"IceLaw", "isCell", "(I)Z"⟩, 12) := ⟨⟨by decide +kernel, by decide +kernel⟩, List.mem_of_getElem? (i := 15) (by decide +kernel), List.mem_of_getElem? (i := 428) (by decide +kernel), List.mem_of_getElem? (i := 429) (by decide +kernel)⟩
theorem lw_p10 : lw_okq (⟨"IceLaw", "isPerson", "(I)Z"⟩, 12) := ⟨⟨by decide +kernel, by decide +kernel⟩, List.mem_of_getElem? (i := 15) (by decide +kernel), List.mem_of_getElem? (i := 446) (by decide +kernel), List.mem_of_getElem? (i := 447) (by decide +kernel)⟩
theorem lw_p11 : lw_okq (⟨"IceLaw", "isNoRiver", "()Z"⟩, 12) := ⟨⟨by decide +kernel, by decide +kernel⟩, List.mem_of_getElem? (i := 15) (by decide +kernel), List.mem_of_getElem? (i := 460) (by decide +kernel), List.mem_of_getElem? (i := 461) (by decide +kernel)⟩
theorem lw_p12 : lw_okq (⟨"IceLaw", "refusalOfNights", "(I)I"⟩, 12) := ⟨⟨by decide +kernel, by decide +kernel⟩, List.mem_of_getElem? (i := 15) (by decide +kernel), List.mem_of_getElem? (i := 473) (by decide +kernel), List.mem_of_getElem? (i := 474) (by decide +kernel)⟩
theorem lw_p13 : lw_okq (⟨"IceLaw$Past", "stateAt", "(I)LIceLaw$Ice;"⟩, 3) := ⟨⟨by decide +kernel, by decide +kernel⟩, List.mem_of_getElem? (i := 79) (by decide +kernel), List.mem_of_getElem? (i := 481) (by decide +kernel), List.mem_of_getElem? (i := 482) (by decide +kernel)⟩
theorem lw_p14 : lw_okq (⟨"IceLaw$Ice", "setInches", "(II)V"⟩, 6) := ⟨⟨by decide +kernel, by decide +kernel⟩, List.mem_of_getElem? (i := 49) (by decide +kernel), List.mem_of_getElem? (i := 510) (by decide +kernel), List.mem_of_getElem? (i := 511) (by decide +kernel)⟩
theorem lw_p15 : lw_okq (⟨"IceLaw$Ice", "breakOn", "(LIceLaw$River;)I"⟩, 6) := ⟨⟨by decide +kernel, by decide +kernel⟩, List.mem_of_getElem? (i := 49) (by decide +kernel), List.mem_of_getElem? (i := 514) (by decide +kernel), List.mem_of_getElem? (i := 515) (by decide +kernel)⟩
def lw_privs_1 : List (MethodName × Nat) := [(⟨"IceLaw$Reader", "skipBlanks", "()V"⟩, 5), (⟨"IceLaw$Reader", "sign", "()I"⟩, 5), (⟨"IceLaw$Reader", "readClause", "(LIceLaw$River;)V"⟩, 5), (⟨"IceLaw$Reader", "blame", "(II)V"⟩, 5), (⟨"IceLaw$Reader", "readSize", "(LIceLaw$River;)V"⟩, 5), (⟨"IceLaw$Reader", "readNumber", "(II)I"⟩, 5), (⟨"IceLaw$Reader", "readEnd", "()V"⟩, 5), (⟨"IceLaw$Reader", "readList", "([III)I"⟩, 5), (⟨"IceLaw$Reader", "readPerson", "(LIceLaw$River;)V"⟩, 5), (⟨"IceLaw", "isCell", "(I)Z"⟩, 12), (⟨"IceLaw", "isPerson", "(I)Z"⟩, 12), (⟨"IceLaw", "isNoRiver", "()Z"⟩, 12), (⟨"IceLaw", "refusalOfNights", "(I)I"⟩, 12), (⟨"IceLaw$Past", "stateAt", "(I)LIceLaw$Ice;"⟩, 3), (⟨"IceLaw$Ice", "setInches", "(II)V"⟩, 6), (⟨"IceLaw$Ice", "breakOn", "(LIceLaw$River;)I"⟩, 6)]
theorem lw_r1 : ∀ q ∈ lw_privs_1, lw_okq q := List.forall_mem_cons.mpr ⟨lw_p0, List.forall_mem_cons.mpr ⟨lw_p1, List.forall_mem_cons.mpr ⟨lw_p2, List.forall_mem_cons.mpr ⟨lw_p3, List.forall_mem_cons.mpr ⟨lw_p4, List.forall_mem_cons.mpr ⟨lw_p5, List.forall_mem_cons.mpr ⟨lw_p6, List.forall_mem_cons.mpr ⟨lw_p7, List.forall_mem_cons.mpr ⟨lw_p8, List.forall_mem_cons.mpr ⟨lw_p9, List.forall_mem_cons.mpr ⟨lw_p10, List.forall_mem_cons.mpr ⟨lw_p11, List.forall_mem_cons.mpr ⟨lw_p12, List.forall_mem_cons.mpr ⟨lw_p13, List.forall_mem_cons.mpr ⟨lw_p14, List.forall_mem_cons.mpr ⟨lw_p15, fun _ h => absurd h List.not_mem_nil⟩⟩⟩⟩⟩⟩⟩⟩⟩⟩⟩⟩⟩⟩⟩⟩
theorem lw_p16 : lw_okq (⟨"IceLaw$Ice", "drownOn", "(LIceLaw$River;I)V"⟩, 6) := ⟨⟨by decide +kernel, by decide +kernel⟩, List.mem_of_getElem? (i := 49) (by decide +kernel), List.mem_of_getElem? (i := 522) (by decide +kernel), List.mem_of_getElem? (i := 523) (by decide +kernel)⟩
theorem lw_p17 : lw_okq (⟨"IceLaw$Ice", "claim", "(II)V"⟩, 6) := ⟨⟨by decide +kernel, by decide +kernel⟩, List.mem_of_getElem? (i := 49) (by decide +kernel), List.mem_of_getElem? (i := 558) (by decide +kernel), List.mem_of_getElem? (i := 559) (by decide +kernel)⟩
theorem lw_p18 : lw_okq (⟨"IceLaw", "wander", "()V"⟩, 12) := ⟨⟨by decide +kernel, by decide +kernel⟩, List.mem_of_getElem? (i := 15) (by decide +kernel), List.mem_of_getElem? (i := 593) (by decide +kernel), List.mem_of_getElem? (i := 594) (by decide +kernel)⟩
theorem lw_p19 : lw_okq (⟨"IceLaw", "draw", "(I)I"⟩, 12) := ⟨⟨by decide +kernel, by decide +kernel⟩, List.mem_of_getElem? (i := 15) (by decide +kernel), List.mem_of_getElem? (i := 597) (by decide +kernel), List.mem_of_getElem? (i := 598) (by decide +kernel)⟩
theorem lw_p20 : lw_okq (⟨"IceLaw", "refusalOfPerson", "(II)I"⟩, 12) := ⟨⟨by decide +kernel, by decide +kernel⟩, List.mem_of_getElem? (i := 15) (by decide +kernel), List.mem_of_getElem? (i := 641) (by decide +kernel), List.mem_of_getElem? (i := 642) (by decide +kernel)⟩
theorem lw_p21 : lw_okq (⟨"IceLaw$Trial", "safeFor", "(LIceLaw$River;LIceLaw$Ice;I)I"⟩, 1) := ⟨⟨by decide +kernel, by decide +kernel⟩, List.mem_of_getElem? (i := 99) (by decide +kernel), List.mem_of_getElem? (i := 653) (by decide +kernel), List.mem_of_getElem? (i := 654) (by decide +kernel)⟩
theorem lw_p22 : lw_okq (⟨"IceLaw$Trial", "isBrokenBy", "(LIceLaw$River;LIceLaw$Ice;II)Z"⟩, 1) := ⟨⟨by decide +kernel, by decide +kernel⟩, List.mem_of_getElem? (i := 99) (by decide +kernel), List.mem_of_getElem? (i := 682) (by decide +kernel), List.mem_of_getElem? (i := 683) (by decide +kernel)⟩
theorem lw_p23 : lw_okq (⟨"IceLaw$Seen", "fits", "(LIceLaw$River;I)Z"⟩, 5) := ⟨⟨by decide +kernel, by decide +kernel⟩, List.mem_of_getElem? (i := 111) (by decide +kernel), List.mem_of_getElem? (i := 755) (by decide +kernel), List.mem_of_getElem? (i := 756) (by decide +kernel)⟩
theorem lw_p24 : lw_okq (⟨"IceLaw$Seen", "howManyAbove", "(II)I"⟩, 5) := ⟨⟨by decide +kernel, by decide +kernel⟩, List.mem_of_getElem? (i := 111) (by decide +kernel), List.mem_of_getElem? (i := 776) (by decide +kernel), List.mem_of_getElem? (i := 777) (by decide +kernel)⟩
theorem lw_p25 : lw_okq (⟨"IceLaw", "imageAt", "(I)LIceLaw$Image;"⟩, 12) := ⟨⟨by decide +kernel, by decide +kernel⟩, List.mem_of_getElem? (i := 15) (by decide +kernel), List.mem_of_getElem? (i := 810) (by decide +kernel), List.mem_of_getElem? (i := 811) (by decide +kernel)⟩
theorem lw_p26 : lw_okq (⟨"IceLawModel", "skips", "()V"⟩, 24) := ⟨⟨by decide +kernel, by decide +kernel⟩, List.mem_of_getElem? (i := 819) (by decide +kernel), List.mem_of_getElem? (i := 911) (by decide +kernel), List.mem_of_getElem? (i := 912) (by decide +kernel)⟩
theorem lw_p27 : lw_okq (⟨"IceLawModel", "look", "()I"⟩, 24) := ⟨⟨by decide +kernel, by decide +kernel⟩, List.mem_of_getElem? (i := 819) (by decide +kernel), List.mem_of_getElem? (i := 915) (by decide +kernel), List.mem_of_getElem? (i := 916) (by decide +kernel)⟩
theorem lw_p28 : lw_okq (⟨"IceLawModel", "reads", "()V"⟩, 24) := ⟨⟨by decide +kernel, by decide +kernel⟩, List.mem_of_getElem? (i := 819) (by decide +kernel), List.mem_of_getElem? (i := 919) (by decide +kernel), List.mem_of_getElem? (i := 920) (by decide +kernel)⟩
theorem lw_p29 : lw_okq (⟨"IceLawModel", "readsRiver", "()V"⟩, 24) := ⟨⟨by decide +kernel, by decide +kernel⟩, List.mem_of_getElem? (i := 819) (by decide +kernel), List.mem_of_getElem? (i := 923) (by decide +kernel), List.mem_of_getElem? (i := 924) (by decide +kernel)⟩
theorem lw_p30 : lw_okq (⟨"IceLawModel", "opens", "(Z)Z"⟩, 24) := ⟨⟨by decide +kernel, by decide +kernel⟩, List.mem_of_getElem? (i := 819) (by decide +kernel), List.mem_of_getElem? (i := 927) (by decide +kernel), List.mem_of_getElem? (i := 928) (by decide +kernel)⟩
theorem lw_p31 : lw_okq (⟨"IceLawModel", "fails", "(I)V"⟩, 24) := ⟨⟨by decide +kernel, by decide +kernel⟩, List.mem_of_getElem? (i := 819) (by decide +kernel), List.mem_of_getElem? (i := 931) (by decide +kernel), List.mem_of_getElem? (i := 932) (by decide +kernel)⟩
def lw_privs_2 : List (MethodName × Nat) := [(⟨"IceLaw$Ice", "drownOn", "(LIceLaw$River;I)V"⟩, 6), (⟨"IceLaw$Ice", "claim", "(II)V"⟩, 6), (⟨"IceLaw", "wander", "()V"⟩, 12), (⟨"IceLaw", "draw", "(I)I"⟩, 12), (⟨"IceLaw", "refusalOfPerson", "(II)I"⟩, 12), (⟨"IceLaw$Trial", "safeFor", "(LIceLaw$River;LIceLaw$Ice;I)I"⟩, 1), (⟨"IceLaw$Trial", "isBrokenBy", "(LIceLaw$River;LIceLaw$Ice;II)Z"⟩, 1), (⟨"IceLaw$Seen", "fits", "(LIceLaw$River;I)Z"⟩, 5), (⟨"IceLaw$Seen", "howManyAbove", "(II)I"⟩, 5), (⟨"IceLaw", "imageAt", "(I)LIceLaw$Image;"⟩, 12), (⟨"IceLawModel", "skips", "()V"⟩, 24), (⟨"IceLawModel", "look", "()I"⟩, 24), (⟨"IceLawModel", "reads", "()V"⟩, 24), (⟨"IceLawModel", "readsRiver", "()V"⟩, 24), (⟨"IceLawModel", "opens", "(Z)Z"⟩, 24), (⟨"IceLawModel", "fails", "(I)V"⟩, 24)]
theorem lw_r2 : ∀ q ∈ lw_privs_2, lw_okq q := List.forall_mem_cons.mpr ⟨lw_p16, List.forall_mem_cons.mpr ⟨lw_p17, List.forall_mem_cons.mpr ⟨lw_p18, List.forall_mem_cons.mpr ⟨lw_p19, List.forall_mem_cons.mpr ⟨lw_p20, List.forall_mem_cons.mpr ⟨lw_p21, List.forall_mem_cons.mpr ⟨lw_p22, List.forall_mem_cons.mpr ⟨lw_p23, List.forall_mem_cons.mpr ⟨lw_p24, List.forall_mem_cons.mpr ⟨lw_p25, List.forall_mem_cons.mpr ⟨lw_p26, List.forall_mem_cons.mpr ⟨lw_p27, List.forall_mem_cons.mpr ⟨lw_p28, List.forall_mem_cons.mpr ⟨lw_p29, List.forall_mem_cons.mpr ⟨lw_p30, List.forall_mem_cons.mpr ⟨lw_p31, fun _ h => absurd h List.not_mem_nil⟩⟩⟩⟩⟩⟩⟩⟩⟩⟩⟩⟩⟩⟩⟩⟩
theorem lw_p32 : lw_okq (⟨"IceLawModel", "number", "(II)I"⟩, 24) := ⟨⟨by decide +kernel, by decide +kernel⟩, List.mem_of_getElem? (i := 819) (by decide +kernel), List.mem_of_getElem? (i := 935) (by decide +kernel), List.mem_of_getElem? (i := 936) (by decide +kernel)⟩
theorem lw_p33 : lw_okq (⟨"IceLawModel", "word", "(I)V"⟩, 24) := ⟨⟨by decide +kernel, by decide +kernel⟩, List.mem_of_getElem? (i := 819) (by decide +kernel), List.mem_of_getElem? (i := 939) (by decide +kernel), List.mem_of_getElem? (i := 940) (by decide +kernel)⟩
theorem lw_p34 : lw_okq (⟨"IceLawModel", "readsList", "(IIII)V"⟩, 24) := ⟨⟨by decide +kernel, by decide +kernel⟩, List.mem_of_getElem? (i := 819) (by decide +kernel), List.mem_of_getElem? (i := 943) (by decide +kernel), List.mem_of_getElem? (i := 944) (by decide +kernel)⟩
theorem lw_p35 : lw_okq (⟨"IceLawModel", "readsPerson", "()V"⟩, 24) := ⟨⟨by decide +kernel, by decide +kernel⟩, List.mem_of_getElem? (i := 819) (by decide +kernel), List.mem_of_getElem? (i := 947) (by decide +kernel), List.mem_of_getElem? (i := 948) (by decide +kernel)⟩
theorem lw_p36 : lw_okq (⟨"IceLawModel", "settles", "()V"⟩, 24) := ⟨⟨by decide +kernel, by decide +kernel⟩, List.mem_of_getElem? (i := 819) (by decide +kernel), List.mem_of_getElem? (i := 951) (by decide +kernel), List.mem_of_getElem? (i := 952) (by decide +kernel)⟩
theorem lw_p37 : lw_okq (⟨"IceLawModel", "cells", "()I"⟩, 24) := ⟨⟨by decide +kernel, by decide +kernel⟩, List.mem_of_getElem? (i := 819) (by decide +kernel), List.mem_of_getElem? (i := 958) (by decide +kernel), List.mem_of_getElem? (i := 959) (by decide +kernel)⟩
theorem lw_p38 : lw_okq (⟨"IceLawModel", "holes", "()I"⟩, 24) := ⟨⟨by decide +kernel, by decide +kernel⟩, List.mem_of_getElem? (i := 819) (by decide +kernel), List.mem_of_getElem? (i := 970) (by decide +kernel), List.mem_of_getElem? (i := 971) (by decide +kernel)⟩
theorem lw_p39 : lw_okq (⟨"IceLawModel", "knock", "()I"⟩, 24) := ⟨⟨by decide +kernel, by decide +kernel⟩, List.mem_of_getElem? (i := 819) (by decide +kernel), List.mem_of_getElem? (i := 974) (by decide +kernel), List.mem_of_getElem? (i := 975) (by decide +kernel)⟩
theorem lw_p40 : lw_okq (⟨"IceLawModel", "cracks", "([II)Z"⟩, 24) := ⟨⟨by decide +kernel, by decide +kernel⟩, List.mem_of_getElem? (i := 819) (by decide +kernel), List.mem_of_getElem? (i := 978) (by decide +kernel), List.mem_of_getElem? (i := 979) (by decide +kernel)⟩
theorem lw_p41 : lw_okq (⟨"IceLawModel", "loadOf", "([II)I"⟩, 24) := ⟨⟨by decide +kernel, by decide +kernel⟩, List.mem_of_getElem? (i := 819) (by decide +kernel), List.mem_of_getElem? (i := 982) (by decide +kernel), List.mem_of_getElem? (i := 983) (by decide +kernel)⟩
theorem lw_p42 : lw_okq (⟨"IceLawModel", "areNext", "(II)Z"⟩, 24) := ⟨⟨by decide +kernel, by decide +kernel⟩, List.mem_of_getElem? (i := 819) (by decide +kernel), List.mem_of_getElem? (i := 986) (by decide +kernel), List.mem_of_getElem? (i := 987) (by decide +kernel)⟩
theorem lw_p43 : lw_okq (⟨"IceLawModel", "bearsOf", "([II)I"⟩, 24) := ⟨⟨by decide +kernel, by decide +kernel⟩, List.mem_of_getElem? (i := 819) (by decide +kernel), List.mem_of_getElem? (i := 990) (by decide +kernel), List.mem_of_getElem? (i := 991) (by decide +kernel)⟩
theorem lw_p44 : lw_okq (⟨"IceLawModel", "onCell", "([II)I"⟩, 24) := ⟨⟨by decide +kernel, by decide +kernel⟩, List.mem_of_getElem? (i := 819) (by decide +kernel), List.mem_of_getElem? (i := 994) (by decide +kernel), List.mem_of_getElem? (i := 995) (by decide +kernel)⟩
theorem lw_p45 : lw_okq (⟨"IceLawModel", "first", "()I"⟩, 24) := ⟨⟨by decide +kernel, by decide +kernel⟩, List.mem_of_getElem? (i := 819) (by decide +kernel), List.mem_of_getElem? (i := 998) (by decide +kernel), List.mem_of_getElem? (i := 999) (by decide +kernel)⟩
theorem lw_p46 : lw_okq (⟨"IceLawModel", "spare", "(I)I"⟩, 24) := ⟨⟨by decide +kernel, by decide +kernel⟩, List.mem_of_getElem? (i := 819) (by decide +kernel), List.mem_of_getElem? (i := 1002) (by decide +kernel), List.mem_of_getElem? (i := 1003) (by decide +kernel)⟩
theorem lw_p47 : lw_okq (⟨"IceLawModel", "isCell", "(I)Z"⟩, 24) := ⟨⟨by decide +kernel, by decide +kernel⟩, List.mem_of_getElem? (i := 819) (by decide +kernel), List.mem_of_getElem? (i := 1010) (by decide +kernel), List.mem_of_getElem? (i := 1011) (by decide +kernel)⟩
def lw_privs_3 : List (MethodName × Nat) := [(⟨"IceLawModel", "number", "(II)I"⟩, 24), (⟨"IceLawModel", "word", "(I)V"⟩, 24), (⟨"IceLawModel", "readsList", "(IIII)V"⟩, 24), (⟨"IceLawModel", "readsPerson", "()V"⟩, 24), (⟨"IceLawModel", "settles", "()V"⟩, 24), (⟨"IceLawModel", "cells", "()I"⟩, 24), (⟨"IceLawModel", "holes", "()I"⟩, 24), (⟨"IceLawModel", "knock", "()I"⟩, 24), (⟨"IceLawModel", "cracks", "([II)Z"⟩, 24), (⟨"IceLawModel", "loadOf", "([II)I"⟩, 24), (⟨"IceLawModel", "areNext", "(II)Z"⟩, 24), (⟨"IceLawModel", "bearsOf", "([II)I"⟩, 24), (⟨"IceLawModel", "onCell", "([II)I"⟩, 24), (⟨"IceLawModel", "first", "()I"⟩, 24), (⟨"IceLawModel", "spare", "(I)I"⟩, 24), (⟨"IceLawModel", "isCell", "(I)Z"⟩, 24)]
theorem lw_r3 : ∀ q ∈ lw_privs_3, lw_okq q := List.forall_mem_cons.mpr ⟨lw_p32, List.forall_mem_cons.mpr ⟨lw_p33, List.forall_mem_cons.mpr ⟨lw_p34, List.forall_mem_cons.mpr ⟨lw_p35, List.forall_mem_cons.mpr ⟨lw_p36, List.forall_mem_cons.mpr ⟨lw_p37, List.forall_mem_cons.mpr ⟨lw_p38, List.forall_mem_cons.mpr ⟨lw_p39, List.forall_mem_cons.mpr ⟨lw_p40, List.forall_mem_cons.mpr ⟨lw_p41, List.forall_mem_cons.mpr ⟨lw_p42, List.forall_mem_cons.mpr ⟨lw_p43, List.forall_mem_cons.mpr ⟨lw_p44, List.forall_mem_cons.mpr ⟨lw_p45, List.forall_mem_cons.mpr ⟨lw_p46, List.forall_mem_cons.mpr ⟨lw_p47, fun _ h => absurd h List.not_mem_nil⟩⟩⟩⟩⟩⟩⟩⟩⟩⟩⟩⟩⟩⟩⟩⟩
theorem lw_p48 : lw_okq (⟨"IceLawModel", "currentOf", "(I)I"⟩, 24) := ⟨⟨by decide +kernel, by decide +kernel⟩, List.mem_of_getElem? (i := 819) (by decide +kernel), List.mem_of_getElem? (i := 1015) (by decide +kernel), List.mem_of_getElem? (i := 1016) (by decide +kernel)⟩
theorem lw_p49 : lw_okq (⟨"IceLawModel", "isPerson", "(I)Z"⟩, 24) := ⟨⟨by decide +kernel, by decide +kernel⟩, List.mem_of_getElem? (i := 819) (by decide +kernel), List.mem_of_getElem? (i := 1023) (by decide +kernel), List.mem_of_getElem? (i := 1024) (by decide +kernel)⟩
theorem lw_p50 : lw_okq (⟨"IceLawModel", "isRiver", "()Z"⟩, 24) := ⟨⟨by decide +kernel, by decide +kernel⟩, List.mem_of_getElem? (i := 819) (by decide +kernel), List.mem_of_getElem? (i := 1031) (by decide +kernel), List.mem_of_getElem? (i := 1032) (by decide +kernel)⟩
theorem lw_p51 : lw_okq (⟨"IceLawModel", "coldOf", "(I)I"⟩, 24) := ⟨⟨by decide +kernel, by decide +kernel⟩, List.mem_of_getElem? (i := 819) (by decide +kernel), List.mem_of_getElem? (i := 1035) (by decide +kernel), List.mem_of_getElem? (i := 1036) (by decide +kernel)⟩
theorem lw_p52 : lw_okq (⟨"IceLawModel", "barred", "(I)I"⟩, 24) := ⟨⟨by decide +kernel, by decide +kernel⟩, List.mem_of_getElem? (i := 819) (by decide +kernel), List.mem_of_getElem? (i := 1044) (by decide +kernel), List.mem_of_getElem? (i := 1045) (by decide +kernel)⟩
theorem lw_p53 : lw_okq (⟨"IceLawModel", "notes", "()V"⟩, 24) := ⟨⟨by decide +kernel, by decide +kernel⟩, List.mem_of_getElem? (i := 819) (by decide +kernel), List.mem_of_getElem? (i := 1048) (by decide +kernel), List.mem_of_getElem? (i := 1049) (by decide +kernel)⟩
theorem lw_p54 : lw_okq (⟨"IceLawModel", "passes", "([I)V"⟩, 24) := ⟨⟨by decide +kernel, by decide +kernel⟩, List.mem_of_getElem? (i := 819) (by decide +kernel), List.mem_of_getElem? (i := 1052) (by decide +kernel), List.mem_of_getElem? (i := 1053) (by decide +kernel)⟩
theorem lw_p55 : lw_okq (⟨"IceLawModel", "breaks", "([II)I"⟩, 24) := ⟨⟨by decide +kernel, by decide +kernel⟩, List.mem_of_getElem? (i := 819) (by decide +kernel), List.mem_of_getElem? (i := 1059) (by decide +kernel), List.mem_of_getElem? (i := 1060) (by decide +kernel)⟩
theorem lw_p56 : lw_okq (⟨"IceLawModel", "breaking", "([I)I"⟩, 24) := ⟨⟨by decide +kernel, by decide +kernel⟩, List.mem_of_getElem? (i := 819) (by decide +kernel), List.mem_of_getElem? (i := 1063) (by decide +kernel), List.mem_of_getElem? (i := 1064) (by decide +kernel)⟩
theorem lw_p57 : lw_okq (⟨"IceLawModel", "drowns", "([I)V"⟩, 24) := ⟨⟨by decide +kernel, by decide +kernel⟩, List.mem_of_getElem? (i := 819) (by decide +kernel), List.mem_of_getElem? (i := 1070) (by decide +kernel), List.mem_of_getElem? (i := 1071) (by decide +kernel)⟩
theorem lw_p58 : lw_okq (⟨"IceLawModel", "canGo", "([III)Z"⟩, 24) := ⟨⟨by decide +kernel, by decide +kernel⟩, List.mem_of_getElem? (i := 819) (by decide +kernel), List.mem_of_getElem? (i := 1078) (by decide +kernel), List.mem_of_getElem? (i := 1079) (by decide +kernel)⟩
theorem lw_p59 : lw_okq (⟨"IceLawModel", "columnOf", "(I)I"⟩, 24) := ⟨⟨by decide +kernel, by decide +kernel⟩, List.mem_of_getElem? (i := 819) (by decide +kernel), List.mem_of_getElem? (i := 1082) (by decide +kernel), List.mem_of_getElem? (i := 1083) (by decide +kernel)⟩
theorem lw_p60 : lw_okq (⟨"IceLawModel", "steps", "([III)I"⟩, 24) := ⟨⟨by decide +kernel, by decide +kernel⟩, List.mem_of_getElem? (i := 819) (by decide +kernel), List.mem_of_getElem? (i := 1086) (by decide +kernel), List.mem_of_getElem? (i := 1087) (by decide +kernel)⟩
theorem lw_p61 : lw_okq (⟨"IceLawModel", "draw", "(I)I"⟩, 24) := ⟨⟨by decide +kernel, by decide +kernel⟩, List.mem_of_getElem? (i := 819) (by decide +kernel), List.mem_of_getElem? (i := 1106) (by decide +kernel), List.mem_of_getElem? (i := 1107) (by decide +kernel)⟩
theorem lw_p62 : lw_okq (⟨"IceLawModel", "triesAlone", "()V"⟩, 24) := ⟨⟨by decide +kernel, by decide +kernel⟩, List.mem_of_getElem? (i := 819) (by decide +kernel), List.mem_of_getElem? (i := 1122) (by decide +kernel), List.mem_of_getElem? (i := 1123) (by decide +kernel)⟩
theorem lw_p63 : lw_okq (⟨"IceLawModel", "tries", "()V"⟩, 24) := ⟨⟨by decide +kernel, by decide +kernel⟩, List.mem_of_getElem? (i := 819) (by decide +kernel), List.mem_of_getElem? (i := 1126) (by decide +kernel), List.mem_of_getElem? (i := 1127) (by decide +kernel)⟩
def lw_privs_4 : List (MethodName × Nat) := [(⟨"IceLawModel", "currentOf", "(I)I"⟩, 24), (⟨"IceLawModel", "isPerson", "(I)Z"⟩, 24), (⟨"IceLawModel", "isRiver", "()Z"⟩, 24), (⟨"IceLawModel", "coldOf", "(I)I"⟩, 24), (⟨"IceLawModel", "barred", "(I)I"⟩, 24), (⟨"IceLawModel", "notes", "()V"⟩, 24), (⟨"IceLawModel", "passes", "([I)V"⟩, 24), (⟨"IceLawModel", "breaks", "([II)I"⟩, 24), (⟨"IceLawModel", "breaking", "([I)I"⟩, 24), (⟨"IceLawModel", "drowns", "([I)V"⟩, 24), (⟨"IceLawModel", "canGo", "([III)Z"⟩, 24), (⟨"IceLawModel", "columnOf", "(I)I"⟩, 24), (⟨"IceLawModel", "steps", "([III)I"⟩, 24), (⟨"IceLawModel", "draw", "(I)I"⟩, 24), (⟨"IceLawModel", "triesAlone", "()V"⟩, 24), (⟨"IceLawModel", "tries", "()V"⟩, 24)]
theorem lw_r4 : ∀ q ∈ lw_privs_4, lw_okq q := List.forall_mem_cons.mpr ⟨lw_p48, List.forall_mem_cons.mpr ⟨lw_p49, List.forall_mem_cons.mpr ⟨lw_p50, List.forall_mem_cons.mpr ⟨lw_p51, List.forall_mem_cons.mpr ⟨lw_p52, List.forall_mem_cons.mpr ⟨lw_p53, List.forall_mem_cons.mpr ⟨lw_p54, List.forall_mem_cons.mpr ⟨lw_p55, List.forall_mem_cons.mpr ⟨lw_p56, List.forall_mem_cons.mpr ⟨lw_p57, List.forall_mem_cons.mpr ⟨lw_p58, List.forall_mem_cons.mpr ⟨lw_p59, List.forall_mem_cons.mpr ⟨lw_p60, List.forall_mem_cons.mpr ⟨lw_p61, List.forall_mem_cons.mpr ⟨lw_p62, List.forall_mem_cons.mpr ⟨lw_p63, fun _ h => absurd h List.not_mem_nil⟩⟩⟩⟩⟩⟩⟩⟩⟩⟩⟩⟩⟩⟩⟩⟩
theorem lw_p64 : lw_okq (⟨"IceLawModel", "bearing", "(IIZ)I"⟩, 24) := ⟨⟨by decide +kernel, by decide +kernel⟩, List.mem_of_getElem? (i := 819) (by decide +kernel), List.mem_of_getElem? (i := 1134) (by decide +kernel), List.mem_of_getElem? (i := 1135) (by decide +kernel)⟩
theorem lw_p65 : lw_okq (⟨"IceLawModel", "measures", "(I)V"⟩, 24) := ⟨⟨by decide +kernel, by decide +kernel⟩, List.mem_of_getElem? (i := 819) (by decide +kernel), List.mem_of_getElem? (i := 1146) (by decide +kernel), List.mem_of_getElem? (i := 1147) (by decide +kernel)⟩
theorem lw_p66 : lw_okq (⟨"IceLawModel", "isSafe", "(II)Z"⟩, 24) := ⟨⟨by decide +kernel, by decide +kernel⟩, List.mem_of_getElem? (i := 819) (by decide +kernel), List.mem_of_getElem? (i := 1150) (by decide +kernel), List.mem_of_getElem? (i := 1151) (by decide +kernel)⟩
theorem lw_p67 : lw_okq (⟨"IceLawModel", "isSo", "(I)Z"⟩, 24) := ⟨⟨by decide +kernel, by decide +kernel⟩, List.mem_of_getElem? (i := 819) (by decide +kernel), List.mem_of_getElem? (i := 1200) (by decide +kernel), List.mem_of_getElem? (i := 1201) (by decide +kernel)⟩
theorem lw_p68 : lw_okq (⟨"IceLawModel", "brokeBy", "(II)I"⟩, 24) := ⟨⟨by decide +kernel, by decide +kernel⟩, List.mem_of_getElem? (i := 819) (by decide +kernel), List.mem_of_getElem? (i := 1204) (by decide +kernel), List.mem_of_getElem? (i := 1205) (by decide +kernel)⟩
def lw_privs_5 : List (MethodName × Nat) := [(⟨"IceLawModel", "bearing", "(IIZ)I"⟩, 24), (⟨"IceLawModel", "measures", "(I)V"⟩, 24), (⟨"IceLawModel", "isSafe", "(II)Z"⟩, 24), (⟨"IceLawModel", "isSo", "(I)Z"⟩, 24), (⟨"IceLawModel", "brokeBy", "(II)I"⟩, 24)]
theorem lw_r5 : ∀ q ∈ lw_privs_5, lw_okq q := List.forall_mem_cons.mpr ⟨lw_p64, List.forall_mem_cons.mpr ⟨lw_p65, List.forall_mem_cons.mpr ⟨lw_p66, List.forall_mem_cons.mpr ⟨lw_p67, List.forall_mem_cons.mpr ⟨lw_p68, fun _ h => absurd h List.not_mem_nil⟩⟩⟩⟩⟩
def lw_privs : List (MethodName × Nat) := lw_privs_1 ++ (lw_privs_2 ++ (lw_privs_3 ++ (lw_privs_4 ++ (lw_privs_5))))
def lw_tbl : List Cond := k2_sels lw_privs ++ tables_1
theorem lw_privs_ok : ∀ q ∈ lw_privs, lw_okq q := by
  show ∀ q ∈ lw_privs_1 ++ (lw_privs_2 ++ (lw_privs_3 ++ (lw_privs_4 ++ (lw_privs_5)))), lw_okq q
  exact List.forall_mem_append.mpr ⟨lw_r1, List.forall_mem_append.mpr ⟨lw_r2, List.forall_mem_append.mpr ⟨lw_r3, List.forall_mem_append.mpr ⟨lw_r4, lw_r5⟩⟩⟩⟩
end
section
def RX0 : String := "IceLaw$Book"
def TX0 : u_T := fun k => match k with
  | 0 => ("IceLaw$Book", "cells", "[I", true)
  | 1 => ("IceLaw$Book", "inches", "[I", true)
  | _ => ("IceLaw$Book", "count", "I", false)
def tyX0 : Nat → FieldType := fun k => match k with
  | 0 => .array .int
  | 1 => .array .int
  | _ => .int
theorem nmX0 : ∀ a, a < 3 → ∀ b, b < 3 → a ≠ b → (TX0 a).2.1 ≠ (TX0 b).2.1 := by decide +kernel
theorem tyX0_ok : ∀ k, k < 3 → parseFieldDescriptor (TX0 k).2.2.1 = some (tyX0 k) := by decide +kernel
abbrev cX0_init : ByteArray := prog_2_method_1_code
def yX0_init : MethodName := ⟨RX0, "<init>", "()V"⟩
abbrev cX0_add : ByteArray := prog_2_method_2_code
def yX0_add : MethodName := ⟨RX0, "add", "(II)Z"⟩
abbrev cX0_firstWrong : ByteArray := prog_2_method_3_code
def yX0_firstWrong : MethodName := ⟨RX0, "firstWrong", "(LIceLaw$Ice;)I"⟩
def RX1 : String := "IceLaw$Ice"
def TX1 : u_T := fun k => match k with
  | 0 => ("IceLaw$Ice", "inches", "[I", true)
  | 1 => ("IceLaw$Ice", "places", "[I", true)
  | 2 => ("IceLaw$Ice", "snow", "I", false)
  | 3 => ("IceLaw$Ice", "nights", "I", false)
  | 4 => ("IceLaw$Ice", "owner", "I", false)
  | _ => ("IceLaw$Ice", "broke", "I", false)
def tyX1 : Nat → FieldType := fun k => match k with
  | 0 => .array .int
  | 1 => .array .int
  | 2 => .int
  | 3 => .int
  | 4 => .int
  | _ => .int
theorem nmX1 : ∀ a, a < 6 → ∀ b, b < 6 → a ≠ b → (TX1 a).2.1 ≠ (TX1 b).2.1 := by decide +kernel
theorem tyX1_ok : ∀ k, k < 6 → parseFieldDescriptor (TX1 k).2.2.1 = some (tyX1 k) := by decide +kernel
abbrev cX1_init : ByteArray := prog_3_method_1_code
def yX1_init : MethodName := ⟨RX1, "<init>", "()V"⟩
abbrev cX1_begin : ByteArray := prog_3_method_2_code
def yX1_begin : MethodName := ⟨RX1, "begin", "(LIceLaw$River;)V"⟩
abbrev cX1_copyFrom : ByteArray := prog_3_method_3_code
def yX1_copyFrom : MethodName := ⟨RX1, "copyFrom", "(LIceLaw$Ice;)V"⟩
abbrev cX1_inchesOf : ByteArray := prog_3_method_4_code
def yX1_inchesOf : MethodName := ⟨RX1, "inchesOf", "(I)I"⟩
abbrev cX1_setInches : ByteArray := prog_3_method_5_code
def yX1_setInches : MethodName := ⟨RX1, "setInches", "(II)V"⟩
abbrev cX1_placeOf : ByteArray := prog_3_method_6_code
def yX1_placeOf : MethodName := ⟨RX1, "placeOf", "(I)I"⟩
abbrev cX1_putPerson : ByteArray := prog_3_method_7_code
def yX1_putPerson : MethodName := ⟨RX1, "putPerson", "(II)V"⟩
abbrev cX1_isHole : ByteArray := prog_3_method_8_code
def yX1_isHole : MethodName := ⟨RX1, "isHole", "(I)Z"⟩
abbrev cX1_isSnowy : ByteArray := prog_3_method_9_code
def yX1_isSnowy : MethodName := ⟨RX1, "isSnowy", "(I)Z"⟩
abbrev cX1_laySnow : ByteArray := prog_3_method_10_code
def yX1_laySnow : MethodName := ⟨RX1, "laySnow", "(IZ)V"⟩
abbrev cX1_bears : ByteArray := prog_3_method_11_code
def yX1_bears : MethodName := ⟨RX1, "bears", "(LIceLaw$River;I)I"⟩
abbrev cX1_load : ByteArray := prog_3_method_12_code
def yX1_load : MethodName := ⟨RX1, "load", "(LIceLaw$River;I)I"⟩
abbrev cX1_spare : ByteArray := prog_3_method_13_code
def yX1_spare : MethodName := ⟨RX1, "spare", "(LIceLaw$River;I)I"⟩
abbrev cX1_personsOn : ByteArray := prog_3_method_14_code
def yX1_personsOn : MethodName := ⟨RX1, "personsOn", "(LIceLaw$River;I)I"⟩
abbrev cX1_drowned : ByteArray := prog_3_method_15_code
def yX1_drowned : MethodName := ⟨RX1, "drowned", "(LIceLaw$River;)I"⟩
abbrev cX1_holes : ByteArray := prog_3_method_16_code
def yX1_holes : MethodName := ⟨RX1, "holes", "(LIceLaw$River;)I"⟩
abbrev cX1_openRows : ByteArray := prog_3_method_17_code
def yX1_openRows : MethodName := ⟨RX1, "openRows", "(LIceLaw$River;)I"⟩
abbrev cX1_cracking : ByteArray := prog_3_method_18_code
def yX1_cracking : MethodName := ⟨RX1, "cracking", "(LIceLaw$River;)I"⟩
abbrev cX1_weakest : ByteArray := prog_3_method_19_code
def yX1_weakest : MethodName := ⟨RX1, "weakest", "(LIceLaw$River;)I"⟩
abbrev cX1_overloaded : ByteArray := prog_3_method_20_code
def yX1_overloaded : MethodName := ⟨RX1, "overloaded", "(LIceLaw$River;)I"⟩
abbrev cX1_ways : ByteArray := prog_3_method_21_code
def yX1_ways : MethodName := ⟨RX1, "ways", "(LIceLaw$River;I)I"⟩
abbrev cX1_canGo : ByteArray := prog_3_method_22_code
def yX1_canGo : MethodName := ⟨RX1, "canGo", "(LIceLaw$River;II)Z"⟩
abbrev cX1_go : ByteArray := prog_3_method_23_code
def yX1_go : MethodName := ⟨RX1, "go", "(LIceLaw$River;II)I"⟩
abbrev cX1_strewSalt : ByteArray := prog_3_method_24_code
def yX1_strewSalt : MethodName := ⟨RX1, "strewSalt", "(LIceLaw$River;III)I"⟩
abbrev cX1_claim : ByteArray := prog_3_method_25_code
def yX1_claim : MethodName := ⟨RX1, "claim", "(II)V"⟩
abbrev cX1_passNight : ByteArray := prog_3_method_26_code
def yX1_passNight : MethodName := ⟨RX1, "passNight", "(LIceLaw$River;)V"⟩
abbrev cX1_comeSpring : ByteArray := prog_3_method_27_code
def yX1_comeSpring : MethodName := ⟨RX1, "comeSpring", "()V"⟩
abbrev cX1_breakOn : ByteArray := prog_3_method_28_code
def yX1_breakOn : MethodName := ⟨RX1, "breakOn", "(LIceLaw$River;)I"⟩
abbrev cX1_drownOn : ByteArray := prog_3_method_29_code
def yX1_drownOn : MethodName := ⟨RX1, "drownOn", "(LIceLaw$River;I)V"⟩
def RX2 : String := "IceLaw$Image"
def TX2 : u_T := fun k => match k with
  | 0 => ("IceLaw$Image", "ice", "LIceLaw$Ice;", true)
  | _ => ("IceLaw$Image", "seed", "I", false)
def tyX2 : Nat → FieldType := fun k => match k with
  | 0 => .object "IceLaw$Ice"
  | _ => .int
theorem nmX2 : ∀ a, a < 2 → ∀ b, b < 2 → a ≠ b → (TX2 a).2.1 ≠ (TX2 b).2.1 := by decide +kernel
theorem tyX2_ok : ∀ k, k < 2 → parseFieldDescriptor (TX2 k).2.2.1 = some (tyX2 k) := by decide +kernel
abbrev cX2_init : ByteArray := prog_4_method_1_code
def yX2_init : MethodName := ⟨RX2, "<init>", "()V"⟩
def RX3 : String := "IceLaw$Past"
def TX3 : u_T := fun k => match k with
  | 0 => ("IceLaw$Past", "states", "[LIceLaw$Ice;", true)
  | 1 => ("IceLaw$Past", "next", "I", false)
  | _ => ("IceLaw$Past", "count", "I", false)
def tyX3 : Nat → FieldType := fun k => match k with
  | 0 => .array (.object "IceLaw$Ice")
  | 1 => .int
  | _ => .int
theorem nmX3 : ∀ a, a < 3 → ∀ b, b < 3 → a ≠ b → (TX3 a).2.1 ≠ (TX3 b).2.1 := by decide +kernel
theorem tyX3_ok : ∀ k, k < 3 → parseFieldDescriptor (TX3 k).2.2.1 = some (tyX3 k) := by decide +kernel
abbrev cX3_init : ByteArray := prog_5_method_1_code
def yX3_init : MethodName := ⟨RX3, "<init>", "()V"⟩
abbrev cX3_remember : ByteArray := prog_5_method_2_code
def yX3_remember : MethodName := ⟨RX3, "remember", "(LIceLaw$Ice;)V"⟩
abbrev cX3_restore : ByteArray := prog_5_method_3_code
def yX3_restore : MethodName := ⟨RX3, "restore", "(LIceLaw$Ice;)Z"⟩
abbrev cX3_stateAt : ByteArray := prog_5_method_4_code
def yX3_stateAt : MethodName := ⟨RX3, "stateAt", "(I)LIceLaw$Ice;"⟩
def RX4 : String := "IceLaw$Reader"
def TX4 : u_T := fun k => match k with
  | 0 => ("IceLaw$Reader", "text", "[I", true)
  | 1 => ("IceLaw$Reader", "at", "I", false)
  | 2 => ("IceLaw$Reader", "letters", "I", false)
  | 3 => ("IceLaw$Reader", "fault", "I", false)
  | _ => ("IceLaw$Reader", "faultAt", "I", false)
def tyX4 : Nat → FieldType := fun k => match k with
  | 0 => .array .int
  | 1 => .int
  | 2 => .int
  | 3 => .int
  | _ => .int
theorem nmX4 : ∀ a, a < 5 → ∀ b, b < 5 → a ≠ b → (TX4 a).2.1 ≠ (TX4 b).2.1 := by decide +kernel
theorem tyX4_ok : ∀ k, k < 5 → parseFieldDescriptor (TX4 k).2.2.1 = some (tyX4 k) := by decide +kernel
abbrev cX4_init : ByteArray := prog_6_method_1_code
def yX4_init : MethodName := ⟨RX4, "<init>", "()V"⟩
abbrev cX4_add : ByteArray := prog_6_method_2_code
def yX4_add : MethodName := ⟨RX4, "add", "(I)Z"⟩
abbrev cX4_readInto : ByteArray := prog_6_method_3_code
def yX4_readInto : MethodName := ⟨RX4, "readInto", "(LIceLaw$River;)V"⟩
abbrev cX4_readClause : ByteArray := prog_6_method_4_code
def yX4_readClause : MethodName := ⟨RX4, "readClause", "(LIceLaw$River;)V"⟩
abbrev cX4_readSize : ByteArray := prog_6_method_5_code
def yX4_readSize : MethodName := ⟨RX4, "readSize", "(LIceLaw$River;)V"⟩
abbrev cX4_readPerson : ByteArray := prog_6_method_6_code
def yX4_readPerson : MethodName := ⟨RX4, "readPerson", "(LIceLaw$River;)V"⟩
abbrev cX4_readList : ByteArray := prog_6_method_7_code
def yX4_readList : MethodName := ⟨RX4, "readList", "([III)I"⟩
abbrev cX4_readNumber : ByteArray := prog_6_method_8_code
def yX4_readNumber : MethodName := ⟨RX4, "readNumber", "(II)I"⟩
abbrev cX4_readEnd : ByteArray := prog_6_method_9_code
def yX4_readEnd : MethodName := ⟨RX4, "readEnd", "()V"⟩
abbrev cX4_skipBlanks : ByteArray := prog_6_method_10_code
def yX4_skipBlanks : MethodName := ⟨RX4, "skipBlanks", "()V"⟩
abbrev cX4_sign : ByteArray := prog_6_method_11_code
def yX4_sign : MethodName := ⟨RX4, "sign", "()I"⟩
abbrev cX4_isFigure : ByteArray := prog_6_method_12_code
def yX4_isFigure : MethodName := ⟨RX4, "isFigure", "(I)Z"⟩
abbrev cX4_blame : ByteArray := prog_6_method_13_code
def yX4_blame : MethodName := ⟨RX4, "blame", "(II)V"⟩
def RX5 : String := "IceLaw$River"
def TX5 : u_T := fun k => match k with
  | 0 => ("IceLaw$River", "thick", "[I", true)
  | 1 => ("IceLaw$River", "currents", "[I", true)
  | 2 => ("IceLaw$River", "colds", "[I", true)
  | 3 => ("IceLaw$River", "towns", "[I", true)
  | 4 => ("IceLaw$River", "weights", "[I", true)
  | 5 => ("IceLaw$River", "thicks", "I", false)
  | 6 => ("IceLaw$River", "currentCount", "I", false)
  | 7 => ("IceLaw$River", "coldCount", "I", false)
  | 8 => ("IceLaw$River", "columns", "I", false)
  | 9 => ("IceLaw$River", "rows", "I", false)
  | 10 => ("IceLaw$River", "inchBears", "I", false)
  | 11 => ("IceLaw$River", "cells", "I", false)
  | _ => ("IceLaw$River", "persons", "I", false)
def tyX5 : Nat → FieldType := fun k => match k with
  | 0 => .array .int
  | 1 => .array .int
  | 2 => .array .int
  | 3 => .array .int
  | 4 => .array .int
  | 5 => .int
  | 6 => .int
  | 7 => .int
  | 8 => .int
  | 9 => .int
  | 10 => .int
  | 11 => .int
  | _ => .int
theorem nmX5 : ∀ a, a < 13 → ∀ b, b < 13 → a ≠ b → (TX5 a).2.1 ≠ (TX5 b).2.1 := by decide +kernel
theorem tyX5_ok : ∀ k, k < 13 → parseFieldDescriptor (TX5 k).2.2.1 = some (tyX5 k) := by decide +kernel
abbrev cX5_init : ByteArray := prog_7_method_1_code
def yX5_init : MethodName := ⟨RX5, "<init>", "()V"⟩
abbrev cX5_clear : ByteArray := prog_7_method_2_code
def yX5_clear : MethodName := ⟨RX5, "clear", "()V"⟩
abbrev cX5_measure : ByteArray := prog_7_method_3_code
def yX5_measure : MethodName := ⟨RX5, "measure", "(III)V"⟩
abbrev cX5_addPerson : ByteArray := prog_7_method_4_code
def yX5_addPerson : MethodName := ⟨RX5, "addPerson", "(II)V"⟩
abbrev cX5_thickAt : ByteArray := prog_7_method_5_code
def yX5_thickAt : MethodName := ⟨RX5, "thickAt", "(I)I"⟩
abbrev cX5_currentAt : ByteArray := prog_7_method_6_code
def yX5_currentAt : MethodName := ⟨RX5, "currentAt", "(I)I"⟩
abbrev cX5_coldOf : ByteArray := prog_7_method_7_code
def yX5_coldOf : MethodName := ⟨RX5, "coldOf", "(I)I"⟩
abbrev cX5_listed : ByteArray := prog_7_method_8_code
def yX5_listed : MethodName := ⟨RX5, "listed", "([IIII)I"⟩
abbrev cX5_townOf : ByteArray := prog_7_method_9_code
def yX5_townOf : MethodName := ⟨RX5, "townOf", "(I)I"⟩
abbrev cX5_weightOf : ByteArray := prog_7_method_10_code
def yX5_weightOf : MethodName := ⟨RX5, "weightOf", "(I)I"⟩
abbrev cX5_weightOfAll : ByteArray := prog_7_method_11_code
def yX5_weightOfAll : MethodName := ⟨RX5, "weightOfAll", "(I)I"⟩
abbrev cX5_nextTo : ByteArray := prog_7_method_12_code
def yX5_nextTo : MethodName := ⟨RX5, "nextTo", "(I)I"⟩
abbrev cX5_nextToAny : ByteArray := prog_7_method_13_code
def yX5_nextToAny : MethodName := ⟨RX5, "nextToAny", "(I)I"⟩
abbrev cX5_bankOf : ByteArray := prog_7_method_14_code
def yX5_bankOf : MethodName := ⟨RX5, "bankOf", "(I)I"⟩
abbrev cX5_inchesAfter : ByteArray := prog_7_method_15_code
def yX5_inchesAfter : MethodName := ⟨RX5, "inchesAfter", "(IIIZ)I"⟩
def RX6 : String := "IceLaw$Seen"
def TX6 : u_T := fun k => match k with
  | 0 => ("IceLaw$Seen", "inches", "[I", true)
  | 1 => ("IceLaw$Seen", "broke", "[Z", true)
  | 2 => ("IceLaw$Seen", "fitting", "[I", true)
  | 3 => ("IceLaw$Seen", "weights", "[I", true)
  | _ => ("IceLaw$Seen", "count", "I", false)
def tyX6 : Nat → FieldType := fun k => match k with
  | 0 => .array .int
  | 1 => .array .boolean
  | 2 => .array .int
  | 3 => .array .int
  | _ => .int
theorem nmX6 : ∀ a, a < 5 → ∀ b, b < 5 → a ≠ b → (TX6 a).2.1 ≠ (TX6 b).2.1 := by decide +kernel
theorem tyX6_ok : ∀ k, k < 5 → parseFieldDescriptor (TX6 k).2.2.1 = some (tyX6 k) := by decide +kernel
abbrev cX6_init : ByteArray := prog_8_method_1_code
def yX6_init : MethodName := ⟨RX6, "<init>", "()V"⟩
abbrev cX6_add : ByteArray := prog_8_method_2_code
def yX6_add : MethodName := ⟨RX6, "add", "(IZ)Z"⟩
abbrev cX6_howMany : ByteArray := prog_8_method_3_code
def yX6_howMany : MethodName := ⟨RX6, "howMany", "(LIceLaw$River;)I"⟩
abbrev cX6_fits : ByteArray := prog_8_method_4_code
def yX6_fits : MethodName := ⟨RX6, "fits", "(LIceLaw$River;I)Z"⟩
abbrev cX6_least : ByteArray := prog_8_method_5_code
def yX6_least : MethodName := ⟨RX6, "least", "(LIceLaw$River;)I"⟩
abbrev cX6_sure : ByteArray := prog_8_method_6_code
def yX6_sure : MethodName := ⟨RX6, "sure", "(LIceLaw$River;)I"⟩
abbrev cX6_bestQuestion : ByteArray := prog_8_method_7_code
def yX6_bestQuestion : MethodName := ⟨RX6, "bestQuestion", "(LIceLaw$River;)I"⟩
abbrev cX6_howManyAbove : ByteArray := prog_8_method_8_code
def yX6_howManyAbove : MethodName := ⟨RX6, "howManyAbove", "(II)I"⟩
def RX7 : String := "IceLaw$Trial"
def TX7 : u_T := fun k => match k with
  | _ => ("IceLaw$Trial", "copy", "LIceLaw$Ice;", true)
def tyX7 : Nat → FieldType := fun k => match k with
  | _ => .object "IceLaw$Ice"
theorem nmX7 : ∀ a, a < 1 → ∀ b, b < 1 → a ≠ b → (TX7 a).2.1 ≠ (TX7 b).2.1 := by decide +kernel
theorem tyX7_ok : ∀ k, k < 1 → parseFieldDescriptor (TX7 k).2.2.1 = some (tyX7 k) := by decide +kernel
abbrev cX7_init : ByteArray := prog_9_method_1_code
def yX7_init : MethodName := ⟨RX7, "<init>", "()V"⟩
abbrev cX7_inchesBehind : ByteArray := prog_9_method_2_code
def yX7_inchesBehind : MethodName := ⟨RX7, "inchesBehind", "(LIceLaw$River;LIceLaw$Ice;II)I"⟩
abbrev cX7_firstNight : ByteArray := prog_9_method_3_code
def yX7_firstNight : MethodName := ⟨RX7, "firstNight", "(LIceLaw$River;LIceLaw$Ice;IIZ)I"⟩
abbrev cX7_wayOver : ByteArray := prog_9_method_4_code
def yX7_wayOver : MethodName := ⟨RX7, "wayOver", "(LIceLaw$River;LIceLaw$Ice;IZ)I"⟩
abbrev cX7_safeFor : ByteArray := prog_9_method_5_code
def yX7_safeFor : MethodName := ⟨RX7, "safeFor", "(LIceLaw$River;LIceLaw$Ice;I)I"⟩
abbrev cX7_fewestOn : ByteArray := prog_9_method_6_code
def yX7_fewestOn : MethodName := ⟨RX7, "fewestOn", "(LIceLaw$River;LIceLaw$Ice;I)I"⟩
abbrev cX7_isBrokenBy : ByteArray := prog_9_method_7_code
def yX7_isBrokenBy : MethodName := ⟨RX7, "isBrokenBy", "(LIceLaw$River;LIceLaw$Ice;II)Z"⟩
abbrev cX7_saltFor : ByteArray := prog_9_method_8_code
def yX7_saltFor : MethodName := ⟨RX7, "saltFor", "(LIceLaw$River;LIceLaw$Ice;I)I"⟩
abbrev cX7_breakingSteps : ByteArray := prog_9_method_9_code
def yX7_breakingSteps : MethodName := ⟨RX7, "breakingSteps", "(LIceLaw$River;LIceLaw$Ice;IZ)I"⟩
abbrev cX7_nearestCrack : ByteArray := prog_9_method_10_code
def yX7_nearestCrack : MethodName := ⟨RX7, "nearestCrack", "(LIceLaw$River;LIceLaw$Ice;I)I"⟩
def RX8 : String := "IceLaw"
def TX8 : u_T := fun k => match k with
  | 0 => ("IceLaw", "reader", "LIceLaw$Reader;", true)
  | 1 => ("IceLaw", "ice", "LIceLaw$Ice;", true)
  | 2 => ("IceLaw", "past", "LIceLaw$Past;", true)
  | 3 => ("IceLaw", "trial", "LIceLaw$Trial;", true)
  | 4 => ("IceLaw", "seen", "LIceLaw$Seen;", true)
  | 5 => ("IceLaw", "book", "LIceLaw$Book;", true)
  | 6 => ("IceLaw", "images", "[LIceLaw$Image;", true)
  | 7 => ("IceLaw", "land", "LIceLaw$River;", false)
  | 8 => ("IceLaw", "draft", "LIceLaw$River;", false)
  | 9 => ("IceLaw", "kept", "I", false)
  | 10 => ("IceLaw", "seed", "I", false)
  | _ => ("IceLaw", "faultAt", "I", false)
def tyX8 : Nat → FieldType := fun k => match k with
  | 0 => .object "IceLaw$Reader"
  | 1 => .object "IceLaw$Ice"
  | 2 => .object "IceLaw$Past"
  | 3 => .object "IceLaw$Trial"
  | 4 => .object "IceLaw$Seen"
  | 5 => .object "IceLaw$Book"
  | 6 => .array (.object "IceLaw$Image")
  | 7 => .object "IceLaw$River"
  | 8 => .object "IceLaw$River"
  | 9 => .int
  | 10 => .int
  | _ => .int
theorem nmX8 : ∀ a, a < 12 → ∀ b, b < 12 → a ≠ b → (TX8 a).2.1 ≠ (TX8 b).2.1 := by decide +kernel
theorem tyX8_ok : ∀ k, k < 12 → parseFieldDescriptor (TX8 k).2.2.1 = some (tyX8 k) := by decide +kernel
abbrev cX8_init : ByteArray := prog_1_method_1_code
def yX8_init : MethodName := ⟨RX8, "<init>", "()V"⟩
abbrev cX8_feed : ByteArray := prog_1_method_2_code
def yX8_feed : MethodName := ⟨RX8, "feed", "(I)I"⟩
abbrev cX8_river : ByteArray := prog_1_method_3_code
def yX8_river : MethodName := ⟨RX8, "river", "()I"⟩
abbrev cX8_fault : ByteArray := prog_1_method_4_code
def yX8_fault : MethodName := ⟨RX8, "fault", "()I"⟩
abbrev cX8_told : ByteArray := prog_1_method_5_code
def yX8_told : MethodName := ⟨RX8, "told", "(I)I"⟩
abbrev cX8_cell : ByteArray := prog_1_method_6_code
def yX8_cell : MethodName := ⟨RX8, "cell", "(II)I"⟩
abbrev cX8_person : ByteArray := prog_1_method_7_code
def yX8_person : MethodName := ⟨RX8, "person", "(II)I"⟩
abbrev cX8_cold : ByteArray := prog_1_method_8_code
def yX8_cold : MethodName := ⟨RX8, "cold", "(I)I"⟩
abbrev cX8_night : ByteArray := prog_1_method_9_code
def yX8_night : MethodName := ⟨RX8, "night", "(I)I"⟩
abbrev cX8_step : ByteArray := prog_1_method_10_code
def yX8_step : MethodName := ⟨RX8, "step", "(II)I"⟩
abbrev cX8_salt : ByteArray := prog_1_method_11_code
def yX8_salt : MethodName := ⟨RX8, "salt", "(III)I"⟩
abbrev cX8_snow : ByteArray := prog_1_method_12_code
def yX8_snow : MethodName := ⟨RX8, "snow", "(IZ)I"⟩
abbrev cX8_spring : ByteArray := prog_1_method_13_code
def yX8_spring : MethodName := ⟨RX8, "spring", "()I"⟩
abbrev cX8_drift : ByteArray := prog_1_method_14_code
def yX8_drift : MethodName := ⟨RX8, "drift", "(I)I"⟩
abbrev cX8_undo : ByteArray := prog_1_method_15_code
def yX8_undo : MethodName := ⟨RX8, "undo", "()I"⟩
abbrev cX8_then : ByteArray := prog_1_method_16_code
def yX8_then : MethodName := ⟨RX8, "then", "(II)I"⟩
abbrev cX8_when : ByteArray := prog_1_method_17_code
def yX8_when : MethodName := ⟨RX8, "when", "(II)I"⟩
abbrev cX8_noMore : ByteArray := prog_1_method_18_code
def yX8_noMore : MethodName := ⟨RX8, "noMore", "(II)I"⟩
abbrev cX8_over : ByteArray := prog_1_method_19_code
def yX8_over : MethodName := ⟨RX8, "over", "(II)I"⟩
abbrev cX8_fewest : ByteArray := prog_1_method_20_code
def yX8_fewest : MethodName := ⟨RX8, "fewest", "(I)I"⟩
abbrev cX8_leastSalt : ByteArray := prog_1_method_21_code
def yX8_leastSalt : MethodName := ⟨RX8, "leastSalt", "(I)I"⟩
abbrev cX8_lives : ByteArray := prog_1_method_22_code
def yX8_lives : MethodName := ⟨RX8, "lives", "(II)I"⟩
abbrev cX8_heard : ByteArray := prog_1_method_23_code
def yX8_heard : MethodName := ⟨RX8, "heard", "(I)I"⟩
abbrev cX8_game : ByteArray := prog_1_method_24_code
def yX8_game : MethodName := ⟨RX8, "game", "(IIIII)I"⟩
abbrev cX8_tolls : ByteArray := prog_1_method_25_code
def yX8_tolls : MethodName := ⟨RX8, "tolls", "(II)I"⟩
abbrev cX8_thaw : ByteArray := prog_1_method_26_code
def yX8_thaw : MethodName := ⟨RX8, "thaw", "(II)I"⟩
abbrev cX8_see : ByteArray := prog_1_method_27_code
def yX8_see : MethodName := ⟨RX8, "see", "(IZ)I"⟩
abbrev cX8_who : ByteArray := prog_1_method_28_code
def yX8_who : MethodName := ⟨RX8, "who", "(I)I"⟩
abbrev cX8_ask : ByteArray := prog_1_method_29_code
def yX8_ask : MethodName := ⟨RX8, "ask", "()I"⟩
abbrev cX8_write : ByteArray := prog_1_method_30_code
def yX8_write : MethodName := ⟨RX8, "write", "(II)I"⟩
abbrev cX8_tear : ByteArray := prog_1_method_31_code
def yX8_tear : MethodName := ⟨RX8, "tear", "()I"⟩
abbrev cX8_judge : ByteArray := prog_1_method_32_code
def yX8_judge : MethodName := ⟨RX8, "judge", "()I"⟩
abbrev cX8_seed : ByteArray := prog_1_method_33_code
def yX8_seed : MethodName := ⟨RX8, "seed", "(I)I"⟩
abbrev cX8_keep : ByteArray := prog_1_method_34_code
def yX8_keep : MethodName := ⟨RX8, "keep", "(I)I"⟩
abbrev cX8_goBack : ByteArray := prog_1_method_35_code
def yX8_goBack : MethodName := ⟨RX8, "goBack", "(I)I"⟩
abbrev cX8_isWithin : ByteArray := prog_1_method_36_code
def yX8_isWithin : MethodName := ⟨RX8, "isWithin", "(III)Z"⟩
abbrev cX8_isIn : ByteArray := prog_1_method_37_code
def yX8_isIn : MethodName := ⟨RX8, "isIn", "(II)Z"⟩
abbrev cX8_leastIn : ByteArray := prog_1_method_38_code
def yX8_leastIn : MethodName := ⟨RX8, "leastIn", "(I)I"⟩
abbrev cX8_isNoRiver : ByteArray := prog_1_method_39_code
def yX8_isNoRiver : MethodName := ⟨RX8, "isNoRiver", "()Z"⟩
abbrev cX8_isCell : ByteArray := prog_1_method_40_code
def yX8_isCell : MethodName := ⟨RX8, "isCell", "(I)Z"⟩
abbrev cX8_isPerson : ByteArray := prog_1_method_41_code
def yX8_isPerson : MethodName := ⟨RX8, "isPerson", "(I)Z"⟩
abbrev cX8_imageAt : ByteArray := prog_1_method_42_code
def yX8_imageAt : MethodName := ⟨RX8, "imageAt", "(I)LIceLaw$Image;"⟩
abbrev cX8_refusalOfNights : ByteArray := prog_1_method_43_code
def yX8_refusalOfNights : MethodName := ⟨RX8, "refusalOfNights", "(I)I"⟩
abbrev cX8_refusalOfPerson : ByteArray := prog_1_method_44_code
def yX8_refusalOfPerson : MethodName := ⟨RX8, "refusalOfPerson", "(II)I"⟩
abbrev cX8_wander : ByteArray := prog_1_method_45_code
def yX8_wander : MethodName := ⟨RX8, "wander", "()V"⟩
abbrev cX8_draw : ByteArray := prog_1_method_46_code
def yX8_draw : MethodName := ⟨RX8, "draw", "(I)I"⟩
def RX9 : String := "IceLawModel"
def TX9 : u_T := fun k => match k with
  | 0 => ("IceLawModel", "text", "[I", true)
  | 1 => ("IceLawModel", "letters", "I", false)
  | 2 => ("IceLawModel", "faultAt", "I", false)
  | 3 => ("IceLawModel", "law", "[I", true)
  | 4 => ("IceLawModel", "lists", "[I", true)
  | 5 => ("IceLawModel", "persons", "[I", true)
  | 6 => ("IceLawModel", "draftLaw", "[I", true)
  | 7 => ("IceLawModel", "draftLists", "[I", true)
  | 8 => ("IceLawModel", "draftPersons", "[I", true)
  | 9 => ("IceLawModel", "now", "[I", true)
  | 10 => ("IceLawModel", "tried", "[I", true)
  | 11 => ("IceLawModel", "past", "[I", true)
  | 12 => ("IceLawModel", "deeds", "I", false)
  | 13 => ("IceLawModel", "images", "[I", true)
  | 14 => ("IceLawModel", "imageSeeds", "[I", true)
  | 15 => ("IceLawModel", "kept", "[Z", true)
  | 16 => ("IceLawModel", "seed", "I", false)
  | 17 => ("IceLawModel", "seen", "[I", true)
  | 18 => ("IceLawModel", "sights", "I", false)
  | 19 => ("IceLawModel", "book", "[I", true)
  | 20 => ("IceLawModel", "entries", "I", false)
  | 21 => ("IceLawModel", "at", "I", false)
  | 22 => ("IceLawModel", "wrong", "I", false)
  | _ => ("IceLawModel", "far", "[I", true)
def tyX9 : Nat → FieldType := fun k => match k with
  | 0 => .array .int
  | 1 => .int
  | 2 => .int
  | 3 => .array .int
  | 4 => .array .int
  | 5 => .array .int
  | 6 => .array .int
  | 7 => .array .int
  | 8 => .array .int
  | 9 => .array .int
  | 10 => .array .int
  | 11 => .array .int
  | 12 => .int
  | 13 => .array .int
  | 14 => .array .int
  | 15 => .array .boolean
  | 16 => .int
  | 17 => .array .int
  | 18 => .int
  | 19 => .array .int
  | 20 => .int
  | 21 => .int
  | 22 => .int
  | _ => .array .int
theorem nmX9 : ∀ a, a < 24 → ∀ b, b < 24 → a ≠ b → (TX9 a).2.1 ≠ (TX9 b).2.1 := by decide +kernel
theorem tyX9_ok : ∀ k, k < 24 → parseFieldDescriptor (TX9 k).2.2.1 = some (tyX9 k) := by decide +kernel
abbrev cX9_init : ByteArray := prog_11_method_1_code
def yX9_init : MethodName := ⟨RX9, "<init>", "()V"⟩
abbrev cX9_in : ByteArray := prog_11_method_3_code
def yX9_in : MethodName := ⟨RX9, "in", "(III)Z"⟩
abbrev cX9_has : ByteArray := prog_11_method_4_code
def yX9_has : MethodName := ⟨RX9, "has", "(II)Z"⟩
abbrev cX9_ones : ByteArray := prog_11_method_5_code
def yX9_ones : MethodName := ⟨RX9, "ones", "(I)I"⟩
abbrev cX9_feed : ByteArray := prog_11_method_6_code
def yX9_feed : MethodName := ⟨RX9, "feed", "(I)I"⟩
abbrev cX9_look : ByteArray := prog_11_method_7_code
def yX9_look : MethodName := ⟨RX9, "look", "()I"⟩
abbrev cX9_skips : ByteArray := prog_11_method_8_code
def yX9_skips : MethodName := ⟨RX9, "skips", "()V"⟩
abbrev cX9_fails : ByteArray := prog_11_method_9_code
def yX9_fails : MethodName := ⟨RX9, "fails", "(I)V"⟩
abbrev cX9_word : ByteArray := prog_11_method_10_code
def yX9_word : MethodName := ⟨RX9, "word", "(I)V"⟩
abbrev cX9_number : ByteArray := prog_11_method_11_code
def yX9_number : MethodName := ⟨RX9, "number", "(II)I"⟩
abbrev cX9_opens : ByteArray := prog_11_method_12_code
def yX9_opens : MethodName := ⟨RX9, "opens", "(Z)Z"⟩
abbrev cX9_readsRiver : ByteArray := prog_11_method_13_code
def yX9_readsRiver : MethodName := ⟨RX9, "readsRiver", "()V"⟩
abbrev cX9_readsList : ByteArray := prog_11_method_14_code
def yX9_readsList : MethodName := ⟨RX9, "readsList", "(IIII)V"⟩
abbrev cX9_readsPerson : ByteArray := prog_11_method_15_code
def yX9_readsPerson : MethodName := ⟨RX9, "readsPerson", "()V"⟩
abbrev cX9_reads : ByteArray := prog_11_method_16_code
def yX9_reads : MethodName := ⟨RX9, "reads", "()V"⟩
abbrev cX9_copies : ByteArray := prog_11_method_17_code
def yX9_copies : MethodName := ⟨RX9, "copies", "([II[III)V"⟩
abbrev cX9_settles : ByteArray := prog_11_method_18_code
def yX9_settles : MethodName := ⟨RX9, "settles", "()V"⟩
abbrev cX9_river : ByteArray := prog_11_method_19_code
def yX9_river : MethodName := ⟨RX9, "river", "()I"⟩
abbrev cX9_fault : ByteArray := prog_11_method_20_code
def yX9_fault : MethodName := ⟨RX9, "fault", "()I"⟩
abbrev cX9_cells : ByteArray := prog_11_method_21_code
def yX9_cells : MethodName := ⟨RX9, "cells", "()I"⟩
abbrev cX9_isRiver : ByteArray := prog_11_method_22_code
def yX9_isRiver : MethodName := ⟨RX9, "isRiver", "()Z"⟩
abbrev cX9_isCell : ByteArray := prog_11_method_23_code
def yX9_isCell : MethodName := ⟨RX9, "isCell", "(I)Z"⟩
abbrev cX9_isPerson : ByteArray := prog_11_method_24_code
def yX9_isPerson : MethodName := ⟨RX9, "isPerson", "(I)Z"⟩
abbrev cX9_areNext : ByteArray := prog_11_method_25_code
def yX9_areNext : MethodName := ⟨RX9, "areNext", "(II)Z"⟩
abbrev cX9_bearsOf : ByteArray := prog_11_method_26_code
def yX9_bearsOf : MethodName := ⟨RX9, "bearsOf", "([II)I"⟩
abbrev cX9_loadOf : ByteArray := prog_11_method_27_code
def yX9_loadOf : MethodName := ⟨RX9, "loadOf", "([II)I"⟩
abbrev cX9_onCell : ByteArray := prog_11_method_28_code
def yX9_onCell : MethodName := ⟨RX9, "onCell", "([II)I"⟩
abbrev cX9_cracks : ByteArray := prog_11_method_29_code
def yX9_cracks : MethodName := ⟨RX9, "cracks", "([II)Z"⟩
abbrev cX9_breaking : ByteArray := prog_11_method_30_code
def yX9_breaking : MethodName := ⟨RX9, "breaking", "([I)I"⟩
abbrev cX9_drowns : ByteArray := prog_11_method_31_code
def yX9_drowns : MethodName := ⟨RX9, "drowns", "([I)V"⟩
abbrev cX9_breaks : ByteArray := prog_11_method_32_code
def yX9_breaks : MethodName := ⟨RX9, "breaks", "([II)I"⟩
abbrev cX9_owns : ByteArray := prog_11_method_33_code
def yX9_owns : MethodName := ⟨RX9, "owns", "([III)V"⟩
abbrev cX9_columnOf : ByteArray := prog_11_method_34_code
def yX9_columnOf : MethodName := ⟨RX9, "columnOf", "(I)I"⟩
abbrev cX9_canGo : ByteArray := prog_11_method_35_code
def yX9_canGo : MethodName := ⟨RX9, "canGo", "([III)Z"⟩
abbrev cX9_steps : ByteArray := prog_11_method_36_code
def yX9_steps : MethodName := ⟨RX9, "steps", "([III)I"⟩
abbrev cX9_coldOf : ByteArray := prog_11_method_37_code
def yX9_coldOf : MethodName := ⟨RX9, "coldOf", "(I)I"⟩
abbrev cX9_currentOf : ByteArray := prog_11_method_38_code
def yX9_currentOf : MethodName := ⟨RX9, "currentOf", "(I)I"⟩
abbrev cX9_passes : ByteArray := prog_11_method_39_code
def yX9_passes : MethodName := ⟨RX9, "passes", "([I)V"⟩
abbrev cX9_holes : ByteArray := prog_11_method_40_code
def yX9_holes : MethodName := ⟨RX9, "holes", "()I"⟩
abbrev cX9_knock : ByteArray := prog_11_method_41_code
def yX9_knock : MethodName := ⟨RX9, "knock", "()I"⟩
abbrev cX9_spare : ByteArray := prog_11_method_42_code
def yX9_spare : MethodName := ⟨RX9, "spare", "(I)I"⟩
abbrev cX9_first : ByteArray := prog_11_method_43_code
def yX9_first : MethodName := ⟨RX9, "first", "()I"⟩
abbrev cX9_told : ByteArray := prog_11_method_44_code
def yX9_told : MethodName := ⟨RX9, "told", "(I)I"⟩
abbrev cX9_cell : ByteArray := prog_11_method_45_code
def yX9_cell : MethodName := ⟨RX9, "cell", "(II)I"⟩
abbrev cX9_person : ByteArray := prog_11_method_46_code
def yX9_person : MethodName := ⟨RX9, "person", "(II)I"⟩
abbrev cX9_cold : ByteArray := prog_11_method_47_code
def yX9_cold : MethodName := ⟨RX9, "cold", "(I)I"⟩
abbrev cX9_notes : ByteArray := prog_11_method_48_code
def yX9_notes : MethodName := ⟨RX9, "notes", "()V"⟩
abbrev cX9_barred : ByteArray := prog_11_method_49_code
def yX9_barred : MethodName := ⟨RX9, "barred", "(I)I"⟩
abbrev cX9_night : ByteArray := prog_11_method_50_code
def yX9_night : MethodName := ⟨RX9, "night", "(I)I"⟩
abbrev cX9_step : ByteArray := prog_11_method_51_code
def yX9_step : MethodName := ⟨RX9, "step", "(II)I"⟩
abbrev cX9_salt : ByteArray := prog_11_method_52_code
def yX9_salt : MethodName := ⟨RX9, "salt", "(III)I"⟩
abbrev cX9_snow : ByteArray := prog_11_method_53_code
def yX9_snow : MethodName := ⟨RX9, "snow", "(IZ)I"⟩
abbrev cX9_spring : ByteArray := prog_11_method_54_code
def yX9_spring : MethodName := ⟨RX9, "spring", "()I"⟩
abbrev cX9_draw : ByteArray := prog_11_method_55_code
def yX9_draw : MethodName := ⟨RX9, "draw", "(I)I"⟩
abbrev cX9_drift : ByteArray := prog_11_method_56_code
def yX9_drift : MethodName := ⟨RX9, "drift", "(I)I"⟩
abbrev cX9_undo : ByteArray := prog_11_method_57_code
def yX9_undo : MethodName := ⟨RX9, "undo", "()I"⟩
abbrev cX9_tries : ByteArray := prog_11_method_58_code
def yX9_tries : MethodName := ⟨RX9, "tries", "()V"⟩
abbrev cX9_triesAlone : ByteArray := prog_11_method_59_code
def yX9_triesAlone : MethodName := ⟨RX9, "triesAlone", "()V"⟩
abbrev cX9_then : ByteArray := prog_11_method_60_code
def yX9_then : MethodName := ⟨RX9, "then", "(II)I"⟩
abbrev cX9_bearing : ByteArray := prog_11_method_61_code
def yX9_bearing : MethodName := ⟨RX9, "bearing", "(IIZ)I"⟩
abbrev cX9_when : ByteArray := prog_11_method_62_code
def yX9_when : MethodName := ⟨RX9, "when", "(II)I"⟩
abbrev cX9_noMore : ByteArray := prog_11_method_63_code
def yX9_noMore : MethodName := ⟨RX9, "noMore", "(II)I"⟩
abbrev cX9_isSafe : ByteArray := prog_11_method_64_code
def yX9_isSafe : MethodName := ⟨RX9, "isSafe", "(II)Z"⟩
abbrev cX9_measures : ByteArray := prog_11_method_65_code
def yX9_measures : MethodName := ⟨RX9, "measures", "(I)V"⟩
abbrev cX9_over : ByteArray := prog_11_method_66_code
def yX9_over : MethodName := ⟨RX9, "over", "(II)I"⟩
abbrev cX9_fewest : ByteArray := prog_11_method_67_code
def yX9_fewest : MethodName := ⟨RX9, "fewest", "(I)I"⟩
abbrev cX9_leastSalt : ByteArray := prog_11_method_68_code
def yX9_leastSalt : MethodName := ⟨RX9, "leastSalt", "(I)I"⟩
abbrev cX9_lives : ByteArray := prog_11_method_69_code
def yX9_lives : MethodName := ⟨RX9, "lives", "(II)I"⟩
abbrev cX9_heard : ByteArray := prog_11_method_70_code
def yX9_heard : MethodName := ⟨RX9, "heard", "(I)I"⟩
abbrev cX9_lesser : ByteArray := prog_11_method_71_code
def yX9_lesser : MethodName := ⟨RX9, "lesser", "(II)I"⟩
abbrev cX9_greater : ByteArray := prog_11_method_72_code
def yX9_greater : MethodName := ⟨RX9, "greater", "(II)I"⟩
abbrev cX9_game : ByteArray := prog_11_method_73_code
def yX9_game : MethodName := ⟨RX9, "game", "(IIIII)I"⟩
abbrev cX9_tolls : ByteArray := prog_11_method_74_code
def yX9_tolls : MethodName := ⟨RX9, "tolls", "(II)I"⟩
abbrev cX9_thaw : ByteArray := prog_11_method_75_code
def yX9_thaw : MethodName := ⟨RX9, "thaw", "(II)I"⟩
abbrev cX9_see : ByteArray := prog_11_method_76_code
def yX9_see : MethodName := ⟨RX9, "see", "(IZ)I"⟩
abbrev cX9_brokeBy : ByteArray := prog_11_method_77_code
def yX9_brokeBy : MethodName := ⟨RX9, "brokeBy", "(II)I"⟩
abbrev cX9_isSo : ByteArray := prog_11_method_78_code
def yX9_isSo : MethodName := ⟨RX9, "isSo", "(I)Z"⟩
abbrev cX9_who : ByteArray := prog_11_method_79_code
def yX9_who : MethodName := ⟨RX9, "who", "(I)I"⟩
abbrev cX9_ask : ByteArray := prog_11_method_80_code
def yX9_ask : MethodName := ⟨RX9, "ask", "()I"⟩
abbrev cX9_write : ByteArray := prog_11_method_81_code
def yX9_write : MethodName := ⟨RX9, "write", "(II)I"⟩
abbrev cX9_tear : ByteArray := prog_11_method_82_code
def yX9_tear : MethodName := ⟨RX9, "tear", "()I"⟩
abbrev cX9_judge : ByteArray := prog_11_method_83_code
def yX9_judge : MethodName := ⟨RX9, "judge", "()I"⟩
abbrev cX9_seed : ByteArray := prog_11_method_84_code
def yX9_seed : MethodName := ⟨RX9, "seed", "(I)I"⟩
abbrev cX9_keep : ByteArray := prog_11_method_85_code
def yX9_keep : MethodName := ⟨RX9, "keep", "(I)I"⟩
abbrev cX9_goBack : ByteArray := prog_11_method_86_code
def yX9_goBack : MethodName := ⟨RX9, "goBack", "(I)I"⟩
def RJ6 : String := "java/lang/Integer"
abbrev cJ6_bitCount_0f7a4 : ByteArray := prog_12_method_49_code
def yJ6_bitCount_0f7a4 : MethodName := ⟨RJ6, "bitCount", "(I)I"⟩
def RJ9 : String := "java/lang/Math"
abbrev cJ9_max_7cf53 : ByteArray := prog_13_method_65_code
def yJ9_max_7cf53 : MethodName := ⟨RJ9, "max", "(II)I"⟩
abbrev cJ9_min_7cf53 : ByteArray := prog_13_method_69_code
def yJ9_min_7cf53 : MethodName := ⟨RJ9, "min", "(II)I"⟩
def RJ7 : String := "java/util/Arrays"
abbrev cJ7_fill_53178 : ByteArray := prog_14_method_103_code
def yJ7_fill_53178 : MethodName := ⟨RJ7, "fill", "([II)V"⟩
end
section
/-! ===== words that hold wherever a method begins ===== -/
def ic_gw (w : Cond) : Bool := match w with
  | .methodLinkNest _ _ _ _ => true
  | .fieldLinkNest _ _ _ _ _ _ => true
  | .arrayOver (.object _) => true
  | w => goodWord w
def ic_tb : List Cond := lw_tbl.filter ic_gw
theorem ic_in (i : Nat) {w : Cond} (h : lw_tbl[i]? = some w ∧ ic_gw w = true) : w ∈ ic_tb := List.mem_filter.mpr ⟨List.mem_of_getElem? h.1, h.2⟩
theorem ic_warm {args : Array Value} {s : State} (h : ∀ w ∈ ic_tb, w.before args s = true) : ∀ w ∈ ic_tb, ∀ (a' : Array Value) (U : State), s.WarmedH U.vm → w.before a' U = true := by
  intro w hw a' U hW
  have h1 := h w hw
  have h2 : ic_gw w = true := (List.mem_filter.mp hw).2
  cases w
  case methodLinkNest => exact va_Nw.use rfl (va_Nw.warmM hW (va_Nw.of rfl h1))
  case fieldLinkNest => exact va_Nw.use rfl (va_Nw.warmF hW (va_Nw.of rfl h1))
  case arrayOver ty =>
    cases ty
    case object C => exact va_AO.use (va_AO.moved hW.alike (va_AO.of h1))
    all_goals exact word_at hW (good_of_word h2) h1
  all_goals exact word_at hW (good_of_word h2) h1
/-! ===== the static shape of the heap: cell a is made as the a-th ===== -/
abbrev ic_M : Type := Nat → Nat → Int32
abbrev ic_R : Type := Nat → Nat → Nat
abbrev ic_K : Type := Nat × va_G × (Nat → ClassId)
def ic_shL : List (Nat × Nat) := [(0, 8), (0, 4), (1, 240), (0, 1), (1, 18), (1, 6), (0, 3), (3, 16),
  (0, 1), (1, 18), (1, 6), (0, 1), (1, 18), (1, 6), (0, 1), (1, 18), (1, 6), (0, 1), (1, 18), (1, 6),
  (0, 1), (1, 18), (1, 6), (0, 1), (1, 18), (1, 6), (0, 1), (1, 18), (1, 6), (0, 1), (1, 18), (1, 6),
  (0, 1), (1, 18), (1, 6), (0, 1), (1, 18), (1, 6), (0, 1), (1, 18), (1, 6), (0, 1), (1, 18), (1, 6),
  (0, 1), (1, 18), (1, 6), (0, 1), (1, 18), (1, 6), (0, 1), (1, 18), (1, 6), (0, 1), (1, 18), (1, 6),
  (0, 7), (0, 1), (1, 18), (1, 6), (0, 6), (1, 6), (2, 6), (1, 64), (1, 64), (0, 0), (1, 15), (1, 15),
  (4, 2), (0, 2), (0, 1), (1, 18), (1, 6), (0, 2), (0, 1), (1, 18), (1, 6),
  (0, 5), (1, 18), (1, 6), (1, 12), (1, 6), (1, 6), (0, 5), (1, 18), (1, 6), (1, 12), (1, 6), (1, 6),
  (0, 9), (1, 240), (1, 7), (1, 36), (1, 12), (1, 7), (1, 36), (1, 12), (1, 28), (1, 28), (1, 448), (1, 56), (1, 2), (2, 2), (1, 12), (1, 30), (1, 18)]
def ic_sh (a : Nat) : Nat × Nat := ic_shL.getD a (9, 0)
def ic_NC : Nat := 106
def ic_cls : List vw_C := [(RX0, TX0, 3), (RX1, TX1, 6), (RX2, TX2, 2), (RX3, TX3, 3), (RX4, TX4, 5), (RX5, TX5, 13), (RX6, TX6, 5), (RX7, TX7, 1), (RX8, TX8, 12), (RX9, TX9, 24)]
def ic_nf (ci : Nat) : Nat := [3, 6, 2, 3, 5, 13, 5, 1, 12, 24].getD ci 0
def ic_rfL : List (List Bool) := [[true, true, false], [true, true, false, false, false, false], [true, false], [true, false, false], [true, false, false, false, false],
  [true, true, true, true, true, false, false, false, false, false, false, false, false], [true, true, true, true, false], [true],
  [true, true, true, true, true, true, true, true, true, false, false, false],
  [true, false, false, true, true, true, true, true, true, true, true, true, false, true, true, true, false, true, false, true, false, false, false, true]]
def ic_isr (ci k : Nat) : Bool := (ic_rfL.getD ci []).getD k false
def ic_rv (B r : Nat) : Value := match r with
  | 0 => .null
  | a + 1 => .ref (B + a)
def ic_ro (B r : Nat) : Option Nat := match r with
  | 0 => none
  | a + 1 => some (B + a)
theorem ic_ro_rv (B r : Nat) : va_rf (ic_ro B r) = ic_rv B r := by cases r <;> rfl
def ic_fv (κ : ic_K) (ρ : ic_R) (μ : ic_M) (a ci k : Nat) : Value := if ic_isr ci k = true then ic_rv κ.1 (ρ (a + 1) k) else .int (μ (a + 1) k)
def ic_en (κ : ic_K) (ρ : ic_R) (μ : ic_M) (a : Nat) : va_E := match ic_sh a with
  | (0, ci) => .inr (ci, (List.range (ic_nf ci)).map (ic_fv κ ρ μ a ci))
  | (1, n) => .inl (κ.2.2 0, n, .inl (μ (a + 1)))
  | (2, n) => .inl (κ.2.2 1, n, .inl (μ (a + 1)))
  | (3, n) => .inl (κ.2.2 2, n, .inr (.inr (.inr (.inr (fun j => ic_ro κ.1 (ρ (a + 1) j))))))
  | (_, n) => .inl (κ.2.2 3, n, .inr (.inr (.inr (.inr (fun j => ic_ro κ.1 (ρ (a + 1) j))))))
def ic_wd (κ : ic_K) (n : Nat) (ρ : ic_R) (μ : ic_M) : va_W := (List.range n).map (fun a => (κ.1 + a, ic_en κ ρ μ a))
def ic_ty (κ : ic_K) : List (ClassId × FieldType) := [(κ.2.2 0, .int), (κ.2.2 1, .boolean), (κ.2.2 2, .object "IceLaw$Ice"), (κ.2.2 3, .object "IceLaw$Image")]
def ic_A (κ : ic_K) : Nat → Prop := fun q => κ.1 ≤ q
def ic_H (κ : ic_K) (n : Nat) (ρ : ic_R) (μ : ic_M) (H : Heap) : Prop := va_P κ.2.1 ic_cls (ic_wd κ n ρ μ) H ∧ H.size = κ.1 + n
abbrev ic_KK (κ : ic_K) (U : State) : Prop := va_K κ.2.1 ic_cls (ic_ty κ) U
theorem ic_wd_at {κ : ic_K} {n : Nat} {ρ : ic_R} {μ : ic_M} {a : Nat} (h : a < n) : (ic_wd κ n ρ μ)[a]? = some (κ.1 + a, ic_en κ ρ μ a) := by
  simp [ic_wd, h]
theorem ic_D (κ : ic_K) (n : Nat) (ρ : ic_R) (μ : ic_M) : va_D (ic_A κ) (ic_wd κ n ρ μ) := by
  have key : ∀ (k : Nat) (q : Nat × va_E), (ic_wd κ n ρ μ)[k]? = some q → q.1 = κ.1 + k := by
    intro k q h
    have hk : k < n := by
      have := (List.getElem?_eq_some_iff.mp h).1
      simpa [ic_wd] using this
    rw [ic_wd_at hk] at h
    cases h
    rfl
  refine ⟨fun i j p q hi hj hpq => ?_, fun k q hk => ?_⟩
  · have := key i p hi
    have := key j q hj
    omega
  · rw [ic_A, key k q hk]
    exact Nat.le_add_right _ _
theorem ic_set {κ : ic_K} {n : Nat} {ρ ρ' : ic_R} {μ μ' : ic_M} {a : Nat} {e : va_E} (he : ic_en κ ρ' μ' a = e) (ho : ∀ b, b ≠ a → ic_en κ ρ' μ' b = ic_en κ ρ μ b) : (ic_wd κ n ρ μ).set a (κ.1 + a, e) = ic_wd κ n ρ' μ' := by
  subst he
  apply List.ext_getElem?
  intro k
  by_cases hk : k = a
  · subst hk
    by_cases hn : k < n
    · rw [List.getElem?_set_self (by simpa [ic_wd] using hn), ic_wd_at hn]
    · rw [List.getElem?_eq_none (by simpa [ic_wd] using hn), List.getElem?_eq_none (by simpa [ic_wd] using hn)]
  · rw [List.getElem?_set_ne (Ne.symm hk)]
    by_cases hn : k < n
    · rw [ic_wd_at hn, ic_wd_at hn, ho k hk]
    · rw [List.getElem?_eq_none (by simpa [ic_wd] using hn), List.getElem?_eq_none (by simpa [ic_wd] using hn)]
/-- one int of memory is put -/
def ic_up (μ : ic_M) (r k : Nat) (v : Int32) : ic_M := fun b j => if b = r ∧ j = k then v else μ b j
/-- one reference is put -/
def ic_ur (ρ : ic_R) (r k : Nat) (v : Nat) : ic_R := fun b j => if b = r ∧ j = k then v else ρ b j
theorem ic_up_ne {μ : ic_M} {r k b : Nat} {v : Int32} (h : b ≠ r) : ic_up μ r k v b = μ b := by
  funext j
  simp [ic_up, h]
theorem ic_ur_ne {ρ : ic_R} {r k b : Nat} {v : Nat} (h : b ≠ r) : ic_ur ρ r k v b = ρ b := by
  funext j
  simp [ic_ur, h]
theorem ic_up_eq {μ : ic_M} {r k : Nat} {v : Int32} : ic_up μ r k v r = upd (μ r) k v := by
  funext j
  simp [ic_up, upd]
theorem ic_en_up_ne {κ : ic_K} {ρ : ic_R} {μ : ic_M} {a k b : Nat} {v : Int32} (h : b ≠ a) : ic_en κ ρ (ic_up μ (a + 1) k v) b = ic_en κ ρ μ b := by
  have e : ic_up μ (a + 1) k v (b + 1) = μ (b + 1) := ic_up_ne (by omega)
  have e2 : ∀ ci, ic_fv κ ρ (ic_up μ (a + 1) k v) b ci = ic_fv κ ρ μ b ci := fun ci => by
    funext j
    simp only [ic_fv, e]
  simp only [ic_en, e, e2]
theorem ic_en_ur_ne {κ : ic_K} {ρ : ic_R} {μ : ic_M} {a k b : Nat} {v : Nat} (h : b ≠ a) : ic_en κ (ic_ur ρ (a + 1) k v) μ b = ic_en κ ρ μ b := by
  have e : ic_ur ρ (a + 1) k v (b + 1) = ρ (b + 1) := ic_ur_ne (by omega)
  have e2 : ∀ ci, ic_fv κ (ic_ur ρ (a + 1) k v) μ b ci = ic_fv κ ρ μ b ci := fun ci => by
    funext j
    simp only [ic_fv, e]
  simp only [ic_en, e, e2]
theorem ic_map_set {N k : Nat} {f g : Nat → Value} {v : Value} (hv : g k = v) (ho : ∀ j, j ≠ k → g j = f j) : ((List.range N).map f).set k v = (List.range N).map g := by
  subst hv
  apply List.ext_getElem?
  intro j
  by_cases hj : j = k
  · subst hj
    by_cases hn : j < N
    · rw [List.getElem?_set_self (by simpa using hn)]
      simp [hn]
    · rw [List.getElem?_eq_none (by simpa using hn), List.getElem?_eq_none (by simpa using hn)]
  · rw [List.getElem?_set_ne (Ne.symm hj)]
    by_cases hn : j < N
    · simp [hn, ho j hj]
    · rw [List.getElem?_eq_none (by simpa using hn), List.getElem?_eq_none (by simpa using hn)]
/-! ===== what a class's fields are, as the rows ask it ===== -/
def ic_FK (ci : Nat) (C : String) (T : u_T) (N : Nat) (ty : Nat → FieldType) : Prop := ic_cls[ci]? = some (C, T, N) ∧ ic_nf ci = N ∧ (∀ w ∈ u_ws C T N, w ∈ ic_tb) ∧ (∀ k, k < N → parseFieldDescriptor (T k).2.2.1 = some (ty k)) ∧ (∀ a, a < N → ∀ b, b < N → a ≠ b → (T a).2.1 ≠ (T b).2.1)
def ic_chk (l : List Cond) : Bool := l.all (fun w => decide (w ∈ lw_tbl) && ic_gw w)
theorem ic_chk_in {l : List Cond} (h : ic_chk l = true) : ∀ w ∈ l, w ∈ ic_tb := fun w hw => by
  have h1 := List.all_eq_true.mp h w hw
  simp only [Bool.and_eq_true, decide_eq_true_eq] at h1
  exact List.mem_filter.mpr ⟨h1.1, h1.2⟩
theorem ic_fk0 : ic_FK 0 RX0 TX0 3 tyX0 := ⟨rfl, rfl, ic_chk_in (by decide +kernel), tyX0_ok, nmX0⟩
theorem ic_fk1 : ic_FK 1 RX1 TX1 6 tyX1 := ⟨rfl, rfl, ic_chk_in (by decide +kernel), tyX1_ok, nmX1⟩
theorem ic_fk2 : ic_FK 2 RX2 TX2 2 tyX2 := ⟨rfl, rfl, ic_chk_in (by decide +kernel), tyX2_ok, nmX2⟩
theorem ic_fk3 : ic_FK 3 RX3 TX3 3 tyX3 := ⟨rfl, rfl, ic_chk_in (by decide +kernel), tyX3_ok, nmX3⟩
theorem ic_fk4 : ic_FK 4 RX4 TX4 5 tyX4 := ⟨rfl, rfl, ic_chk_in (by decide +kernel), tyX4_ok, nmX4⟩
theorem ic_fk5 : ic_FK 5 RX5 TX5 13 tyX5 := ⟨rfl, rfl, ic_chk_in (by decide +kernel), tyX5_ok, nmX5⟩
theorem ic_fk6 : ic_FK 6 RX6 TX6 5 tyX6 := ⟨rfl, rfl, ic_chk_in (by decide +kernel), tyX6_ok, nmX6⟩
theorem ic_fk7 : ic_FK 7 RX7 TX7 1 tyX7 := ⟨rfl, rfl, ic_chk_in (by decide +kernel), tyX7_ok, nmX7⟩
theorem ic_fk8 : ic_FK 8 RX8 TX8 12 tyX8 := ⟨rfl, rfl, ic_chk_in (by decide +kernel), tyX8_ok, nmX8⟩
theorem ic_fk9 : ic_FK 9 RX9 TX9 24 tyX9 := ⟨rfl, rfl, ic_chk_in (by decide +kernel), tyX9_ok, nmX9⟩
/-! ===== locals: a list ordered by number, all values of one slot ===== -/
def ic_ins (i : Nat) (v : Value) : List (Nat × Value) → List (Nat × Value)
  | [] => [(i, v)]
  | q :: t => bif Nat.ble q.1 i then q :: ic_ins i v t else (i, v) :: q :: t
def ic_st (L : List (Nat × Value)) (i : Nat) (v : Value) : List (Nat × Value) := ic_ins i v (L.filter (fun q => !(Nat.beq q.1 i)))
theorem ic_ins_mem {i : Nat} {v : Value} {q : Nat × Value} : ∀ {l : List (Nat × Value)}, q ∈ ic_ins i v l → q = (i, v) ∨ q ∈ l
  | [], h => by simpa [ic_ins] using h
  | a :: t, h => by
    unfold ic_ins at h
    cases hb : Nat.ble a.1 i with
    | true =>
      rw [hb] at h
      rcases List.mem_cons.mp h with rfl | h
      · exact Or.inr List.mem_cons_self
      · exact (ic_ins_mem h).imp id (List.mem_cons_of_mem _)
    | false =>
      rw [hb] at h
      exact List.mem_cons.mp h
def ic_L (ls : Array Slot) (nL : Nat) (L : List (Nat × Value)) : Prop := lv_has ls nL L ∧ ∀ q ∈ L, q.2.category = 1
theorem ic_L.st {ls ls' : Array Slot} {nL i : Nat} {L : List (Nat × Value)} {v : Value} (h : ic_L ls nL L) (hv : v.category = 1) (h' : lv_has ls' nL ((i, v) :: L.filter (fun q => !(q.1 == i) && !(q.1 + 1 == i && q.2.category == 2)))) : ic_L ls' nL (ic_st L i v) := by
  have key : ∀ q ∈ ic_st L i v, q = (i, v) ∨ (q ∈ L ∧ q.1 ≠ i) := by
    intro q hq
    rcases ic_ins_mem hq with h1 | h1
    · exact Or.inl h1
    · obtain ⟨h2, h3⟩ := List.mem_filter.mp h1
      refine Or.inr ⟨h2, fun e => ?_⟩
      rw [e] at h3
      simp at h3
  refine ⟨⟨h'.1, h'.2.1, fun q hq => ?_⟩, fun q hq => ?_⟩
  · rcases key q hq with rfl | ⟨h1, h2⟩
    · exact h'.2.2 _ List.mem_cons_self
    · exact h'.2.2 q (List.mem_cons_of_mem _ (List.mem_filter.mpr ⟨h1, by simp [h2, h.2 q h1]⟩))
  · rcases key q hq with rfl | ⟨h1, -⟩
    · exact hv
    · exact h.2 q h1
def ic_c1 : List Value → Prop
  | [] => True
  | v :: t => v.category = 1 ∧ ic_c1 t
def ic_args : Nat → List Value → List (Nat × Value)
  | _, [] => []
  | i, v :: t => (i, v) :: ic_args (i + 1) t
theorem ic_args_eq : ∀ {av : List Value} {i : Nat}, ic_c1 av → lv_args i av = ic_args i av ∧ (lg_sl av).length = av.length ∧ ∀ q ∈ ic_args i av, q.2.category = 1
  | [], i, _ => ⟨rfl, rfl, fun q h => by cases h⟩
  | v :: t, i, h => by
    obtain ⟨h1, h2⟩ := h
    obtain ⟨a, b, c⟩ := ic_args_eq (i := i + 1) h2
    refine ⟨?_, ?_, ?_⟩
    · rw [lv_args, if_neg (by rw [h1]; decide), a]; rfl
    · simp only [lg_sl, List.flatMap_cons, List.length_append] at b ⊢
      rw [b, if_neg (by rw [h1]; decide)]
      simp only [List.length_cons, List.length_nil]; omega
    · intro q hq
      rcases List.mem_cons.mp hq with rfl | hq
      · exact h1
      · exact c q hq
theorem ic_sum {l : List Value} (h : l.length ≤ 4) : (l.map fun v => v.category).sum ≤ 8 := by
  have key : ∀ l : List Value, (l.map fun v => v.category).sum ≤ 2 * l.length := by
    intro l
    induction l with
    | nil => simp
    | cons v t ih =>
      have h1 : v.category ≤ 2 := by rcases lv_cat v with h | h <;> omega
      simp only [List.map_cons, List.sum_cons, List.length_cons]
      omega
  have := key l
  omega
/-! ===== the judgement of a walk ===== -/
abbrev ic_Md : Type := MethodName × ByteArray × Nat × Option FieldType × Room
def ic_Cx (p : Program) (M : ic_Md) (s : State) (m : MethodId) (args : Array Value) (meth : Method) (c : Code) : Prop :=
  p.tables.exec = Jvm.exec ∧ c.code = M.2.1 ∧ meth.sig.returnType = M.2.2.2.1 ∧ meth.locks = false ∧ c.maxLocals = M.2.2.1 ∧ s.vm.findClass M.1.cls = some m.cls ∧ (∀ w ∈ ic_tb, w.before args s = true) ∧ meth.name = M.1.name
def ic_W (l : Launch) (κ : ic_K) (M : ic_Md) (X : State → Array Value → Prop) (Z : State → List Frame → Array Value → State → Prop) (pc : Nat) (L : List (Nat × Value)) (S : List Value) (n : Nat) (ρ : ic_R) (μ : ic_M) (c0 s0 : Nat) : Prop :=
  ∀ (p : Program) (e : Env) (s : State) (m : MethodId) (args : Array Value) (below : List Frame) (meth : Method) (c : Code), ic_Cx p M s m args meth c → X s args → ic_KK κ s → κ.1 ≤ s.heap.size →
    ∀ (ls : Array Slot) (H : Heap) (locs : List Loc), ic_L ls M.2.2.1 L → ic_H κ n ρ μ H → va_S (ic_A κ) s.heap H locs → W p l e M.2.2.2.2 s m args below meth c H locs c0 s0 (Z s below args) (F0 m pc ls S)
/-- a contract: from this memory, with these arguments, the method returns v and leaves that memory -/
def ic_Qc (κ : ic_K) (v : Option Value) (n : Nat) (ρ : ic_R) (μ : ic_M) : Array Value → State → Outcome → State → Prop := fun _ st o t => (o = .returned v ∧ ic_H κ n ρ μ t.heap ∧ ic_KK κ t) ∧ va_F (ic_A κ) st t
def ic_Pc (κ : ic_K) (av : List Value) (n : Nat) (ρ : ic_R) (μ : ic_M) : Array Value → State → Prop := va_Pc av (fun U => ic_H κ n ρ μ U.heap ∧ ic_KK κ U)
def ic_ws (M : ic_Md) : List Cond := .code M.1 M.2.1 M.2.2.1 M.2.2.2.1 :: ic_tb
def ic_C (l : Launch) (κ : ic_K) (M : ic_Md) (av : List Value) (n : Nat) (ρ : ic_R) (μ : ic_M) (v : Option Value) (n' : Nat) (ρ' : ic_R) (μ' : ic_M) : Prop :=
  Met l M.1 (ic_ws M) M.2.2.2.2 (ic_Pc κ av n ρ μ) (ic_Qc κ v n' ρ' μ') M.2.2.2.2.cells M.2.2.2.2.slots (ic_A κ)
/-- the end of a method -/
def ic_Z (κ : ic_K) (M : ic_Md) (v : Option Value) (n : Nat) (ρ : ic_R) (μ : ic_M) : State → List Frame → Array Value → State → Prop := fun s below args => MQ below (ic_Qc κ v n ρ μ) args s M.2.2.2.2.cells M.2.2.2.2.slots (ic_A κ)
def ic_X0 : State → Array Value → Prop := fun _ _ => True
/-- a contract out of a walk -/
theorem ic_C.of {l : Launch} {κ : ic_K} {M : ic_Md} {av : List Value} {n n' : Nat} {ρ ρ' : ic_R} {μ μ' : ic_M} {v : Option Value} {L : List (Nat × Value)} (hc : ic_c1 av) (hp : plainName M.1.cls = true ∧ av.length ≤ M.2.2.1) (hL : ic_args 0 av = L)
    (k : ic_W l κ M ic_X0 (ic_Z κ M v n' ρ' μ') 0 L [] n ρ μ 0 0) : ic_C l κ M av n ρ μ v n' ρ' μ' := by
  refine Met.ofW (cc := M.2.1) (maxL := M.2.2.1) (ret := M.2.2.2.1) hp.1 rfl ?_
  intro p e s m args below meth c s₁ B hml hv
  obtain ⟨rfl, hP, hK⟩ := hv
  obtain ⟨a1, a2, a3⟩ := ic_args_eq (i := 0) hc
  have hts := atoms_spec (ws := ic_ws M) B.pre
  have hl := lv_entry av (n := M.2.2.1) (by rw [a2]; exact hp.2)
  rw [lg_entry_eq]
  generalize (lg_sl av ++ List.replicate (M.2.2.1 - (lg_sl av).length) Slot.unset).toArray = ls at hl ⊢
  subst hL
  rw [a1] at hl
  exact k p e s m _ below meth c ⟨B.exec, B.bytes, B.returns, B.notSynchronized, hml, findClass_of_methodNamed B.named, fun w hw => hts w (List.mem_cons_of_mem _ hw), (name_of_methodNamed B.named B.method).1⟩ trivial hK (by rw [hP.2]; exact Nat.le_add_right _ _) ls s.heap [] ⟨hl, a3⟩ hP va_S.rf
end
section
/-! ===== one rule an instruction ===== -/
/-- a value with a name -/
def ic_lt {α : Type} (x : Int32) (T : Int32 → Option α) : Option α := T x
/-- an int of memory put, the memory with a name -/
def ic_pu {α : Type} (μ : ic_M) (r k : Nat) (v : Int32) (T : ic_M → Option α) : Option α := T (ic_up μ r k v)
section ICR
variable {l : Launch} {κ : ic_K} {M : ic_Md} {X : State → Array Value → Prop} {Z : State → List Frame → Array Value → State → Prop} {pc pc' : Nat} {L L' : List (Nat × Value)} {S : List Value} {n : Nat} {ρ : ic_R} {μ : ic_M} {c0 s0 : Nat}
theorem iw_iconst {i : Int} {v : Int32} (hd : decode M.2.1 pc = .ok (.iconst i, 1) ∧ pc + 1 = pc' ∧ Int32.ofInt i = v) (k : ic_W l κ M X Z pc' L (.int v :: S) n ρ μ c0 s0) : ic_W l κ M X Z pc L S n ρ μ c0 s0 := by
  obtain ⟨hd, rfl, hv⟩ := hd
  intro p e s m args below meth c C hX hK hB ls H locs hl hP hS
  exact lv_iconst C.1 C.2.1 hd hv (k p e s m args below meth c C hX hK hB ls H locs hl hP hS)
theorem iw_bipush {i : Int} {v : Int32} (hd : decode M.2.1 pc = .ok (.bipush i, 2) ∧ pc + 2 = pc' ∧ (Int8.ofInt i).toInt32 = v) (k : ic_W l κ M X Z pc' L (.int v :: S) n ρ μ c0 s0) : ic_W l κ M X Z pc L S n ρ μ c0 s0 := by
  obtain ⟨hd, rfl, hv⟩ := hd
  intro p e s m args below meth c C hX hK hB ls H locs hl hP hS
  exact lv_bipush C.1 C.2.1 hd hv (k p e s m args below meth c C hX hK hB ls H locs hl hP hS)
theorem iw_sipush {i : Int} {v : Int32} (hd : decode M.2.1 pc = .ok (.sipush i, 3) ∧ pc + 3 = pc' ∧ (Int16.ofInt i).toInt32 = v) (k : ic_W l κ M X Z pc' L (.int v :: S) n ρ μ c0 s0) : ic_W l κ M X Z pc L S n ρ μ c0 s0 := by
  obtain ⟨hd, rfl, hv⟩ := hd
  intro p e s m args below meth c C hX hK hB ls H locs hl hP hS
  exact lv_sipush C.1 C.2.1 hd hv (k p e s m args below meth c C hX hK hB ls H locs hl hP hS)
theorem iw_ldc {i : Nat} {v : Int32} (hw : Cond.constant M.1.cls i v ∈ ic_tb) (hd : decode M.2.1 pc = .ok (.ldc i, 2) ∧ pc + 2 = pc') (k : ic_W l κ M X Z pc' L (.int v :: S) n ρ μ c0 s0) : ic_W l κ M X Z pc L S n ρ μ c0 s0 := by
  obtain ⟨hd, rfl⟩ := hd
  intro p e s m args below meth c C hX hK hB ls H locs hl hP hS
  exact lv_ldc C.1 C.2.1 C.2.2.2.2.2.1 (C.2.2.2.2.2.2.1 _ hw) hd (k p e s m args below meth c C hX hK hB ls H locs hl hP hS)
theorem iw_ldc_w {i : Nat} {v : Int32} (hw : Cond.constant M.1.cls i v ∈ ic_tb) (hd : decode M.2.1 pc = .ok (.ldc_w i, 3) ∧ pc + 3 = pc') (k : ic_W l κ M X Z pc' L (.int v :: S) n ρ μ c0 s0) : ic_W l κ M X Z pc L S n ρ μ c0 s0 := by
  obtain ⟨hd, rfl⟩ := hd
  intro p e s m args below meth c C hX hK hB ls H locs hl hP hS
  exact lv_ldcw C.1 C.2.1 C.2.2.2.2.2.1 (C.2.2.2.2.2.2.1 _ hw) hd (k p e s m args below meth c C hX hK hB ls H locs hl hP hS)
theorem iw_ldc2 {i : Nat} {v : Int64} (hw : Cond.constantLong M.1.cls i v ∈ ic_tb) (hd : decode M.2.1 pc = .ok (.ldc2_w i, 3) ∧ pc + 3 = pc') (k : ic_W l κ M X Z pc' L (.long v :: S) n ρ μ c0 s0) : ic_W l κ M X Z pc L S n ρ μ c0 s0 := by
  obtain ⟨hd, rfl⟩ := hd
  intro p e s m args below meth c C hX hK hB ls H locs hl hP hS
  exact lv_ldc2 C.1 C.2.1 C.2.2.2.2.2.1 (C.2.2.2.2.2.2.1 _ hw) hd (k p e s m args below meth c C hX hK hB ls H locs hl hP hS)
theorem iw_iload_n {i : Fin 4} {x : Int32} (j : Nat) (hj : L[j]? = some ((i : Nat), .int x)) (hd : decode M.2.1 pc = .ok (.iload_n i, 1) ∧ pc + 1 = pc') (k : ic_W l κ M X Z pc' L (.int x :: S) n ρ μ c0 s0) : ic_W l κ M X Z pc L S n ρ μ c0 s0 := by
  obtain ⟨hd, rfl⟩ := hd
  intro p e s m args below meth c C hX hK hB ls H locs hl hP hS
  exact lv_iload_n C.1 C.2.1 hd rfl (lv_at hl.1 j hj) (k p e s m args below meth c C hX hK hB ls H locs hl hP hS)
theorem iw_iload {i : Nat} {x : Int32} (j : Nat) (hj : L[j]? = some (i, .int x)) (hd : decode M.2.1 pc = .ok (.iload i, 2) ∧ pc + 2 = pc') (k : ic_W l κ M X Z pc' L (.int x :: S) n ρ μ c0 s0) : ic_W l κ M X Z pc L S n ρ μ c0 s0 := by
  obtain ⟨hd, rfl⟩ := hd
  intro p e s m args below meth c C hX hK hB ls H locs hl hP hS
  exact lv_iload C.1 C.2.1 hd (lv_at hl.1 j hj) (k p e s m args below meth c C hX hK hB ls H locs hl hP hS)
theorem iw_aload_n {i : Fin 4} {r : Nat} (j : Nat) (hj : L[j]? = some ((i : Nat), ic_rv κ.1 r)) (hd : decode M.2.1 pc = .ok (.aload_n i, 1) ∧ pc + 1 = pc') (k : ic_W l κ M X Z pc' L (ic_rv κ.1 r :: S) n ρ μ c0 s0) : ic_W l κ M X Z pc L S n ρ μ c0 s0 := by
  obtain ⟨hd, rfl⟩ := hd
  intro p e s m args below meth c C hX hK hB ls H locs hl hP hS
  have k := k p e s m args below meth c C hX hK hB ls H locs hl hP hS
  have hj := lv_at hl.1 j hj
  cases r with
  | zero => exact lv_aload_nN C.1 C.2.1 hd rfl hj k
  | succ a => exact lv_aload_n C.1 C.2.1 hd rfl hj k
theorem iw_aload {i : Nat} {r : Nat} (j : Nat) (hj : L[j]? = some (i, ic_rv κ.1 r)) (hd : decode M.2.1 pc = .ok (.aload i, 2) ∧ pc + 2 = pc') (k : ic_W l κ M X Z pc' L (ic_rv κ.1 r :: S) n ρ μ c0 s0) : ic_W l κ M X Z pc L S n ρ μ c0 s0 := by
  obtain ⟨hd, rfl⟩ := hd
  intro p e s m args below meth c C hX hK hB ls H locs hl hP hS
  have k := k p e s m args below meth c C hX hK hB ls H locs hl hP hS
  have hj := lv_at hl.1 j hj
  cases r with
  | zero => exact lv_aloadN C.1 C.2.1 hd hj k
  | succ a => exact lv_aload C.1 C.2.1 hd hj k
theorem iw_istore_n {i : Fin 4} {α : Type} {x : Int32} {T : Int32 → Option α} {R : α} {L1 : Int32 → List (Nat × Value)} (hf : ic_lt x T = some R) (hL : ∀ y, ic_st L (i : Nat) (.int y) = L1 y) (hd : decode M.2.1 pc = .ok (.istore_n i, 1) ∧ pc + 1 = pc' ∧ (i : Nat) < M.2.2.1) (k : ∀ y, T y = some R → ic_W l κ M X Z pc' (L1 y) S n ρ μ c0 s0) : ic_W l κ M X Z pc L (.int x :: S) n ρ μ c0 s0 := by
  obtain ⟨hd, rfl, hi⟩ := hd
  intro p e s m args below meth c C hX hK hB ls H locs hl hP hS
  exact lv_istore_n C.1 C.2.1 hd rfl hl.1 hi rfl (fun ls' hl' => k x hf p e s m args below meth c C hX hK hB ls' H locs (hL _ ▸ hl.st rfl hl') hP hS)
theorem iw_istore_n0 {i : Fin 4} {x : Int32} (hL : ic_st L (i : Nat) (.int x) = L') (hd : decode M.2.1 pc = .ok (.istore_n i, 1) ∧ pc + 1 = pc' ∧ (i : Nat) < M.2.2.1) (k : ic_W l κ M X Z pc' L' S n ρ μ c0 s0) : ic_W l κ M X Z pc L (.int x :: S) n ρ μ c0 s0 := by
  obtain ⟨hd, rfl, hi⟩ := hd
  intro p e s m args below meth c C hX hK hB ls H locs hl hP hS
  exact lv_istore_n C.1 C.2.1 hd rfl hl.1 hi rfl (fun ls' hl' => k p e s m args below meth c C hX hK hB ls' H locs (hL ▸ hl.st rfl hl') hP hS)
theorem iw_istore {i : Nat} {α : Type} {x : Int32} {T : Int32 → Option α} {R : α} {L1 : Int32 → List (Nat × Value)} (hf : ic_lt x T = some R) (hL : ∀ y, ic_st L i (.int y) = L1 y) (hd : decode M.2.1 pc = .ok (.istore i, 2) ∧ pc + 2 = pc' ∧ i < M.2.2.1) (k : ∀ y, T y = some R → ic_W l κ M X Z pc' (L1 y) S n ρ μ c0 s0) : ic_W l κ M X Z pc L (.int x :: S) n ρ μ c0 s0 := by
  obtain ⟨hd, rfl, hi⟩ := hd
  intro p e s m args below meth c C hX hK hB ls H locs hl hP hS
  exact lv_istore C.1 C.2.1 hd hl.1 hi rfl (fun ls' hl' => k x hf p e s m args below meth c C hX hK hB ls' H locs (hL _ ▸ hl.st rfl hl') hP hS)
theorem iw_istore0 {i : Nat} {x : Int32} (hL : ic_st L i (.int x) = L') (hd : decode M.2.1 pc = .ok (.istore i, 2) ∧ pc + 2 = pc' ∧ i < M.2.2.1) (k : ic_W l κ M X Z pc' L' S n ρ μ c0 s0) : ic_W l κ M X Z pc L (.int x :: S) n ρ μ c0 s0 := by
  obtain ⟨hd, rfl, hi⟩ := hd
  intro p e s m args below meth c C hX hK hB ls H locs hl hP hS
  exact lv_istore C.1 C.2.1 hd hl.1 hi rfl (fun ls' hl' => k p e s m args below meth c C hX hK hB ls' H locs (hL ▸ hl.st rfl hl') hP hS)
theorem ic_cat (B r : Nat) : (ic_rv B r).category = 1 := by cases r <;> rfl
theorem iw_astore_n {i : Fin 4} {r : Nat} (hL : ic_st L (i : Nat) (ic_rv κ.1 r) = L') (hd : decode M.2.1 pc = .ok (.astore_n i, 1) ∧ pc + 1 = pc' ∧ (i : Nat) < M.2.2.1) (k : ic_W l κ M X Z pc' L' S n ρ μ c0 s0) : ic_W l κ M X Z pc L (ic_rv κ.1 r :: S) n ρ μ c0 s0 := by
  obtain ⟨hd, rfl, hi⟩ := hd
  intro p e s m args below meth c C hX hK hB ls H locs hl hP hS
  cases r with
  | zero => exact lv_astore_nN C.1 C.2.1 hd rfl hl.1 hi rfl (fun ls' hl' => k p e s m args below meth c C hX hK hB ls' H locs (hL ▸ hl.st rfl hl') hP hS)
  | succ a => exact lv_astore_n C.1 C.2.1 hd rfl hl.1 hi rfl (fun ls' hl' => k p e s m args below meth c C hX hK hB ls' H locs (hL ▸ hl.st rfl hl') hP hS)
theorem iw_iinc {i : Nat} {d : Int} {x v : Int32} {α : Type} {T : Int32 → Option α} {R : α} {L1 : Int32 → List (Nat × Value)} (hf : ic_lt (x + v) T = some R) (j : Nat) (hj : L[j]? = some (i, .int x)) (hL : ∀ y, ic_st L i (.int y) = L1 y) (hd : decode M.2.1 pc = .ok (.iinc i d, 3) ∧ pc + 3 = pc' ∧ i < M.2.2.1 ∧ Int32.ofInt d = v) (k : ∀ y, T y = some R → ic_W l κ M X Z pc' (L1 y) S n ρ μ c0 s0) : ic_W l κ M X Z pc L S n ρ μ c0 s0 := by
  obtain ⟨hd, rfl, hi, rfl⟩ := hd
  intro p e s m args below meth c C hX hK hB ls H locs hl hP hS
  exact lv_iinc C.1 C.2.1 hd hl.1 hj rfl hi rfl (fun ls' hl' => k _ hf p e s m args below meth c C hX hK hB ls' H locs (hL _ ▸ hl.st rfl hl') hP hS)
/-- the locals in another order, or fewer -/
theorem iw_sub (ks : List Nat) (h : lv_pick L ks = L') (k : ic_W l κ M X Z pc L' S n ρ μ c0 s0) : ic_W l κ M X Z pc L S n ρ μ c0 s0 := by
  intro p e s m args below meth c C hX hK hB ls H locs hl hP hS
  refine k p e s m args below meth c C hX hK hB ls H locs ⟨lv_sub hl.1 ks h, fun q hq => ?_⟩ hP hS
  rw [← h] at hq
  obtain ⟨j, -, hj⟩ := List.mem_filterMap.mp hq
  exact hl.2 q (List.mem_of_getElem? hj)
theorem iw_iadd {x y : Int32} (hd : decode M.2.1 pc = .ok (.iadd, 1) ∧ pc + 1 = pc') (k : ic_W l κ M X Z pc' L (.int (x + y) :: S) n ρ μ c0 s0) : ic_W l κ M X Z pc L (.int y :: .int x :: S) n ρ μ c0 s0 := by
  obtain ⟨hd, rfl⟩ := hd
  intro p e s m args below meth c C hX hK hB ls H locs hl hP hS
  exact lv_iadd C.1 C.2.1 hd (k p e s m args below meth c C hX hK hB ls H locs hl hP hS)
theorem iw_isub {x y : Int32} (hd : decode M.2.1 pc = .ok (.isub, 1) ∧ pc + 1 = pc') (k : ic_W l κ M X Z pc' L (.int (x - y) :: S) n ρ μ c0 s0) : ic_W l κ M X Z pc L (.int y :: .int x :: S) n ρ μ c0 s0 := by
  obtain ⟨hd, rfl⟩ := hd
  intro p e s m args below meth c C hX hK hB ls H locs hl hP hS
  exact lv_isub C.1 C.2.1 hd (k p e s m args below meth c C hX hK hB ls H locs hl hP hS)
theorem iw_imul {x y : Int32} (hd : decode M.2.1 pc = .ok (.imul, 1) ∧ pc + 1 = pc') (k : ic_W l κ M X Z pc' L (.int (x * y) :: S) n ρ μ c0 s0) : ic_W l κ M X Z pc L (.int y :: .int x :: S) n ρ μ c0 s0 := by
  obtain ⟨hd, rfl⟩ := hd
  intro p e s m args below meth c C hX hK hB ls H locs hl hP hS
  exact lv_imul C.1 C.2.1 hd (k p e s m args below meth c C hX hK hB ls H locs hl hP hS)
theorem iw_iand {x y : Int32} (hd : decode M.2.1 pc = .ok (.iand, 1) ∧ pc + 1 = pc') (k : ic_W l κ M X Z pc' L (.int (x &&& y) :: S) n ρ μ c0 s0) : ic_W l κ M X Z pc L (.int y :: .int x :: S) n ρ μ c0 s0 := by
  obtain ⟨hd, rfl⟩ := hd
  intro p e s m args below meth c C hX hK hB ls H locs hl hP hS
  exact lv_iand C.1 C.2.1 hd (k p e s m args below meth c C hX hK hB ls H locs hl hP hS)
theorem iw_ior {x y : Int32} (hd : decode M.2.1 pc = .ok (.ior, 1) ∧ pc + 1 = pc') (k : ic_W l κ M X Z pc' L (.int (x ||| y) :: S) n ρ μ c0 s0) : ic_W l κ M X Z pc L (.int y :: .int x :: S) n ρ μ c0 s0 := by
  obtain ⟨hd, rfl⟩ := hd
  intro p e s m args below meth c C hX hK hB ls H locs hl hP hS
  exact lv_ior C.1 C.2.1 hd (k p e s m args below meth c C hX hK hB ls H locs hl hP hS)
theorem iw_ixor {x y : Int32} (hd : decode M.2.1 pc = .ok (.ixor, 1) ∧ pc + 1 = pc') (k : ic_W l κ M X Z pc' L (.int (x ^^^ y) :: S) n ρ μ c0 s0) : ic_W l κ M X Z pc L (.int y :: .int x :: S) n ρ μ c0 s0 := by
  obtain ⟨hd, rfl⟩ := hd
  intro p e s m args below meth c C hX hK hB ls H locs hl hP hS
  exact lv_ixor C.1 C.2.1 hd (k p e s m args below meth c C hX hK hB ls H locs hl hP hS)
theorem iw_ishl {x y : Int32} (hd : decode M.2.1 pc = .ok (.ishl, 1) ∧ pc + 1 = pc') (k : ic_W l κ M X Z pc' L (.int (x <<< (y &&& 31)) :: S) n ρ μ c0 s0) : ic_W l κ M X Z pc L (.int y :: .int x :: S) n ρ μ c0 s0 := by
  obtain ⟨hd, rfl⟩ := hd
  intro p e s m args below meth c C hX hK hB ls H locs hl hP hS
  exact lv_ishl C.1 C.2.1 hd (k p e s m args below meth c C hX hK hB ls H locs hl hP hS)
theorem iw_ishr {x y : Int32} (hd : decode M.2.1 pc = .ok (.ishr, 1) ∧ pc + 1 = pc') (k : ic_W l κ M X Z pc' L (.int (x >>> (y &&& 31)) :: S) n ρ μ c0 s0) : ic_W l κ M X Z pc L (.int y :: .int x :: S) n ρ μ c0 s0 := by
  obtain ⟨hd, rfl⟩ := hd
  intro p e s m args below meth c C hX hK hB ls H locs hl hP hS
  exact lv_ishr C.1 C.2.1 hd (k p e s m args below meth c C hX hK hB ls H locs hl hP hS)
theorem iw_iushr {x y : Int32} (hd : decode M.2.1 pc = .ok (.iushr, 1) ∧ pc + 1 = pc') (k : ic_W l κ M X Z pc' L (.int (x.toUInt32 >>> (y.toUInt32 &&& Int32.toUInt32 31)).toInt32 :: S) n ρ μ c0 s0) : ic_W l κ M X Z pc L (.int y :: .int x :: S) n ρ μ c0 s0 := by
  obtain ⟨hd, rfl⟩ := hd
  intro p e s m args below meth c C hX hK hB ls H locs hl hP hS
  exact lv_iushr C.1 C.2.1 hd rfl (k p e s m args below meth c C hX hK hB ls H locs hl hP hS)
theorem iw_i2l {x : Int32} (hd : decode M.2.1 pc = .ok (.i2l, 1) ∧ pc + 1 = pc') (k : ic_W l κ M X Z pc' L (.long x.toInt64 :: S) n ρ μ c0 s0) : ic_W l κ M X Z pc L (.int x :: S) n ρ μ c0 s0 := by
  obtain ⟨hd, rfl⟩ := hd
  intro p e s m args below meth c C hX hK hB ls H locs hl hP hS
  exact lv_i2l C.1 C.2.1 hd rfl (k p e s m args below meth c C hX hK hB ls H locs hl hP hS)
theorem iw_l2i {x : Int64} (hd : decode M.2.1 pc = .ok (.l2i, 1) ∧ pc + 1 = pc') (k : ic_W l κ M X Z pc' L (.int x.toInt32 :: S) n ρ μ c0 s0) : ic_W l κ M X Z pc L (.long x :: S) n ρ μ c0 s0 := by
  obtain ⟨hd, rfl⟩ := hd
  intro p e s m args below meth c C hX hK hB ls H locs hl hP hS
  exact lv_l2i C.1 C.2.1 hd rfl (k p e s m args below meth c C hX hK hB ls H locs hl hP hS)
theorem iw_ladd {x y : Int64} (hd : decode M.2.1 pc = .ok (.ladd, 1) ∧ pc + 1 = pc') (k : ic_W l κ M X Z pc' L (.long (x + y) :: S) n ρ μ c0 s0) : ic_W l κ M X Z pc L (.long y :: .long x :: S) n ρ μ c0 s0 := by
  obtain ⟨hd, rfl⟩ := hd
  intro p e s m args below meth c C hX hK hB ls H locs hl hP hS
  exact lv_ladd C.1 C.2.1 hd (k p e s m args below meth c C hX hK hB ls H locs hl hP hS)
theorem iw_lmul {x y : Int64} (hd : decode M.2.1 pc = .ok (.lmul, 1) ∧ pc + 1 = pc') (k : ic_W l κ M X Z pc' L (.long (x * y) :: S) n ρ μ c0 s0) : ic_W l κ M X Z pc L (.long y :: .long x :: S) n ρ μ c0 s0 := by
  obtain ⟨hd, rfl⟩ := hd
  intro p e s m args below meth c C hX hK hB ls H locs hl hP hS
  exact lv_lmul C.1 C.2.1 hd (k p e s m args below meth c C hX hK hB ls H locs hl hP hS)
theorem iw_land {x y : Int64} (hd : decode M.2.1 pc = .ok (.land, 1) ∧ pc + 1 = pc') (k : ic_W l κ M X Z pc' L (.long (x &&& y) :: S) n ρ μ c0 s0) : ic_W l κ M X Z pc L (.long y :: .long x :: S) n ρ μ c0 s0 := by
  obtain ⟨hd, rfl⟩ := hd
  intro p e s m args below meth c C hX hK hB ls H locs hl hP hS
  exact lv_land C.1 C.2.1 hd (k p e s m args below meth c C hX hK hB ls H locs hl hP hS)
theorem iw_dup {v : Value} (hv : v.category = 1) (hd : decode M.2.1 pc = .ok (.dup, 1) ∧ pc + 1 = pc') (k : ic_W l κ M X Z pc' L (v :: v :: S) n ρ μ c0 s0) : ic_W l κ M X Z pc L (v :: S) n ρ μ c0 s0 := by
  obtain ⟨hd, rfl⟩ := hd
  intro p e s m args below meth c C hX hK hB ls H locs hl hP hS
  exact lv_dup C.1 C.2.1 hd hv (k p e s m args below meth c C hX hK hB ls H locs hl hP hS)
theorem iw_dup2 {v w : Value} (hv : v.category = 1) (hw : w.category = 1) (hd : decode M.2.1 pc = .ok (.dup2, 1) ∧ pc + 1 = pc') (k : ic_W l κ M X Z pc' L (v :: w :: v :: w :: S) n ρ μ c0 s0) : ic_W l κ M X Z pc L (v :: w :: S) n ρ μ c0 s0 := by
  obtain ⟨hd, rfl⟩ := hd
  intro p e s m args below meth c C hX hK hB ls H locs hl hP hS
  exact lv_dup2_11 C.1 C.2.1 hd hv hw (k p e s m args below meth c C hX hK hB ls H locs hl hP hS)
theorem iw_pop {v : Value} (hv : v.category = 1) (hd : decode M.2.1 pc = .ok (.pop, 1) ∧ pc + 1 = pc') (k : ic_W l κ M X Z pc' L S n ρ μ c0 s0) : ic_W l κ M X Z pc L (v :: S) n ρ μ c0 s0 := by
  obtain ⟨hd, rfl⟩ := hd
  intro p e s m args below meth c C hX hK hB ls H locs hl hP hS
  exact lv_pop C.1 C.2.1 hd hv (k p e s m args below meth c C hX hK hB ls H locs hl hP hS)
theorem iw_goto {off : Int} (hd : decode M.2.1 pc = .ok (.goto off, 3) ∧ (pc : Int) + off = (pc' : Int)) (k : ic_W l κ M X Z pc' L S n ρ μ c0 s0) : ic_W l κ M X Z pc L S n ρ μ c0 s0 := by
  obtain ⟨hd, ht⟩ := hd
  intro p e s m args below meth c C hX hK hB ls H locs hl hP hS
  exact lv_goto C.1 C.2.1 hd ht (k p e s m args below meth c C hX hK hB ls H locs hl hP hS)
/-! division: the divisor is looked at in the function -/
theorem iw_idiv {α : Type} {x y : Int32} {T : Option α} {R : α} (hf : (if y = 0 then none else T) = some R) (hd : decode M.2.1 pc = .ok (.idiv, 1) ∧ pc + 1 = pc') (k : T = some R → ic_W l κ M X Z pc' L (.int (x / y) :: S) n ρ μ c0 s0) : ic_W l κ M X Z pc L (.int y :: .int x :: S) n ρ μ c0 s0 := by
  obtain ⟨hd, rfl⟩ := hd
  by_cases h0 : y = 0
  · rw [if_pos h0] at hf; cases hf
  · rw [if_neg h0] at hf
    intro p e s m args below meth c C hX hK hB ls H locs hl hP hS
    exact lv_idiv C.1 C.2.1 hd h0 (k hf p e s m args below meth c C hX hK hB ls H locs hl hP hS)
theorem iw_irem {α : Type} {x y : Int32} {T : Option α} {R : α} (hf : (if y = 0 then none else T) = some R) (hd : decode M.2.1 pc = .ok (.irem, 1) ∧ pc + 1 = pc') (k : T = some R → ic_W l κ M X Z pc' L (.int (x - x / y * y) :: S) n ρ μ c0 s0) : ic_W l κ M X Z pc L (.int y :: .int x :: S) n ρ μ c0 s0 := by
  obtain ⟨hd, rfl⟩ := hd
  by_cases h0 : y = 0
  · rw [if_pos h0] at hf; cases hf
  · rw [if_neg h0] at hf
    intro p e s m args below meth c C hX hK hB ls H locs hl hP hS
    exact lv_irem C.1 C.2.1 hd h0 (k hf p e s m args below meth c C hX hK hB ls H locs hl hP hS)
theorem iw_if_eq {α : Type} {x : Int32} {off : Int} {tg : Nat} {T F : Option α} {R : α} (hf : (if x = 0 then T else F) = some R) (hd : decode M.2.1 pc = .ok (.ifCond .eq off, 3) ∧ (pc : Int) + off = (tg : Int) ∧ pc + 3 = pc') (kt : T = some R → ic_W l κ M X Z tg L S n ρ μ c0 s0) (kf : F = some R → ic_W l κ M X Z pc' L S n ρ μ c0 s0) : ic_W l κ M X Z pc L (.int x :: S) n ρ μ c0 s0 := by
  obtain ⟨hd, ht, rfl⟩ := hd
  intro p e s m args below meth c C hX hK hB ls H locs hl hP hS
  exact lv_if_eq C.1 C.2.1 hd ht (fun h => kt (by rw [if_pos h] at hf; exact hf) p e s m args below meth c C hX hK hB ls H locs hl hP hS) (fun h => kf (by rw [if_neg h] at hf; exact hf) p e s m args below meth c C hX hK hB ls H locs hl hP hS)
theorem iw_if_ne {α : Type} {x : Int32} {off : Int} {tg : Nat} {T F : Option α} {R : α} (hf : (if x = 0 then F else T) = some R) (hd : decode M.2.1 pc = .ok (.ifCond .ne off, 3) ∧ (pc : Int) + off = (tg : Int) ∧ pc + 3 = pc') (kt : T = some R → ic_W l κ M X Z tg L S n ρ μ c0 s0) (kf : F = some R → ic_W l κ M X Z pc' L S n ρ μ c0 s0) : ic_W l κ M X Z pc L (.int x :: S) n ρ μ c0 s0 := by
  obtain ⟨hd, ht, rfl⟩ := hd
  intro p e s m args below meth c C hX hK hB ls H locs hl hP hS
  exact lv_if_ne C.1 C.2.1 hd ht (fun h => kt (by rw [if_neg h] at hf; exact hf) p e s m args below meth c C hX hK hB ls H locs hl hP hS) (fun h => kf (by rw [if_pos h] at hf; exact hf) p e s m args below meth c C hX hK hB ls H locs hl hP hS)
theorem iw_if_lt {α : Type} {x : Int32} {off : Int} {tg : Nat} {T F : Option α} {R : α} (hf : (if x < 0 then T else F) = some R) (hd : decode M.2.1 pc = .ok (.ifCond .lt off, 3) ∧ (pc : Int) + off = (tg : Int) ∧ pc + 3 = pc') (kt : T = some R → ic_W l κ M X Z tg L S n ρ μ c0 s0) (kf : F = some R → ic_W l κ M X Z pc' L S n ρ μ c0 s0) : ic_W l κ M X Z pc L (.int x :: S) n ρ μ c0 s0 := by
  obtain ⟨hd, ht, rfl⟩ := hd
  intro p e s m args below meth c C hX hK hB ls H locs hl hP hS
  exact lv_if_lt C.1 C.2.1 hd ht (fun h => kt (by rw [if_pos h] at hf; exact hf) p e s m args below meth c C hX hK hB ls H locs hl hP hS) (fun h => kf (by rw [if_neg h] at hf; exact hf) p e s m args below meth c C hX hK hB ls H locs hl hP hS)
theorem iw_if_ge {α : Type} {x : Int32} {off : Int} {tg : Nat} {T F : Option α} {R : α} (hf : (if 0 ≤ x then T else F) = some R) (hd : decode M.2.1 pc = .ok (.ifCond .ge off, 3) ∧ (pc : Int) + off = (tg : Int) ∧ pc + 3 = pc') (kt : T = some R → ic_W l κ M X Z tg L S n ρ μ c0 s0) (kf : F = some R → ic_W l κ M X Z pc' L S n ρ μ c0 s0) : ic_W l κ M X Z pc L (.int x :: S) n ρ μ c0 s0 := by
  obtain ⟨hd, ht, rfl⟩ := hd
  intro p e s m args below meth c C hX hK hB ls H locs hl hP hS
  exact lv_if_ge C.1 C.2.1 hd ht (fun h => kt (by rw [if_pos h] at hf; exact hf) p e s m args below meth c C hX hK hB ls H locs hl hP hS) (fun h => kf (by rw [if_neg h] at hf; exact hf) p e s m args below meth c C hX hK hB ls H locs hl hP hS)
theorem iw_if_gt {α : Type} {x : Int32} {off : Int} {tg : Nat} {T F : Option α} {R : α} (hf : (if 0 < x then T else F) = some R) (hd : decode M.2.1 pc = .ok (.ifCond .gt off, 3) ∧ (pc : Int) + off = (tg : Int) ∧ pc + 3 = pc') (kt : T = some R → ic_W l κ M X Z tg L S n ρ μ c0 s0) (kf : F = some R → ic_W l κ M X Z pc' L S n ρ μ c0 s0) : ic_W l κ M X Z pc L (.int x :: S) n ρ μ c0 s0 := by
  obtain ⟨hd, ht, rfl⟩ := hd
  intro p e s m args below meth c C hX hK hB ls H locs hl hP hS
  exact lv_if_gt C.1 C.2.1 hd ht (fun h => kt (by rw [if_pos h] at hf; exact hf) p e s m args below meth c C hX hK hB ls H locs hl hP hS) (fun h => kf (by rw [if_neg h] at hf; exact hf) p e s m args below meth c C hX hK hB ls H locs hl hP hS)
theorem iw_if_le {α : Type} {x : Int32} {off : Int} {tg : Nat} {T F : Option α} {R : α} (hf : (if x ≤ 0 then T else F) = some R) (hd : decode M.2.1 pc = .ok (.ifCond .le off, 3) ∧ (pc : Int) + off = (tg : Int) ∧ pc + 3 = pc') (kt : T = some R → ic_W l κ M X Z tg L S n ρ μ c0 s0) (kf : F = some R → ic_W l κ M X Z pc' L S n ρ μ c0 s0) : ic_W l κ M X Z pc L (.int x :: S) n ρ μ c0 s0 := by
  obtain ⟨hd, ht, rfl⟩ := hd
  intro p e s m args below meth c C hX hK hB ls H locs hl hP hS
  exact lv_if_le C.1 C.2.1 hd ht (fun h => kt (by rw [if_pos h] at hf; exact hf) p e s m args below meth c C hX hK hB ls H locs hl hP hS) (fun h => kf (by rw [if_neg h] at hf; exact hf) p e s m args below meth c C hX hK hB ls H locs hl hP hS)
theorem iw_icmp_eq {α : Type} {x y : Int32} {off : Int} {tg : Nat} {T F : Option α} {R : α} (hf : (if x = y then T else F) = some R) (hd : decode M.2.1 pc = .ok (.if_icmp .eq off, 3) ∧ (pc : Int) + off = (tg : Int) ∧ pc + 3 = pc') (kt : T = some R → ic_W l κ M X Z tg L S n ρ μ c0 s0) (kf : F = some R → ic_W l κ M X Z pc' L S n ρ μ c0 s0) : ic_W l κ M X Z pc L (.int y :: .int x :: S) n ρ μ c0 s0 := by
  obtain ⟨hd, ht, rfl⟩ := hd
  intro p e s m args below meth c C hX hK hB ls H locs hl hP hS
  exact lv_icmp_eq C.1 C.2.1 hd ht (fun h => kt (by rw [if_pos h] at hf; exact hf) p e s m args below meth c C hX hK hB ls H locs hl hP hS) (fun h => kf (by rw [if_neg h] at hf; exact hf) p e s m args below meth c C hX hK hB ls H locs hl hP hS)
theorem iw_icmp_ne {α : Type} {x y : Int32} {off : Int} {tg : Nat} {T F : Option α} {R : α} (hf : (if x = y then F else T) = some R) (hd : decode M.2.1 pc = .ok (.if_icmp .ne off, 3) ∧ (pc : Int) + off = (tg : Int) ∧ pc + 3 = pc') (kt : T = some R → ic_W l κ M X Z tg L S n ρ μ c0 s0) (kf : F = some R → ic_W l κ M X Z pc' L S n ρ μ c0 s0) : ic_W l κ M X Z pc L (.int y :: .int x :: S) n ρ μ c0 s0 := by
  obtain ⟨hd, ht, rfl⟩ := hd
  intro p e s m args below meth c C hX hK hB ls H locs hl hP hS
  exact lv_icmp_ne C.1 C.2.1 hd ht (fun h => kt (by rw [if_neg h] at hf; exact hf) p e s m args below meth c C hX hK hB ls H locs hl hP hS) (fun h => kf (by rw [if_pos h] at hf; exact hf) p e s m args below meth c C hX hK hB ls H locs hl hP hS)
theorem iw_icmp_lt {α : Type} {x y : Int32} {off : Int} {tg : Nat} {T F : Option α} {R : α} (hf : (if x < y then T else F) = some R) (hd : decode M.2.1 pc = .ok (.if_icmp .lt off, 3) ∧ (pc : Int) + off = (tg : Int) ∧ pc + 3 = pc') (kt : T = some R → ic_W l κ M X Z tg L S n ρ μ c0 s0) (kf : F = some R → ic_W l κ M X Z pc' L S n ρ μ c0 s0) : ic_W l κ M X Z pc L (.int y :: .int x :: S) n ρ μ c0 s0 := by
  obtain ⟨hd, ht, rfl⟩ := hd
  intro p e s m args below meth c C hX hK hB ls H locs hl hP hS
  exact lv_icmp_lt C.1 C.2.1 hd ht (fun h => kt (by rw [if_pos h] at hf; exact hf) p e s m args below meth c C hX hK hB ls H locs hl hP hS) (fun h => kf (by rw [if_neg h] at hf; exact hf) p e s m args below meth c C hX hK hB ls H locs hl hP hS)
theorem iw_icmp_ge {α : Type} {x y : Int32} {off : Int} {tg : Nat} {T F : Option α} {R : α} (hf : (if y ≤ x then T else F) = some R) (hd : decode M.2.1 pc = .ok (.if_icmp .ge off, 3) ∧ (pc : Int) + off = (tg : Int) ∧ pc + 3 = pc') (kt : T = some R → ic_W l κ M X Z tg L S n ρ μ c0 s0) (kf : F = some R → ic_W l κ M X Z pc' L S n ρ μ c0 s0) : ic_W l κ M X Z pc L (.int y :: .int x :: S) n ρ μ c0 s0 := by
  obtain ⟨hd, ht, rfl⟩ := hd
  intro p e s m args below meth c C hX hK hB ls H locs hl hP hS
  exact lv_icmp_ge C.1 C.2.1 hd ht (fun h => kt (by rw [if_pos h] at hf; exact hf) p e s m args below meth c C hX hK hB ls H locs hl hP hS) (fun h => kf (by rw [if_neg h] at hf; exact hf) p e s m args below meth c C hX hK hB ls H locs hl hP hS)
theorem iw_icmp_gt {α : Type} {x y : Int32} {off : Int} {tg : Nat} {T F : Option α} {R : α} (hf : (if y < x then T else F) = some R) (hd : decode M.2.1 pc = .ok (.if_icmp .gt off, 3) ∧ (pc : Int) + off = (tg : Int) ∧ pc + 3 = pc') (kt : T = some R → ic_W l κ M X Z tg L S n ρ μ c0 s0) (kf : F = some R → ic_W l κ M X Z pc' L S n ρ μ c0 s0) : ic_W l κ M X Z pc L (.int y :: .int x :: S) n ρ μ c0 s0 := by
  obtain ⟨hd, ht, rfl⟩ := hd
  intro p e s m args below meth c C hX hK hB ls H locs hl hP hS
  exact lv_icmp_gt C.1 C.2.1 hd ht (fun h => kt (by rw [if_pos h] at hf; exact hf) p e s m args below meth c C hX hK hB ls H locs hl hP hS) (fun h => kf (by rw [if_neg h] at hf; exact hf) p e s m args below meth c C hX hK hB ls H locs hl hP hS)
theorem iw_icmp_le {α : Type} {x y : Int32} {off : Int} {tg : Nat} {T F : Option α} {R : α} (hf : (if x ≤ y then T else F) = some R) (hd : decode M.2.1 pc = .ok (.if_icmp .le off, 3) ∧ (pc : Int) + off = (tg : Int) ∧ pc + 3 = pc') (kt : T = some R → ic_W l κ M X Z tg L S n ρ μ c0 s0) (kf : F = some R → ic_W l κ M X Z pc' L S n ρ μ c0 s0) : ic_W l κ M X Z pc L (.int y :: .int x :: S) n ρ μ c0 s0 := by
  obtain ⟨hd, ht, rfl⟩ := hd
  intro p e s m args below meth c C hX hK hB ls H locs hl hP hS
  exact lv_icmp_le C.1 C.2.1 hd ht (fun h => kt (by rw [if_pos h] at hf; exact hf) p e s m args below meth c C hX hK hB ls H locs hl hP hS) (fun h => kf (by rw [if_neg h] at hf; exact hf) p e s m args below meth c C hX hK hB ls H locs hl hP hS)
theorem iw_ifnull {α : Type} {r : Nat} {off : Int} {tg : Nat} {T F : Option α} {R : α} (hf : (if r = 0 then T else F) = some R) (hd : decode M.2.1 pc = .ok (.ifnull off, 3) ∧ (pc : Int) + off = (tg : Int) ∧ pc + 3 = pc') (kt : T = some R → ic_W l κ M X Z tg L S n ρ μ c0 s0) (kf : F = some R → ic_W l κ M X Z pc' L S n ρ μ c0 s0) : ic_W l κ M X Z pc L (ic_rv κ.1 r :: S) n ρ μ c0 s0 := by
  obtain ⟨hd, ht, rfl⟩ := hd
  intro p e s m args below meth c C hX hK hB ls H locs hl hP hS
  cases r with
  | zero => exact lv_ifnullN C.1 C.2.1 hd ht (kt (by rw [if_pos rfl] at hf; exact hf) p e s m args below meth c C hX hK hB ls H locs hl hP hS)
  | succ a => exact lv_ifnull C.1 C.2.1 hd (kf (by rw [if_neg (Nat.succ_ne_zero a)] at hf; exact hf) p e s m args below meth c C hX hK hB ls H locs hl hP hS)
theorem iw_ifnonnull {α : Type} {r : Nat} {off : Int} {tg : Nat} {T F : Option α} {R : α} (hf : (if r = 0 then F else T) = some R) (hd : decode M.2.1 pc = .ok (.ifnonnull off, 3) ∧ (pc : Int) + off = (tg : Int) ∧ pc + 3 = pc') (kt : T = some R → ic_W l κ M X Z tg L S n ρ μ c0 s0) (kf : F = some R → ic_W l κ M X Z pc' L S n ρ μ c0 s0) : ic_W l κ M X Z pc L (ic_rv κ.1 r :: S) n ρ μ c0 s0 := by
  obtain ⟨hd, ht, rfl⟩ := hd
  intro p e s m args below meth c C hX hK hB ls H locs hl hP hS
  cases r with
  | zero => exact lv_ifnonnullN C.1 C.2.1 hd (kf (by rw [if_pos rfl] at hf; exact hf) p e s m args below meth c C hX hK hB ls H locs hl hP hS)
  | succ a => exact lv_ifnonnull C.1 C.2.1 hd ht (kt (by rw [if_neg (Nat.succ_ne_zero a)] at hf; exact hf) p e s m args below meth c C hX hK hB ls H locs hl hP hS)
theorem iw_null (hd : decode M.2.1 pc = .ok (.aconst_null, 1) ∧ pc + 1 = pc') (k : ic_W l κ M X Z pc' L (ic_rv κ.1 0 :: S) n ρ μ c0 s0) : ic_W l κ M X Z pc L S n ρ μ c0 s0 := by
  obtain ⟨hd, rfl⟩ := hd
  intro p e s m args below meth c C hX hK hB ls H locs hl hP hS
  exact lv_null C.1 C.2.1 hd (k p e s m args below meth c C hX hK hB ls H locs hl hP hS)
/-- a case of a switch, in the function -/
theorem iw_case {α : Type} {P : Prop} {dP : Decidable P} {T F : Option α} {R : α} {G : Prop} (hf : (if P then T else F) = some R) (kt : P → T = some R → G) (kf : ¬ P → F = some R → G) : G := by
  by_cases h : P
  · exact kt h (by rw [if_pos h] at hf; exact hf)
  · exact kf h (by rw [if_neg h] at hf; exact hf)
theorem iw_tableIn {dflt lo hi off : Int} {offs : Array Int} {len tg : Nat} {x v : Int32} (hx : x = v) (hd : decode M.2.1 pc = .ok (.tableswitch dflt lo hi offs, len) ∧ ¬ v.toInt < lo ∧ ¬ hi < v.toInt ∧ offs[(v.toInt - lo).toNat]? = some off ∧ (pc : Int) + off = (tg : Int)) (k : ic_W l κ M X Z tg L S n ρ μ c0 s0) : ic_W l κ M X Z pc L (.int x :: S) n ρ μ c0 s0 := by
  obtain ⟨hd, h1, h2, ho, ht⟩ := hd
  subst hx
  intro p e s m args below meth c C hX hK hB ls H locs hl hP hS
  exact lv_tableIn C.1 C.2.1 hd h1 h2 ho ht (k p e s m args below meth c C hX hK hB ls H locs hl hP hS)
theorem iw_tableOut {dflt lo hi : Int} {offs : Array Int} {len tg : Nat} {x : Int32} (h : x.toInt < lo ∨ hi < x.toInt) (hd : decode M.2.1 pc = .ok (.tableswitch dflt lo hi offs, len) ∧ (pc : Int) + dflt = (tg : Int)) (k : ic_W l κ M X Z tg L S n ρ μ c0 s0) : ic_W l κ M X Z pc L (.int x :: S) n ρ μ c0 s0 := by
  obtain ⟨hd, ht⟩ := hd
  intro p e s m args below meth c C hX hK hB ls H locs hl hP hS
  exact lv_tableOut C.1 C.2.1 hd h ht (k p e s m args below meth c C hX hK hB ls H locs hl hP hS)
theorem iw_lookup {dflt off : Int} {ps : Array (Int × Int)} {len tg : Nat} {x : Int32} (ho : Op.lookupswitch.offset ps.toList dflt x.toInt = off) (hd : decode M.2.1 pc = .ok (.lookupswitch dflt ps, len) ∧ (ps.toList.zip (ps.toList.drop 1)).all (fun (a, next) => a.1 < next.1) = true ∧ (pc : Int) + off = (tg : Int)) (k : ic_W l κ M X Z tg L S n ρ μ c0 s0) : ic_W l κ M X Z pc L (.int x :: S) n ρ μ c0 s0 := by
  obtain ⟨hd, hp, ht⟩ := hd
  intro p e s m args below meth c C hX hK hB ls H locs hl hP hS
  exact lv_lookup C.1 C.2.1 hd hp ho ht (k p e s m args below meth c C hX hK hB ls H locs hl hP hS)
theorem iw_lookupIn {dflt off : Int} {ps : Array (Int × Int)} {len tg : Nat} {x v : Int32} (hx : x = v) (hd : decode M.2.1 pc = .ok (.lookupswitch dflt ps, len) ∧ (ps.toList.zip (ps.toList.drop 1)).all (fun (a, next) => a.1 < next.1) = true ∧ Op.lookupswitch.offset ps.toList dflt v.toInt = off ∧ (pc : Int) + off = (tg : Int)) (k : ic_W l κ M X Z tg L S n ρ μ c0 s0) : ic_W l κ M X Z pc L (.int x :: S) n ρ μ c0 s0 := by
  obtain ⟨hd, hp, ho, ht⟩ := hd
  subst hx
  exact iw_lookup ho ⟨hd, hp, ht⟩ k
/-- the two halves of a step in the function -/
theorem ic_bd {α β : Type} {x : Option α} {f : α → Option β} {b : β} (h : x.bind f = some b) : ∃ a, x = some a ∧ f a = some b := by
  cases x with
  | none => cases h
  | some a => exact ⟨a, rfl, h⟩
end ICR
end
section
/-! ===== fields, arrays, calls, returns ===== -/
/-- reading an int array of n places -/
def ic_ag {α : Type} (μ : ic_M) (r N : Nat) (j : Int32) (T : Int32 → Option α) : Option α := if j < 0 ∨ N ≤ j.toNatClampNeg then none else T (μ r j.toNatClampNeg)
/-- writing one -/
def ic_as {α : Type} (μ : ic_M) (r N : Nat) (j v : Int32) (T : ic_M → Option α) : Option α := if j < 0 ∨ N ≤ j.toNatClampNeg then none else T (ic_up μ r j.toNatClampNeg v)
/-- writing a boolean one -/
def ic_az {α : Type} (μ : ic_M) (r N : Nat) (j v : Int32) (T : ic_M → Option α) : Option α := if j < 0 ∨ N ≤ j.toNatClampNeg then none else if v = 0 ∨ v = 1 then T (ic_up μ r j.toNatClampNeg v) else none
/-- an index looked at (an array of references) -/
def ic_ax {α : Type} (N : Nat) (j : Int32) (T : Option α) : Option α := if j < 0 ∨ N ≤ j.toNatClampNeg then none else T
/-- a boolean answer -/
def ic_rz {α : Type} (v : Int32) (T : Option α) : Option α := if v = 0 ∨ v = 1 then T else none
def ic_isO (n r ci : Nat) : Prop := ∃ a, r = a + 1 ∧ a < n ∧ ic_sh a = (0, ci)
def ic_isI (n r N : Nat) : Prop := ∃ a, r = a + 1 ∧ a < n ∧ ic_sh a = (1, N)
def ic_isZ (n r N : Nat) : Prop := ∃ a, r = a + 1 ∧ a < n ∧ ic_sh a = (2, N)
/-- the length of an int array, 0 if it is none -/
def ic_il (n r : Nat) : Nat := if r = 0 then 0 else if r - 1 < n then (match ic_sh (r - 1) with | (1, N) => N | _ => 0) else 0
theorem ic_il_is {n r : Nat} {j : Int32} (h : ¬ (j < 0 ∨ ic_il n r ≤ j.toNatClampNeg)) : ic_isI n r (ic_il n r) := by
  have h2 : 0 < ic_il n r := by
    rcases Nat.eq_zero_or_pos (ic_il n r) with h0 | h0
    · exact absurd (Or.inr (by omega)) h
    · exact h0
  unfold ic_il at h2 ⊢
  split at h2
  · exact absurd h2 (by omega)
  · rename_i h0
    split at h2
    · rename_i h1
      rw [if_neg h0, if_pos h1]
      refine ⟨r - 1, by omega, h1, ?_⟩
      split at h2
      · rename_i N hN
        rw [hN]
      · exact absurd h2 (by omega)
    · exact absurd h2 (by omega)
theorem ic_il_of {n r N : Nat} (h : ic_isI n r N) : ic_il n r = N := by
  obtain ⟨a, rfl, ha, hs⟩ := h
  simp [ic_il, ha, hs]
theorem ic_en0 {κ : ic_K} {ρ : ic_R} {μ : ic_M} {a ci : Nat} (h : ic_sh a = (0, ci)) : ic_en κ ρ μ a = .inr (ci, (List.range (ic_nf ci)).map (ic_fv κ ρ μ a ci)) := by simp only [ic_en, h]
theorem ic_en1 {κ : ic_K} {ρ : ic_R} {μ : ic_M} {a N : Nat} (h : ic_sh a = (1, N)) : ic_en κ ρ μ a = .inl (κ.2.2 0, N, .inl (μ (a + 1))) := by simp only [ic_en, h]
theorem ic_en2 {κ : ic_K} {ρ : ic_R} {μ : ic_M} {a N : Nat} (h : ic_sh a = (2, N)) : ic_en κ ρ μ a = .inl (κ.2.2 1, N, .inl (μ (a + 1))) := by simp only [ic_en, h]
theorem ic_en3 {κ : ic_K} {ρ : ic_R} {μ : ic_M} {a N : Nat} (h : ic_sh a = (3, N)) : ic_en κ ρ μ a = .inl (κ.2.2 2, N, .inr (.inr (.inr (.inr (fun j => ic_ro κ.1 (ρ (a + 1) j)))))) := by simp only [ic_en, h]
theorem ic_en4 {κ : ic_K} {ρ : ic_R} {μ : ic_M} {a N : Nat} (h : ic_sh a = (4, N)) : ic_en κ ρ μ a = .inl (κ.2.2 3, N, .inr (.inr (.inr (.inr (fun j => ic_ro κ.1 (ρ (a + 1) j)))))) := by simp only [ic_en, h]
section ICH
variable {l : Launch} {κ : ic_K} {M : ic_Md} {X : State → Array Value → Prop} {Z : State → List Frame → Array Value → State → Prop} {pc pc' : Nat} {L L' : List (Nat × Value)} {S : List Value} {n : Nat} {ρ : ic_R} {μ : ic_M} {c0 s0 : Nat}
theorem iw_get {r ci k i N : Nat} {C : String} {T : u_T} {ty : Nat → FieldType} {v : Value} (fk : ic_FK ci C T N ty) (ho : ic_isO n r ci) (hv : ic_fv κ ρ μ (r - 1) ci k = v) (hw : Cond.fieldLink M.1.cls i C (T k).2.1 (T k).2.2.1 ∈ ic_tb) (hd : decode M.2.1 pc = .ok (.getfield i, 3) ∧ pc + 3 = pc' ∧ k < N ∧ (T k).1 = C)
    (kk : ic_W l κ M X Z pc' L (v :: S) n ρ μ c0 s0) : ic_W l κ M X Z pc L (ic_rv κ.1 r :: S) n ρ μ c0 s0 := by
  obtain ⟨hd, rfl, hk, hC⟩ := hd
  obtain ⟨a, rfl, ha, hs⟩ := ho
  obtain ⟨hc, hnf, hin, -, -⟩ := fk
  subst hnf; subst hv
  intro p e s m args below meth c C0 hX hK hB ls H locs hl hP hS
  exact va_get (D := κ.2.1) (fs := (List.range (ic_nf ci)).map (ic_fv κ ρ μ a ci)) C0.1 C0.2.1 C0.2.2.2.2.2.2.1 hin C0.2.2.2.2.2.1 hK hP.1 a (by rw [ic_wd_at ha, ic_en0 hs]) hc k hk (C0.2.2.2.2.2.2.1 _ hw) (fun x h => by rw [hC] at h; exact h) (v := ic_fv κ ρ μ a ci k) (by simp [hk]) hd (kk p e s m args below meth c C0 hX hK hB ls H locs hl hP hS)
theorem iw_getN {r ci k i N : Nat} {C host : String} {T : u_T} {ty : Nat → FieldType} {v : Value} (fk : ic_FK ci C T N ty) (ho : ic_isO n r ci) (hv : ic_fv κ ρ μ (r - 1) ci k = v) (hw : Cond.fieldLinkNest M.1.cls i C (T k).2.1 (T k).2.2.1 host ∈ ic_tb) (hd : decode M.2.1 pc = .ok (.getfield i, 3) ∧ pc + 3 = pc' ∧ k < N ∧ (T k).1 = C)
    (kk : ic_W l κ M X Z pc' L (v :: S) n ρ μ c0 s0) : ic_W l κ M X Z pc L (ic_rv κ.1 r :: S) n ρ μ c0 s0 := by
  obtain ⟨hd, rfl, hk, hC⟩ := hd
  obtain ⟨a, rfl, ha, hs⟩ := ho
  obtain ⟨hc, hnf, hin, -, -⟩ := fk
  subst hnf; subst hv
  intro p e s m args below meth c C0 hX hK hB ls H locs hl hP hS
  exact va_getN (D := κ.2.1) (fs := (List.range (ic_nf ci)).map (ic_fv κ ρ μ a ci)) C0.1 C0.2.1 C0.2.2.2.2.2.2.1 hin C0.2.2.2.2.2.1 hK hP.1 a (by rw [ic_wd_at ha, ic_en0 hs]) hc k hk (C0.2.2.2.2.2.2.1 _ hw) (fun x h => by rw [hC] at h; exact h) (v := ic_fv κ ρ μ a ci k) (by simp [hk]) hd (kk p e s m args below meth c C0 hX hK hB ls H locs hl hP hS)
theorem ic_fint {r ci k : Nat} (ho : ic_isO n r ci) (hk : ic_isr ci k = false) : ic_fv κ ρ μ (r - 1) ci k = .int (μ r k) := by
  obtain ⟨a, rfl, ha, hs⟩ := ho
  simp [ic_fv, hk]
theorem ic_fref {r ci k q : Nat} (ho : ic_isO n r ci) (hk : ic_isr ci k = true) (hq : ρ r k = q) : ic_fv κ ρ μ (r - 1) ci k = ic_rv κ.1 q := by
  obtain ⟨a, rfl, ha, hs⟩ := ho
  subst hq
  simp [ic_fv, hk]
theorem iw_geti {r ci k i N : Nat} {C : String} {T : u_T} {ty : Nat → FieldType} (fk : ic_FK ci C T N ty) (ho : ic_isO n r ci) (hw : Cond.fieldLink M.1.cls i C (T k).2.1 (T k).2.2.1 ∈ ic_tb) (hd : (decode M.2.1 pc = .ok (.getfield i, 3) ∧ pc + 3 = pc' ∧ k < N ∧ (T k).1 = C) ∧ ic_isr ci k = false)
    (kk : ic_W l κ M X Z pc' L (.int (μ r k) :: S) n ρ μ c0 s0) : ic_W l κ M X Z pc L (ic_rv κ.1 r :: S) n ρ μ c0 s0 := iw_get fk ho (ic_fint ho hd.2) hw hd.1 kk
theorem iw_getr {r ci k i N q : Nat} {C : String} {T : u_T} {ty : Nat → FieldType} (fk : ic_FK ci C T N ty) (ho : ic_isO n r ci) (hq : ρ r k = q) (hw : Cond.fieldLink M.1.cls i C (T k).2.1 (T k).2.2.1 ∈ ic_tb) (hd : (decode M.2.1 pc = .ok (.getfield i, 3) ∧ pc + 3 = pc' ∧ k < N ∧ (T k).1 = C) ∧ ic_isr ci k = true)
    (kk : ic_W l κ M X Z pc' L (ic_rv κ.1 q :: S) n ρ μ c0 s0) : ic_W l κ M X Z pc L (ic_rv κ.1 r :: S) n ρ μ c0 s0 := iw_get fk ho (ic_fref ho hd.2 hq) hw hd.1 kk
/-- a field is put: the world behind it, whatever value -/
theorem ic_putW {p : Program} {e : Env} {R : Room} {s : State} {m : MethodId} {args : Array Value} {below : List Frame} {meth : Method} {c : Code} {H : Heap} {locs : List Loc} {Q : State → Prop} {cc : ByteArray} {ls : Array Slot} {own C : String} {T : u_T} {N ci index a k : Nat} {ty0 : Nat → FieldType} {v : Value} {ρ' : ic_R} {μ' : ic_M}
    (hexec : p.tables.exec = Jvm.exec) (hb : c.code = cc) (hts : ∀ w ∈ ic_tb, w.before args s = true) (fk : ic_FK ci C T N ty0) (hown : s.vm.findClass own = some m.cls) (hK : ic_KK κ s) (hP : ic_H κ n ρ μ H) (hS0 : va_S (ic_A κ) s.heap H locs) (ha : a < n) (hs : ic_sh a = (0, ci)) (hk : k < N) (hlink : (Cond.fieldLink own index C (T k).2.1 (T k).2.2.1).before args s = true) (hC : (T k).1 = C) (hfin : (T k).2.2.2 = false ∨ ((T k).2.2.2 = true ∧ meth.name = "<init>" ∧ C = own)) (hn : narrow (ty0 k) v = v) (hfit : fits (ty0 k) v = true)
    (hset : ((List.range (ic_nf ci)).map (ic_fv κ ρ μ a ci)).set k v = (List.range (ic_nf ci)).map (ic_fv κ ρ' μ' a ci)) (hoth : ∀ b, b ≠ a → ic_en κ ρ' μ' b = ic_en κ ρ μ b)
    (hdg : decode cc pc = .ok (.putfield index, 3)) (kk : ∀ (H1 : Heap) (locs1 : List Loc), ic_H κ n ρ' μ' H1 → va_S (ic_A κ) s.heap H1 locs1 → W p l e R s m args below meth c H1 locs1 c0 s0 Q (F0 m (pc + 3) ls S)) : W p l e R s m args below meth c H locs c0 s0 Q (F0 m pc ls (v :: .ref (κ.1 + a) :: S)) := by
  obtain ⟨hc, hnf, hin, hty, hnm⟩ := fk
  subst hnf
  have hD := ic_D κ n ρ μ
  have he : (ic_wd κ n ρ μ)[a]? = some (κ.1 + a, .inr (ci, (List.range (ic_nf ci)).map (ic_fv κ ρ μ a ci))) := by rw [ic_wd_at ha, ic_en0 hs]
  have hl : k < ((List.range (ic_nf ci)).map (ic_fv κ ρ μ a ci)).length := by simpa using hk
  have hap := va_apart (own := own) hts hin ty0 hty hnm hK hc
  obtain ⟨r, h1, cell, q1, q2, q3, q4⟩ := hP.1 a _ he
  have hr : r = (C, T, ic_nf ci) := Option.some.inj (h1.symm.trans hc)
  subst hr
  obtain ⟨hS, hfc, kC, hkC, hkind⟩ := hK.1 ci _ hc
  obtain ⟨cf, kf, fi, f, hi, hsl⟩ := hS k hk
  have hlay := hts _ (hin _ (u_in_lay hk))
  unfold u_lay at hlay
  have hst := (u_facts hfc hkC (u_lays hts hin hk) hi).1
  have key : ∀ H' : Heap, H'[κ.1 + a]? = some (cell.setSlot f.slot v) → H'.size = H.size → (∀ q, q ≠ κ.1 + a → H'[q]? = H[q]?) → W p l e R s m args below meth c H' (locs ++ [⟨κ.1 + a, f.slot⟩]) c0 s0 Q (F0 m (pc + 3) ls S) := by
    intro H' e1 e2 e3
    rw [hsl] at e1 ⊢
    have hP' := hP.1.set (e := .inr (ci, ((List.range (ic_nf ci)).map (ic_fv κ ρ μ a ci)).set k v)) hD he ⟨_, hc, t_OB.to (V := updV (vp_V ((List.range (ic_nf ci)).map (ic_fv κ ρ μ a ci))) k v) ⟨_, e1, q2, q3, t_set q4 hap hk v⟩ (fun j _ => vp_updV_set hl v j)⟩ e3
    rw [hset, ic_set (ρ' := ρ') (μ' := μ') (ic_en0 hs) hoth] at hP'
    exact kk H' _ ⟨hP', by rw [e2]; exact hP.2⟩ (hS0.put e2 e3 (hD.2 a _ he))
  rcases hfin with hfin | ⟨hfin, hin2, hdecl⟩
  · rw [if_neg (by rw [hfin]; decide)] at hlay
    have h6 := u_store hfc hkC hkind hlay hi (hty k hk) hn hfit
    exact W.putK hexec hb (f := f) ⟨hown, hlink, ⟨_, _, _, by rw [← hC]; exact hi⟩, hst⟩ (by rw [q2]; exact h6) q1 q3 (by rw [hsl]; exact k2_hasslot (q4 k hk)) rfl rfl hdg key
  · rw [if_pos hfin] at hlay
    have hcf : m.cls = cf := by
      obtain ⟨_, _, c', _, _, _, -, -, hf', -, -, -, hown2, -⟩ := Cond.laysFinal_spec hlay
      have e1 : c' = cf := by have := hi.symm.trans hf'; simp at this; exact this.1.symm
      rw [hC, hdecl] at hown2
      rw [← e1]; exact Option.some.inj (hown.symm.trans hown2)
    have h6 := u_fits hfc hkC hkind (Or.inr hlay) hi (hty k hk) hn hfit
    exact W.putFinK hexec hb hown hlink (by rw [← hC]; exact hi) hst hcf hin2 (by rw [q2]; exact h6) q1 q3 (by rw [hsl]; exact k2_hasslot (q4 k hk)) rfl rfl hdg key
/-- an int field is put -/
theorem iw_put {r ci k i N : Nat} {C : String} {T : u_T} {ty : Nat → FieldType} {x : Int32} {α : Type} {F : ic_M → Option α} {R : α} (hf : ic_pu μ r k x F = some R) (fk : ic_FK ci C T N ty) (ho : ic_isO n r ci) (hw : Cond.fieldLink M.1.cls i C (T k).2.1 (T k).2.2.1 ∈ ic_tb) (hd : decode M.2.1 pc = .ok (.putfield i, 3) ∧ pc + 3 = pc' ∧ k < N ∧ (T k).1 = C ∧ (T k).2.2.2 = false ∧ ty k = .int ∧ ic_isr ci k = false)
    (kk : ∀ μ', F μ' = some R → ic_W l κ M X Z pc' L S n ρ μ' c0 s0) : ic_W l κ M X Z pc L (.int x :: ic_rv κ.1 r :: S) n ρ μ c0 s0 := by
  obtain ⟨hd, rfl, hk, hC, hfin, hI, hir⟩ := hd
  obtain ⟨a, rfl, ha, hs⟩ := ho
  intro p e s m args below meth c C0 hX hK hB ls H locs hl hP hS
  exact ic_putW (ρ' := ρ) (μ' := ic_up μ (a + 1) k x) C0.1 C0.2.1 C0.2.2.2.2.2.2.1 fk C0.2.2.2.2.2.1 hK hP hS ha hs hk (C0.2.2.2.2.2.2.1 _ hw) hC (Or.inl hfin) (by rw [hI]; rfl) (by rw [hI]; rfl) (ic_map_set (by simp [ic_fv, hir, ic_up]) (fun j hj => by simp [ic_fv, ic_up, hj])) (fun b hb => ic_en_up_ne hb) hd
    (fun H1 locs1 hP1 hS1 => kk _ hf p e s m args below meth c C0 hX hK hB ls H1 locs1 hl hP1 hS1)
/-- a reference is put: a field that isn't final, or a final one in the constructor -/
theorem iw_putr {r q ci k i N : Nat} {C : String} {T : u_T} {ty : Nat → FieldType} (fk : ic_FK ci C T N ty) (ho : ic_isO n r ci) (hw : Cond.fieldLink M.1.cls i C (T k).2.1 (T k).2.2.1 ∈ ic_tb) (hfit : fits (ty k) (ic_rv κ.1 q) = true ∧ narrow (ty k) (ic_rv κ.1 q) = ic_rv κ.1 q) (hd : decode M.2.1 pc = .ok (.putfield i, 3) ∧ pc + 3 = pc' ∧ k < N ∧ (T k).1 = C ∧ ((T k).2.2.2 = false ∨ ((T k).2.2.2 = true ∧ M.1.name = "<init>" ∧ C = M.1.cls)) ∧ ic_isr ci k = true)
    (kk : ic_W l κ M X Z pc' L S n (ic_ur ρ r k q) μ c0 s0) : ic_W l κ M X Z pc L (ic_rv κ.1 q :: ic_rv κ.1 r :: S) n ρ μ c0 s0 := by
  obtain ⟨hd, rfl, hk, hC, hfin, hir⟩ := hd
  obtain ⟨a, rfl, ha, hs⟩ := ho
  intro p e s m args below meth c C0 hX hK hB ls H locs hl hP hS
  exact ic_putW (ρ' := ic_ur ρ (a + 1) k q) (μ' := μ) C0.1 C0.2.1 C0.2.2.2.2.2.2.1 fk C0.2.2.2.2.2.1 hK hP hS ha hs hk (C0.2.2.2.2.2.2.1 _ hw) hC (hfin.imp id (fun h => ⟨h.1, C0.2.2.2.2.2.2.2.trans h.2.1, h.2.2⟩)) hfit.2 hfit.1 (ic_map_set (by simp [ic_fv, hir, ic_ur]) (fun j hj => by simp [ic_fv, ic_ur, hj])) (fun b hb => ic_en_ur_ne hb) hd
    (fun H1 locs1 hP1 hS1 => kk p e s m args below meth c C0 hX hK hB ls H1 locs1 hl hP1 hS1)
/-! arrays -/
theorem iw_iald {α : Type} {r N : Nat} {j : Int32} {T : Int32 → Option α} {R : α} (hf : ic_ag μ r N j T = some R) (hi : ¬ (j < 0 ∨ N ≤ j.toNatClampNeg) → ic_isI n r N) (hd : decode M.2.1 pc = .ok (.iaload, 1) ∧ pc + 1 = pc')
    (kk : ∀ x, T x = some R → ic_W l κ M X Z pc' L (.int x :: S) n ρ μ c0 s0) : ic_W l κ M X Z pc L (.int j :: ic_rv κ.1 r :: S) n ρ μ c0 s0 := by
  obtain ⟨hd, rfl⟩ := hd
  by_cases hj : j < 0 ∨ N ≤ j.toNatClampNeg
  · rw [ic_ag, if_pos hj] at hf; cases hf
  · rw [ic_ag, if_neg hj] at hf
    obtain ⟨a, rfl, ha, hs⟩ := hi hj
    intro p e s m args below meth c C0 hX hK hB ls H locs hl hP hS
    exact va_iald (D := κ.2.1) C0.1 C0.2.1 hK hP.1 a 0 (by rw [ic_wd_at ha, ic_en1 hs]) rfl hj hd (kk _ hf p e s m args below meth c C0 hX hK hB ls H locs hl hP hS)
theorem iw_zald {α : Type} {r N : Nat} {j : Int32} {T : Int32 → Option α} {R : α} (hf : ic_ag μ r N j T = some R) (hi : ic_isZ n r N) (hd : decode M.2.1 pc = .ok (.baload, 1) ∧ pc + 1 = pc')
    (kk : ∀ x, T x = some R → ic_W l κ M X Z pc' L (.int x :: S) n ρ μ c0 s0) : ic_W l κ M X Z pc L (.int j :: ic_rv κ.1 r :: S) n ρ μ c0 s0 := by
  obtain ⟨hd, rfl⟩ := hd
  by_cases hj : j < 0 ∨ N ≤ j.toNatClampNeg
  · rw [ic_ag, if_pos hj] at hf; cases hf
  · rw [ic_ag, if_neg hj] at hf
    obtain ⟨a, rfl, ha, hs⟩ := hi
    intro p e s m args below meth c C0 hX hK hB ls H locs hl hP hS
    exact va_zald (D := κ.2.1) C0.1 C0.2.1 hK hP.1 a 1 (by rw [ic_wd_at ha, ic_en2 hs]) rfl hj hd (kk _ hf p e s m args below meth c C0 hX hK hB ls H locs hl hP hS)
theorem iw_alen {r N : Nat} {v : Int32} (hi : ic_isI n r N) (hv : Int32.ofNat N = v) (hd : decode M.2.1 pc = .ok (.arraylength, 1) ∧ pc + 1 = pc')
    (kk : ic_W l κ M X Z pc' L (.int v :: S) n ρ μ c0 s0) : ic_W l κ M X Z pc L (ic_rv κ.1 r :: S) n ρ μ c0 s0 := by
  obtain ⟨hd, rfl⟩ := hd
  obtain ⟨a, rfl, ha, hs⟩ := hi
  intro p e s m args below meth c C0 hX hK hB ls H locs hl hP hS
  exact va_alen (D := κ.2.1) C0.1 C0.2.1 hK hP.1 a 0 (by rw [ic_wd_at ha, ic_en1 hs]) rfl hv hd (kk p e s m args below meth c C0 hX hK hB ls H locs hl hP hS)
theorem iw_zlen {r N : Nat} {v : Int32} (hi : ic_isZ n r N) (hv : Int32.ofNat N = v) (hd : decode M.2.1 pc = .ok (.arraylength, 1) ∧ pc + 1 = pc')
    (kk : ic_W l κ M X Z pc' L (.int v :: S) n ρ μ c0 s0) : ic_W l κ M X Z pc L (ic_rv κ.1 r :: S) n ρ μ c0 s0 := by
  obtain ⟨hd, rfl⟩ := hd
  obtain ⟨a, rfl, ha, hs⟩ := hi
  intro p e s m args below meth c C0 hX hK hB ls H locs hl hP hS
  exact va_alen (D := κ.2.1) C0.1 C0.2.1 hK hP.1 a 1 (by rw [ic_wd_at ha, ic_en2 hs]) rfl hv hd (kk p e s m args below meth c C0 hX hK hB ls H locs hl hP hS)
def ic_isQ (n r t N : Nat) : Prop := ∃ a, r = a + 1 ∧ a < n ∧ ((t = 2 ∧ ic_sh a = (3, N)) ∨ (t = 3 ∧ ic_sh a = (4, N)))
theorem iw_qlen {r t N : Nat} {v : Int32} (hi : ic_isQ n r t N) (hv : Int32.ofNat N = v) (hd : decode M.2.1 pc = .ok (.arraylength, 1) ∧ pc + 1 = pc')
    (kk : ic_W l κ M X Z pc' L (.int v :: S) n ρ μ c0 s0) : ic_W l κ M X Z pc L (ic_rv κ.1 r :: S) n ρ μ c0 s0 := by
  obtain ⟨hd, rfl⟩ := hd
  obtain ⟨a, rfl, ha, ⟨rfl, hs⟩ | ⟨rfl, hs⟩⟩ := hi
  · intro p e s m args below meth c C0 hX hK hB ls H locs hl hP hS
    exact va_alen (D := κ.2.1) C0.1 C0.2.1 hK hP.1 a 2 (by rw [ic_wd_at ha, ic_en3 hs]) rfl hv hd (kk p e s m args below meth c C0 hX hK hB ls H locs hl hP hS)
  · intro p e s m args below meth c C0 hX hK hB ls H locs hl hP hS
    exact va_alen (D := κ.2.1) C0.1 C0.2.1 hK hP.1 a 3 (by rw [ic_wd_at ha, ic_en4 hs]) rfl hv hd (kk p e s m args below meth c C0 hX hK hB ls H locs hl hP hS)
theorem iw_qald {α : Type} {r t N q : Nat} {j : Int32} {T : Option α} {R : α} (hf : ic_ax N j T = some R) (hi : ic_isQ n r t N) (hq : ¬ (j < 0 ∨ N ≤ j.toNatClampNeg) → ρ r j.toNatClampNeg = q) (hd : decode M.2.1 pc = .ok (.aaload, 1) ∧ pc + 1 = pc')
    (kk : T = some R → ¬ (j < 0 ∨ N ≤ j.toNatClampNeg) → ic_W l κ M X Z pc' L (ic_rv κ.1 q :: S) n ρ μ c0 s0) : ic_W l κ M X Z pc L (.int j :: ic_rv κ.1 r :: S) n ρ μ c0 s0 := by
  obtain ⟨hd, rfl⟩ := hd
  by_cases hj : j < 0 ∨ N ≤ j.toNatClampNeg
  · rw [ic_ax, if_pos hj] at hf; cases hf
  · rw [ic_ax, if_neg hj] at hf
    obtain rfl := hq hj
    obtain ⟨a, rfl, ha, ⟨rfl, hs⟩ | ⟨rfl, hs⟩⟩ := hi
    · intro p e s m args below meth c C0 hX hK hB ls H locs hl hP hS
      refine va_aldq (D := κ.2.1) C0.1 C0.2.1 hK hP.1 a 2 (by rw [ic_wd_at ha, ic_en3 hs]) rfl hj hd ?_
      rw [ic_ro_rv]
      exact kk hf hj p e s m args below meth c C0 hX hK hB ls H locs hl hP hS
    · intro p e s m args below meth c C0 hX hK hB ls H locs hl hP hS
      refine va_aldq (D := κ.2.1) C0.1 C0.2.1 hK hP.1 a 3 (by rw [ic_wd_at ha, ic_en4 hs]) rfl hj hd ?_
      rw [ic_ro_rv]
      exact kk hf hj p e s m args below meth c C0 hX hK hB ls H locs hl hP hS
theorem iw_iast {α : Type} {r N : Nat} {j x : Int32} {T : ic_M → Option α} {R : α} (hf : ic_as μ r N j x T = some R) (hi : ¬ (j < 0 ∨ N ≤ j.toNatClampNeg) → ic_isI n r N) (hd : decode M.2.1 pc = .ok (.iastore, 1) ∧ pc + 1 = pc')
    (kk : ∀ μ', T μ' = some R → ic_W l κ M X Z pc' L S n ρ μ' c0 s0) : ic_W l κ M X Z pc L (.int x :: .int j :: ic_rv κ.1 r :: S) n ρ μ c0 s0 := by
  obtain ⟨hd, rfl⟩ := hd
  by_cases hj : j < 0 ∨ N ≤ j.toNatClampNeg
  · rw [ic_as, if_pos hj] at hf; cases hf
  · rw [ic_as, if_neg hj] at hf
    obtain ⟨a, rfl, ha, hs⟩ := hi hj
    intro p e s m args below meth c C0 hX hK hB ls H locs hl hP hS
    have hD := ic_D κ n ρ μ
    have hat : (ic_wd κ n ρ μ)[a]? = some (κ.1 + a, .inl (κ.2.2 0, N, .inl (μ (a + 1)))) := by rw [ic_wd_at ha, ic_en1 hs]
    refine W.iast C0.1 C0.2.1 (hP.1 a _ hat) ((hK.2 0 _ rfl).1 N (fun k => .int (μ (a + 1) k))) (fun q => by cases q) (by show ¬ (j < 0 ∨ (arrV _ _ _).slots.size ≤ _); rw [arrV_size]; exact hj) rfl rfl hd fun H1 e1 z oq => ?_
    have hP1 := hP.1.set (e := .inl (κ.2.2 0, N, .inl (upd (μ (a + 1)) j.toNatClampNeg x))) (H1 := H1) hD hat ?_ oq
    · rw [ic_set (ρ' := ρ) (μ' := ic_up μ (a + 1) j.toNatClampNeg x) (by rw [ic_en1 hs, ic_up_eq]) (fun b hb => ic_en_up_ne hb)] at hP1
      exact kk _ hf p e s m args below meth c C0 hX hK hB ls H1 _ hl ⟨hP1, by rw [z]; exact hP.2⟩ (hS.put z oq (hD.2 a _ hat))
    · show H1[κ.1 + a]? = some (vp_cell _ _)
      rw [e1, vp_cell_i, vp_cell_i, arrV_store]
      congr 2
      funext q
      by_cases hq : q = j.toNatClampNeg
      · subst hq; simp [updV, upd]
      · simp [updV, upd, hq]
theorem iw_zast {α : Type} {r N : Nat} {j x : Int32} {T : ic_M → Option α} {R : α} (hf : ic_az μ r N j x T = some R) (hi : ic_isZ n r N) (hd : decode M.2.1 pc = .ok (.bastore, 1) ∧ pc + 1 = pc')
    (kk : ∀ μ', T μ' = some R → ic_W l κ M X Z pc' L S n ρ μ' c0 s0) : ic_W l κ M X Z pc L (.int x :: .int j :: ic_rv κ.1 r :: S) n ρ μ c0 s0 := by
  obtain ⟨hd, rfl⟩ := hd
  by_cases hj : j < 0 ∨ N ≤ j.toNatClampNeg
  · rw [ic_az, if_pos hj] at hf; cases hf
  · rw [ic_az, if_neg hj] at hf
    by_cases hx : x = 0 ∨ x = 1
    · rw [if_pos hx] at hf
      have hnar : vp_nar .boolean x = x := by rcases hx with rfl | rfl <;> decide
      obtain ⟨a, rfl, ha, hs⟩ := hi
      intro p e s m args below meth c C0 hX hK hB ls H locs hl hP hS
      have hD := ic_D κ n ρ μ
      have hat : (ic_wd κ n ρ μ)[a]? = some (κ.1 + a, .inl (κ.2.2 1, N, .inl (μ (a + 1)))) := by rw [ic_wd_at ha, ic_en2 hs]
      refine W.zast C0.1 C0.2.1 (hP.1 a _ hat) ((hK.2 1 _ rfl).1 N (fun k => .int (μ (a + 1) k))) (fun q => by cases q) (by show ¬ (j < 0 ∨ (arrV _ _ _).slots.size ≤ _); rw [arrV_size]; exact hj) rfl rfl hd fun H1 e1 z oq => ?_
      have hP1 := hP.1.set (e := .inl (κ.2.2 1, N, .inl (upd (μ (a + 1)) j.toNatClampNeg x))) (H1 := H1) hD hat ?_ oq
      · rw [ic_set (ρ' := ρ) (μ' := ic_up μ (a + 1) j.toNatClampNeg x) (by rw [ic_en2 hs, ic_up_eq]) (fun b hb => ic_en_up_ne hb)] at hP1
        exact kk _ hf p e s m args below meth c C0 hX hK hB ls H1 _ hl ⟨hP1, by rw [z]; exact hP.2⟩ (hS.put z oq (hD.2 a _ hat))
      · show H1[κ.1 + a]? = some (vp_cell _ _)
        rw [e1, vp_cell_i, vp_cell_i, arrV_store]
        congr 2
        funext q
        by_cases hq : q = j.toNatClampNeg
        · subst hq
          rcases hx with rfl | rfl <;> simp [updV, upd, narrow]
        · simp [updV, upd, hq]
    · rw [if_neg hx] at hf; cases hf
/-! answers -/
theorem ic_end {p : Program} {e : Env} {s t : State} {H : Heap} {locs : List Loc} {o : Outcome} {v : Option Value} {args : Array Value} (ho : o = .returned v) (hK : ic_KK κ s) (hP : ic_H κ n ρ μ H) (hS : va_S (ic_A κ) s.heap H locs) (ht : t.heap = H) (hW : s.WarmedH t.vm) : ic_Qc κ v n ρ μ args s o t := ⟨⟨ho, by rw [ht]; exact hP, va_K.moved hW.alike hK⟩, hS.F ht⟩
theorem iw_ireturn {x v : Int32} {ρ1 : ic_R} {μ1 : ic_M} (hx : x = v) (hr : ρ = ρ1) (hm : μ = μ1) (hd : decode M.2.1 pc = .ok (.ireturn, 1) ∧ M.2.2.2.1 = some .int ∧ c0 = M.2.2.2.2.cells ∧ s0 = M.2.2.2.2.slots) : ic_W l κ M X (ic_Z κ M (some (.int v)) n ρ1 μ1) pc L [.int x] n ρ μ c0 s0 := by
  obtain ⟨hd, hrt, rfl, rfl⟩ := hd
  subst hx; subst hr; subst hm
  intro p e s m args below meth c C0 hX hK hB ls H locs hl hP hS
  exact W.iret C0.1 C0.2.1 (C0.2.2.1.trans hrt) (fun t ht hW => ic_end (p := p) (e := e) rfl hK hP hS ht hW) hS.2.2 hd C0.2.2.2.1
theorem ic_rz_of {α : Type} {x : Int32} {T : Option α} {R : α} (h : ic_rz x T = some R) : (x = 0 ∨ x = 1) ∧ T = some R := by
  by_cases hx : x = 0 ∨ x = 1
  · rw [ic_rz, if_pos hx] at h
    exact ⟨hx, h⟩
  · rw [ic_rz, if_neg hx] at h; cases h
theorem iw_zreturn {x v : Int32} {ρ1 : ic_R} {μ1 : ic_M} (hb : x = 0 ∨ x = 1) (hx : x = v) (hr : ρ = ρ1) (hm : μ = μ1) (hd : decode M.2.1 pc = .ok (.ireturn, 1) ∧ M.2.2.2.1 = some .boolean ∧ c0 = M.2.2.2.2.cells ∧ s0 = M.2.2.2.2.slots) : ic_W l κ M X (ic_Z κ M (some (.int v)) n ρ1 μ1) pc L [.int x] n ρ μ c0 s0 := by
  obtain ⟨hd, hrt, rfl, rfl⟩ := hd
  subst hx; subst hr; subst hm
  have hn : narrow .boolean (.int x) = .int x := by rcases hb with rfl | rfl <;> rfl
  intro p e s m args below meth c C0 hX hK hB ls H locs hl hP hS
  exact W.zret C0.1 C0.2.1 (C0.2.2.1.trans hrt) hn (fun t ht hW => ic_end (p := p) (e := e) rfl hK hP hS ht hW) hS.2.2 hd C0.2.2.2.1
theorem iw_vreturn {ρ1 : ic_R} {μ1 : ic_M} (hr : ρ = ρ1) (hm : μ = μ1) (hd : decode M.2.1 pc = .ok (.return_, 1) ∧ M.2.2.2.1 = none ∧ c0 = M.2.2.2.2.cells ∧ s0 = M.2.2.2.2.slots) : ic_W l κ M X (ic_Z κ M none n ρ1 μ1) pc L [] n ρ μ c0 s0 := by
  obtain ⟨hd, hrt, rfl, rfl⟩ := hd
  subst hr; subst hm
  intro p e s m args below meth c C0 hX hK hB ls H locs hl hP hS
  exact W.vret C0.1 C0.2.1 (C0.2.2.1.trans hrt) (fun t ht hW => ic_end (p := p) (e := e) rfl hK hP hS ht hW) hS.2.2 hd C0.2.2.2.1
theorem iw_areturn {r v : Nat} {C : String} {ρ1 : ic_R} {μ1 : ic_M} (hx : r = v) (hr : ρ = ρ1) (hm : μ = μ1) (hd : decode M.2.1 pc = .ok (.areturn, 1) ∧ M.2.2.2.1 = some (.object C) ∧ c0 = M.2.2.2.2.cells ∧ s0 = M.2.2.2.2.slots) : ic_W l κ M X (ic_Z κ M (some (ic_rv κ.1 v)) n ρ1 μ1) pc L [ic_rv κ.1 r] n ρ μ c0 s0 := by
  obtain ⟨hd, hrt, rfl, rfl⟩ := hd
  subst hx; subst hr; subst hm
  intro p e s m args below meth c C0 hX hK hB ls H locs hl hP hS
  exact W.aret C0.1 C0.2.1 (C0.2.2.1.trans hrt) (Or.inl ⟨C, rfl⟩) (by cases r with | zero => exact Or.inl rfl | succ a => exact Or.inr ⟨_, rfl⟩) (fun t ht hW => ic_end (p := p) (e := e) rfl hK hP hS ht hW) hS.2.2 hd C0.2.2.2.1
/-! calls -/
theorem ic_after {p : Program} {e : Env} {R : Room} {s : State} {m : MethodId} {args a : Array Value} {below : List Frame} {meth : Method} {c : Code} {H : Heap} {locs : List Loc} {Q : State → Prop} {ls : Array Slot} {st0 rest : List Value} {vo : Option Value} {n1 mc ms : Nat} {ρ1 : ic_R} {μ1 : ic_M}
    (hr : va_Run p l e R s m args below meth c H locs c0 s0 mc ms (F0 m pc ls st0) rest (ic_Qc κ vo n1 ρ1 μ1 a) (ic_A κ)) (hS : va_S (ic_A κ) s.heap H locs)
    (kk : ∀ (H1 : Heap) (locs1 : List Loc), ic_H κ n1 ρ1 μ1 H1 → va_S (ic_A κ) s.heap H1 locs1 → W p l e R s m args below meth c H1 locs1 (c0 + mc) (s0 + ms) Q (F0 m (pc + 3) ls (vo.toList ++ rest))) : W p l e R s m args below meth c H locs c0 s0 Q (F0 m pc ls st0) := by
  intro T hT X
  obtain ⟨v, st₀, t, T', L, h0, X', hL, e1, e2, ⟨⟨hv, hP1, hK1⟩, hz, hk⟩, st⟩ := hr T hT X
  cases hv
  rw [h0] at hz hk
  obtain ⟨t2, a1, b1⟩ := kk T'.heap (locs ++ L) (by rw [e1]; exact hP1)
    ⟨Nat.le_trans hS.1 (by rw [e1]; exact hz), fun q h1 h2 => by rw [e1, hk q (Nat.lt_of_lt_of_le h1 hS.1) h2]; exact hS.2.1 q h1 h2, fun q hq => by
      rcases List.mem_append.mp hq with h | h
      · exact hS.2.2 q h
      · exact hL q h⟩ T' rfl X'
  exact ⟨t2, st t2 a1, b1⟩
theorem ic_blind {av : List Value} : FrameBlind (ic_Pc κ av n ρ μ) := fun a U g mk q => ⟨q.1, q.2.1, va_K.moved (u := U) (U := U.calling g mk a) (Vm.Alike.refl U.vm) q.2.2⟩
/-- what the tables say of a method that is called on an object -/
def ic_MV (y : ic_Md) : Prop := Cond.instanceMethod y.1 ∈ ic_tb ∧ Cond.selects y.1.cls y.1 y.1 ∈ ic_tb ∧ Cond.initialized y.1.cls ∈ ic_tb ∧ Cond.code y.1 y.2.1 y.2.2.1 y.2.2.2.1 ∈ ic_tb ∧ (y.1.cls ≠ "java/lang/invoke/MethodHandle" ∧ y.1.cls ≠ "java/lang/invoke/VarHandle")
def ic_MS (y : ic_Md) : Prop := Cond.static y.1 ∈ ic_tb ∧ Cond.initialized y.1.cls ∈ ic_tb ∧ Cond.code y.1 y.2.1 y.2.2.1 y.2.2.2.1 ∈ ic_tb ∧ (y.1.cls ≠ "java/lang/invoke/MethodHandle" ∧ y.1.cls ≠ "java/lang/invoke/VarHandle")
def ic_MI (y : ic_Md) : Prop := Cond.instanceMethod y.1 ∈ ic_tb ∧ Cond.initialized y.1.cls ∈ ic_tb ∧ Cond.code y.1 y.2.1 y.2.2.1 y.2.2.2.1 ∈ ic_tb ∧ (y.1.cls ≠ "java/lang/invoke/MethodHandle" ∧ y.1.cls ≠ "java/lang/invoke/VarHandle") ∧ y.1.name = "<init>" ∧ y.2.2.2.1 = none
theorem ic_wsW {y : ic_Md} {args : Array Value} {s : State} (hts : ∀ w ∈ ic_tb, w.before args s = true) (hc : Cond.code y.1 y.2.1 y.2.2.1 y.2.2.2.1 ∈ ic_tb) : ∀ w ∈ ic_ws y, ∀ (a' : Array Value) (U : State), s.WarmedH U.vm → w.before a' U = true := by
  intro w hw
  rcases List.mem_cons.mp hw with rfl | hw
  · exact ic_warm hts _ hc
  · exact ic_warm hts w hw
theorem ic_sig {y : MethodName} {k : Nat} (h : (parseMethodDescriptor y.desc).map (fun d => d.parameters.length) = some k) : ∀ sig, parseMethodDescriptor y.desc = some sig → k = sig.parameters.length := by
  intro sig h2
  rw [h2] at h
  exact (Option.some.inj h).symm
/-- the rooms and the shape of a call's arguments, all decided -/
def ic_rm (M y : ic_Md) (k : Nat) : Prop := y.2.2.2.2.frames + 1 ≤ M.2.2.2.2.frames ∧ 8 + (y.2.2.1 + 11) + y.2.2.2.2.locals ≤ M.2.2.2.2.locals ∧ (parseMethodDescriptor y.1.desc).map (fun d => d.parameters.length) = some k
theorem iw_callV {y : ic_Md} {S1 : List Value} {c1 s1 : Nat} {r ci i k n1 : Nat} {q : vw_C} {As S0 st0 : List Value} {vo : Option Value} {ρ1 : ic_R} {μ1 : ic_M} (hC : ic_C l κ y (ic_rv κ.1 r :: As) n ρ μ vo n1 ρ1 μ1) (ho : ic_isO n r ci) (hq : ic_cls[ci]? = some q ∧ q.1 = y.1.cls) (hy : ic_MV y) (hw : Cond.methodLink M.1.cls i y.1 ∈ ic_tb) (hst : As.reverse ++ ic_rv κ.1 r :: S0 = st0 ∧ As.length = k) (hsum : (S0.map fun v => v.category).sum ≤ 8)
    (hd : decode M.2.1 pc = .ok (.invokevirtual i, 3) ∧ pc + 3 = pc' ∧ ic_rm M y k) (hroom : vo.toList ++ S0 = S1 ∧ c0 + y.2.2.2.2.cells = c1 ∧ s0 + y.2.2.2.2.slots = s1)
    (hr2 : c0 + y.2.2.2.2.cells ≤ M.2.2.2.2.cells ∧ s0 + y.2.2.2.2.slots ≤ M.2.2.2.2.slots) (kk : ic_W l κ M X Z pc' L S1 n1 ρ1 μ1 c1 s1) : ic_W l κ M X Z pc L st0 n ρ μ c0 s0 := by
  obtain ⟨hd, rfl, hfr, hlo, hsg⟩ := hd
  obtain ⟨rfl, hk⟩ := hst
  obtain ⟨rfl, rfl, rfl⟩ := hroom
  obtain ⟨a, rfl, ha, hs⟩ := ho
  obtain ⟨hy1, hy2, hy3, hy4, hy5⟩ := hy
  intro p e s m args below meth c C0 hX hK hB ls H locs hl hP hS
  obtain ⟨hx, hb, hr, hlk, hml, hown, hts, hnm⟩ := C0
  have hat : (ic_wd κ n ρ μ)[a]? = some (κ.1 + a, .inr (ci, (List.range (ic_nf ci)).map (ic_fv κ ρ μ a ci))) := by rw [ic_wd_at ha, ic_en0 hs]
  have hrec := va_recv hK hP.1 hq.1 hat
  rw [hq.2] at hrec
  refine ic_after (va_runV (As := As) (rest := S0) (Ts := ic_tb) ⟨hx, hb, hml, hown, hts⟩ hC ⟨⟨rfl, rfl, hfr, hlo, ic_wsW hts hy4, List.mem_cons_self, hts _ hy4, hts _ hy3, hy5, ic_sig hsg, hts _ hw⟩, hts _ hy1, hts _ hy2⟩ ⟨ic_blind, hrec, fun U hU hW => ⟨rfl, by rw [hU]; exact hP, va_K.moved hW.alike hK⟩⟩ rfl hk hl.1.1 rfl (lv_room hsum) hd hr2) hS (fun H1 locs1 hP1 hS1 => kk p e s m args below meth c ⟨hx, hb, hr, hlk, hml, hown, hts, hnm⟩ hX hK hB ls H1 locs1 hl hP1 hS1)
theorem iw_callVN {y : ic_Md} {S1 : List Value} {c1 s1 : Nat} {r ci i k n1 : Nat} {q : vw_C} {host : String} {As S0 st0 : List Value} {vo : Option Value} {ρ1 : ic_R} {μ1 : ic_M} (hC : ic_C l κ y (ic_rv κ.1 r :: As) n ρ μ vo n1 ρ1 μ1) (ho : ic_isO n r ci) (hq : ic_cls[ci]? = some q ∧ q.1 = y.1.cls) (hy : ic_MV y) (hw : Cond.methodLinkNest M.1.cls i y.1 host ∈ ic_tb) (hst : As.reverse ++ ic_rv κ.1 r :: S0 = st0 ∧ As.length = k) (hsum : (S0.map fun v => v.category).sum ≤ 8)
    (hd : decode M.2.1 pc = .ok (.invokevirtual i, 3) ∧ pc + 3 = pc' ∧ ic_rm M y k) (hroom : vo.toList ++ S0 = S1 ∧ c0 + y.2.2.2.2.cells = c1 ∧ s0 + y.2.2.2.2.slots = s1)
    (hr2 : c0 + y.2.2.2.2.cells ≤ M.2.2.2.2.cells ∧ s0 + y.2.2.2.2.slots ≤ M.2.2.2.2.slots) (kk : ic_W l κ M X Z pc' L S1 n1 ρ1 μ1 c1 s1) : ic_W l κ M X Z pc L st0 n ρ μ c0 s0 := by
  obtain ⟨hd, rfl, hfr, hlo, hsg⟩ := hd
  obtain ⟨rfl, hk⟩ := hst
  obtain ⟨rfl, rfl, rfl⟩ := hroom
  obtain ⟨a, rfl, ha, hs⟩ := ho
  obtain ⟨hy1, hy2, hy3, hy4, hy5⟩ := hy
  intro p e s m args below meth c C0 hX hK hB ls H locs hl hP hS
  obtain ⟨hx, hb, hr, hlk, hml, hown, hts, hnm⟩ := C0
  have hat : (ic_wd κ n ρ μ)[a]? = some (κ.1 + a, .inr (ci, (List.range (ic_nf ci)).map (ic_fv κ ρ μ a ci))) := by rw [ic_wd_at ha, ic_en0 hs]
  have hrec := va_recv hK hP.1 hq.1 hat
  rw [hq.2] at hrec
  refine ic_after (va_runVN (As := As) (rest := S0) (Ts := ic_tb) ⟨hx, hb, hml, hown, hts⟩ hC ⟨⟨⟨rfl, rfl, hfr, hlo, ic_wsW hts hy4, List.mem_cons_self⟩, hts _ hy4, hts _ hy3, hy5, ic_sig hsg, hts _ hw⟩, hts _ hy1, hts _ hy2⟩ ⟨ic_blind, hrec, fun U hU hW => ⟨rfl, by rw [hU]; exact hP, va_K.moved hW.alike hK⟩⟩ rfl hk hl.1.1 rfl (lv_room hsum) hd hr2) hS (fun H1 locs1 hP1 hS1 => kk p e s m args below meth c ⟨hx, hb, hr, hlk, hml, hown, hts, hnm⟩ hX hK hB ls H1 locs1 hl hP1 hS1)
theorem iw_callS {y : ic_Md} {S1 : List Value} {c1 s1 : Nat} {i k n1 : Nat} {As S0 st0 : List Value} {vo : Option Value} {ρ1 : ic_R} {μ1 : ic_M} (hC : ic_C l κ y As n ρ μ vo n1 ρ1 μ1) (hy : ic_MS y) (hw : Cond.methodLink M.1.cls i y.1 ∈ ic_tb) (hst : As.reverse ++ S0 = st0 ∧ As.length = k) (hsum : (S0.map fun v => v.category).sum ≤ 8)
    (hd : decode M.2.1 pc = .ok (.invokestatic i, 3) ∧ pc + 3 = pc' ∧ ic_rm M y k) (hroom : vo.toList ++ S0 = S1 ∧ c0 + y.2.2.2.2.cells = c1 ∧ s0 + y.2.2.2.2.slots = s1)
    (hr2 : c0 + y.2.2.2.2.cells ≤ M.2.2.2.2.cells ∧ s0 + y.2.2.2.2.slots ≤ M.2.2.2.2.slots) (kk : ic_W l κ M X Z pc' L S1 n1 ρ1 μ1 c1 s1) : ic_W l κ M X Z pc L st0 n ρ μ c0 s0 := by
  obtain ⟨hd, rfl, hfr, hlo, hsg⟩ := hd
  obtain ⟨rfl, hk⟩ := hst
  obtain ⟨rfl, rfl, rfl⟩ := hroom
  obtain ⟨hy2, hy3, hy4, hy5⟩ := hy
  intro p e s m args below meth c C0 hX hK hB ls H locs hl hP hS
  obtain ⟨hx, hb, hr, hlk, hml, hown, hts, hnm⟩ := C0
  refine ic_after (va_runS (As := As) (rest := S0) (Ts := ic_tb) ⟨hx, hb, hml, hown, hts⟩ hC ⟨⟨rfl, rfl, hfr, hlo, ic_wsW hts hy4, List.mem_cons_self, hts _ hy4, hts _ hy3, hy5, ic_sig hsg, hts _ hw⟩, hts _ hy2⟩ ⟨ic_blind, fun U hU hW => ⟨rfl, by rw [hU]; exact hP, va_K.moved hW.alike hK⟩⟩ rfl hk hl.1.1 rfl (lv_room hsum) hd hr2) hS (fun H1 locs1 hP1 hS1 => kk p e s m args below meth c ⟨hx, hb, hr, hlk, hml, hown, hts, hnm⟩ hX hK hB ls H1 locs1 hl hP1 hS1)
theorem iw_callSN {y : ic_Md} {S1 : List Value} {c1 s1 : Nat} {i k n1 : Nat} {host : String} {As S0 st0 : List Value} {vo : Option Value} {ρ1 : ic_R} {μ1 : ic_M} (hC : ic_C l κ y As n ρ μ vo n1 ρ1 μ1) (hy : ic_MS y) (hw : Cond.methodLinkNest M.1.cls i y.1 host ∈ ic_tb) (hst : As.reverse ++ S0 = st0 ∧ As.length = k) (hsum : (S0.map fun v => v.category).sum ≤ 8)
    (hd : decode M.2.1 pc = .ok (.invokestatic i, 3) ∧ pc + 3 = pc' ∧ ic_rm M y k) (hroom : vo.toList ++ S0 = S1 ∧ c0 + y.2.2.2.2.cells = c1 ∧ s0 + y.2.2.2.2.slots = s1)
    (hr2 : c0 + y.2.2.2.2.cells ≤ M.2.2.2.2.cells ∧ s0 + y.2.2.2.2.slots ≤ M.2.2.2.2.slots) (kk : ic_W l κ M X Z pc' L S1 n1 ρ1 μ1 c1 s1) : ic_W l κ M X Z pc L st0 n ρ μ c0 s0 := by
  obtain ⟨hd, rfl, hfr, hlo, hsg⟩ := hd
  obtain ⟨rfl, hk⟩ := hst
  obtain ⟨rfl, rfl, rfl⟩ := hroom
  obtain ⟨hy2, hy3, hy4, hy5⟩ := hy
  intro p e s m args below meth c C0 hX hK hB ls H locs hl hP hS
  obtain ⟨hx, hb, hr, hlk, hml, hown, hts, hnm⟩ := C0
  refine ic_after (va_runSN (As := As) (rest := S0) (Ts := ic_tb) ⟨hx, hb, hml, hown, hts⟩ hC ⟨⟨⟨rfl, rfl, hfr, hlo, ic_wsW hts hy4, List.mem_cons_self⟩, hts _ hy4, hts _ hy3, hy5, ic_sig hsg, hts _ hw⟩, hts _ hy2, trivial⟩ ⟨ic_blind, fun U hU hW => ⟨rfl, by rw [hU]; exact hP, va_K.moved hW.alike hK⟩⟩ rfl hk hl.1.1 rfl (lv_room hsum) hd hr2) hS (fun H1 locs1 hP1 hS1 => kk p e s m args below meth c ⟨hx, hb, hr, hlk, hml, hown, hts, hnm⟩ hX hK hB ls H1 locs1 hl hP1 hS1)
theorem iw_mmax {x y : Int32} {i : Nat} (hw : Cond.methodLink M.1.cls i Lib.Math.max.name ∈ ic_tb) (hsum : (S.map fun v => v.category).sum ≤ 8) (hd : decode M.2.1 pc = .ok (.invokestatic i, 3) ∧ pc + 3 = pc' ∧ 1 ≤ M.2.2.2.2.frames ∧ 21 ≤ M.2.2.2.2.locals ∧ c0 ≤ M.2.2.2.2.cells ∧ s0 ≤ M.2.2.2.2.slots) (k : ic_W l κ M X Z pc' L (.int (if x < y then y else x) :: S) n ρ μ c0 s0) : ic_W l κ M X Z pc L (.int y :: .int x :: S) n ρ μ c0 s0 := by
  obtain ⟨hd, rfl, h1, h2, h3, h4⟩ := hd
  intro p e s m args below meth c C0 hX hK hB ls H locs hl hP hS
  obtain ⟨hx, hb, hr, hlk, hml, hown, hts, hnm⟩ := id C0
  exact va_mmax hx hb (hml.trans hl.1.1.symm) hown (hts _ hw) (hts _ (ic_in 575 (by decide +kernel))) (hts _ (ic_in 81 (by decide +kernel))) (hts _ (ic_in 576 (by decide +kernel))) h1 (by omega) h3 h4 hd (k p e s m args below meth c C0 hX hK hB ls H locs hl hP hS)
theorem iw_mmin {x y : Int32} {i : Nat} (hw : Cond.methodLink M.1.cls i Lib.Math.min.name ∈ ic_tb) (hsum : (S.map fun v => v.category).sum ≤ 8) (hd : decode M.2.1 pc = .ok (.invokestatic i, 3) ∧ pc + 3 = pc' ∧ 1 ≤ M.2.2.2.2.frames ∧ 21 ≤ M.2.2.2.2.locals ∧ c0 ≤ M.2.2.2.2.cells ∧ s0 ≤ M.2.2.2.2.slots) (k : ic_W l κ M X Z pc' L (.int (if y < x then y else x) :: S) n ρ μ c0 s0) : ic_W l κ M X Z pc L (.int y :: .int x :: S) n ρ μ c0 s0 := by
  obtain ⟨hd, rfl, h1, h2, h3, h4⟩ := hd
  intro p e s m args below meth c C0 hX hK hB ls H locs hl hP hS
  obtain ⟨hx, hb, hr, hlk, hml, hown, hts, hnm⟩ := id C0
  exact va_mmin hx hb (hml.trans hl.1.1.symm) hown (hts _ hw) (hts _ (ic_in 558 (by decide +kernel))) (hts _ (ic_in 81 (by decide +kernel))) (hts _ (ic_in 559 (by decide +kernel))) h1 (by omega) h3 h4 hd (k p e s m args below meth c C0 hX hK hB ls H locs hl hP hS)
theorem ic_q1 {α β : Type} {x : α} {m : β} {R : α × β} (h : (x, m) = R) : x = R.1 := by rw [← h]
theorem ic_q2 {α β : Type} {x : α} {m : β} {R : α × β} (h : (x, m) = R) : m = R.2 := by rw [← h]
theorem ic_sum1 : ∀ {l : List Value}, ic_c1 l → (l.map fun v => v.category).sum = l.length
  | [], _ => rfl
  | v :: t, h => by
    simp only [List.map_cons, List.sum_cons, List.length_cons, h.1, ic_sum1 h.2]
    omega
theorem ic_sum8 {l : List Value} (h : ic_c1 l) (hl : l.length ≤ 8) : (l.map fun v => v.category).sum ≤ 8 := by
  rw [ic_sum1 h]; exact hl
end ICH
end
section
/-! ===== the layout behind the constructors ===== -/
def ic_ld (sw : Nat) : Nat := if sw % 2 = 0 then 78 else 84
def ic_dr (sw : Nat) : Nat := if sw % 2 = 0 then 84 else 78
/-- what each reference is: land and draft change places -/
def ic_rs (sw : Nat) : ic_R := fun r k => match ic_sh (r - 1) with
  | (0, 8) => [2, 4, 7, 57, 61, 66, 69, ic_ld sw, ic_dr sw].getD k 0
  | (0, 9) => [91, 0, 0, 92, 93, 94, 95, 96, 97, 98, 99, 100, 0, 101, 102, 103, 0, 104, 0, 105, 0, 0, 0, 106].getD k 0
  | (3, _) => 9 + 3 * k
  | (4, _) => 70 + 4 * k
  | _ => r + 1 + k
theorem ic_rs_o {sw r ci k : Nat} (h : ic_isO 106 r ci) (hc : ci < 8) : ic_rs sw r k = r + 1 + k := by
  obtain ⟨a, rfl, ha, hs⟩ := h
  have e : a + 1 - 1 = a := rfl
  simp only [ic_rs, e, hs]
  split
  · rename_i h; cases h; omega
  · rename_i h; cases h; omega
  · rename_i h; cases h
  · rename_i h; cases h
  · rfl
theorem ic_ice1 {r : Nat} (h : ic_isO 106 r 1) : ic_isI 106 (r + 1) 18 := by
  obtain ⟨a, rfl, ha, hs⟩ := h
  have key : ∀ a, a < 106 → ic_sh a = (0, 1) → a + 1 < 106 ∧ ic_sh (a + 1) = (1, 18) := by decide +kernel
  exact ⟨a + 1, rfl, key a ha hs⟩
theorem ic_ice2 {r : Nat} (h : ic_isO 106 r 1) : ic_isI 106 (r + 2) 6 := by
  obtain ⟨a, rfl, ha, hs⟩ := h
  have key : ∀ a, a < 106 → ic_sh a = (0, 1) → a + 2 < 106 ∧ ic_sh (a + 2) = (1, 6) := by decide +kernel
  exact ⟨a + 2, rfl, key a ha hs⟩
theorem ic_img1 {r : Nat} (h : ic_isO 106 r 2) : ic_isO 106 (r + 1) 1 := by
  obtain ⟨a, rfl, ha, hs⟩ := h
  have key : ∀ a, a < 106 → ic_sh a = (0, 2) → a + 1 < 106 ∧ ic_sh (a + 1) = (0, 1) := by decide +kernel
  exact ⟨a + 1, rfl, key a ha hs⟩
theorem ic_riv1 {r : Nat} (h : ic_isO 106 r 5) : ic_isI 106 (r + 1) 18 := by
  obtain ⟨a, rfl, ha, hs⟩ := h
  have key : ∀ a, a < 106 → ic_sh a = (0, 5) → a + 1 < 106 ∧ ic_sh (a + 1) = (1, 18) := by decide +kernel
  exact ⟨a + 1, rfl, key a ha hs⟩
theorem ic_riv2 {r : Nat} (h : ic_isO 106 r 5) : ic_isI 106 (r + 2) 6 := by
  obtain ⟨a, rfl, ha, hs⟩ := h
  have key : ∀ a, a < 106 → ic_sh a = (0, 5) → a + 2 < 106 ∧ ic_sh (a + 2) = (1, 6) := by decide +kernel
  exact ⟨a + 2, rfl, key a ha hs⟩
theorem ic_riv3 {r : Nat} (h : ic_isO 106 r 5) : ic_isI 106 (r + 3) 12 := by
  obtain ⟨a, rfl, ha, hs⟩ := h
  have key : ∀ a, a < 106 → ic_sh a = (0, 5) → a + 3 < 106 ∧ ic_sh (a + 3) = (1, 12) := by decide +kernel
  exact ⟨a + 3, rfl, key a ha hs⟩
theorem ic_riv4 {r : Nat} (h : ic_isO 106 r 5) : ic_isI 106 (r + 4) 6 := by
  obtain ⟨a, rfl, ha, hs⟩ := h
  have key : ∀ a, a < 106 → ic_sh a = (0, 5) → a + 4 < 106 ∧ ic_sh (a + 4) = (1, 6) := by decide +kernel
  exact ⟨a + 4, rfl, key a ha hs⟩
theorem ic_riv5 {r : Nat} (h : ic_isO 106 r 5) : ic_isI 106 (r + 5) 6 := by
  obtain ⟨a, rfl, ha, hs⟩ := h
  have key : ∀ a, a < 106 → ic_sh a = (0, 5) → a + 5 < 106 ∧ ic_sh (a + 5) = (1, 6) := by decide +kernel
  exact ⟨a + 5, rfl, key a ha hs⟩
theorem cO_1 : ic_isO 106 1 8 := ⟨0, rfl, by decide, rfl⟩
theorem cO_2 : ic_isO 106 2 4 := ⟨1, rfl, by decide, rfl⟩
theorem cI_3 : ic_isI 106 3 240 := ⟨2, rfl, by decide, rfl⟩
theorem cO_4 : ic_isO 106 4 1 := ⟨3, rfl, by decide, rfl⟩
theorem cI_5 : ic_isI 106 5 18 := ⟨4, rfl, by decide, rfl⟩
theorem cI_6 : ic_isI 106 6 6 := ⟨5, rfl, by decide, rfl⟩
theorem cO_7 : ic_isO 106 7 3 := ⟨6, rfl, by decide, rfl⟩
theorem cQ_8 : ic_isQ 106 8 2 16 := ⟨7, rfl, by decide, Or.inl ⟨rfl, rfl⟩⟩
theorem cO_9 : ic_isO 106 9 1 := ⟨8, rfl, by decide, rfl⟩
theorem cI_10 : ic_isI 106 10 18 := ⟨9, rfl, by decide, rfl⟩
theorem cI_11 : ic_isI 106 11 6 := ⟨10, rfl, by decide, rfl⟩
theorem cO_12 : ic_isO 106 12 1 := ⟨11, rfl, by decide, rfl⟩
theorem cI_13 : ic_isI 106 13 18 := ⟨12, rfl, by decide, rfl⟩
theorem cI_14 : ic_isI 106 14 6 := ⟨13, rfl, by decide, rfl⟩
theorem cO_15 : ic_isO 106 15 1 := ⟨14, rfl, by decide, rfl⟩
theorem cI_16 : ic_isI 106 16 18 := ⟨15, rfl, by decide, rfl⟩
theorem cI_17 : ic_isI 106 17 6 := ⟨16, rfl, by decide, rfl⟩
theorem cO_18 : ic_isO 106 18 1 := ⟨17, rfl, by decide, rfl⟩
theorem cI_19 : ic_isI 106 19 18 := ⟨18, rfl, by decide, rfl⟩
theorem cI_20 : ic_isI 106 20 6 := ⟨19, rfl, by decide, rfl⟩
theorem cO_21 : ic_isO 106 21 1 := ⟨20, rfl, by decide, rfl⟩
theorem cI_22 : ic_isI 106 22 18 := ⟨21, rfl, by decide, rfl⟩
theorem cI_23 : ic_isI 106 23 6 := ⟨22, rfl, by decide, rfl⟩
theorem cO_24 : ic_isO 106 24 1 := ⟨23, rfl, by decide, rfl⟩
theorem cI_25 : ic_isI 106 25 18 := ⟨24, rfl, by decide, rfl⟩
theorem cI_26 : ic_isI 106 26 6 := ⟨25, rfl, by decide, rfl⟩
theorem cO_27 : ic_isO 106 27 1 := ⟨26, rfl, by decide, rfl⟩
theorem cI_28 : ic_isI 106 28 18 := ⟨27, rfl, by decide, rfl⟩
theorem cI_29 : ic_isI 106 29 6 := ⟨28, rfl, by decide, rfl⟩
theorem cO_30 : ic_isO 106 30 1 := ⟨29, rfl, by decide, rfl⟩
theorem cI_31 : ic_isI 106 31 18 := ⟨30, rfl, by decide, rfl⟩
theorem cI_32 : ic_isI 106 32 6 := ⟨31, rfl, by decide, rfl⟩
theorem cO_33 : ic_isO 106 33 1 := ⟨32, rfl, by decide, rfl⟩
theorem cI_34 : ic_isI 106 34 18 := ⟨33, rfl, by decide, rfl⟩
theorem cI_35 : ic_isI 106 35 6 := ⟨34, rfl, by decide, rfl⟩
theorem cO_36 : ic_isO 106 36 1 := ⟨35, rfl, by decide, rfl⟩
theorem cI_37 : ic_isI 106 37 18 := ⟨36, rfl, by decide, rfl⟩
theorem cI_38 : ic_isI 106 38 6 := ⟨37, rfl, by decide, rfl⟩
theorem cO_39 : ic_isO 106 39 1 := ⟨38, rfl, by decide, rfl⟩
theorem cI_40 : ic_isI 106 40 18 := ⟨39, rfl, by decide, rfl⟩
theorem cI_41 : ic_isI 106 41 6 := ⟨40, rfl, by decide, rfl⟩
theorem cO_42 : ic_isO 106 42 1 := ⟨41, rfl, by decide, rfl⟩
theorem cI_43 : ic_isI 106 43 18 := ⟨42, rfl, by decide, rfl⟩
theorem cI_44 : ic_isI 106 44 6 := ⟨43, rfl, by decide, rfl⟩
theorem cO_45 : ic_isO 106 45 1 := ⟨44, rfl, by decide, rfl⟩
theorem cI_46 : ic_isI 106 46 18 := ⟨45, rfl, by decide, rfl⟩
theorem cI_47 : ic_isI 106 47 6 := ⟨46, rfl, by decide, rfl⟩
theorem cO_48 : ic_isO 106 48 1 := ⟨47, rfl, by decide, rfl⟩
theorem cI_49 : ic_isI 106 49 18 := ⟨48, rfl, by decide, rfl⟩
theorem cI_50 : ic_isI 106 50 6 := ⟨49, rfl, by decide, rfl⟩
theorem cO_51 : ic_isO 106 51 1 := ⟨50, rfl, by decide, rfl⟩
theorem cI_52 : ic_isI 106 52 18 := ⟨51, rfl, by decide, rfl⟩
theorem cI_53 : ic_isI 106 53 6 := ⟨52, rfl, by decide, rfl⟩
theorem cO_54 : ic_isO 106 54 1 := ⟨53, rfl, by decide, rfl⟩
theorem cI_55 : ic_isI 106 55 18 := ⟨54, rfl, by decide, rfl⟩
theorem cI_56 : ic_isI 106 56 6 := ⟨55, rfl, by decide, rfl⟩
theorem cO_57 : ic_isO 106 57 7 := ⟨56, rfl, by decide, rfl⟩
theorem cO_58 : ic_isO 106 58 1 := ⟨57, rfl, by decide, rfl⟩
theorem cI_59 : ic_isI 106 59 18 := ⟨58, rfl, by decide, rfl⟩
theorem cI_60 : ic_isI 106 60 6 := ⟨59, rfl, by decide, rfl⟩
theorem cO_61 : ic_isO 106 61 6 := ⟨60, rfl, by decide, rfl⟩
theorem cI_62 : ic_isI 106 62 6 := ⟨61, rfl, by decide, rfl⟩
theorem cZ_63 : ic_isZ 106 63 6 := ⟨62, rfl, by decide, rfl⟩
theorem cI_64 : ic_isI 106 64 64 := ⟨63, rfl, by decide, rfl⟩
theorem cI_65 : ic_isI 106 65 64 := ⟨64, rfl, by decide, rfl⟩
theorem cO_66 : ic_isO 106 66 0 := ⟨65, rfl, by decide, rfl⟩
theorem cI_67 : ic_isI 106 67 15 := ⟨66, rfl, by decide, rfl⟩
theorem cI_68 : ic_isI 106 68 15 := ⟨67, rfl, by decide, rfl⟩
theorem cQ_69 : ic_isQ 106 69 3 2 := ⟨68, rfl, by decide, Or.inr ⟨rfl, rfl⟩⟩
theorem cO_70 : ic_isO 106 70 2 := ⟨69, rfl, by decide, rfl⟩
theorem cO_71 : ic_isO 106 71 1 := ⟨70, rfl, by decide, rfl⟩
theorem cI_72 : ic_isI 106 72 18 := ⟨71, rfl, by decide, rfl⟩
theorem cI_73 : ic_isI 106 73 6 := ⟨72, rfl, by decide, rfl⟩
theorem cO_74 : ic_isO 106 74 2 := ⟨73, rfl, by decide, rfl⟩
theorem cO_75 : ic_isO 106 75 1 := ⟨74, rfl, by decide, rfl⟩
theorem cI_76 : ic_isI 106 76 18 := ⟨75, rfl, by decide, rfl⟩
theorem cI_77 : ic_isI 106 77 6 := ⟨76, rfl, by decide, rfl⟩
theorem cO_78 : ic_isO 106 78 5 := ⟨77, rfl, by decide, rfl⟩
theorem cI_79 : ic_isI 106 79 18 := ⟨78, rfl, by decide, rfl⟩
theorem cI_80 : ic_isI 106 80 6 := ⟨79, rfl, by decide, rfl⟩
theorem cI_81 : ic_isI 106 81 12 := ⟨80, rfl, by decide, rfl⟩
theorem cI_82 : ic_isI 106 82 6 := ⟨81, rfl, by decide, rfl⟩
theorem cI_83 : ic_isI 106 83 6 := ⟨82, rfl, by decide, rfl⟩
theorem cO_84 : ic_isO 106 84 5 := ⟨83, rfl, by decide, rfl⟩
theorem cI_85 : ic_isI 106 85 18 := ⟨84, rfl, by decide, rfl⟩
theorem cI_86 : ic_isI 106 86 6 := ⟨85, rfl, by decide, rfl⟩
theorem cI_87 : ic_isI 106 87 12 := ⟨86, rfl, by decide, rfl⟩
theorem cI_88 : ic_isI 106 88 6 := ⟨87, rfl, by decide, rfl⟩
theorem cI_89 : ic_isI 106 89 6 := ⟨88, rfl, by decide, rfl⟩
theorem cO_90 : ic_isO 106 90 9 := ⟨89, rfl, by decide, rfl⟩
theorem cI_91 : ic_isI 106 91 240 := ⟨90, rfl, by decide, rfl⟩
theorem cI_92 : ic_isI 106 92 7 := ⟨91, rfl, by decide, rfl⟩
theorem cI_93 : ic_isI 106 93 36 := ⟨92, rfl, by decide, rfl⟩
theorem cI_94 : ic_isI 106 94 12 := ⟨93, rfl, by decide, rfl⟩
theorem cI_95 : ic_isI 106 95 7 := ⟨94, rfl, by decide, rfl⟩
theorem cI_96 : ic_isI 106 96 36 := ⟨95, rfl, by decide, rfl⟩
theorem cI_97 : ic_isI 106 97 12 := ⟨96, rfl, by decide, rfl⟩
theorem cI_98 : ic_isI 106 98 28 := ⟨97, rfl, by decide, rfl⟩
theorem cI_99 : ic_isI 106 99 28 := ⟨98, rfl, by decide, rfl⟩
theorem cI_100 : ic_isI 106 100 448 := ⟨99, rfl, by decide, rfl⟩
theorem cI_101 : ic_isI 106 101 56 := ⟨100, rfl, by decide, rfl⟩
theorem cI_102 : ic_isI 106 102 2 := ⟨101, rfl, by decide, rfl⟩
theorem cZ_103 : ic_isZ 106 103 2 := ⟨102, rfl, by decide, rfl⟩
theorem cI_104 : ic_isI 106 104 12 := ⟨103, rfl, by decide, rfl⟩
theorem cI_105 : ic_isI 106 105 30 := ⟨104, rfl, by decide, rfl⟩
theorem cI_106 : ic_isI 106 106 18 := ⟨105, rfl, by decide, rfl⟩
theorem ic_ldO (sw : Nat) : ic_isO 106 (ic_ld sw) 5 := by
  unfold ic_ld
  split
  · exact cO_78
  · exact cO_84
theorem ic_drO (sw : Nat) : ic_isO 106 (ic_dr sw) 5 := by
  unfold ic_dr
  split
  · exact cO_84
  · exact cO_78
/-- a reference whose class is looked at in the function -/
def ic_ob (r : Nat) : Nat := if r = 0 then 99 else if r - 1 < 106 then (match ic_sh (r - 1) with | (0, ci) => ci | _ => 99) else 99
def ic_ck {α : Type} (r ci : Nat) (T : Option α) : Option α := if ic_ob r = ci ∧ ci < 99 then T else none
theorem ic_ck_of {α : Type} {r ci : Nat} {T : Option α} {R : α} (h : ic_ck r ci T = some R) : ic_isO 106 r ci ∧ T = some R := by
  by_cases hc : ic_ob r = ci ∧ ci < 99
  · rw [ic_ck, if_pos hc] at h
    refine ⟨?_, h⟩
    obtain ⟨h1, h2⟩ := hc
    unfold ic_ob at h1
    split at h1
    · omega
    · split at h1
      · rename_i h3 h4
        split at h1
        · rename_i cj hs
          subst h1
          exact ⟨r - 1, by omega, h4, hs⟩
        · omega
      · omega
  · rw [ic_ck, if_neg hc] at h; cases h
theorem ic_ck_is {α : Type} {r ci : Nat} {T : Option α} (h : ic_isO 106 r ci) (hc : ci < 99) : ic_ck r ci T = T := by
  obtain ⟨a, rfl, ha, hs⟩ := h
  have e : ic_ob (a + 1) = ci := by simp [ic_ob, ha, hs]
  rw [ic_ck, if_pos ⟨e, hc⟩]
/-- the length of an array that is a parameter -/
def ic_ln {α : Type} (r : Nat) (T : Option α) : Option α := if ic_il 106 r = 0 then none else T
theorem ic_ln_of {α : Type} {r : Nat} {T : Option α} {R : α} (h : ic_ln r T = some R) : ic_isI 106 r (ic_il 106 r) ∧ T = some R := by
  by_cases hc : ic_il 106 r = 0
  · rw [ic_ln, if_pos hc] at h; cases h
  · rw [ic_ln, if_neg hc] at h
    refine ⟨ic_il_is (j := 0) ?_, h⟩
    rintro (h1 | h1)
    · exact absurd h1 (by decide)
    · have : (0 : Int32).toNatClampNeg = 0 := by decide
      omega
theorem ic_out0_15 {x : Int32} (h0 : ¬ x = (0 : Int32)) (h1 : ¬ x = (1 : Int32)) (h2 : ¬ x = (2 : Int32)) (h3 : ¬ x = (3 : Int32)) (h4 : ¬ x = (4 : Int32)) (h5 : ¬ x = (5 : Int32)) (h6 : ¬ x = (6 : Int32)) (h7 : ¬ x = (7 : Int32)) (h8 : ¬ x = (8 : Int32)) (h9 : ¬ x = (9 : Int32)) (h10 : ¬ x = (10 : Int32)) (h11 : ¬ x = (11 : Int32)) (h12 : ¬ x = (12 : Int32)) (h13 : ¬ x = (13 : Int32)) (h14 : ¬ x = (14 : Int32)) (h15 : ¬ x = (15 : Int32)) : x.toInt < 0 ∨ 15 < x.toInt := by
  refine Decidable.byContradiction fun hc => ?_
  have e : x.toInt = 0 ∨ x.toInt = 1 ∨ x.toInt = 2 ∨ x.toInt = 3 ∨ x.toInt = 4 ∨ x.toInt = 5 ∨ x.toInt = 6 ∨ x.toInt = 7 ∨ x.toInt = 8 ∨ x.toInt = 9 ∨ x.toInt = 10 ∨ x.toInt = 11 ∨ x.toInt = 12 ∨ x.toInt = 13 ∨ x.toInt = 14 ∨ x.toInt = 15 := by omega
  rcases e with e | e | e | e | e | e | e | e | e | e | e | e | e | e | e | e
  · exact h0 (Int32.toInt_inj.mp (e.trans (by decide)))
  · exact h1 (Int32.toInt_inj.mp (e.trans (by decide)))
  · exact h2 (Int32.toInt_inj.mp (e.trans (by decide)))
  · exact h3 (Int32.toInt_inj.mp (e.trans (by decide)))
  · exact h4 (Int32.toInt_inj.mp (e.trans (by decide)))
  · exact h5 (Int32.toInt_inj.mp (e.trans (by decide)))
  · exact h6 (Int32.toInt_inj.mp (e.trans (by decide)))
  · exact h7 (Int32.toInt_inj.mp (e.trans (by decide)))
  · exact h8 (Int32.toInt_inj.mp (e.trans (by decide)))
  · exact h9 (Int32.toInt_inj.mp (e.trans (by decide)))
  · exact h10 (Int32.toInt_inj.mp (e.trans (by decide)))
  · exact h11 (Int32.toInt_inj.mp (e.trans (by decide)))
  · exact h12 (Int32.toInt_inj.mp (e.trans (by decide)))
  · exact h13 (Int32.toInt_inj.mp (e.trans (by decide)))
  · exact h14 (Int32.toInt_inj.mp (e.trans (by decide)))
  · exact h15 (Int32.toInt_inj.mp (e.trans (by decide)))
theorem ic_out0_5 {x : Int32} (h0 : ¬ x = (0 : Int32)) (h1 : ¬ x = (1 : Int32)) (h2 : ¬ x = (2 : Int32)) (h3 : ¬ x = (3 : Int32)) (h4 : ¬ x = (4 : Int32)) (h5 : ¬ x = (5 : Int32)) : x.toInt < 0 ∨ 5 < x.toInt := by
  refine Decidable.byContradiction fun hc => ?_
  have e : x.toInt = 0 ∨ x.toInt = 1 ∨ x.toInt = 2 ∨ x.toInt = 3 ∨ x.toInt = 4 ∨ x.toInt = 5 := by omega
  rcases e with e | e | e | e | e | e
  · exact h0 (Int32.toInt_inj.mp (e.trans (by decide)))
  · exact h1 (Int32.toInt_inj.mp (e.trans (by decide)))
  · exact h2 (Int32.toInt_inj.mp (e.trans (by decide)))
  · exact h3 (Int32.toInt_inj.mp (e.trans (by decide)))
  · exact h4 (Int32.toInt_inj.mp (e.trans (by decide)))
  · exact h5 (Int32.toInt_inj.mp (e.trans (by decide)))
theorem ic_out0_2 {x : Int32} (h0 : ¬ x = (0 : Int32)) (h1 : ¬ x = (1 : Int32)) (h2 : ¬ x = (2 : Int32)) : x.toInt < 0 ∨ 2 < x.toInt := by
  refine Decidable.byContradiction fun hc => ?_
  have e : x.toInt = 0 ∨ x.toInt = 1 ∨ x.toInt = 2 := by omega
  rcases e with e | e | e
  · exact h0 (Int32.toInt_inj.mp (e.trans (by decide)))
  · exact h1 (Int32.toInt_inj.mp (e.trans (by decide)))
  · exact h2 (Int32.toInt_inj.mp (e.trans (by decide)))
end
section
/-! ===== making: the cells come in the order of the layout ===== -/
abbrev ic_S : Type := Nat × ic_R × ic_M
def ic_zr (ρ : ic_R) (r : Nat) : ic_R := fun b k => if b = r then 0 else ρ b k
def ic_zm (μ : ic_M) (r : Nat) : ic_M := fun b k => if b = r then 0 else μ b k
/-- the next cell is made -/
def ic_nw {α : Type} (w : ic_S) (t v : Nat) (T : ic_S → Option α) : Option α := if ic_sh w.1 = (t, v) then T (w.1 + 1, ic_zr w.2.1 (w.1 + 1), ic_zm w.2.2 (w.1 + 1)) else none
def ic_b (n r : Nat) (q : Nat × Nat) : Bool := match r with
  | 0 => false
  | a + 1 => decide (a < n) && decide (ic_sh a = q)
theorem ic_b_of {n r : Nat} {q : Nat × Nat} (h : ic_b n r q = true) : ∃ a, r = a + 1 ∧ a < n ∧ ic_sh a = q := by
  cases r with
  | zero => cases h
  | succ a =>
    simp only [ic_b, Bool.and_eq_true, decide_eq_true_eq] at h
    exact ⟨a, rfl, h.1, h.2⟩
/-- a cell is looked at -/
def ic_lk {α : Type} (w : ic_S) (r : Nat) (q : Nat × Nat) (T : Option α) : Option α := if ic_b w.1 r q = true then T else none
theorem ic_lk_of {α : Type} {w : ic_S} {r : Nat} {q : Nat × Nat} {T : Option α} {R : α} (h : ic_lk w r q T = some R) : (∃ a, r = a + 1 ∧ a < w.1 ∧ ic_sh a = q) ∧ T = some R := by
  by_cases hc : ic_b w.1 r q = true
  · rw [ic_lk, if_pos hc] at h; exact ⟨ic_b_of hc, h⟩
  · rw [ic_lk, if_neg hc] at h; cases h
def ic_jr {α : Type} (w : ic_S) (r k q : Nat) (T : ic_S → Option α) : Option α := T (w.1, ic_ur w.2.1 r k q, w.2.2)
def ic_ji {α : Type} (w : ic_S) (r k : Nat) (x : Int32) (T : ic_S → Option α) : Option α := T (w.1, w.2.1, ic_up w.2.2 r k x)
theorem ic_en_new {κ : ic_K} {ρ : ic_R} {μ : ic_M} {n a : Nat} (h : a < n) : ic_en κ (ic_zr ρ (n + 1)) (ic_zm μ (n + 1)) a = ic_en κ ρ μ a := by
  have e1 : ic_zr ρ (n + 1) (a + 1) = ρ (a + 1) := by funext k; simp only [ic_zr]; rw [if_neg (by omega)]
  have e2 : ic_zm μ (n + 1) (a + 1) = μ (a + 1) := by funext k; simp only [ic_zm]; rw [if_neg (by omega)]
  have e3 : ∀ ci, ic_fv κ (ic_zr ρ (n + 1)) (ic_zm μ (n + 1)) a ci = ic_fv κ ρ μ a ci := fun ci => by
    funext j
    simp only [ic_fv, e1, e2]
  simp only [ic_en, e1, e2, e3]
theorem ic_H_new {κ : ic_K} {ρ : ic_R} {μ : ic_M} {n : Nat} {H H1 : Heap} (hP : ic_H κ n ρ μ H) (z : H1.size = κ.1 + n + 1) (o : ∀ q, q < κ.1 + n → H1[q]? = H[q]?) (hnew : va_at κ.2.1 ic_cls (κ.1 + n, ic_en κ (ic_zr ρ (n + 1)) (ic_zm μ (n + 1)) n) H1) : ic_H κ (n + 1) (ic_zr ρ (n + 1)) (ic_zm μ (n + 1)) H1 := by
  refine ⟨fun k q hk => ?_, by rw [z]; omega⟩
  have hkn : k < n + 1 := by
    have := (List.getElem?_eq_some_iff.mp hk).1
    simpa [ic_wd] using this
  rw [ic_wd_at hkn] at hk
  cases hk
  by_cases h : k < n
  · rw [ic_en_new h]
    exact (hP.1 k _ (ic_wd_at h)).kept (o (κ.1 + k) (by omega))
  · have : k = n := by omega
    subst this
    exact hnew
section ICN
variable {l : Launch} {κ : ic_K} {M : ic_Md} {X : State → Array Value → Prop} {Z : State → List Frame → Array Value → State → Prop} {pc pc' : Nat} {L L' : List (Nat × Value)} {S : List Value} {w : ic_S} {c0 s0 c1 s1 : Nat} {α : Type} {R : α} {F : ic_S → Option α}
theorem ic_S_grow {s : State} {H H1 : Heap} {locs : List Loc} {n : Nat} (hB : κ.1 ≤ s.heap.size) (hS : va_S (ic_A κ) s.heap H locs) (hsz : H.size = κ.1 + n) (z : H1.size = κ.1 + n + 1) (o : ∀ q, q < κ.1 + n → H1[q]? = H[q]?) : va_S (ic_A κ) s.heap H1 locs :=
  ⟨by rw [z, ← hsz]; exact Nat.le_succ_of_le hS.1, fun q h1 h2 => by
    have := hS.1
    rw [o q (by omega)]; exact hS.2.1 q h1 h2, hS.2.2⟩
theorem iw_new {ci i N : Nat} {C : String} {T : u_T} {ty : Nat → FieldType} (hf : ic_nw w 0 ci F = some R) (fk : ic_FK ci C T N ty) (hw1 : Cond.classLink M.1.cls i C ∈ ic_tb) (hw2 : Cond.instantiable C N ∈ ic_tb) (hw3 : Cond.initialized C ∈ ic_tb) (hz : ∀ k, k < N → defaultValue (ty k) = if ic_isr ci k = true then .null else .int 0)
    (hd : decode M.2.1 pc = .ok (.new i, 3) ∧ pc + 3 = pc' ∧ c0 + 1 = c1 ∧ s0 + N = s1 ∧ c1 ≤ M.2.2.2.2.cells ∧ s1 ≤ M.2.2.2.2.slots)
    (kk : ∀ w', F w' = some R → ic_W l κ M X Z pc' L (ic_rv κ.1 (w.1 + 1) :: S) w'.1 w'.2.1 w'.2.2 c1 s1) : ic_W l κ M X Z pc L S w.1 w.2.1 w.2.2 c0 s0 := by
  obtain ⟨hd, rfl, rfl, rfl, h1, h2⟩ := hd
  by_cases hsh : ic_sh w.1 = (0, ci)
  · rw [ic_nw, if_pos hsh] at hf
    obtain ⟨hc, hnf, hin, hty, hnm⟩ := fk
    subst hnf
    intro p e s m args below meth c C0 hX hK hB ls H locs hl hP hS
    have hKn := hK.1 ci _ hc
    refine W.newcK C0.1 C0.2.1 C0.2.2.2.2.2.1 (C0.2.2.2.2.2.2.1 _ hw1) (C0.2.2.2.2.2.2.1 _ hw2) (C0.2.2.2.2.2.2.1 _ hw3) rfl hd h1 h2 hKn.2.1 hP.2 fun H1 kC hkC e1 z1 o1 => ?_
    refine kk _ hf p e s m args below meth c C0 hX hK hB ls H1 locs hl (ic_H_new hP z1 o1 ?_) (ic_S_grow hB hS hP.2 z1 o1)
    rw [ic_en0 hsh]
    refine ⟨_, hc, (u_born ty C0.2.2.2.2.2.2.1 hin hKn hkC e1 hty).to fun k hk => ?_⟩
    dsimp only
    rw [hz k hk]
    simp only [vp_V, List.getD, List.getElem?_map, List.getElem?_range hk, Option.map_some, Option.getD_some, ic_fv, ic_zr, ic_zm, if_true]
    split <;> rfl
  · rw [ic_nw, if_neg hsh] at hf; cases hf
/-- a new array of ints, of booleans -/
theorem iw_newi {N : Nat} {x : Int32} (hf : ic_nw w 1 N F = some R) (hw : Cond.arrayClass .int ∈ ic_tb) (hx : ¬ x < 0 ∧ x.toNatClampNeg = N ∧ N * 4 ≤ 536870912) (hd : decode M.2.1 pc = .ok (.newarray .int, 2) ∧ pc + 2 = pc' ∧ c0 + 1 = c1 ∧ s0 + N = s1 ∧ c1 ≤ M.2.2.2.2.cells ∧ s1 ≤ M.2.2.2.2.slots)
    (kk : ∀ w', F w' = some R → ic_W l κ M X Z pc' L (ic_rv κ.1 (w.1 + 1) :: S) w'.1 w'.2.1 w'.2.2 c1 s1) : ic_W l κ M X Z pc L (.int x :: S) w.1 w.2.1 w.2.2 c0 s0 := by
  obtain ⟨hd, rfl, rfl, rfl, h1, h2⟩ := hd
  by_cases hsh : ic_sh w.1 = (1, N)
  · rw [ic_nw, if_pos hsh] at hf
    intro p e s m args below meth c C0 hX hK hB ls H locs hl hP hS
    refine va_newaK (atype := .int) C0.1 C0.2.1 (C0.2.2.2.2.2.2.1 _ hw) rfl hd rfl hx.1 hx.2.1 hx.2.2 h1 h2 hP.2 fun H1 cA e1 z1 o1 hAr hNm => ?_
    refine kk _ hf p e s m args below meth c C0 hX hK hB ls H1 locs hl (ic_H_new hP z1 o1 ?_) (ic_S_grow hB hS hP.2 z1 o1)
    rw [ic_en1 hsh]
    have hcA : cA = κ.2.2 0 := Option.some.inj (hNm.symm.trans (hK.2 0 _ rfl).2)
    show H1[κ.1 + w.1]? = some (vp_cell _ _)
    rw [e1, hcA, vp_cell_i]
    simp only [ic_zm, if_true]
    rfl
  · rw [ic_nw, if_neg hsh] at hf; cases hf
theorem iw_newz {N : Nat} {x : Int32} (hf : ic_nw w 2 N F = some R) (hw : Cond.arrayClass .boolean ∈ ic_tb) (hx : ¬ x < 0 ∧ x.toNatClampNeg = N ∧ N * 1 ≤ 536870912) (hd : decode M.2.1 pc = .ok (.newarray .boolean, 2) ∧ pc + 2 = pc' ∧ c0 + 1 = c1 ∧ s0 + N = s1 ∧ c1 ≤ M.2.2.2.2.cells ∧ s1 ≤ M.2.2.2.2.slots)
    (kk : ∀ w', F w' = some R → ic_W l κ M X Z pc' L (ic_rv κ.1 (w.1 + 1) :: S) w'.1 w'.2.1 w'.2.2 c1 s1) : ic_W l κ M X Z pc L (.int x :: S) w.1 w.2.1 w.2.2 c0 s0 := by
  obtain ⟨hd, rfl, rfl, rfl, h1, h2⟩ := hd
  by_cases hsh : ic_sh w.1 = (2, N)
  · rw [ic_nw, if_pos hsh] at hf
    intro p e s m args below meth c C0 hX hK hB ls H locs hl hP hS
    refine va_newaK (atype := .boolean) C0.1 C0.2.1 (C0.2.2.2.2.2.2.1 _ hw) rfl hd rfl hx.1 hx.2.1 hx.2.2 h1 h2 hP.2 fun H1 cA e1 z1 o1 hAr hNm => ?_
    refine kk _ hf p e s m args below meth c C0 hX hK hB ls H1 locs hl (ic_H_new hP z1 o1 ?_) (ic_S_grow hB hS hP.2 z1 o1)
    rw [ic_en2 hsh]
    have hcA : cA = κ.2.2 1 := Option.some.inj (hNm.symm.trans (hK.2 1 _ rfl).2)
    show H1[κ.1 + w.1]? = some (vp_cell _ _)
    rw [e1, hcA, vp_cell_i]
    simp only [ic_zm, if_true]
    rfl
  · rw [ic_nw, if_neg hsh] at hf; cases hf
/-- a new array of references: t 3 of Ice, 4 of Image -/
theorem iw_newq {t N i : Nat} {C : String} {x : Int32} (ht : (t = 3 ∧ C = "IceLaw$Ice") ∨ (t = 4 ∧ C = "IceLaw$Image")) (hf : ic_nw w t N F = some R) (hw1 : Cond.classLink M.1.cls i C ∈ ic_tb) (hw2 : Cond.arrayOver (.object C) ∈ ic_tb) (hx : ¬ x < 0 ∧ x.toNatClampNeg = N ∧ N * 4 ≤ 536870912) (hd : decode M.2.1 pc = .ok (.anewarray i, 3) ∧ pc + 3 = pc' ∧ c0 + 1 = c1 ∧ s0 + N = s1 ∧ c1 ≤ M.2.2.2.2.cells ∧ s1 ≤ M.2.2.2.2.slots)
    (kk : ∀ w', F w' = some R → ic_W l κ M X Z pc' L (ic_rv κ.1 (w.1 + 1) :: S) w'.1 w'.2.1 w'.2.2 c1 s1) : ic_W l κ M X Z pc L (.int x :: S) w.1 w.2.1 w.2.2 c0 s0 := by
  obtain ⟨hd, rfl, rfl, rfl, h1, h2⟩ := hd
  obtain ⟨hx1, rfl, hx3⟩ := hx
  by_cases hsh : ic_sh w.1 = (t, x.toNatClampNeg)
  · rw [ic_nw, if_pos hsh] at hf
    intro p e s m args below meth c C0 hX hK hB ls H locs hl hP hS
    refine W.anew C0.1 C0.2.1 C0.2.2.2.2.2.1 (C0.2.2.2.2.2.2.1 _ hw1) (C0.2.2.2.2.2.2.1 _ hw2) rfl hd rfl hx1 hx3 h1 h2 fun cA kA comp f1 f2 f3 f4 => ?_
    generalize hH1 : H.push ({ cls := cA, slots := Array.replicate x.toNatClampNeg .null, vm := .none } : Cell) = H1
    have z1 : H1.size = κ.1 + w.1 + 1 := by rw [← hH1, Array.size_push, hP.2]
    have e1 : H1[κ.1 + w.1]? = some (arrV cA x.toNatClampNeg (fun _ => .null)) := by rw [← hH1, ← hP.2, Array.getElem?_push_size, ← arrV_new]
    have o1 : ∀ q : Nat, q < κ.1 + w.1 → H1[q]? = H[q]? := fun q hq => by rw [← hH1, Array.getElem?_push, if_neg (by rw [hP.2]; omega)]
    rw [show H.size = κ.1 + w.1 from hP.2]
    refine kk _ hf p e s m args below meth c C0 hX hK hB ls H1 locs hl (ic_H_new hP z1 o1 ?_) (ic_S_grow hB hS hP.2 z1 o1)
    rcases ht with ⟨rfl, rfl⟩ | ⟨rfl, rfl⟩
    · rw [ic_en3 hsh]
      obtain ⟨kA', comp', -, -, -, hNm⟩ := (hK.2 2 _ rfl).2
      have hcA : cA = κ.2.2 2 := Option.some.inj (f1.symm.trans hNm)
      show H1[κ.1 + w.1]? = some (vp_cell _ _)
      rw [e1, hcA, vp_cell_q]
      simp only [ic_zr, if_true]
      rfl
    · rw [ic_en4 hsh]
      obtain ⟨kA', comp', -, -, -, hNm⟩ := (hK.2 3 _ rfl).2
      have hcA : cA = κ.2.2 3 := Option.some.inj (f1.symm.trans hNm)
      show H1[κ.1 + w.1]? = some (vp_cell _ _)
      rw [e1, hcA, vp_cell_q]
      simp only [ic_zr, if_true]
      rfl
  · rw [ic_nw, if_neg hsh] at hf; cases hf
/-- Object's constructor -/
theorem iw_obj {i r : Nat} (hw : Cond.methodLink M.1.cls i Lib.objectInit ∈ ic_tb) (hi : Cond.instanceMethod Lib.objectInit ∈ ic_tb) (hc : Cond.code Lib.objectInit ⟨#[0xb1]⟩ 1 none ∈ ic_tb) (ho : ∃ a, r = a + 1) (hsum : (S.map fun v => v.category).sum ≤ 8) (hd : decode M.2.1 pc = .ok (.invokespecial i, 3) ∧ pc + 3 = pc' ∧ 1 ≤ M.2.2.2.2.frames ∧ 20 ≤ M.2.2.2.2.locals)
    (kk : ic_W l κ M X Z pc' L S w.1 w.2.1 w.2.2 c0 s0) : ic_W l κ M X Z pc L (ic_rv κ.1 r :: S) w.1 w.2.1 w.2.2 c0 s0 := by
  obtain ⟨hd, rfl, h1, h2⟩ := hd
  obtain ⟨a, rfl⟩ := ho
  intro p e s m args below meth c C0 hX hK hB ls H locs hl hP hS
  obtain ⟨hx, hb, hr, hlk, hml, hown, hts, hnm⟩ := id C0
  refine W.objInit hx hb hown (hts _ hw) (hts _ hi) (hts _ hc) rfl (by rw [hml]; exact hl.1.1) rfl hd h1 ?_ (kk p e s m args below meth c C0 hX hK hB ls H locs hl hP hS)
  show 2 * 0 + _ + 12 ≤ _
  omega
/-- another constructor -/
theorem iw_callI {y : ic_Md} {S1 : List Value} {i r : Nat} {w1 : ic_S} (hC : ic_C l κ y [ic_rv κ.1 r] w.1 w.2.1 w.2.2 none w1.1 w1.2.1 w1.2.2) (ho : ∃ a, r = a + 1) (hy : ic_MI y) (hw : Cond.methodLink M.1.cls i y.1 ∈ ic_tb) (hsum : (S.map fun v => v.category).sum ≤ 8)
    (hd : decode M.2.1 pc = .ok (.invokespecial i, 3) ∧ pc + 3 = pc' ∧ ic_rm M y 0 ∧ c0 + y.2.2.2.2.cells = c1 ∧ s0 + y.2.2.2.2.slots = s1 ∧ c1 ≤ M.2.2.2.2.cells ∧ s1 ≤ M.2.2.2.2.slots)
    (kk : ic_W l κ M X Z pc' L S w1.1 w1.2.1 w1.2.2 c1 s1) : ic_W l κ M X Z pc L (ic_rv κ.1 r :: S) w.1 w.2.1 w.2.2 c0 s0 := by
  obtain ⟨hd, rfl, ⟨hfr, hlo, hsg⟩, rfl, rfl, h1, h2⟩ := hd
  obtain ⟨a, rfl⟩ := ho
  obtain ⟨hy1, hy3, hy4, hy5, hy6, hy7⟩ := hy
  obtain ⟨yn, yc, yl, yr, ym⟩ := y
  dsimp only at hy7
  subst hy7
  intro p e s m args below meth c C0 hX hK hB ls H locs hl hP hS
  obtain ⟨hx, hb, hr, hlk, hml, hown, hts, hnm⟩ := id C0
  exact ic_after (va_runI (As := []) (rest := S) (Ts := ic_tb) ⟨hx, hb, hml, hown, hts⟩ hC ⟨⟨rfl, rfl, hfr, hlo, ic_wsW hts hy4, List.mem_cons_self, hts _ hy4, hts _ hy3, hy5, ic_sig hsg, hts _ hw⟩, hy6, hts _ hy1⟩ ⟨ic_blind, fun U hU hW => ⟨rfl, by rw [hU]; exact hP, va_K.moved hW.alike hK⟩⟩ rfl rfl hl.1.1 rfl (lv_room hsum) hd ⟨h1, h2⟩) hS (fun H1 locs1 hP1 hS1 => kk p e s m args below meth c C0 hX hK hB ls H1 locs1 hl hP1 hS1)
theorem iw_callIN {y : ic_Md} {S1 : List Value} {i r : Nat} {host : String} {w1 : ic_S} (hC : ic_C l κ y [ic_rv κ.1 r] w.1 w.2.1 w.2.2 none w1.1 w1.2.1 w1.2.2) (ho : ∃ a, r = a + 1) (hy : ic_MI y) (hw : Cond.methodLinkNest M.1.cls i y.1 host ∈ ic_tb) (hsum : (S.map fun v => v.category).sum ≤ 8)
    (hd : decode M.2.1 pc = .ok (.invokespecial i, 3) ∧ pc + 3 = pc' ∧ ic_rm M y 0 ∧ c0 + y.2.2.2.2.cells = c1 ∧ s0 + y.2.2.2.2.slots = s1 ∧ c1 ≤ M.2.2.2.2.cells ∧ s1 ≤ M.2.2.2.2.slots)
    (kk : ic_W l κ M X Z pc' L S w1.1 w1.2.1 w1.2.2 c1 s1) : ic_W l κ M X Z pc L (ic_rv κ.1 r :: S) w.1 w.2.1 w.2.2 c0 s0 := by
  obtain ⟨hd, rfl, ⟨hfr, hlo, hsg⟩, rfl, rfl, h1, h2⟩ := hd
  obtain ⟨a, rfl⟩ := ho
  obtain ⟨hy1, hy3, hy4, hy5, hy6, hy7⟩ := hy
  obtain ⟨yn, yc, yl, yr, ym⟩ := y
  dsimp only at hy7
  subst hy7
  intro p e s m args below meth c C0 hX hK hB ls H locs hl hP hS
  obtain ⟨hx, hb, hr, hlk, hml, hown, hts, hnm⟩ := id C0
  exact ic_after (va_runIN (As := []) (rest := S) (Ts := ic_tb) ⟨hx, hb, hml, hown, hts⟩ hC ⟨⟨⟨rfl, rfl, hfr, hlo, ic_wsW hts hy4, List.mem_cons_self⟩, hts _ hy4, hts _ hy3, hy5, ic_sig hsg, hts _ hw⟩, hy6, hts _ hy1⟩ ⟨ic_blind, fun U hU hW => ⟨rfl, by rw [hU]; exact hP, va_K.moved hW.alike hK⟩⟩ rfl rfl hl.1.1 rfl (lv_room hsum) hd ⟨h1, h2⟩) hS (fun H1 locs1 hP1 hS1 => kk p e s m args below meth c C0 hX hK hB ls H1 locs1 hl hP1 hS1)
/-- a reference into an array of references -/
theorem iw_aast {t N ci r q : Nat} {j : Int32} (ht : (t = 3 ∧ ci = 1) ∨ (t = 4 ∧ ci = 2)) (hf : ic_jr w r j.toNatClampNeg q F = some R) (hr : ∃ a, r = a + 1 ∧ a < w.1 ∧ ic_sh a = (t, N)) (hq : ∃ a, q = a + 1 ∧ a < w.1 ∧ ic_sh a = (0, ci)) (hj : ¬ (j < 0 ∨ N ≤ j.toNatClampNeg)) (hd : decode M.2.1 pc = .ok (.aastore, 1) ∧ pc + 1 = pc')
    (kk : ∀ w', F w' = some R → ic_W l κ M X Z pc' L S w'.1 w'.2.1 w'.2.2 c0 s0) : ic_W l κ M X Z pc L (ic_rv κ.1 q :: .int j :: ic_rv κ.1 r :: S) w.1 w.2.1 w.2.2 c0 s0 := by
  obtain ⟨hd, rfl⟩ := hd
  obtain ⟨a, rfl, ha, hsa⟩ := hr
  obtain ⟨b, rfl, hb', hsb⟩ := hq
  have main : ∀ (t0 : Nat) (rr : vw_C), ic_cls[ci]? = some rr → (ic_wd κ w.1 w.2.1 w.2.2)[a]? = some (κ.1 + a, .inl (κ.2.2 t0, N, .inr (.inr (.inr (.inr (fun j => ic_ro κ.1 (w.2.1 (a + 1) j))))))) → (ic_ty κ)[t0]? = some (κ.2.2 t0, .object rr.1) → (ic_en κ (ic_ur w.2.1 (a + 1) j.toNatClampNeg (b + 1)) w.2.2 a = .inl (κ.2.2 t0, N, .inr (.inr (.inr (.inr (fun k => ic_ro κ.1 (ic_ur w.2.1 (a + 1) j.toNatClampNeg (b + 1) (a + 1) k))))))) → ic_W l κ M X Z pc L (ic_rv κ.1 (b + 1) :: .int j :: ic_rv κ.1 (a + 1) :: S) w.1 w.2.1 w.2.2 c0 s0 := by
    intro t0 rr hc hat ht0 hen
    intro p e s m args below meth c C0 hX hK hB ls H locs hl hP hS
    have hD := ic_D κ w.1 w.2.1 w.2.2
    have hbt : (ic_wd κ w.1 w.2.1 w.2.2)[b]? = some (κ.1 + b, .inr (ci, (List.range (ic_nf ci)).map (ic_fv κ w.2.1 w.2.2 b ci))) := by rw [ic_wd_at hb', ic_en0 hsb]
    have hlt : j.toNatClampNeg < N := Nat.not_le.mp fun q => hj (Or.inr q)
    have h0 : ¬ j < 0 := fun q => hj (Or.inl q)
    obtain ⟨r', hr', cellV, g1, g2, g3, -⟩ := hP.1 b _ hbt
    have hcls := (hK.1 ci rr hc).2
    obtain ⟨kA, comp, k1, k2, k3, -⟩ := (hK.2 t0 _ ht0).2
    have hcomp : comp = κ.2.1.1 ci := Option.some.inj (k3.symm.trans hcls.1)
    subst hcomp
    obtain ⟨kC, hkC, -⟩ := hcls.2
    refine W.aast C0.1 C0.2.1 (hP.1 a _ hat) (fun q h => by cases h) (fun h => by cases h) k1 k2 rfl hkC ⟨h0, by show _ < (arrV _ _ _).slots.size; rw [arrV_size]; exact hlt⟩ g1 (fun q h => by rw [g3] at h; cases h) (by rw [g2]; exact hkC) (by rw [g2]; exact va_assign hcls) rfl rfl hd fun H1 e1 z oq => ?_
    have hP1 := hP.1.set (e := .inl (κ.2.2 t0, N, .inr (.inr (.inr (.inr (fun k => ic_ro κ.1 (ic_ur w.2.1 (a + 1) j.toNatClampNeg (b + 1) (a + 1) k))))))) (H1 := H1) hD hat ?_ oq
    · rw [ic_set (ρ' := ic_ur w.2.1 (a + 1) j.toNatClampNeg (b + 1)) (μ' := w.2.2) hen (fun b hb => ic_en_ur_ne hb)] at hP1
      exact kk _ hf p e s m args below meth c C0 hX hK hB ls H1 _ hl ⟨hP1, by rw [z]; exact hP.2⟩ (hS.put z oq (hD.2 a _ hat))
    · show H1[κ.1 + a]? = some (vp_cell _ _)
      rw [e1, vp_cell_q, vp_cell_q, arrV_store]
      congr 2
      funext q
      by_cases hq : q = j.toNatClampNeg
      · subst hq; simp [updV, ic_ur, va_rf, ic_ro]
      · simp [updV, ic_ur, hq]
  rcases ht with ⟨rfl, rfl⟩ | ⟨rfl, rfl⟩
  · exact main 2 _ rfl (by rw [ic_wd_at ha, ic_en3 hsa]) rfl (by rw [ic_en3 hsa])
  · exact main 3 _ rfl (by rw [ic_wd_at ha, ic_en4 hsa]) rfl (by rw [ic_en4 hsa])
/-- a branch that is decided -/
theorem iw_geT {x y : Int32} {off : Int} {tg : Nat} (h : y ≤ x) (hd : decode M.2.1 pc = .ok (.if_icmp .ge off, 3) ∧ (pc : Int) + off = (tg : Int) ∧ pc + 3 = pc') (k : ic_W l κ M X Z tg L S w.1 w.2.1 w.2.2 c0 s0) : ic_W l κ M X Z pc L (.int y :: .int x :: S) w.1 w.2.1 w.2.2 c0 s0 :=
  iw_icmp_ge (T := some ()) (F := none) (R := ()) (by rw [if_pos h]) hd (fun _ => k) (fun h => by cases h)
theorem iw_geF {x y : Int32} {off : Int} {tg : Nat} (h : ¬ y ≤ x) (hd : decode M.2.1 pc = .ok (.if_icmp .ge off, 3) ∧ (pc : Int) + off = (tg : Int) ∧ pc + 3 = pc') (k : ic_W l κ M X Z pc' L S w.1 w.2.1 w.2.2 c0 s0) : ic_W l κ M X Z pc L (.int y :: .int x :: S) w.1 w.2.1 w.2.2 c0 s0 :=
  iw_icmp_ge (T := none) (F := some ()) (R := ()) (by rw [if_neg h]) hd (fun h => by cases h) (fun _ => k)
theorem iw_iinc0 {n : Nat} {ρ : ic_R} {μ : ic_M} {i : Nat} {d : Int} {x v y : Int32} (j : Nat) (hj : L[j]? = some (i, .int x)) (hy : x + v = y) (hL : ic_st L i (.int y) = L') (hd : decode M.2.1 pc = .ok (.iinc i d, 3) ∧ pc + 3 = pc' ∧ i < M.2.2.1 ∧ Int32.ofInt d = v) (k : ic_W l κ M X Z pc' L' S n ρ μ c0 s0) : ic_W l κ M X Z pc L S n ρ μ c0 s0 := by
  subst hy; subst hL
  exact iw_iinc (T := fun z => if z = x + v then some () else none) (R := ()) (L1 := fun z => ic_st L i (.int z)) (by simp [ic_lt]) j hj (fun _ => rfl) hd (fun z hz => by
    by_cases h : z = x + v
    · subst h; exact k
    · rw [if_neg h] at hz; cases hz)
theorem iw_jput {r ci k i N : Nat} {C : String} {T : u_T} {ty : Nat → FieldType} {x : Int32} (hf : ic_ji w r k x F = some R) (fk : ic_FK ci C T N ty) (ho : ∃ a, r = a + 1 ∧ a < w.1 ∧ ic_sh a = (0, ci)) (hw : Cond.fieldLink M.1.cls i C (T k).2.1 (T k).2.2.1 ∈ ic_tb) (hd : decode M.2.1 pc = .ok (.putfield i, 3) ∧ pc + 3 = pc' ∧ k < N ∧ (T k).1 = C ∧ (T k).2.2.2 = false ∧ ty k = .int ∧ ic_isr ci k = false)
    (kk : ∀ w', F w' = some R → ic_W l κ M X Z pc' L S w'.1 w'.2.1 w'.2.2 c0 s0) : ic_W l κ M X Z pc L (.int x :: ic_rv κ.1 r :: S) w.1 w.2.1 w.2.2 c0 s0 :=
  iw_put (F := fun μ' => F (w.1, w.2.1, μ')) hf fk ho hw hd (fun μ' h => kk (w.1, w.2.1, μ') h)
theorem iw_jputr {r q ci k i N : Nat} {C : String} {T : u_T} {ty : Nat → FieldType} (hf : ic_jr w r k q F = some R) (fk : ic_FK ci C T N ty) (ho : ∃ a, r = a + 1 ∧ a < w.1 ∧ ic_sh a = (0, ci)) (hw : Cond.fieldLink M.1.cls i C (T k).2.1 (T k).2.2.1 ∈ ic_tb) (hfit : fits (ty k) (ic_rv κ.1 q) = true ∧ narrow (ty k) (ic_rv κ.1 q) = ic_rv κ.1 q) (hd : decode M.2.1 pc = .ok (.putfield i, 3) ∧ pc + 3 = pc' ∧ k < N ∧ (T k).1 = C ∧ ((T k).2.2.2 = false ∨ ((T k).2.2.2 = true ∧ M.1.name = "<init>" ∧ C = M.1.cls)) ∧ ic_isr ci k = true)
    (kk : ∀ w', F w' = some R → ic_W l κ M X Z pc' L S w'.1 w'.2.1 w'.2.2 c0 s0) : ic_W l κ M X Z pc L (ic_rv κ.1 q :: ic_rv κ.1 r :: S) w.1 w.2.1 w.2.2 c0 s0 :=
  iw_putr fk ho hw hfit hd (kk (w.1, ic_ur w.2.1 r k q, w.2.2) hf)
theorem iw_jast {r N : Nat} {j x : Int32} (hf : ic_ji w r j.toNatClampNeg x F = some R) (hi : ∃ a, r = a + 1 ∧ a < w.1 ∧ ic_sh a = (1, N)) (hj : ¬ (j < 0 ∨ N ≤ j.toNatClampNeg)) (hd : decode M.2.1 pc = .ok (.iastore, 1) ∧ pc + 1 = pc')
    (kk : ∀ w', F w' = some R → ic_W l κ M X Z pc' L S w'.1 w'.2.1 w'.2.2 c0 s0) : ic_W l κ M X Z pc L (.int x :: .int j :: ic_rv κ.1 r :: S) w.1 w.2.1 w.2.2 c0 s0 :=
  iw_iast (N := N) (T := fun μ' => F (w.1, w.2.1, μ')) (R := R) (by rw [ic_as, if_neg hj]; exact hf) (fun _ => hi) hd (fun μ' h => kk (w.1, w.2.1, μ') h)
theorem iw_jret {R' : ic_S} (hf : some w = some R') (hd : decode M.2.1 pc = .ok (.return_, 1) ∧ M.2.2.2.1 = none ∧ c0 = M.2.2.2.2.cells ∧ s0 = M.2.2.2.2.slots) : ic_W l κ M X (ic_Z κ M none R'.1 R'.2.1 R'.2.2) pc L [] w.1 w.2.1 w.2.2 c0 s0 := by
  obtain rfl := Option.some.inj hf
  exact iw_vreturn rfl rfl hd
theorem ic_fitA {B q : Nat} {C : FieldType} : fits (.array C) (ic_rv B q) = true ∧ narrow (.array C) (ic_rv B q) = ic_rv B q := by
  cases q <;> exact ⟨rfl, rfl⟩
theorem ic_fitO {B q : Nat} {C : String} : fits (.object C) (ic_rv B q) = true ∧ narrow (.object C) (ic_rv B q) = ic_rv B q := by
  cases q <;> exact ⟨rfl, rfl⟩
end ICN
end
section
def MX1_init : ic_Md := (yX1_init, cX1_init, 1, none, { frames := 1, cells := 2, slots := 24, locals := 20 })
theorem mi_X1_init : ic_MI MX1_init := ⟨ic_in 120 (by decide +kernel), ic_in 72 (by decide +kernel), ic_in 121 (by decide +kernel), by decide +kernel, rfl, rfl⟩
theorem lif_X1_9 : Cond.fieldLink RX1 9 RX1 (TX1 0).2.1 (TX1 0).2.2.1 ∈ ic_tb := ic_in 123 (by decide +kernel)
theorem lif_X1_15 : Cond.fieldLink RX1 15 RX1 (TX1 1).2.1 (TX1 1).2.2.1 ∈ ic_tb := ic_in 124 (by decide +kernel)
theorem lif_X1_18 : Cond.fieldLink RX1 18 RX1 (TX1 4).2.1 (TX1 4).2.2.1 ∈ ic_tb := ic_in 130 (by decide +kernel)
def gX1_init (w : ic_S) (r0 : Nat) : Option ic_S := ic_lk w r0 (0, 1) (ic_nw w 1 18 (fun w1 => ic_lk w1 r0 (0, 1) (ic_jr w1 r0 0 (w.1 + 1) (fun w3 => ic_nw w3 1 6 (fun w4 => ic_lk w4 r0 (0, 1) (ic_jr w4 r0 1 (w3.1 + 1) (fun w6 => ic_lk w6 r0 (0, 1) (ic_ji w6 r0 4 (-1 : Int32) (fun w8 => some w8)))))))))
set_option maxRecDepth 100000 in
set_option maxHeartbeats 8000000 in
theorem ct_X1_init (l : Launch) (κ : ic_K) (w : ic_S) (r0 : Nat) {R : ic_S} (hf : gX1_init w r0 = some R) : ic_C l κ MX1_init [ic_rv κ.1 r0] w.1 w.2.1 w.2.2 none R.1 R.2.1 R.2.2 := by
  refine ic_C.of (L := [(0, ic_rv κ.1 r0)]) ⟨ic_cat _ _, trivial⟩ ⟨by decide +kernel, Nat.le_of_ble_eq_true rfl⟩ rfl ?_
  unfold gX1_init at hf
  obtain ⟨h0, hf⟩ := ic_lk_of hf
  have ho : ∃ a, r0 = a + 1 := h0.imp fun a h => h.1
  refine iw_aload_n (i := 0) (pc' := 1) 0 rfl (by decide +kernel) ?_
  refine iw_obj (i := 3) (r := r0) (pc' := 4) (ic_in 122 (by decide +kernel)) (ic_in 89 (by decide +kernel)) (ic_in 90 (by decide +kernel)) ho (ic_sum8 trivial (Nat.le_of_ble_eq_true rfl)) (by decide +kernel) ?_
  refine iw_aload_n (i := 0) (pc' := 5) 0 rfl (by decide +kernel) ?_
  refine iw_bipush (i := 18) (v := (18 : Int32)) (pc' := 7) (by decide +kernel) ?_
  refine iw_newi (pc' := 9) (c1 := 1) (s1 := 18) hf (ic_in 116 (by decide +kernel)) (by decide +kernel) (by decide +kernel) (fun w1 hf => ?_)
  obtain ⟨h2, hf⟩ := ic_lk_of hf
  refine iw_jputr (pc' := 12) hf ic_fk1 h2 lif_X1_9 ic_fitA (by decide +kernel) (fun w3 hf => ?_)
  refine iw_aload_n (i := 0) (pc' := 13) 0 rfl (by decide +kernel) ?_
  refine iw_bipush (i := 6) (v := (6 : Int32)) (pc' := 15) (by decide +kernel) ?_
  refine iw_newi (pc' := 17) (c1 := 2) (s1 := 24) hf (ic_in 116 (by decide +kernel)) (by decide +kernel) (by decide +kernel) (fun w4 hf => ?_)
  obtain ⟨h5, hf⟩ := ic_lk_of hf
  refine iw_jputr (pc' := 20) hf ic_fk1 h5 lif_X1_15 ic_fitA (by decide +kernel) (fun w6 hf => ?_)
  refine iw_aload_n (i := 0) (pc' := 21) 0 rfl (by decide +kernel) ?_
  refine iw_iconst (i := (-1)) (v := (-1 : Int32)) (pc' := 22) (by decide +kernel) ?_
  obtain ⟨h7, hf⟩ := ic_lk_of hf
  refine iw_jput (pc' := 25) hf ic_fk1 h7 lif_X1_18 (by decide +kernel) (fun w8 hf => ?_)
  exact iw_jret hf (by decide +kernel)
def MX4_init : ic_Md := (yX4_init, cX4_init, 1, none, { frames := 1, cells := 1, slots := 240, locals := 20 })
theorem mi_X4_init : ic_MI MX4_init := ⟨ic_in 94 (by decide +kernel), ic_in 71 (by decide +kernel), ic_in 95 (by decide +kernel), by decide +kernel, rfl, rfl⟩
theorem lif_X4_9 : Cond.fieldLink RX4 9 RX4 (TX4 0).2.1 (TX4 0).2.2.1 ∈ ic_tb := ic_in 97 (by decide +kernel)
def gX4_init (w : ic_S) (r0 : Nat) : Option ic_S := ic_lk w r0 (0, 4) (ic_nw w 1 240 (fun w1 => ic_lk w1 r0 (0, 4) (ic_jr w1 r0 0 (w.1 + 1) (fun w3 => some w3))))
set_option maxRecDepth 100000 in
set_option maxHeartbeats 8000000 in
theorem ct_X4_init (l : Launch) (κ : ic_K) (w : ic_S) (r0 : Nat) {R : ic_S} (hf : gX4_init w r0 = some R) : ic_C l κ MX4_init [ic_rv κ.1 r0] w.1 w.2.1 w.2.2 none R.1 R.2.1 R.2.2 := by
  refine ic_C.of (L := [(0, ic_rv κ.1 r0)]) ⟨ic_cat _ _, trivial⟩ ⟨by decide +kernel, Nat.le_of_ble_eq_true rfl⟩ rfl ?_
  unfold gX4_init at hf
  obtain ⟨h0, hf⟩ := ic_lk_of hf
  have ho : ∃ a, r0 = a + 1 := h0.imp fun a h => h.1
  refine iw_aload_n (i := 0) (pc' := 1) 0 rfl (by decide +kernel) ?_
  refine iw_obj (i := 3) (r := r0) (pc' := 4) (ic_in 96 (by decide +kernel)) (ic_in 89 (by decide +kernel)) (ic_in 90 (by decide +kernel)) ho (ic_sum8 trivial (Nat.le_of_ble_eq_true rfl)) (by decide +kernel) ?_
  refine iw_aload_n (i := 0) (pc' := 5) 0 rfl (by decide +kernel) ?_
  refine iw_sipush (i := 240) (v := (240 : Int32)) (pc' := 8) (by decide +kernel) ?_
  refine iw_newi (pc' := 10) (c1 := 1) (s1 := 240) hf (ic_in 116 (by decide +kernel)) (by decide +kernel) (by decide +kernel) (fun w1 hf => ?_)
  obtain ⟨h2, hf⟩ := ic_lk_of hf
  refine iw_jputr (pc' := 13) hf ic_fk4 h2 lif_X4_9 ic_fitA (by decide +kernel) (fun w3 hf => ?_)
  exact iw_jret hf (by decide +kernel)
def MX2_init : ic_Md := (yX2_init, cX2_init, 1, none, { frames := 2, cells := 3, slots := 30, locals := 40 })
theorem mi_X2_init : ic_MI MX2_init := ⟨ic_in 224 (by decide +kernel), ic_in 77 (by decide +kernel), ic_in 225 (by decide +kernel), by decide +kernel, rfl, rfl⟩
theorem lik_X2_7 : Cond.classLink RX2 7 RX1 ∈ ic_tb := ic_in 227 (by decide +kernel)
theorem lim_X2_9 : Cond.methodLinkNest RX2 9 yX1_init "IceLaw" ∈ ic_tb := ic_in 228 (by decide +kernel)
theorem lif_X2_10 : Cond.fieldLink RX2 10 RX2 (TX2 0).2.1 (TX2 0).2.2.1 ∈ ic_tb := ic_in 229 (by decide +kernel)
def gX2_init (w : ic_S) (r0 : Nat) : Option ic_S := ic_lk w r0 (0, 2) (ic_nw w 0 1 (fun w1 => Option.bind (gX1_init w1 (w.1 + 1)) (fun w2 => ic_lk w2 r0 (0, 2) (ic_jr w2 r0 0 (w.1 + 1) (fun w4 => some w4)))))
set_option maxRecDepth 100000 in
set_option maxHeartbeats 8000000 in
theorem ct_X2_init (l : Launch) (κ : ic_K) (w : ic_S) (r0 : Nat) {R : ic_S} (hf : gX2_init w r0 = some R) : ic_C l κ MX2_init [ic_rv κ.1 r0] w.1 w.2.1 w.2.2 none R.1 R.2.1 R.2.2 := by
  refine ic_C.of (L := [(0, ic_rv κ.1 r0)]) ⟨ic_cat _ _, trivial⟩ ⟨by decide +kernel, Nat.le_of_ble_eq_true rfl⟩ rfl ?_
  unfold gX2_init at hf
  obtain ⟨h0, hf⟩ := ic_lk_of hf
  have ho : ∃ a, r0 = a + 1 := h0.imp fun a h => h.1
  refine iw_aload_n (i := 0) (pc' := 1) 0 rfl (by decide +kernel) ?_
  refine iw_obj (i := 1) (r := r0) (pc' := 4) (ic_in 226 (by decide +kernel)) (ic_in 89 (by decide +kernel)) (ic_in 90 (by decide +kernel)) ho (ic_sum8 trivial (Nat.le_of_ble_eq_true rfl)) (by decide +kernel) ?_
  refine iw_aload_n (i := 0) (pc' := 5) 0 rfl (by decide +kernel) ?_
  refine iw_new (pc' := 8) (c1 := 1) (s1 := 6) hf ic_fk1 lik_X2_7 (ic_in 118 (by decide +kernel)) (ic_in 72 (by decide +kernel)) (by decide +kernel) (by decide +kernel) (fun w1 hf => ?_)
  refine iw_dup (pc' := 9) (ic_cat _ _) (by decide +kernel) ?_
  obtain ⟨w2, hc, hf⟩ := ic_bd hf
  refine iw_callIN (S1 := []) (w1 := w2) (pc' := 12) (c1 := 3) (s1 := 30) (ct_X1_init l κ w1 (w.1 + 1) hc) ⟨_, rfl⟩ mi_X1_init lim_X2_9 (ic_sum8 ⟨ic_cat _ _, ic_cat _ _, trivial⟩ (Nat.le_of_ble_eq_true rfl)) (by unfold ic_rm; decide +kernel) ?_
  obtain ⟨h3, hf⟩ := ic_lk_of hf
  refine iw_jputr (pc' := 15) hf ic_fk2 h3 lif_X2_10 ic_fitO (by decide +kernel) (fun w4 hf => ?_)
  exact iw_jret hf (by decide +kernel)
def MX0_init : ic_Md := (yX0_init, cX0_init, 1, none, { frames := 1, cells := 2, slots := 30, locals := 20 })
theorem mi_X0_init : ic_MI MX0_init := ⟨ic_in 206 (by decide +kernel), ic_in 76 (by decide +kernel), ic_in 207 (by decide +kernel), by decide +kernel, rfl, rfl⟩
theorem lif_X0_9 : Cond.fieldLink RX0 9 RX0 (TX0 0).2.1 (TX0 0).2.2.1 ∈ ic_tb := ic_in 209 (by decide +kernel)
theorem lif_X0_15 : Cond.fieldLink RX0 15 RX0 (TX0 1).2.1 (TX0 1).2.2.1 ∈ ic_tb := ic_in 210 (by decide +kernel)
def gX0_init (w : ic_S) (r0 : Nat) : Option ic_S := ic_lk w r0 (0, 0) (ic_nw w 1 15 (fun w1 => ic_lk w1 r0 (0, 0) (ic_jr w1 r0 0 (w.1 + 1) (fun w3 => ic_nw w3 1 15 (fun w4 => ic_lk w4 r0 (0, 0) (ic_jr w4 r0 1 (w3.1 + 1) (fun w6 => some w6)))))))
set_option maxRecDepth 100000 in
set_option maxHeartbeats 8000000 in
theorem ct_X0_init (l : Launch) (κ : ic_K) (w : ic_S) (r0 : Nat) {R : ic_S} (hf : gX0_init w r0 = some R) : ic_C l κ MX0_init [ic_rv κ.1 r0] w.1 w.2.1 w.2.2 none R.1 R.2.1 R.2.2 := by
  refine ic_C.of (L := [(0, ic_rv κ.1 r0)]) ⟨ic_cat _ _, trivial⟩ ⟨by decide +kernel, Nat.le_of_ble_eq_true rfl⟩ rfl ?_
  unfold gX0_init at hf
  obtain ⟨h0, hf⟩ := ic_lk_of hf
  have ho : ∃ a, r0 = a + 1 := h0.imp fun a h => h.1
  refine iw_aload_n (i := 0) (pc' := 1) 0 rfl (by decide +kernel) ?_
  refine iw_obj (i := 3) (r := r0) (pc' := 4) (ic_in 208 (by decide +kernel)) (ic_in 89 (by decide +kernel)) (ic_in 90 (by decide +kernel)) ho (ic_sum8 trivial (Nat.le_of_ble_eq_true rfl)) (by decide +kernel) ?_
  refine iw_aload_n (i := 0) (pc' := 5) 0 rfl (by decide +kernel) ?_
  refine iw_bipush (i := 15) (v := (15 : Int32)) (pc' := 7) (by decide +kernel) ?_
  refine iw_newi (pc' := 9) (c1 := 1) (s1 := 15) hf (ic_in 116 (by decide +kernel)) (by decide +kernel) (by decide +kernel) (fun w1 hf => ?_)
  obtain ⟨h2, hf⟩ := ic_lk_of hf
  refine iw_jputr (pc' := 12) hf ic_fk0 h2 lif_X0_9 ic_fitA (by decide +kernel) (fun w3 hf => ?_)
  refine iw_aload_n (i := 0) (pc' := 13) 0 rfl (by decide +kernel) ?_
  refine iw_bipush (i := 15) (v := (15 : Int32)) (pc' := 15) (by decide +kernel) ?_
  refine iw_newi (pc' := 17) (c1 := 2) (s1 := 30) hf (ic_in 116 (by decide +kernel)) (by decide +kernel) (by decide +kernel) (fun w4 hf => ?_)
  obtain ⟨h5, hf⟩ := ic_lk_of hf
  refine iw_jputr (pc' := 20) hf ic_fk0 h5 lif_X0_15 ic_fitA (by decide +kernel) (fun w6 hf => ?_)
  exact iw_jret hf (by decide +kernel)
def MX5_init : ic_Md := (yX5_init, cX5_init, 1, none, { frames := 1, cells := 5, slots := 48, locals := 20 })
theorem mi_X5_init : ic_MI MX5_init := ⟨ic_in 240 (by decide +kernel), ic_in 78 (by decide +kernel), ic_in 241 (by decide +kernel), by decide +kernel, rfl, rfl⟩
theorem lif_X5_9 : Cond.fieldLink RX5 9 RX5 (TX5 0).2.1 (TX5 0).2.2.1 ∈ ic_tb := ic_in 243 (by decide +kernel)
theorem lif_X5_15 : Cond.fieldLink RX5 15 RX5 (TX5 1).2.1 (TX5 1).2.2.1 ∈ ic_tb := ic_in 245 (by decide +kernel)
theorem lif_X5_18 : Cond.fieldLink RX5 18 RX5 (TX5 2).2.1 (TX5 2).2.2.1 ∈ ic_tb := ic_in 247 (by decide +kernel)
theorem lif_X5_21 : Cond.fieldLink RX5 21 RX5 (TX5 3).2.1 (TX5 3).2.2.1 ∈ ic_tb := ic_in 249 (by decide +kernel)
theorem lif_X5_24 : Cond.fieldLink RX5 24 RX5 (TX5 4).2.1 (TX5 4).2.2.1 ∈ ic_tb := ic_in 250 (by decide +kernel)
def gX5_init (w : ic_S) (r0 : Nat) : Option ic_S := ic_lk w r0 (0, 5) (ic_nw w 1 18 (fun w1 => ic_lk w1 r0 (0, 5) (ic_jr w1 r0 0 (w.1 + 1) (fun w3 => ic_nw w3 1 6 (fun w4 => ic_lk w4 r0 (0, 5) (ic_jr w4 r0 1 (w3.1 + 1) (fun w6 => ic_nw w6 1 12 (fun w7 => ic_lk w7 r0 (0, 5) (ic_jr w7 r0 2 (w6.1 + 1) (fun w9 => ic_nw w9 1 6 (fun w10 => ic_lk w10 r0 (0, 5) (ic_jr w10 r0 3 (w9.1 + 1) (fun w12 => ic_nw w12 1 6 (fun w13 => ic_lk w13 r0 (0, 5) (ic_jr w13 r0 4 (w12.1 + 1) (fun w15 => some w15))))))))))))))))
set_option maxRecDepth 100000 in
set_option maxHeartbeats 8000000 in
theorem ct_X5_init (l : Launch) (κ : ic_K) (w : ic_S) (r0 : Nat) {R : ic_S} (hf : gX5_init w r0 = some R) : ic_C l κ MX5_init [ic_rv κ.1 r0] w.1 w.2.1 w.2.2 none R.1 R.2.1 R.2.2 := by
  refine ic_C.of (L := [(0, ic_rv κ.1 r0)]) ⟨ic_cat _ _, trivial⟩ ⟨by decide +kernel, Nat.le_of_ble_eq_true rfl⟩ rfl ?_
  unfold gX5_init at hf
  obtain ⟨h0, hf⟩ := ic_lk_of hf
  have ho : ∃ a, r0 = a + 1 := h0.imp fun a h => h.1
  refine iw_aload_n (i := 0) (pc' := 1) 0 rfl (by decide +kernel) ?_
  refine iw_obj (i := 3) (r := r0) (pc' := 4) (ic_in 242 (by decide +kernel)) (ic_in 89 (by decide +kernel)) (ic_in 90 (by decide +kernel)) ho (ic_sum8 trivial (Nat.le_of_ble_eq_true rfl)) (by decide +kernel) ?_
  refine iw_aload_n (i := 0) (pc' := 5) 0 rfl (by decide +kernel) ?_
  refine iw_bipush (i := 18) (v := (18 : Int32)) (pc' := 7) (by decide +kernel) ?_
  refine iw_newi (pc' := 9) (c1 := 1) (s1 := 18) hf (ic_in 116 (by decide +kernel)) (by decide +kernel) (by decide +kernel) (fun w1 hf => ?_)
  obtain ⟨h2, hf⟩ := ic_lk_of hf
  refine iw_jputr (pc' := 12) hf ic_fk5 h2 lif_X5_9 ic_fitA (by decide +kernel) (fun w3 hf => ?_)
  refine iw_aload_n (i := 0) (pc' := 13) 0 rfl (by decide +kernel) ?_
  refine iw_bipush (i := 6) (v := (6 : Int32)) (pc' := 15) (by decide +kernel) ?_
  refine iw_newi (pc' := 17) (c1 := 2) (s1 := 24) hf (ic_in 116 (by decide +kernel)) (by decide +kernel) (by decide +kernel) (fun w4 hf => ?_)
  obtain ⟨h5, hf⟩ := ic_lk_of hf
  refine iw_jputr (pc' := 20) hf ic_fk5 h5 lif_X5_15 ic_fitA (by decide +kernel) (fun w6 hf => ?_)
  refine iw_aload_n (i := 0) (pc' := 21) 0 rfl (by decide +kernel) ?_
  refine iw_bipush (i := 12) (v := (12 : Int32)) (pc' := 23) (by decide +kernel) ?_
  refine iw_newi (pc' := 25) (c1 := 3) (s1 := 36) hf (ic_in 116 (by decide +kernel)) (by decide +kernel) (by decide +kernel) (fun w7 hf => ?_)
  obtain ⟨h8, hf⟩ := ic_lk_of hf
  refine iw_jputr (pc' := 28) hf ic_fk5 h8 lif_X5_18 ic_fitA (by decide +kernel) (fun w9 hf => ?_)
  refine iw_aload_n (i := 0) (pc' := 29) 0 rfl (by decide +kernel) ?_
  refine iw_bipush (i := 6) (v := (6 : Int32)) (pc' := 31) (by decide +kernel) ?_
  refine iw_newi (pc' := 33) (c1 := 4) (s1 := 42) hf (ic_in 116 (by decide +kernel)) (by decide +kernel) (by decide +kernel) (fun w10 hf => ?_)
  obtain ⟨h11, hf⟩ := ic_lk_of hf
  refine iw_jputr (pc' := 36) hf ic_fk5 h11 lif_X5_21 ic_fitA (by decide +kernel) (fun w12 hf => ?_)
  refine iw_aload_n (i := 0) (pc' := 37) 0 rfl (by decide +kernel) ?_
  refine iw_bipush (i := 6) (v := (6 : Int32)) (pc' := 39) (by decide +kernel) ?_
  refine iw_newi (pc' := 41) (c1 := 5) (s1 := 48) hf (ic_in 116 (by decide +kernel)) (by decide +kernel) (by decide +kernel) (fun w13 hf => ?_)
  obtain ⟨h14, hf⟩ := ic_lk_of hf
  refine iw_jputr (pc' := 44) hf ic_fk5 h14 lif_X5_24 ic_fitA (by decide +kernel) (fun w15 hf => ?_)
  exact iw_jret hf (by decide +kernel)
def MX6_init : ic_Md := (yX6_init, cX6_init, 1, none, { frames := 1, cells := 4, slots := 140, locals := 20 })
theorem mi_X6_init : ic_MI MX6_init := ⟨ic_in 182 (by decide +kernel), ic_in 75 (by decide +kernel), ic_in 183 (by decide +kernel), by decide +kernel, rfl, rfl⟩
theorem lif_X6_9 : Cond.fieldLink RX6 9 RX6 (TX6 0).2.1 (TX6 0).2.2.1 ∈ ic_tb := ic_in 185 (by decide +kernel)
theorem lif_X6_15 : Cond.fieldLink RX6 15 RX6 (TX6 1).2.1 (TX6 1).2.2.1 ∈ ic_tb := ic_in 186 (by decide +kernel)
theorem lif_X6_19 : Cond.fieldLink RX6 19 RX6 (TX6 2).2.1 (TX6 2).2.2.1 ∈ ic_tb := ic_in 187 (by decide +kernel)
theorem lif_X6_22 : Cond.fieldLink RX6 22 RX6 (TX6 3).2.1 (TX6 3).2.2.1 ∈ ic_tb := ic_in 188 (by decide +kernel)
def gX6_init (w : ic_S) (r0 : Nat) : Option ic_S := ic_lk w r0 (0, 6) (ic_nw w 1 6 (fun w1 => ic_lk w1 r0 (0, 6) (ic_jr w1 r0 0 (w.1 + 1) (fun w3 => ic_nw w3 2 6 (fun w4 => ic_lk w4 r0 (0, 6) (ic_jr w4 r0 1 (w3.1 + 1) (fun w6 => ic_nw w6 1 64 (fun w7 => ic_lk w7 r0 (0, 6) (ic_jr w7 r0 2 (w6.1 + 1) (fun w9 => ic_nw w9 1 64 (fun w10 => ic_lk w10 r0 (0, 6) (ic_jr w10 r0 3 (w9.1 + 1) (fun w12 => some w12)))))))))))))
set_option maxRecDepth 100000 in
set_option maxHeartbeats 8000000 in
theorem ct_X6_init (l : Launch) (κ : ic_K) (w : ic_S) (r0 : Nat) {R : ic_S} (hf : gX6_init w r0 = some R) : ic_C l κ MX6_init [ic_rv κ.1 r0] w.1 w.2.1 w.2.2 none R.1 R.2.1 R.2.2 := by
  refine ic_C.of (L := [(0, ic_rv κ.1 r0)]) ⟨ic_cat _ _, trivial⟩ ⟨by decide +kernel, Nat.le_of_ble_eq_true rfl⟩ rfl ?_
  unfold gX6_init at hf
  obtain ⟨h0, hf⟩ := ic_lk_of hf
  have ho : ∃ a, r0 = a + 1 := h0.imp fun a h => h.1
  refine iw_aload_n (i := 0) (pc' := 1) 0 rfl (by decide +kernel) ?_
  refine iw_obj (i := 3) (r := r0) (pc' := 4) (ic_in 184 (by decide +kernel)) (ic_in 89 (by decide +kernel)) (ic_in 90 (by decide +kernel)) ho (ic_sum8 trivial (Nat.le_of_ble_eq_true rfl)) (by decide +kernel) ?_
  refine iw_aload_n (i := 0) (pc' := 5) 0 rfl (by decide +kernel) ?_
  refine iw_bipush (i := 6) (v := (6 : Int32)) (pc' := 7) (by decide +kernel) ?_
  refine iw_newi (pc' := 9) (c1 := 1) (s1 := 6) hf (ic_in 116 (by decide +kernel)) (by decide +kernel) (by decide +kernel) (fun w1 hf => ?_)
  obtain ⟨h2, hf⟩ := ic_lk_of hf
  refine iw_jputr (pc' := 12) hf ic_fk6 h2 lif_X6_9 ic_fitA (by decide +kernel) (fun w3 hf => ?_)
  refine iw_aload_n (i := 0) (pc' := 13) 0 rfl (by decide +kernel) ?_
  refine iw_bipush (i := 6) (v := (6 : Int32)) (pc' := 15) (by decide +kernel) ?_
  refine iw_newz (pc' := 17) (c1 := 2) (s1 := 12) hf (ic_in 202 (by decide +kernel)) (by decide +kernel) (by decide +kernel) (fun w4 hf => ?_)
  obtain ⟨h5, hf⟩ := ic_lk_of hf
  refine iw_jputr (pc' := 20) hf ic_fk6 h5 lif_X6_15 ic_fitA (by decide +kernel) (fun w6 hf => ?_)
  refine iw_aload_n (i := 0) (pc' := 21) 0 rfl (by decide +kernel) ?_
  refine iw_bipush (i := 64) (v := (64 : Int32)) (pc' := 23) (by decide +kernel) ?_
  refine iw_newi (pc' := 25) (c1 := 3) (s1 := 76) hf (ic_in 116 (by decide +kernel)) (by decide +kernel) (by decide +kernel) (fun w7 hf => ?_)
  obtain ⟨h8, hf⟩ := ic_lk_of hf
  refine iw_jputr (pc' := 28) hf ic_fk6 h8 lif_X6_19 ic_fitA (by decide +kernel) (fun w9 hf => ?_)
  refine iw_aload_n (i := 0) (pc' := 29) 0 rfl (by decide +kernel) ?_
  refine iw_bipush (i := 64) (v := (64 : Int32)) (pc' := 31) (by decide +kernel) ?_
  refine iw_newi (pc' := 33) (c1 := 4) (s1 := 140) hf (ic_in 116 (by decide +kernel)) (by decide +kernel) (by decide +kernel) (fun w10 hf => ?_)
  obtain ⟨h11, hf⟩ := ic_lk_of hf
  refine iw_jputr (pc' := 36) hf ic_fk6 h11 lif_X6_22 ic_fitA (by decide +kernel) (fun w12 hf => ?_)
  exact iw_jret hf (by decide +kernel)
def MX7_init : ic_Md := (yX7_init, cX7_init, 1, none, { frames := 2, cells := 3, slots := 30, locals := 40 })
theorem mi_X7_init : ic_MI MX7_init := ⟨ic_in 170 (by decide +kernel), ic_in 74 (by decide +kernel), ic_in 171 (by decide +kernel), by decide +kernel, rfl, rfl⟩
theorem lik_X7_9 : Cond.classLink RX7 9 RX1 ∈ ic_tb := ic_in 173 (by decide +kernel)
theorem lim_X7_11 : Cond.methodLinkNest RX7 11 yX1_init "IceLaw" ∈ ic_tb := ic_in 174 (by decide +kernel)
theorem lif_X7_12 : Cond.fieldLink RX7 12 RX7 (TX7 0).2.1 (TX7 0).2.2.1 ∈ ic_tb := ic_in 175 (by decide +kernel)
def gX7_init (w : ic_S) (r0 : Nat) : Option ic_S := ic_lk w r0 (0, 7) (ic_nw w 0 1 (fun w1 => Option.bind (gX1_init w1 (w.1 + 1)) (fun w2 => ic_lk w2 r0 (0, 7) (ic_jr w2 r0 0 (w.1 + 1) (fun w4 => some w4)))))
set_option maxRecDepth 100000 in
set_option maxHeartbeats 8000000 in
theorem ct_X7_init (l : Launch) (κ : ic_K) (w : ic_S) (r0 : Nat) {R : ic_S} (hf : gX7_init w r0 = some R) : ic_C l κ MX7_init [ic_rv κ.1 r0] w.1 w.2.1 w.2.2 none R.1 R.2.1 R.2.2 := by
  refine ic_C.of (L := [(0, ic_rv κ.1 r0)]) ⟨ic_cat _ _, trivial⟩ ⟨by decide +kernel, Nat.le_of_ble_eq_true rfl⟩ rfl ?_
  unfold gX7_init at hf
  obtain ⟨h0, hf⟩ := ic_lk_of hf
  have ho : ∃ a, r0 = a + 1 := h0.imp fun a h => h.1
  refine iw_aload_n (i := 0) (pc' := 1) 0 rfl (by decide +kernel) ?_
  refine iw_obj (i := 3) (r := r0) (pc' := 4) (ic_in 172 (by decide +kernel)) (ic_in 89 (by decide +kernel)) (ic_in 90 (by decide +kernel)) ho (ic_sum8 trivial (Nat.le_of_ble_eq_true rfl)) (by decide +kernel) ?_
  refine iw_aload_n (i := 0) (pc' := 5) 0 rfl (by decide +kernel) ?_
  refine iw_new (pc' := 8) (c1 := 1) (s1 := 6) hf ic_fk1 lik_X7_9 (ic_in 118 (by decide +kernel)) (ic_in 72 (by decide +kernel)) (by decide +kernel) (by decide +kernel) (fun w1 hf => ?_)
  refine iw_dup (pc' := 9) (ic_cat _ _) (by decide +kernel) ?_
  obtain ⟨w2, hc, hf⟩ := ic_bd hf
  refine iw_callIN (S1 := []) (w1 := w2) (pc' := 12) (c1 := 3) (s1 := 30) (ct_X1_init l κ w1 (w.1 + 1) hc) ⟨_, rfl⟩ mi_X1_init lim_X7_11 (ic_sum8 ⟨ic_cat _ _, ic_cat _ _, trivial⟩ (Nat.le_of_ble_eq_true rfl)) (by unfold ic_rm; decide +kernel) ?_
  obtain ⟨h3, hf⟩ := ic_lk_of hf
  refine iw_jputr (pc' := 15) hf ic_fk7 h3 lif_X7_12 ic_fitO (by decide +kernel) (fun w4 hf => ?_)
  exact iw_jret hf (by decide +kernel)
def MX3_init : ic_Md := (yX3_init, cX3_init, 2, none, { frames := 2, cells := 49, slots := 496, locals := 40 })
theorem mi_X3_init : ic_MI MX3_init := ⟨ic_in 150 (by decide +kernel), ic_in 73 (by decide +kernel), ic_in 151 (by decide +kernel), by decide +kernel, rfl, rfl⟩
theorem lik_X3_9 : Cond.classLink RX3 9 RX1 ∈ ic_tb := ic_in 153 (by decide +kernel)
theorem lif_X3_11 : Cond.fieldLink RX3 11 RX3 (TX3 0).2.1 (TX3 0).2.2.1 ∈ ic_tb := ic_in 156 (by decide +kernel)
theorem lim_X3_17 : Cond.methodLinkNest RX3 17 yX1_init "IceLaw" ∈ ic_tb := ic_in 155 (by decide +kernel)
def gX3_init (w : ic_S) (r0 : Nat) : Option ic_S := ic_lk w r0 (0, 3) (ic_nw w 3 16 (fun w1 => ic_lk w1 r0 (0, 3) (ic_jr w1 r0 0 (w.1 + 1) (fun w3 => ic_lk w3 r0 (0, 3) (ic_lk w3 (w3.2.1 r0 0) (3, 16) (ic_lk w3 r0 (0, 3) (ic_nw w3 0 1 (fun w7 => Option.bind (gX1_init w7 (w3.1 + 1)) (fun w8 => ic_lk w8 (w3.2.1 r0 0) (3, 16) (ic_lk w8 (w3.1 + 1) (0, 1) (ic_jr w8 (w3.2.1 r0 0) (Int32.toNatClampNeg (0 : Int32)) (w3.1 + 1) (fun w11 => ic_lk w11 r0 (0, 3) (ic_lk w11 (w11.2.1 r0 0) (3, 16) (ic_lk w11 r0 (0, 3) (ic_nw w11 0 1 (fun w15 => Option.bind (gX1_init w15 (w11.1 + 1)) (fun w16 => ic_lk w16 (w11.2.1 r0 0) (3, 16) (ic_lk w16 (w11.1 + 1) (0, 1) (ic_jr w16 (w11.2.1 r0 0) (Int32.toNatClampNeg (1 : Int32)) (w11.1 + 1) (fun w19 => ic_lk w19 r0 (0, 3) (ic_lk w19 (w19.2.1 r0 0) (3, 16) (ic_lk w19 r0 (0, 3) (ic_nw w19 0 1 (fun w23 => Option.bind (gX1_init w23 (w19.1 + 1)) (fun w24 => ic_lk w24 (w19.2.1 r0 0) (3, 16) (ic_lk w24 (w19.1 + 1) (0, 1) (ic_jr w24 (w19.2.1 r0 0) (Int32.toNatClampNeg (2 : Int32)) (w19.1 + 1) (fun w27 => ic_lk w27 r0 (0, 3) (ic_lk w27 (w27.2.1 r0 0) (3, 16) (ic_lk w27 r0 (0, 3) (ic_nw w27 0 1 (fun w31 => Option.bind (gX1_init w31 (w27.1 + 1)) (fun w32 => ic_lk w32 (w27.2.1 r0 0) (3, 16) (ic_lk w32 (w27.1 + 1) (0, 1) (ic_jr w32 (w27.2.1 r0 0) (Int32.toNatClampNeg (3 : Int32)) (w27.1 + 1) (fun w35 => ic_lk w35 r0 (0, 3) (ic_lk w35 (w35.2.1 r0 0) (3, 16) (ic_lk w35 r0 (0, 3) (ic_nw w35 0 1 (fun w39 => Option.bind (gX1_init w39 (w35.1 + 1)) (fun w40 => ic_lk w40 (w35.2.1 r0 0) (3, 16) (ic_lk w40 (w35.1 + 1) (0, 1) (ic_jr w40 (w35.2.1 r0 0) (Int32.toNatClampNeg (4 : Int32)) (w35.1 + 1) (fun w43 => ic_lk w43 r0 (0, 3) (ic_lk w43 (w43.2.1 r0 0) (3, 16) (ic_lk w43 r0 (0, 3) (ic_nw w43 0 1 (fun w47 => Option.bind (gX1_init w47 (w43.1 + 1)) (fun w48 => ic_lk w48 (w43.2.1 r0 0) (3, 16) (ic_lk w48 (w43.1 + 1) (0, 1) (ic_jr w48 (w43.2.1 r0 0) (Int32.toNatClampNeg (5 : Int32)) (w43.1 + 1) (fun w51 => ic_lk w51 r0 (0, 3) (ic_lk w51 (w51.2.1 r0 0) (3, 16) (ic_lk w51 r0 (0, 3) (ic_nw w51 0 1 (fun w55 => Option.bind (gX1_init w55 (w51.1 + 1)) (fun w56 => ic_lk w56 (w51.2.1 r0 0) (3, 16) (ic_lk w56 (w51.1 + 1) (0, 1) (ic_jr w56 (w51.2.1 r0 0) (Int32.toNatClampNeg (6 : Int32)) (w51.1 + 1) (fun w59 => ic_lk w59 r0 (0, 3) (ic_lk w59 (w59.2.1 r0 0) (3, 16) (ic_lk w59 r0 (0, 3) (ic_nw w59 0 1 (fun w63 => Option.bind (gX1_init w63 (w59.1 + 1)) (fun w64 => ic_lk w64 (w59.2.1 r0 0) (3, 16) (ic_lk w64 (w59.1 + 1) (0, 1) (ic_jr w64 (w59.2.1 r0 0) (Int32.toNatClampNeg (7 : Int32)) (w59.1 + 1) (fun w67 => ic_lk w67 r0 (0, 3) (ic_lk w67 (w67.2.1 r0 0) (3, 16) (ic_lk w67 r0 (0, 3) (ic_nw w67 0 1 (fun w71 => Option.bind (gX1_init w71 (w67.1 + 1)) (fun w72 => ic_lk w72 (w67.2.1 r0 0) (3, 16) (ic_lk w72 (w67.1 + 1) (0, 1) (ic_jr w72 (w67.2.1 r0 0) (Int32.toNatClampNeg (8 : Int32)) (w67.1 + 1) (fun w75 => ic_lk w75 r0 (0, 3) (ic_lk w75 (w75.2.1 r0 0) (3, 16) (ic_lk w75 r0 (0, 3) (ic_nw w75 0 1 (fun w79 => Option.bind (gX1_init w79 (w75.1 + 1)) (fun w80 => ic_lk w80 (w75.2.1 r0 0) (3, 16) (ic_lk w80 (w75.1 + 1) (0, 1) (ic_jr w80 (w75.2.1 r0 0) (Int32.toNatClampNeg (9 : Int32)) (w75.1 + 1) (fun w83 => ic_lk w83 r0 (0, 3) (ic_lk w83 (w83.2.1 r0 0) (3, 16) (ic_lk w83 r0 (0, 3) (ic_nw w83 0 1 (fun w87 => Option.bind (gX1_init w87 (w83.1 + 1)) (fun w88 => ic_lk w88 (w83.2.1 r0 0) (3, 16) (ic_lk w88 (w83.1 + 1) (0, 1) (ic_jr w88 (w83.2.1 r0 0) (Int32.toNatClampNeg (10 : Int32)) (w83.1 + 1) (fun w91 => ic_lk w91 r0 (0, 3) (ic_lk w91 (w91.2.1 r0 0) (3, 16) (ic_lk w91 r0 (0, 3) (ic_nw w91 0 1 (fun w95 => Option.bind (gX1_init w95 (w91.1 + 1)) (fun w96 => ic_lk w96 (w91.2.1 r0 0) (3, 16) (ic_lk w96 (w91.1 + 1) (0, 1) (ic_jr w96 (w91.2.1 r0 0) (Int32.toNatClampNeg (11 : Int32)) (w91.1 + 1) (fun w99 => ic_lk w99 r0 (0, 3) (ic_lk w99 (w99.2.1 r0 0) (3, 16) (ic_lk w99 r0 (0, 3) (ic_nw w99 0 1 (fun w103 => Option.bind (gX1_init w103 (w99.1 + 1)) (fun w104 => ic_lk w104 (w99.2.1 r0 0) (3, 16) (ic_lk w104 (w99.1 + 1) (0, 1) (ic_jr w104 (w99.2.1 r0 0) (Int32.toNatClampNeg (12 : Int32)) (w99.1 + 1) (fun w107 => ic_lk w107 r0 (0, 3) (ic_lk w107 (w107.2.1 r0 0) (3, 16) (ic_lk w107 r0 (0, 3) (ic_nw w107 0 1 (fun w111 => Option.bind (gX1_init w111 (w107.1 + 1)) (fun w112 => ic_lk w112 (w107.2.1 r0 0) (3, 16) (ic_lk w112 (w107.1 + 1) (0, 1) (ic_jr w112 (w107.2.1 r0 0) (Int32.toNatClampNeg (13 : Int32)) (w107.1 + 1) (fun w115 => ic_lk w115 r0 (0, 3) (ic_lk w115 (w115.2.1 r0 0) (3, 16) (ic_lk w115 r0 (0, 3) (ic_nw w115 0 1 (fun w119 => Option.bind (gX1_init w119 (w115.1 + 1)) (fun w120 => ic_lk w120 (w115.2.1 r0 0) (3, 16) (ic_lk w120 (w115.1 + 1) (0, 1) (ic_jr w120 (w115.2.1 r0 0) (Int32.toNatClampNeg (14 : Int32)) (w115.1 + 1) (fun w123 => ic_lk w123 r0 (0, 3) (ic_lk w123 (w123.2.1 r0 0) (3, 16) (ic_lk w123 r0 (0, 3) (ic_nw w123 0 1 (fun w127 => Option.bind (gX1_init w127 (w123.1 + 1)) (fun w128 => ic_lk w128 (w123.2.1 r0 0) (3, 16) (ic_lk w128 (w123.1 + 1) (0, 1) (ic_jr w128 (w123.2.1 r0 0) (Int32.toNatClampNeg (15 : Int32)) (w123.1 + 1) (fun w131 => ic_lk w131 r0 (0, 3) (ic_lk w131 (w131.2.1 r0 0) (3, 16) (some w131))))))))))))))))))))))))))))))))))))))))))))))))))))))))))))))))))))))))))))))))))))))))))))))))))))))))))))))))))))))))))))))))))))))
set_option maxRecDepth 100000 in
set_option maxHeartbeats 8000000 in
theorem ct_X3_init (l : Launch) (κ : ic_K) (w : ic_S) (r0 : Nat) {R : ic_S} (hf : gX3_init w r0 = some R) : ic_C l κ MX3_init [ic_rv κ.1 r0] w.1 w.2.1 w.2.2 none R.1 R.2.1 R.2.2 := by
  refine ic_C.of (L := [(0, ic_rv κ.1 r0)]) ⟨ic_cat _ _, trivial⟩ ⟨by decide +kernel, Nat.le_of_ble_eq_true rfl⟩ rfl ?_
  unfold gX3_init at hf
  obtain ⟨h0, hf⟩ := ic_lk_of hf
  have ho : ∃ a, r0 = a + 1 := h0.imp fun a h => h.1
  refine iw_aload_n (i := 0) (pc' := 1) 0 rfl (by decide +kernel) ?_
  refine iw_obj (i := 3) (r := r0) (pc' := 4) (ic_in 152 (by decide +kernel)) (ic_in 89 (by decide +kernel)) (ic_in 90 (by decide +kernel)) ho (ic_sum8 trivial (Nat.le_of_ble_eq_true rfl)) (by decide +kernel) ?_
  refine iw_aload_n (i := 0) (pc' := 5) 0 rfl (by decide +kernel) ?_
  refine iw_bipush (i := 16) (v := (16 : Int32)) (pc' := 7) (by decide +kernel) ?_
  refine iw_newq (pc' := 10) (c1 := 1) (s1 := 16) (C := RX1) (by decide) hf lik_X3_9 (ic_in 154 (by decide +kernel)) (by decide +kernel) (by decide +kernel) (fun w1 hf => ?_)
  obtain ⟨h2, hf⟩ := ic_lk_of hf
  refine iw_jputr (pc' := 13) hf ic_fk3 h2 lif_X3_11 ic_fitA (by decide +kernel) (fun w3 hf => ?_)
  refine iw_iconst (i := 0) (v := (0 : Int32)) (pc' := 14) (by decide +kernel) ?_
  refine iw_istore_n0 (i := 1) (pc' := 15) (L' := [(0, ic_rv κ.1 r0), (1, .int (0 : Int32))]) rfl (by decide +kernel) ?_
  refine iw_iload_n (i := 1) (pc' := 16) 1 rfl (by decide +kernel) ?_
  refine iw_aload_n (i := 0) (pc' := 17) 0 rfl (by decide +kernel) ?_
  obtain ⟨h4, hf⟩ := ic_lk_of hf
  refine iw_getr (pc' := 20) (q := (w3.2.1 r0 0)) ic_fk3 h4 rfl lif_X3_11 (by decide +kernel) ?_
  obtain ⟨h5, hf⟩ := ic_lk_of hf
  refine iw_qlen (pc' := 21) (t := 2) (N := 16) (v := (16 : Int32)) (h5.imp fun a h => ⟨h.1, h.2.1, Or.inl ⟨rfl, h.2.2⟩⟩) rfl (by decide +kernel) ?_
  refine iw_geF (off := 22) (tg := 43) (pc' := 24) (by decide) (by decide +kernel) ?_
  refine iw_aload_n (i := 0) (pc' := 25) 0 rfl (by decide +kernel) ?_
  obtain ⟨h6, hf⟩ := ic_lk_of hf
  refine iw_getr (pc' := 28) (q := (w3.2.1 r0 0)) ic_fk3 h6 rfl lif_X3_11 (by decide +kernel) ?_
  refine iw_iload_n (i := 1) (pc' := 29) 1 rfl (by decide +kernel) ?_
  refine iw_new (pc' := 32) (c1 := 2) (s1 := 22) hf ic_fk1 lik_X3_9 (ic_in 118 (by decide +kernel)) (ic_in 72 (by decide +kernel)) (by decide +kernel) (by decide +kernel) (fun w7 hf => ?_)
  refine iw_dup (pc' := 33) (ic_cat _ _) (by decide +kernel) ?_
  obtain ⟨w8, hc, hf⟩ := ic_bd hf
  refine iw_callIN (S1 := []) (w1 := w8) (pc' := 36) (c1 := 4) (s1 := 46) (ct_X1_init l κ w7 (w3.1 + 1) hc) ⟨_, rfl⟩ mi_X1_init lim_X3_17 (ic_sum8 ⟨ic_cat _ _, rfl, ic_cat _ _, trivial⟩ (Nat.le_of_ble_eq_true rfl)) (by unfold ic_rm; decide +kernel) ?_
  obtain ⟨h9, hf⟩ := ic_lk_of hf
  obtain ⟨h10, hf⟩ := ic_lk_of hf
  refine iw_aast (pc' := 37) (t := 3) (ci := 1) (by decide) hf h9 h10 (by decide) (by decide +kernel) (fun w11 hf => ?_)
  refine iw_iinc0 (i := 1) (d := 1) (pc' := 40) (v := (1 : Int32)) (y := (1 : Int32)) (L' := [(0, ic_rv κ.1 r0), (1, .int (1 : Int32))]) 1 rfl (by decide) rfl (by decide +kernel) ?_
  refine iw_goto (off := (-25)) (pc' := 15) (by decide +kernel) ?_
  refine iw_iload_n (i := 1) (pc' := 16) 1 rfl (by decide +kernel) ?_
  refine iw_aload_n (i := 0) (pc' := 17) 0 rfl (by decide +kernel) ?_
  obtain ⟨h12, hf⟩ := ic_lk_of hf
  refine iw_getr (pc' := 20) (q := (w11.2.1 r0 0)) ic_fk3 h12 rfl lif_X3_11 (by decide +kernel) ?_
  obtain ⟨h13, hf⟩ := ic_lk_of hf
  refine iw_qlen (pc' := 21) (t := 2) (N := 16) (v := (16 : Int32)) (h13.imp fun a h => ⟨h.1, h.2.1, Or.inl ⟨rfl, h.2.2⟩⟩) rfl (by decide +kernel) ?_
  refine iw_geF (off := 22) (tg := 43) (pc' := 24) (by decide) (by decide +kernel) ?_
  refine iw_aload_n (i := 0) (pc' := 25) 0 rfl (by decide +kernel) ?_
  obtain ⟨h14, hf⟩ := ic_lk_of hf
  refine iw_getr (pc' := 28) (q := (w11.2.1 r0 0)) ic_fk3 h14 rfl lif_X3_11 (by decide +kernel) ?_
  refine iw_iload_n (i := 1) (pc' := 29) 1 rfl (by decide +kernel) ?_
  refine iw_new (pc' := 32) (c1 := 5) (s1 := 52) hf ic_fk1 lik_X3_9 (ic_in 118 (by decide +kernel)) (ic_in 72 (by decide +kernel)) (by decide +kernel) (by decide +kernel) (fun w15 hf => ?_)
  refine iw_dup (pc' := 33) (ic_cat _ _) (by decide +kernel) ?_
  obtain ⟨w16, hc, hf⟩ := ic_bd hf
  refine iw_callIN (S1 := []) (w1 := w16) (pc' := 36) (c1 := 7) (s1 := 76) (ct_X1_init l κ w15 (w11.1 + 1) hc) ⟨_, rfl⟩ mi_X1_init lim_X3_17 (ic_sum8 ⟨ic_cat _ _, rfl, ic_cat _ _, trivial⟩ (Nat.le_of_ble_eq_true rfl)) (by unfold ic_rm; decide +kernel) ?_
  obtain ⟨h17, hf⟩ := ic_lk_of hf
  obtain ⟨h18, hf⟩ := ic_lk_of hf
  refine iw_aast (pc' := 37) (t := 3) (ci := 1) (by decide) hf h17 h18 (by decide) (by decide +kernel) (fun w19 hf => ?_)
  refine iw_iinc0 (i := 1) (d := 1) (pc' := 40) (v := (1 : Int32)) (y := (2 : Int32)) (L' := [(0, ic_rv κ.1 r0), (1, .int (2 : Int32))]) 1 rfl (by decide) rfl (by decide +kernel) ?_
  refine iw_goto (off := (-25)) (pc' := 15) (by decide +kernel) ?_
  refine iw_iload_n (i := 1) (pc' := 16) 1 rfl (by decide +kernel) ?_
  refine iw_aload_n (i := 0) (pc' := 17) 0 rfl (by decide +kernel) ?_
  obtain ⟨h20, hf⟩ := ic_lk_of hf
  refine iw_getr (pc' := 20) (q := (w19.2.1 r0 0)) ic_fk3 h20 rfl lif_X3_11 (by decide +kernel) ?_
  obtain ⟨h21, hf⟩ := ic_lk_of hf
  refine iw_qlen (pc' := 21) (t := 2) (N := 16) (v := (16 : Int32)) (h21.imp fun a h => ⟨h.1, h.2.1, Or.inl ⟨rfl, h.2.2⟩⟩) rfl (by decide +kernel) ?_
  refine iw_geF (off := 22) (tg := 43) (pc' := 24) (by decide) (by decide +kernel) ?_
  refine iw_aload_n (i := 0) (pc' := 25) 0 rfl (by decide +kernel) ?_
  obtain ⟨h22, hf⟩ := ic_lk_of hf
  refine iw_getr (pc' := 28) (q := (w19.2.1 r0 0)) ic_fk3 h22 rfl lif_X3_11 (by decide +kernel) ?_
  refine iw_iload_n (i := 1) (pc' := 29) 1 rfl (by decide +kernel) ?_
  refine iw_new (pc' := 32) (c1 := 8) (s1 := 82) hf ic_fk1 lik_X3_9 (ic_in 118 (by decide +kernel)) (ic_in 72 (by decide +kernel)) (by decide +kernel) (by decide +kernel) (fun w23 hf => ?_)
  refine iw_dup (pc' := 33) (ic_cat _ _) (by decide +kernel) ?_
  obtain ⟨w24, hc, hf⟩ := ic_bd hf
  refine iw_callIN (S1 := []) (w1 := w24) (pc' := 36) (c1 := 10) (s1 := 106) (ct_X1_init l κ w23 (w19.1 + 1) hc) ⟨_, rfl⟩ mi_X1_init lim_X3_17 (ic_sum8 ⟨ic_cat _ _, rfl, ic_cat _ _, trivial⟩ (Nat.le_of_ble_eq_true rfl)) (by unfold ic_rm; decide +kernel) ?_
  obtain ⟨h25, hf⟩ := ic_lk_of hf
  obtain ⟨h26, hf⟩ := ic_lk_of hf
  refine iw_aast (pc' := 37) (t := 3) (ci := 1) (by decide) hf h25 h26 (by decide) (by decide +kernel) (fun w27 hf => ?_)
  refine iw_iinc0 (i := 1) (d := 1) (pc' := 40) (v := (1 : Int32)) (y := (3 : Int32)) (L' := [(0, ic_rv κ.1 r0), (1, .int (3 : Int32))]) 1 rfl (by decide) rfl (by decide +kernel) ?_
  refine iw_goto (off := (-25)) (pc' := 15) (by decide +kernel) ?_
  refine iw_iload_n (i := 1) (pc' := 16) 1 rfl (by decide +kernel) ?_
  refine iw_aload_n (i := 0) (pc' := 17) 0 rfl (by decide +kernel) ?_
  obtain ⟨h28, hf⟩ := ic_lk_of hf
  refine iw_getr (pc' := 20) (q := (w27.2.1 r0 0)) ic_fk3 h28 rfl lif_X3_11 (by decide +kernel) ?_
  obtain ⟨h29, hf⟩ := ic_lk_of hf
  refine iw_qlen (pc' := 21) (t := 2) (N := 16) (v := (16 : Int32)) (h29.imp fun a h => ⟨h.1, h.2.1, Or.inl ⟨rfl, h.2.2⟩⟩) rfl (by decide +kernel) ?_
  refine iw_geF (off := 22) (tg := 43) (pc' := 24) (by decide) (by decide +kernel) ?_
  refine iw_aload_n (i := 0) (pc' := 25) 0 rfl (by decide +kernel) ?_
  obtain ⟨h30, hf⟩ := ic_lk_of hf
  refine iw_getr (pc' := 28) (q := (w27.2.1 r0 0)) ic_fk3 h30 rfl lif_X3_11 (by decide +kernel) ?_
  refine iw_iload_n (i := 1) (pc' := 29) 1 rfl (by decide +kernel) ?_
  refine iw_new (pc' := 32) (c1 := 11) (s1 := 112) hf ic_fk1 lik_X3_9 (ic_in 118 (by decide +kernel)) (ic_in 72 (by decide +kernel)) (by decide +kernel) (by decide +kernel) (fun w31 hf => ?_)
  refine iw_dup (pc' := 33) (ic_cat _ _) (by decide +kernel) ?_
  obtain ⟨w32, hc, hf⟩ := ic_bd hf
  refine iw_callIN (S1 := []) (w1 := w32) (pc' := 36) (c1 := 13) (s1 := 136) (ct_X1_init l κ w31 (w27.1 + 1) hc) ⟨_, rfl⟩ mi_X1_init lim_X3_17 (ic_sum8 ⟨ic_cat _ _, rfl, ic_cat _ _, trivial⟩ (Nat.le_of_ble_eq_true rfl)) (by unfold ic_rm; decide +kernel) ?_
  obtain ⟨h33, hf⟩ := ic_lk_of hf
  obtain ⟨h34, hf⟩ := ic_lk_of hf
  refine iw_aast (pc' := 37) (t := 3) (ci := 1) (by decide) hf h33 h34 (by decide) (by decide +kernel) (fun w35 hf => ?_)
  refine iw_iinc0 (i := 1) (d := 1) (pc' := 40) (v := (1 : Int32)) (y := (4 : Int32)) (L' := [(0, ic_rv κ.1 r0), (1, .int (4 : Int32))]) 1 rfl (by decide) rfl (by decide +kernel) ?_
  refine iw_goto (off := (-25)) (pc' := 15) (by decide +kernel) ?_
  refine iw_iload_n (i := 1) (pc' := 16) 1 rfl (by decide +kernel) ?_
  refine iw_aload_n (i := 0) (pc' := 17) 0 rfl (by decide +kernel) ?_
  obtain ⟨h36, hf⟩ := ic_lk_of hf
  refine iw_getr (pc' := 20) (q := (w35.2.1 r0 0)) ic_fk3 h36 rfl lif_X3_11 (by decide +kernel) ?_
  obtain ⟨h37, hf⟩ := ic_lk_of hf
  refine iw_qlen (pc' := 21) (t := 2) (N := 16) (v := (16 : Int32)) (h37.imp fun a h => ⟨h.1, h.2.1, Or.inl ⟨rfl, h.2.2⟩⟩) rfl (by decide +kernel) ?_
  refine iw_geF (off := 22) (tg := 43) (pc' := 24) (by decide) (by decide +kernel) ?_
  refine iw_aload_n (i := 0) (pc' := 25) 0 rfl (by decide +kernel) ?_
  obtain ⟨h38, hf⟩ := ic_lk_of hf
  refine iw_getr (pc' := 28) (q := (w35.2.1 r0 0)) ic_fk3 h38 rfl lif_X3_11 (by decide +kernel) ?_
  refine iw_iload_n (i := 1) (pc' := 29) 1 rfl (by decide +kernel) ?_
  refine iw_new (pc' := 32) (c1 := 14) (s1 := 142) hf ic_fk1 lik_X3_9 (ic_in 118 (by decide +kernel)) (ic_in 72 (by decide +kernel)) (by decide +kernel) (by decide +kernel) (fun w39 hf => ?_)
  refine iw_dup (pc' := 33) (ic_cat _ _) (by decide +kernel) ?_
  obtain ⟨w40, hc, hf⟩ := ic_bd hf
  refine iw_callIN (S1 := []) (w1 := w40) (pc' := 36) (c1 := 16) (s1 := 166) (ct_X1_init l κ w39 (w35.1 + 1) hc) ⟨_, rfl⟩ mi_X1_init lim_X3_17 (ic_sum8 ⟨ic_cat _ _, rfl, ic_cat _ _, trivial⟩ (Nat.le_of_ble_eq_true rfl)) (by unfold ic_rm; decide +kernel) ?_
  obtain ⟨h41, hf⟩ := ic_lk_of hf
  obtain ⟨h42, hf⟩ := ic_lk_of hf
  refine iw_aast (pc' := 37) (t := 3) (ci := 1) (by decide) hf h41 h42 (by decide) (by decide +kernel) (fun w43 hf => ?_)
  refine iw_iinc0 (i := 1) (d := 1) (pc' := 40) (v := (1 : Int32)) (y := (5 : Int32)) (L' := [(0, ic_rv κ.1 r0), (1, .int (5 : Int32))]) 1 rfl (by decide) rfl (by decide +kernel) ?_
  refine iw_goto (off := (-25)) (pc' := 15) (by decide +kernel) ?_
  refine iw_iload_n (i := 1) (pc' := 16) 1 rfl (by decide +kernel) ?_
  refine iw_aload_n (i := 0) (pc' := 17) 0 rfl (by decide +kernel) ?_
  obtain ⟨h44, hf⟩ := ic_lk_of hf
  refine iw_getr (pc' := 20) (q := (w43.2.1 r0 0)) ic_fk3 h44 rfl lif_X3_11 (by decide +kernel) ?_
  obtain ⟨h45, hf⟩ := ic_lk_of hf
  refine iw_qlen (pc' := 21) (t := 2) (N := 16) (v := (16 : Int32)) (h45.imp fun a h => ⟨h.1, h.2.1, Or.inl ⟨rfl, h.2.2⟩⟩) rfl (by decide +kernel) ?_
  refine iw_geF (off := 22) (tg := 43) (pc' := 24) (by decide) (by decide +kernel) ?_
  refine iw_aload_n (i := 0) (pc' := 25) 0 rfl (by decide +kernel) ?_
  obtain ⟨h46, hf⟩ := ic_lk_of hf
  refine iw_getr (pc' := 28) (q := (w43.2.1 r0 0)) ic_fk3 h46 rfl lif_X3_11 (by decide +kernel) ?_
  refine iw_iload_n (i := 1) (pc' := 29) 1 rfl (by decide +kernel) ?_
  refine iw_new (pc' := 32) (c1 := 17) (s1 := 172) hf ic_fk1 lik_X3_9 (ic_in 118 (by decide +kernel)) (ic_in 72 (by decide +kernel)) (by decide +kernel) (by decide +kernel) (fun w47 hf => ?_)
  refine iw_dup (pc' := 33) (ic_cat _ _) (by decide +kernel) ?_
  obtain ⟨w48, hc, hf⟩ := ic_bd hf
  refine iw_callIN (S1 := []) (w1 := w48) (pc' := 36) (c1 := 19) (s1 := 196) (ct_X1_init l κ w47 (w43.1 + 1) hc) ⟨_, rfl⟩ mi_X1_init lim_X3_17 (ic_sum8 ⟨ic_cat _ _, rfl, ic_cat _ _, trivial⟩ (Nat.le_of_ble_eq_true rfl)) (by unfold ic_rm; decide +kernel) ?_
  obtain ⟨h49, hf⟩ := ic_lk_of hf
  obtain ⟨h50, hf⟩ := ic_lk_of hf
  refine iw_aast (pc' := 37) (t := 3) (ci := 1) (by decide) hf h49 h50 (by decide) (by decide +kernel) (fun w51 hf => ?_)
  refine iw_iinc0 (i := 1) (d := 1) (pc' := 40) (v := (1 : Int32)) (y := (6 : Int32)) (L' := [(0, ic_rv κ.1 r0), (1, .int (6 : Int32))]) 1 rfl (by decide) rfl (by decide +kernel) ?_
  refine iw_goto (off := (-25)) (pc' := 15) (by decide +kernel) ?_
  refine iw_iload_n (i := 1) (pc' := 16) 1 rfl (by decide +kernel) ?_
  refine iw_aload_n (i := 0) (pc' := 17) 0 rfl (by decide +kernel) ?_
  obtain ⟨h52, hf⟩ := ic_lk_of hf
  refine iw_getr (pc' := 20) (q := (w51.2.1 r0 0)) ic_fk3 h52 rfl lif_X3_11 (by decide +kernel) ?_
  obtain ⟨h53, hf⟩ := ic_lk_of hf
  refine iw_qlen (pc' := 21) (t := 2) (N := 16) (v := (16 : Int32)) (h53.imp fun a h => ⟨h.1, h.2.1, Or.inl ⟨rfl, h.2.2⟩⟩) rfl (by decide +kernel) ?_
  refine iw_geF (off := 22) (tg := 43) (pc' := 24) (by decide) (by decide +kernel) ?_
  refine iw_aload_n (i := 0) (pc' := 25) 0 rfl (by decide +kernel) ?_
  obtain ⟨h54, hf⟩ := ic_lk_of hf
  refine iw_getr (pc' := 28) (q := (w51.2.1 r0 0)) ic_fk3 h54 rfl lif_X3_11 (by decide +kernel) ?_
  refine iw_iload_n (i := 1) (pc' := 29) 1 rfl (by decide +kernel) ?_
  refine iw_new (pc' := 32) (c1 := 20) (s1 := 202) hf ic_fk1 lik_X3_9 (ic_in 118 (by decide +kernel)) (ic_in 72 (by decide +kernel)) (by decide +kernel) (by decide +kernel) (fun w55 hf => ?_)
  refine iw_dup (pc' := 33) (ic_cat _ _) (by decide +kernel) ?_
  obtain ⟨w56, hc, hf⟩ := ic_bd hf
  refine iw_callIN (S1 := []) (w1 := w56) (pc' := 36) (c1 := 22) (s1 := 226) (ct_X1_init l κ w55 (w51.1 + 1) hc) ⟨_, rfl⟩ mi_X1_init lim_X3_17 (ic_sum8 ⟨ic_cat _ _, rfl, ic_cat _ _, trivial⟩ (Nat.le_of_ble_eq_true rfl)) (by unfold ic_rm; decide +kernel) ?_
  obtain ⟨h57, hf⟩ := ic_lk_of hf
  obtain ⟨h58, hf⟩ := ic_lk_of hf
  refine iw_aast (pc' := 37) (t := 3) (ci := 1) (by decide) hf h57 h58 (by decide) (by decide +kernel) (fun w59 hf => ?_)
  refine iw_iinc0 (i := 1) (d := 1) (pc' := 40) (v := (1 : Int32)) (y := (7 : Int32)) (L' := [(0, ic_rv κ.1 r0), (1, .int (7 : Int32))]) 1 rfl (by decide) rfl (by decide +kernel) ?_
  refine iw_goto (off := (-25)) (pc' := 15) (by decide +kernel) ?_
  refine iw_iload_n (i := 1) (pc' := 16) 1 rfl (by decide +kernel) ?_
  refine iw_aload_n (i := 0) (pc' := 17) 0 rfl (by decide +kernel) ?_
  obtain ⟨h60, hf⟩ := ic_lk_of hf
  refine iw_getr (pc' := 20) (q := (w59.2.1 r0 0)) ic_fk3 h60 rfl lif_X3_11 (by decide +kernel) ?_
  obtain ⟨h61, hf⟩ := ic_lk_of hf
  refine iw_qlen (pc' := 21) (t := 2) (N := 16) (v := (16 : Int32)) (h61.imp fun a h => ⟨h.1, h.2.1, Or.inl ⟨rfl, h.2.2⟩⟩) rfl (by decide +kernel) ?_
  refine iw_geF (off := 22) (tg := 43) (pc' := 24) (by decide) (by decide +kernel) ?_
  refine iw_aload_n (i := 0) (pc' := 25) 0 rfl (by decide +kernel) ?_
  obtain ⟨h62, hf⟩ := ic_lk_of hf
  refine iw_getr (pc' := 28) (q := (w59.2.1 r0 0)) ic_fk3 h62 rfl lif_X3_11 (by decide +kernel) ?_
  refine iw_iload_n (i := 1) (pc' := 29) 1 rfl (by decide +kernel) ?_
  refine iw_new (pc' := 32) (c1 := 23) (s1 := 232) hf ic_fk1 lik_X3_9 (ic_in 118 (by decide +kernel)) (ic_in 72 (by decide +kernel)) (by decide +kernel) (by decide +kernel) (fun w63 hf => ?_)
  refine iw_dup (pc' := 33) (ic_cat _ _) (by decide +kernel) ?_
  obtain ⟨w64, hc, hf⟩ := ic_bd hf
  refine iw_callIN (S1 := []) (w1 := w64) (pc' := 36) (c1 := 25) (s1 := 256) (ct_X1_init l κ w63 (w59.1 + 1) hc) ⟨_, rfl⟩ mi_X1_init lim_X3_17 (ic_sum8 ⟨ic_cat _ _, rfl, ic_cat _ _, trivial⟩ (Nat.le_of_ble_eq_true rfl)) (by unfold ic_rm; decide +kernel) ?_
  obtain ⟨h65, hf⟩ := ic_lk_of hf
  obtain ⟨h66, hf⟩ := ic_lk_of hf
  refine iw_aast (pc' := 37) (t := 3) (ci := 1) (by decide) hf h65 h66 (by decide) (by decide +kernel) (fun w67 hf => ?_)
  refine iw_iinc0 (i := 1) (d := 1) (pc' := 40) (v := (1 : Int32)) (y := (8 : Int32)) (L' := [(0, ic_rv κ.1 r0), (1, .int (8 : Int32))]) 1 rfl (by decide) rfl (by decide +kernel) ?_
  refine iw_goto (off := (-25)) (pc' := 15) (by decide +kernel) ?_
  refine iw_iload_n (i := 1) (pc' := 16) 1 rfl (by decide +kernel) ?_
  refine iw_aload_n (i := 0) (pc' := 17) 0 rfl (by decide +kernel) ?_
  obtain ⟨h68, hf⟩ := ic_lk_of hf
  refine iw_getr (pc' := 20) (q := (w67.2.1 r0 0)) ic_fk3 h68 rfl lif_X3_11 (by decide +kernel) ?_
  obtain ⟨h69, hf⟩ := ic_lk_of hf
  refine iw_qlen (pc' := 21) (t := 2) (N := 16) (v := (16 : Int32)) (h69.imp fun a h => ⟨h.1, h.2.1, Or.inl ⟨rfl, h.2.2⟩⟩) rfl (by decide +kernel) ?_
  refine iw_geF (off := 22) (tg := 43) (pc' := 24) (by decide) (by decide +kernel) ?_
  refine iw_aload_n (i := 0) (pc' := 25) 0 rfl (by decide +kernel) ?_
  obtain ⟨h70, hf⟩ := ic_lk_of hf
  refine iw_getr (pc' := 28) (q := (w67.2.1 r0 0)) ic_fk3 h70 rfl lif_X3_11 (by decide +kernel) ?_
  refine iw_iload_n (i := 1) (pc' := 29) 1 rfl (by decide +kernel) ?_
  refine iw_new (pc' := 32) (c1 := 26) (s1 := 262) hf ic_fk1 lik_X3_9 (ic_in 118 (by decide +kernel)) (ic_in 72 (by decide +kernel)) (by decide +kernel) (by decide +kernel) (fun w71 hf => ?_)
  refine iw_dup (pc' := 33) (ic_cat _ _) (by decide +kernel) ?_
  obtain ⟨w72, hc, hf⟩ := ic_bd hf
  refine iw_callIN (S1 := []) (w1 := w72) (pc' := 36) (c1 := 28) (s1 := 286) (ct_X1_init l κ w71 (w67.1 + 1) hc) ⟨_, rfl⟩ mi_X1_init lim_X3_17 (ic_sum8 ⟨ic_cat _ _, rfl, ic_cat _ _, trivial⟩ (Nat.le_of_ble_eq_true rfl)) (by unfold ic_rm; decide +kernel) ?_
  obtain ⟨h73, hf⟩ := ic_lk_of hf
  obtain ⟨h74, hf⟩ := ic_lk_of hf
  refine iw_aast (pc' := 37) (t := 3) (ci := 1) (by decide) hf h73 h74 (by decide) (by decide +kernel) (fun w75 hf => ?_)
  refine iw_iinc0 (i := 1) (d := 1) (pc' := 40) (v := (1 : Int32)) (y := (9 : Int32)) (L' := [(0, ic_rv κ.1 r0), (1, .int (9 : Int32))]) 1 rfl (by decide) rfl (by decide +kernel) ?_
  refine iw_goto (off := (-25)) (pc' := 15) (by decide +kernel) ?_
  refine iw_iload_n (i := 1) (pc' := 16) 1 rfl (by decide +kernel) ?_
  refine iw_aload_n (i := 0) (pc' := 17) 0 rfl (by decide +kernel) ?_
  obtain ⟨h76, hf⟩ := ic_lk_of hf
  refine iw_getr (pc' := 20) (q := (w75.2.1 r0 0)) ic_fk3 h76 rfl lif_X3_11 (by decide +kernel) ?_
  obtain ⟨h77, hf⟩ := ic_lk_of hf
  refine iw_qlen (pc' := 21) (t := 2) (N := 16) (v := (16 : Int32)) (h77.imp fun a h => ⟨h.1, h.2.1, Or.inl ⟨rfl, h.2.2⟩⟩) rfl (by decide +kernel) ?_
  refine iw_geF (off := 22) (tg := 43) (pc' := 24) (by decide) (by decide +kernel) ?_
  refine iw_aload_n (i := 0) (pc' := 25) 0 rfl (by decide +kernel) ?_
  obtain ⟨h78, hf⟩ := ic_lk_of hf
  refine iw_getr (pc' := 28) (q := (w75.2.1 r0 0)) ic_fk3 h78 rfl lif_X3_11 (by decide +kernel) ?_
  refine iw_iload_n (i := 1) (pc' := 29) 1 rfl (by decide +kernel) ?_
  refine iw_new (pc' := 32) (c1 := 29) (s1 := 292) hf ic_fk1 lik_X3_9 (ic_in 118 (by decide +kernel)) (ic_in 72 (by decide +kernel)) (by decide +kernel) (by decide +kernel) (fun w79 hf => ?_)
  refine iw_dup (pc' := 33) (ic_cat _ _) (by decide +kernel) ?_
  obtain ⟨w80, hc, hf⟩ := ic_bd hf
  refine iw_callIN (S1 := []) (w1 := w80) (pc' := 36) (c1 := 31) (s1 := 316) (ct_X1_init l κ w79 (w75.1 + 1) hc) ⟨_, rfl⟩ mi_X1_init lim_X3_17 (ic_sum8 ⟨ic_cat _ _, rfl, ic_cat _ _, trivial⟩ (Nat.le_of_ble_eq_true rfl)) (by unfold ic_rm; decide +kernel) ?_
  obtain ⟨h81, hf⟩ := ic_lk_of hf
  obtain ⟨h82, hf⟩ := ic_lk_of hf
  refine iw_aast (pc' := 37) (t := 3) (ci := 1) (by decide) hf h81 h82 (by decide) (by decide +kernel) (fun w83 hf => ?_)
  refine iw_iinc0 (i := 1) (d := 1) (pc' := 40) (v := (1 : Int32)) (y := (10 : Int32)) (L' := [(0, ic_rv κ.1 r0), (1, .int (10 : Int32))]) 1 rfl (by decide) rfl (by decide +kernel) ?_
  refine iw_goto (off := (-25)) (pc' := 15) (by decide +kernel) ?_
  refine iw_iload_n (i := 1) (pc' := 16) 1 rfl (by decide +kernel) ?_
  refine iw_aload_n (i := 0) (pc' := 17) 0 rfl (by decide +kernel) ?_
  obtain ⟨h84, hf⟩ := ic_lk_of hf
  refine iw_getr (pc' := 20) (q := (w83.2.1 r0 0)) ic_fk3 h84 rfl lif_X3_11 (by decide +kernel) ?_
  obtain ⟨h85, hf⟩ := ic_lk_of hf
  refine iw_qlen (pc' := 21) (t := 2) (N := 16) (v := (16 : Int32)) (h85.imp fun a h => ⟨h.1, h.2.1, Or.inl ⟨rfl, h.2.2⟩⟩) rfl (by decide +kernel) ?_
  refine iw_geF (off := 22) (tg := 43) (pc' := 24) (by decide) (by decide +kernel) ?_
  refine iw_aload_n (i := 0) (pc' := 25) 0 rfl (by decide +kernel) ?_
  obtain ⟨h86, hf⟩ := ic_lk_of hf
  refine iw_getr (pc' := 28) (q := (w83.2.1 r0 0)) ic_fk3 h86 rfl lif_X3_11 (by decide +kernel) ?_
  refine iw_iload_n (i := 1) (pc' := 29) 1 rfl (by decide +kernel) ?_
  refine iw_new (pc' := 32) (c1 := 32) (s1 := 322) hf ic_fk1 lik_X3_9 (ic_in 118 (by decide +kernel)) (ic_in 72 (by decide +kernel)) (by decide +kernel) (by decide +kernel) (fun w87 hf => ?_)
  refine iw_dup (pc' := 33) (ic_cat _ _) (by decide +kernel) ?_
  obtain ⟨w88, hc, hf⟩ := ic_bd hf
  refine iw_callIN (S1 := []) (w1 := w88) (pc' := 36) (c1 := 34) (s1 := 346) (ct_X1_init l κ w87 (w83.1 + 1) hc) ⟨_, rfl⟩ mi_X1_init lim_X3_17 (ic_sum8 ⟨ic_cat _ _, rfl, ic_cat _ _, trivial⟩ (Nat.le_of_ble_eq_true rfl)) (by unfold ic_rm; decide +kernel) ?_
  obtain ⟨h89, hf⟩ := ic_lk_of hf
  obtain ⟨h90, hf⟩ := ic_lk_of hf
  refine iw_aast (pc' := 37) (t := 3) (ci := 1) (by decide) hf h89 h90 (by decide) (by decide +kernel) (fun w91 hf => ?_)
  refine iw_iinc0 (i := 1) (d := 1) (pc' := 40) (v := (1 : Int32)) (y := (11 : Int32)) (L' := [(0, ic_rv κ.1 r0), (1, .int (11 : Int32))]) 1 rfl (by decide) rfl (by decide +kernel) ?_
  refine iw_goto (off := (-25)) (pc' := 15) (by decide +kernel) ?_
  refine iw_iload_n (i := 1) (pc' := 16) 1 rfl (by decide +kernel) ?_
  refine iw_aload_n (i := 0) (pc' := 17) 0 rfl (by decide +kernel) ?_
  obtain ⟨h92, hf⟩ := ic_lk_of hf
  refine iw_getr (pc' := 20) (q := (w91.2.1 r0 0)) ic_fk3 h92 rfl lif_X3_11 (by decide +kernel) ?_
  obtain ⟨h93, hf⟩ := ic_lk_of hf
  refine iw_qlen (pc' := 21) (t := 2) (N := 16) (v := (16 : Int32)) (h93.imp fun a h => ⟨h.1, h.2.1, Or.inl ⟨rfl, h.2.2⟩⟩) rfl (by decide +kernel) ?_
  refine iw_geF (off := 22) (tg := 43) (pc' := 24) (by decide) (by decide +kernel) ?_
  refine iw_aload_n (i := 0) (pc' := 25) 0 rfl (by decide +kernel) ?_
  obtain ⟨h94, hf⟩ := ic_lk_of hf
  refine iw_getr (pc' := 28) (q := (w91.2.1 r0 0)) ic_fk3 h94 rfl lif_X3_11 (by decide +kernel) ?_
  refine iw_iload_n (i := 1) (pc' := 29) 1 rfl (by decide +kernel) ?_
  refine iw_new (pc' := 32) (c1 := 35) (s1 := 352) hf ic_fk1 lik_X3_9 (ic_in 118 (by decide +kernel)) (ic_in 72 (by decide +kernel)) (by decide +kernel) (by decide +kernel) (fun w95 hf => ?_)
  refine iw_dup (pc' := 33) (ic_cat _ _) (by decide +kernel) ?_
  obtain ⟨w96, hc, hf⟩ := ic_bd hf
  refine iw_callIN (S1 := []) (w1 := w96) (pc' := 36) (c1 := 37) (s1 := 376) (ct_X1_init l κ w95 (w91.1 + 1) hc) ⟨_, rfl⟩ mi_X1_init lim_X3_17 (ic_sum8 ⟨ic_cat _ _, rfl, ic_cat _ _, trivial⟩ (Nat.le_of_ble_eq_true rfl)) (by unfold ic_rm; decide +kernel) ?_
  obtain ⟨h97, hf⟩ := ic_lk_of hf
  obtain ⟨h98, hf⟩ := ic_lk_of hf
  refine iw_aast (pc' := 37) (t := 3) (ci := 1) (by decide) hf h97 h98 (by decide) (by decide +kernel) (fun w99 hf => ?_)
  refine iw_iinc0 (i := 1) (d := 1) (pc' := 40) (v := (1 : Int32)) (y := (12 : Int32)) (L' := [(0, ic_rv κ.1 r0), (1, .int (12 : Int32))]) 1 rfl (by decide) rfl (by decide +kernel) ?_
  refine iw_goto (off := (-25)) (pc' := 15) (by decide +kernel) ?_
  refine iw_iload_n (i := 1) (pc' := 16) 1 rfl (by decide +kernel) ?_
  refine iw_aload_n (i := 0) (pc' := 17) 0 rfl (by decide +kernel) ?_
  obtain ⟨h100, hf⟩ := ic_lk_of hf
  refine iw_getr (pc' := 20) (q := (w99.2.1 r0 0)) ic_fk3 h100 rfl lif_X3_11 (by decide +kernel) ?_
  obtain ⟨h101, hf⟩ := ic_lk_of hf
  refine iw_qlen (pc' := 21) (t := 2) (N := 16) (v := (16 : Int32)) (h101.imp fun a h => ⟨h.1, h.2.1, Or.inl ⟨rfl, h.2.2⟩⟩) rfl (by decide +kernel) ?_
  refine iw_geF (off := 22) (tg := 43) (pc' := 24) (by decide) (by decide +kernel) ?_
  refine iw_aload_n (i := 0) (pc' := 25) 0 rfl (by decide +kernel) ?_
  obtain ⟨h102, hf⟩ := ic_lk_of hf
  refine iw_getr (pc' := 28) (q := (w99.2.1 r0 0)) ic_fk3 h102 rfl lif_X3_11 (by decide +kernel) ?_
  refine iw_iload_n (i := 1) (pc' := 29) 1 rfl (by decide +kernel) ?_
  refine iw_new (pc' := 32) (c1 := 38) (s1 := 382) hf ic_fk1 lik_X3_9 (ic_in 118 (by decide +kernel)) (ic_in 72 (by decide +kernel)) (by decide +kernel) (by decide +kernel) (fun w103 hf => ?_)
  refine iw_dup (pc' := 33) (ic_cat _ _) (by decide +kernel) ?_
  obtain ⟨w104, hc, hf⟩ := ic_bd hf
  refine iw_callIN (S1 := []) (w1 := w104) (pc' := 36) (c1 := 40) (s1 := 406) (ct_X1_init l κ w103 (w99.1 + 1) hc) ⟨_, rfl⟩ mi_X1_init lim_X3_17 (ic_sum8 ⟨ic_cat _ _, rfl, ic_cat _ _, trivial⟩ (Nat.le_of_ble_eq_true rfl)) (by unfold ic_rm; decide +kernel) ?_
  obtain ⟨h105, hf⟩ := ic_lk_of hf
  obtain ⟨h106, hf⟩ := ic_lk_of hf
  refine iw_aast (pc' := 37) (t := 3) (ci := 1) (by decide) hf h105 h106 (by decide) (by decide +kernel) (fun w107 hf => ?_)
  refine iw_iinc0 (i := 1) (d := 1) (pc' := 40) (v := (1 : Int32)) (y := (13 : Int32)) (L' := [(0, ic_rv κ.1 r0), (1, .int (13 : Int32))]) 1 rfl (by decide) rfl (by decide +kernel) ?_
  refine iw_goto (off := (-25)) (pc' := 15) (by decide +kernel) ?_
  refine iw_iload_n (i := 1) (pc' := 16) 1 rfl (by decide +kernel) ?_
  refine iw_aload_n (i := 0) (pc' := 17) 0 rfl (by decide +kernel) ?_
  obtain ⟨h108, hf⟩ := ic_lk_of hf
  refine iw_getr (pc' := 20) (q := (w107.2.1 r0 0)) ic_fk3 h108 rfl lif_X3_11 (by decide +kernel) ?_
  obtain ⟨h109, hf⟩ := ic_lk_of hf
  refine iw_qlen (pc' := 21) (t := 2) (N := 16) (v := (16 : Int32)) (h109.imp fun a h => ⟨h.1, h.2.1, Or.inl ⟨rfl, h.2.2⟩⟩) rfl (by decide +kernel) ?_
  refine iw_geF (off := 22) (tg := 43) (pc' := 24) (by decide) (by decide +kernel) ?_
  refine iw_aload_n (i := 0) (pc' := 25) 0 rfl (by decide +kernel) ?_
  obtain ⟨h110, hf⟩ := ic_lk_of hf
  refine iw_getr (pc' := 28) (q := (w107.2.1 r0 0)) ic_fk3 h110 rfl lif_X3_11 (by decide +kernel) ?_
  refine iw_iload_n (i := 1) (pc' := 29) 1 rfl (by decide +kernel) ?_
  refine iw_new (pc' := 32) (c1 := 41) (s1 := 412) hf ic_fk1 lik_X3_9 (ic_in 118 (by decide +kernel)) (ic_in 72 (by decide +kernel)) (by decide +kernel) (by decide +kernel) (fun w111 hf => ?_)
  refine iw_dup (pc' := 33) (ic_cat _ _) (by decide +kernel) ?_
  obtain ⟨w112, hc, hf⟩ := ic_bd hf
  refine iw_callIN (S1 := []) (w1 := w112) (pc' := 36) (c1 := 43) (s1 := 436) (ct_X1_init l κ w111 (w107.1 + 1) hc) ⟨_, rfl⟩ mi_X1_init lim_X3_17 (ic_sum8 ⟨ic_cat _ _, rfl, ic_cat _ _, trivial⟩ (Nat.le_of_ble_eq_true rfl)) (by unfold ic_rm; decide +kernel) ?_
  obtain ⟨h113, hf⟩ := ic_lk_of hf
  obtain ⟨h114, hf⟩ := ic_lk_of hf
  refine iw_aast (pc' := 37) (t := 3) (ci := 1) (by decide) hf h113 h114 (by decide) (by decide +kernel) (fun w115 hf => ?_)
  refine iw_iinc0 (i := 1) (d := 1) (pc' := 40) (v := (1 : Int32)) (y := (14 : Int32)) (L' := [(0, ic_rv κ.1 r0), (1, .int (14 : Int32))]) 1 rfl (by decide) rfl (by decide +kernel) ?_
  refine iw_goto (off := (-25)) (pc' := 15) (by decide +kernel) ?_
  refine iw_iload_n (i := 1) (pc' := 16) 1 rfl (by decide +kernel) ?_
  refine iw_aload_n (i := 0) (pc' := 17) 0 rfl (by decide +kernel) ?_
  obtain ⟨h116, hf⟩ := ic_lk_of hf
  refine iw_getr (pc' := 20) (q := (w115.2.1 r0 0)) ic_fk3 h116 rfl lif_X3_11 (by decide +kernel) ?_
  obtain ⟨h117, hf⟩ := ic_lk_of hf
  refine iw_qlen (pc' := 21) (t := 2) (N := 16) (v := (16 : Int32)) (h117.imp fun a h => ⟨h.1, h.2.1, Or.inl ⟨rfl, h.2.2⟩⟩) rfl (by decide +kernel) ?_
  refine iw_geF (off := 22) (tg := 43) (pc' := 24) (by decide) (by decide +kernel) ?_
  refine iw_aload_n (i := 0) (pc' := 25) 0 rfl (by decide +kernel) ?_
  obtain ⟨h118, hf⟩ := ic_lk_of hf
  refine iw_getr (pc' := 28) (q := (w115.2.1 r0 0)) ic_fk3 h118 rfl lif_X3_11 (by decide +kernel) ?_
  refine iw_iload_n (i := 1) (pc' := 29) 1 rfl (by decide +kernel) ?_
  refine iw_new (pc' := 32) (c1 := 44) (s1 := 442) hf ic_fk1 lik_X3_9 (ic_in 118 (by decide +kernel)) (ic_in 72 (by decide +kernel)) (by decide +kernel) (by decide +kernel) (fun w119 hf => ?_)
  refine iw_dup (pc' := 33) (ic_cat _ _) (by decide +kernel) ?_
  obtain ⟨w120, hc, hf⟩ := ic_bd hf
  refine iw_callIN (S1 := []) (w1 := w120) (pc' := 36) (c1 := 46) (s1 := 466) (ct_X1_init l κ w119 (w115.1 + 1) hc) ⟨_, rfl⟩ mi_X1_init lim_X3_17 (ic_sum8 ⟨ic_cat _ _, rfl, ic_cat _ _, trivial⟩ (Nat.le_of_ble_eq_true rfl)) (by unfold ic_rm; decide +kernel) ?_
  obtain ⟨h121, hf⟩ := ic_lk_of hf
  obtain ⟨h122, hf⟩ := ic_lk_of hf
  refine iw_aast (pc' := 37) (t := 3) (ci := 1) (by decide) hf h121 h122 (by decide) (by decide +kernel) (fun w123 hf => ?_)
  refine iw_iinc0 (i := 1) (d := 1) (pc' := 40) (v := (1 : Int32)) (y := (15 : Int32)) (L' := [(0, ic_rv κ.1 r0), (1, .int (15 : Int32))]) 1 rfl (by decide) rfl (by decide +kernel) ?_
  refine iw_goto (off := (-25)) (pc' := 15) (by decide +kernel) ?_
  refine iw_iload_n (i := 1) (pc' := 16) 1 rfl (by decide +kernel) ?_
  refine iw_aload_n (i := 0) (pc' := 17) 0 rfl (by decide +kernel) ?_
  obtain ⟨h124, hf⟩ := ic_lk_of hf
  refine iw_getr (pc' := 20) (q := (w123.2.1 r0 0)) ic_fk3 h124 rfl lif_X3_11 (by decide +kernel) ?_
  obtain ⟨h125, hf⟩ := ic_lk_of hf
  refine iw_qlen (pc' := 21) (t := 2) (N := 16) (v := (16 : Int32)) (h125.imp fun a h => ⟨h.1, h.2.1, Or.inl ⟨rfl, h.2.2⟩⟩) rfl (by decide +kernel) ?_
  refine iw_geF (off := 22) (tg := 43) (pc' := 24) (by decide) (by decide +kernel) ?_
  refine iw_aload_n (i := 0) (pc' := 25) 0 rfl (by decide +kernel) ?_
  obtain ⟨h126, hf⟩ := ic_lk_of hf
  refine iw_getr (pc' := 28) (q := (w123.2.1 r0 0)) ic_fk3 h126 rfl lif_X3_11 (by decide +kernel) ?_
  refine iw_iload_n (i := 1) (pc' := 29) 1 rfl (by decide +kernel) ?_
  refine iw_new (pc' := 32) (c1 := 47) (s1 := 472) hf ic_fk1 lik_X3_9 (ic_in 118 (by decide +kernel)) (ic_in 72 (by decide +kernel)) (by decide +kernel) (by decide +kernel) (fun w127 hf => ?_)
  refine iw_dup (pc' := 33) (ic_cat _ _) (by decide +kernel) ?_
  obtain ⟨w128, hc, hf⟩ := ic_bd hf
  refine iw_callIN (S1 := []) (w1 := w128) (pc' := 36) (c1 := 49) (s1 := 496) (ct_X1_init l κ w127 (w123.1 + 1) hc) ⟨_, rfl⟩ mi_X1_init lim_X3_17 (ic_sum8 ⟨ic_cat _ _, rfl, ic_cat _ _, trivial⟩ (Nat.le_of_ble_eq_true rfl)) (by unfold ic_rm; decide +kernel) ?_
  obtain ⟨h129, hf⟩ := ic_lk_of hf
  obtain ⟨h130, hf⟩ := ic_lk_of hf
  refine iw_aast (pc' := 37) (t := 3) (ci := 1) (by decide) hf h129 h130 (by decide) (by decide +kernel) (fun w131 hf => ?_)
  refine iw_iinc0 (i := 1) (d := 1) (pc' := 40) (v := (1 : Int32)) (y := (16 : Int32)) (L' := [(0, ic_rv κ.1 r0), (1, .int (16 : Int32))]) 1 rfl (by decide) rfl (by decide +kernel) ?_
  refine iw_goto (off := (-25)) (pc' := 15) (by decide +kernel) ?_
  refine iw_iload_n (i := 1) (pc' := 16) 1 rfl (by decide +kernel) ?_
  refine iw_aload_n (i := 0) (pc' := 17) 0 rfl (by decide +kernel) ?_
  obtain ⟨h132, hf⟩ := ic_lk_of hf
  refine iw_getr (pc' := 20) (q := (w131.2.1 r0 0)) ic_fk3 h132 rfl lif_X3_11 (by decide +kernel) ?_
  obtain ⟨h133, hf⟩ := ic_lk_of hf
  refine iw_qlen (pc' := 21) (t := 2) (N := 16) (v := (16 : Int32)) (h133.imp fun a h => ⟨h.1, h.2.1, Or.inl ⟨rfl, h.2.2⟩⟩) rfl (by decide +kernel) ?_
  refine iw_geT (off := 22) (tg := 43) (pc' := 24) (by decide) (by decide +kernel) ?_
  exact iw_jret hf (by decide +kernel)
def MX8_init : ic_Md := (yX8_init, cX8_init, 2, none, { frames := 3, cells := 88, slots := 1171, locals := 61 })
theorem mi_X8_init : ic_MI MX8_init := ⟨ic_in 86 (by decide +kernel), ic_in 70 (by decide +kernel), ic_in 87 (by decide +kernel), by decide +kernel, rfl, rfl⟩
theorem lik_X8_7 : Cond.classLink RX8 7 RX4 ∈ ic_tb := ic_in 91 (by decide +kernel)
theorem lim_X8_9 : Cond.methodLinkNest RX8 9 yX4_init "IceLaw" ∈ ic_tb := ic_in 93 (by decide +kernel)
theorem lif_X8_10 : Cond.fieldLink RX8 10 RX8 (TX8 0).2.1 (TX8 0).2.2.1 ∈ ic_tb := ic_in 306 (by decide +kernel)
theorem lik_X8_16 : Cond.classLink RX8 16 RX1 ∈ ic_tb := ic_in 117 (by decide +kernel)
theorem lim_X8_18 : Cond.methodLinkNest RX8 18 yX1_init "IceLaw" ∈ ic_tb := ic_in 119 (by decide +kernel)
theorem lif_X8_19 : Cond.fieldLink RX8 19 RX8 (TX8 1).2.1 (TX8 1).2.2.1 ∈ ic_tb := ic_in 307 (by decide +kernel)
theorem lik_X8_23 : Cond.classLink RX8 23 RX3 ∈ ic_tb := ic_in 147 (by decide +kernel)
theorem lim_X8_25 : Cond.methodLink RX8 25 yX3_init ∈ ic_tb := ic_in 149 (by decide +kernel)
theorem lif_X8_26 : Cond.fieldLink RX8 26 RX8 (TX8 2).2.1 (TX8 2).2.2.1 ∈ ic_tb := ic_in 308 (by decide +kernel)
theorem lik_X8_30 : Cond.classLink RX8 30 RX7 ∈ ic_tb := ic_in 167 (by decide +kernel)
theorem lim_X8_32 : Cond.methodLinkNest RX8 32 yX7_init "IceLaw" ∈ ic_tb := ic_in 169 (by decide +kernel)
theorem lif_X8_33 : Cond.fieldLink RX8 33 RX8 (TX8 3).2.1 (TX8 3).2.2.1 ∈ ic_tb := ic_in 309 (by decide +kernel)
theorem lik_X8_37 : Cond.classLink RX8 37 RX6 ∈ ic_tb := ic_in 179 (by decide +kernel)
theorem lim_X8_39 : Cond.methodLinkNest RX8 39 yX6_init "IceLaw" ∈ ic_tb := ic_in 181 (by decide +kernel)
theorem lif_X8_40 : Cond.fieldLink RX8 40 RX8 (TX8 4).2.1 (TX8 4).2.2.1 ∈ ic_tb := ic_in 310 (by decide +kernel)
theorem lik_X8_44 : Cond.classLink RX8 44 RX0 ∈ ic_tb := ic_in 203 (by decide +kernel)
theorem lim_X8_46 : Cond.methodLinkNest RX8 46 yX0_init "IceLaw" ∈ ic_tb := ic_in 205 (by decide +kernel)
theorem lif_X8_47 : Cond.fieldLink RX8 47 RX8 (TX8 5).2.1 (TX8 5).2.2.1 ∈ ic_tb := ic_in 311 (by decide +kernel)
theorem lik_X8_51 : Cond.classLink RX8 51 RX2 ∈ ic_tb := ic_in 220 (by decide +kernel)
theorem lif_X8_53 : Cond.fieldLink RX8 53 RX8 (TX8 6).2.1 (TX8 6).2.2.1 ∈ ic_tb := ic_in 312 (by decide +kernel)
theorem lim_X8_57 : Cond.methodLinkNest RX8 57 yX2_init "IceLaw" ∈ ic_tb := ic_in 223 (by decide +kernel)
theorem lik_X8_58 : Cond.classLink RX8 58 RX5 ∈ ic_tb := ic_in 237 (by decide +kernel)
theorem lim_X8_60 : Cond.methodLinkNest RX8 60 yX5_init "IceLaw" ∈ ic_tb := ic_in 239 (by decide +kernel)
theorem lif_X8_61 : Cond.fieldLink RX8 61 RX8 (TX8 7).2.1 (TX8 7).2.2.1 ∈ ic_tb := ic_in 313 (by decide +kernel)
theorem lif_X8_65 : Cond.fieldLink RX8 65 RX8 (TX8 8).2.1 (TX8 8).2.2.1 ∈ ic_tb := ic_in 314 (by decide +kernel)
theorem lif_X8_68 : Cond.fieldLink RX8 68 RX8 (TX8 9).2.1 (TX8 9).2.2.1 ∈ ic_tb := ic_in 315 (by decide +kernel)
theorem lif_X8_72 : Cond.fieldLink RX8 72 RX8 (TX8 10).2.1 (TX8 10).2.2.1 ∈ ic_tb := ic_in 316 (by decide +kernel)
theorem lif_X8_75 : Cond.fieldLink RX8 75 RX8 (TX8 11).2.1 (TX8 11).2.2.1 ∈ ic_tb := ic_in 317 (by decide +kernel)
def gX8_init (w : ic_S) (r0 : Nat) : Option ic_S := ic_lk w r0 (0, 8) (ic_nw w 0 4 (fun w1 => Option.bind (gX4_init w1 (w.1 + 1)) (fun w2 => ic_lk w2 r0 (0, 8) (ic_jr w2 r0 0 (w.1 + 1) (fun w4 => ic_nw w4 0 1 (fun w5 => Option.bind (gX1_init w5 (w4.1 + 1)) (fun w6 => ic_lk w6 r0 (0, 8) (ic_jr w6 r0 1 (w4.1 + 1) (fun w8 => ic_nw w8 0 3 (fun w9 => Option.bind (gX3_init w9 (w8.1 + 1)) (fun w10 => ic_lk w10 r0 (0, 8) (ic_jr w10 r0 2 (w8.1 + 1) (fun w12 => ic_nw w12 0 7 (fun w13 => Option.bind (gX7_init w13 (w12.1 + 1)) (fun w14 => ic_lk w14 r0 (0, 8) (ic_jr w14 r0 3 (w12.1 + 1) (fun w16 => ic_nw w16 0 6 (fun w17 => Option.bind (gX6_init w17 (w16.1 + 1)) (fun w18 => ic_lk w18 r0 (0, 8) (ic_jr w18 r0 4 (w16.1 + 1) (fun w20 => ic_nw w20 0 0 (fun w21 => Option.bind (gX0_init w21 (w20.1 + 1)) (fun w22 => ic_lk w22 r0 (0, 8) (ic_jr w22 r0 5 (w20.1 + 1) (fun w24 => ic_nw w24 4 2 (fun w25 => ic_lk w25 r0 (0, 8) (ic_jr w25 r0 6 (w24.1 + 1) (fun w27 => ic_lk w27 r0 (0, 8) (ic_lk w27 (w27.2.1 r0 6) (4, 2) (ic_lk w27 r0 (0, 8) (ic_nw w27 0 2 (fun w31 => Option.bind (gX2_init w31 (w27.1 + 1)) (fun w32 => ic_lk w32 (w27.2.1 r0 6) (4, 2) (ic_lk w32 (w27.1 + 1) (0, 2) (ic_jr w32 (w27.2.1 r0 6) (Int32.toNatClampNeg (0 : Int32)) (w27.1 + 1) (fun w35 => ic_lk w35 r0 (0, 8) (ic_lk w35 (w35.2.1 r0 6) (4, 2) (ic_lk w35 r0 (0, 8) (ic_nw w35 0 2 (fun w39 => Option.bind (gX2_init w39 (w35.1 + 1)) (fun w40 => ic_lk w40 (w35.2.1 r0 6) (4, 2) (ic_lk w40 (w35.1 + 1) (0, 2) (ic_jr w40 (w35.2.1 r0 6) (Int32.toNatClampNeg (1 : Int32)) (w35.1 + 1) (fun w43 => ic_lk w43 r0 (0, 8) (ic_lk w43 (w43.2.1 r0 6) (4, 2) (ic_nw w43 0 5 (fun w46 => Option.bind (gX5_init w46 (w43.1 + 1)) (fun w47 => ic_lk w47 r0 (0, 8) (ic_jr w47 r0 7 (w43.1 + 1) (fun w49 => ic_nw w49 0 5 (fun w50 => Option.bind (gX5_init w50 (w49.1 + 1)) (fun w51 => ic_lk w51 r0 (0, 8) (ic_jr w51 r0 8 (w49.1 + 1) (fun w53 => ic_lk w53 r0 (0, 8) (ic_ji w53 r0 9 (0 : Int32) (fun w55 => ic_lk w55 r0 (0, 8) (ic_ji w55 r0 10 (0 : Int32) (fun w57 => ic_lk w57 r0 (0, 8) (ic_ji w57 r0 11 (-1 : Int32) (fun w59 => some w59))))))))))))))))))))))))))))))))))))))))))))))))))))))))))))
set_option maxRecDepth 100000 in
set_option maxHeartbeats 8000000 in
theorem ct_X8_init (l : Launch) (κ : ic_K) (w : ic_S) (r0 : Nat) {R : ic_S} (hf : gX8_init w r0 = some R) : ic_C l κ MX8_init [ic_rv κ.1 r0] w.1 w.2.1 w.2.2 none R.1 R.2.1 R.2.2 := by
  refine ic_C.of (L := [(0, ic_rv κ.1 r0)]) ⟨ic_cat _ _, trivial⟩ ⟨by decide +kernel, Nat.le_of_ble_eq_true rfl⟩ rfl ?_
  unfold gX8_init at hf
  obtain ⟨h0, hf⟩ := ic_lk_of hf
  have ho : ∃ a, r0 = a + 1 := h0.imp fun a h => h.1
  refine iw_aload_n (i := 0) (pc' := 1) 0 rfl (by decide +kernel) ?_
  refine iw_obj (i := 1) (r := r0) (pc' := 4) (ic_in 88 (by decide +kernel)) (ic_in 89 (by decide +kernel)) (ic_in 90 (by decide +kernel)) ho (ic_sum8 trivial (Nat.le_of_ble_eq_true rfl)) (by decide +kernel) ?_
  refine iw_aload_n (i := 0) (pc' := 5) 0 rfl (by decide +kernel) ?_
  refine iw_new (pc' := 8) (c1 := 1) (s1 := 5) hf ic_fk4 lik_X8_7 (ic_in 92 (by decide +kernel)) (ic_in 71 (by decide +kernel)) (by decide +kernel) (by decide +kernel) (fun w1 hf => ?_)
  refine iw_dup (pc' := 9) (ic_cat _ _) (by decide +kernel) ?_
  obtain ⟨w2, hc, hf⟩ := ic_bd hf
  refine iw_callIN (S1 := []) (w1 := w2) (pc' := 12) (c1 := 2) (s1 := 245) (ct_X4_init l κ w1 (w.1 + 1) hc) ⟨_, rfl⟩ mi_X4_init lim_X8_9 (ic_sum8 ⟨ic_cat _ _, ic_cat _ _, trivial⟩ (Nat.le_of_ble_eq_true rfl)) (by unfold ic_rm; decide +kernel) ?_
  obtain ⟨h3, hf⟩ := ic_lk_of hf
  refine iw_jputr (pc' := 15) hf ic_fk8 h3 lif_X8_10 ic_fitO (by decide +kernel) (fun w4 hf => ?_)
  refine iw_aload_n (i := 0) (pc' := 16) 0 rfl (by decide +kernel) ?_
  refine iw_new (pc' := 19) (c1 := 3) (s1 := 251) hf ic_fk1 lik_X8_16 (ic_in 118 (by decide +kernel)) (ic_in 72 (by decide +kernel)) (by decide +kernel) (by decide +kernel) (fun w5 hf => ?_)
  refine iw_dup (pc' := 20) (ic_cat _ _) (by decide +kernel) ?_
  obtain ⟨w6, hc, hf⟩ := ic_bd hf
  refine iw_callIN (S1 := []) (w1 := w6) (pc' := 23) (c1 := 5) (s1 := 275) (ct_X1_init l κ w5 (w4.1 + 1) hc) ⟨_, rfl⟩ mi_X1_init lim_X8_18 (ic_sum8 ⟨ic_cat _ _, ic_cat _ _, trivial⟩ (Nat.le_of_ble_eq_true rfl)) (by unfold ic_rm; decide +kernel) ?_
  obtain ⟨h7, hf⟩ := ic_lk_of hf
  refine iw_jputr (pc' := 26) hf ic_fk8 h7 lif_X8_19 ic_fitO (by decide +kernel) (fun w8 hf => ?_)
  refine iw_aload_n (i := 0) (pc' := 27) 0 rfl (by decide +kernel) ?_
  refine iw_new (pc' := 30) (c1 := 6) (s1 := 278) hf ic_fk3 lik_X8_23 (ic_in 148 (by decide +kernel)) (ic_in 73 (by decide +kernel)) (by decide +kernel) (by decide +kernel) (fun w9 hf => ?_)
  refine iw_dup (pc' := 31) (ic_cat _ _) (by decide +kernel) ?_
  obtain ⟨w10, hc, hf⟩ := ic_bd hf
  refine iw_callI (S1 := []) (w1 := w10) (pc' := 34) (c1 := 55) (s1 := 774) (ct_X3_init l κ w9 (w8.1 + 1) hc) ⟨_, rfl⟩ mi_X3_init lim_X8_25 (ic_sum8 ⟨ic_cat _ _, ic_cat _ _, trivial⟩ (Nat.le_of_ble_eq_true rfl)) (by unfold ic_rm; decide +kernel) ?_
  obtain ⟨h11, hf⟩ := ic_lk_of hf
  refine iw_jputr (pc' := 37) hf ic_fk8 h11 lif_X8_26 ic_fitO (by decide +kernel) (fun w12 hf => ?_)
  refine iw_aload_n (i := 0) (pc' := 38) 0 rfl (by decide +kernel) ?_
  refine iw_new (pc' := 41) (c1 := 56) (s1 := 775) hf ic_fk7 lik_X8_30 (ic_in 168 (by decide +kernel)) (ic_in 74 (by decide +kernel)) (by decide +kernel) (by decide +kernel) (fun w13 hf => ?_)
  refine iw_dup (pc' := 42) (ic_cat _ _) (by decide +kernel) ?_
  obtain ⟨w14, hc, hf⟩ := ic_bd hf
  refine iw_callIN (S1 := []) (w1 := w14) (pc' := 45) (c1 := 59) (s1 := 805) (ct_X7_init l κ w13 (w12.1 + 1) hc) ⟨_, rfl⟩ mi_X7_init lim_X8_32 (ic_sum8 ⟨ic_cat _ _, ic_cat _ _, trivial⟩ (Nat.le_of_ble_eq_true rfl)) (by unfold ic_rm; decide +kernel) ?_
  obtain ⟨h15, hf⟩ := ic_lk_of hf
  refine iw_jputr (pc' := 48) hf ic_fk8 h15 lif_X8_33 ic_fitO (by decide +kernel) (fun w16 hf => ?_)
  refine iw_aload_n (i := 0) (pc' := 49) 0 rfl (by decide +kernel) ?_
  refine iw_new (pc' := 52) (c1 := 60) (s1 := 810) hf ic_fk6 lik_X8_37 (ic_in 180 (by decide +kernel)) (ic_in 75 (by decide +kernel)) (by decide +kernel) (by decide +kernel) (fun w17 hf => ?_)
  refine iw_dup (pc' := 53) (ic_cat _ _) (by decide +kernel) ?_
  obtain ⟨w18, hc, hf⟩ := ic_bd hf
  refine iw_callIN (S1 := []) (w1 := w18) (pc' := 56) (c1 := 64) (s1 := 950) (ct_X6_init l κ w17 (w16.1 + 1) hc) ⟨_, rfl⟩ mi_X6_init lim_X8_39 (ic_sum8 ⟨ic_cat _ _, ic_cat _ _, trivial⟩ (Nat.le_of_ble_eq_true rfl)) (by unfold ic_rm; decide +kernel) ?_
  obtain ⟨h19, hf⟩ := ic_lk_of hf
  refine iw_jputr (pc' := 59) hf ic_fk8 h19 lif_X8_40 ic_fitO (by decide +kernel) (fun w20 hf => ?_)
  refine iw_aload_n (i := 0) (pc' := 60) 0 rfl (by decide +kernel) ?_
  refine iw_new (pc' := 63) (c1 := 65) (s1 := 953) hf ic_fk0 lik_X8_44 (ic_in 204 (by decide +kernel)) (ic_in 76 (by decide +kernel)) (by decide +kernel) (by decide +kernel) (fun w21 hf => ?_)
  refine iw_dup (pc' := 64) (ic_cat _ _) (by decide +kernel) ?_
  obtain ⟨w22, hc, hf⟩ := ic_bd hf
  refine iw_callIN (S1 := []) (w1 := w22) (pc' := 67) (c1 := 67) (s1 := 983) (ct_X0_init l κ w21 (w20.1 + 1) hc) ⟨_, rfl⟩ mi_X0_init lim_X8_46 (ic_sum8 ⟨ic_cat _ _, ic_cat _ _, trivial⟩ (Nat.le_of_ble_eq_true rfl)) (by unfold ic_rm; decide +kernel) ?_
  obtain ⟨h23, hf⟩ := ic_lk_of hf
  refine iw_jputr (pc' := 70) hf ic_fk8 h23 lif_X8_47 ic_fitO (by decide +kernel) (fun w24 hf => ?_)
  refine iw_aload_n (i := 0) (pc' := 71) 0 rfl (by decide +kernel) ?_
  refine iw_iconst (i := 2) (v := (2 : Int32)) (pc' := 72) (by decide +kernel) ?_
  refine iw_newq (pc' := 75) (c1 := 68) (s1 := 985) (C := RX2) (by decide) hf lik_X8_51 (ic_in 221 (by decide +kernel)) (by decide +kernel) (by decide +kernel) (fun w25 hf => ?_)
  obtain ⟨h26, hf⟩ := ic_lk_of hf
  refine iw_jputr (pc' := 78) hf ic_fk8 h26 lif_X8_53 ic_fitA (by decide +kernel) (fun w27 hf => ?_)
  refine iw_iconst (i := 0) (v := (0 : Int32)) (pc' := 79) (by decide +kernel) ?_
  refine iw_istore_n0 (i := 1) (pc' := 80) (L' := [(0, ic_rv κ.1 r0), (1, .int (0 : Int32))]) rfl (by decide +kernel) ?_
  refine iw_iload_n (i := 1) (pc' := 81) 1 rfl (by decide +kernel) ?_
  refine iw_aload_n (i := 0) (pc' := 82) 0 rfl (by decide +kernel) ?_
  obtain ⟨h28, hf⟩ := ic_lk_of hf
  refine iw_getr (pc' := 85) (q := (w27.2.1 r0 6)) ic_fk8 h28 rfl lif_X8_53 (by decide +kernel) ?_
  obtain ⟨h29, hf⟩ := ic_lk_of hf
  refine iw_qlen (pc' := 86) (t := 3) (N := 2) (v := (2 : Int32)) (h29.imp fun a h => ⟨h.1, h.2.1, Or.inr ⟨rfl, h.2.2⟩⟩) rfl (by decide +kernel) ?_
  refine iw_geF (off := 22) (tg := 108) (pc' := 89) (by decide) (by decide +kernel) ?_
  refine iw_aload_n (i := 0) (pc' := 90) 0 rfl (by decide +kernel) ?_
  obtain ⟨h30, hf⟩ := ic_lk_of hf
  refine iw_getr (pc' := 93) (q := (w27.2.1 r0 6)) ic_fk8 h30 rfl lif_X8_53 (by decide +kernel) ?_
  refine iw_iload_n (i := 1) (pc' := 94) 1 rfl (by decide +kernel) ?_
  refine iw_new (pc' := 97) (c1 := 69) (s1 := 987) hf ic_fk2 lik_X8_51 (ic_in 222 (by decide +kernel)) (ic_in 77 (by decide +kernel)) (by decide +kernel) (by decide +kernel) (fun w31 hf => ?_)
  refine iw_dup (pc' := 98) (ic_cat _ _) (by decide +kernel) ?_
  obtain ⟨w32, hc, hf⟩ := ic_bd hf
  refine iw_callIN (S1 := []) (w1 := w32) (pc' := 101) (c1 := 72) (s1 := 1017) (ct_X2_init l κ w31 (w27.1 + 1) hc) ⟨_, rfl⟩ mi_X2_init lim_X8_57 (ic_sum8 ⟨ic_cat _ _, rfl, ic_cat _ _, trivial⟩ (Nat.le_of_ble_eq_true rfl)) (by unfold ic_rm; decide +kernel) ?_
  obtain ⟨h33, hf⟩ := ic_lk_of hf
  obtain ⟨h34, hf⟩ := ic_lk_of hf
  refine iw_aast (pc' := 102) (t := 4) (ci := 2) (by decide) hf h33 h34 (by decide) (by decide +kernel) (fun w35 hf => ?_)
  refine iw_iinc0 (i := 1) (d := 1) (pc' := 105) (v := (1 : Int32)) (y := (1 : Int32)) (L' := [(0, ic_rv κ.1 r0), (1, .int (1 : Int32))]) 1 rfl (by decide) rfl (by decide +kernel) ?_
  refine iw_goto (off := (-25)) (pc' := 80) (by decide +kernel) ?_
  refine iw_iload_n (i := 1) (pc' := 81) 1 rfl (by decide +kernel) ?_
  refine iw_aload_n (i := 0) (pc' := 82) 0 rfl (by decide +kernel) ?_
  obtain ⟨h36, hf⟩ := ic_lk_of hf
  refine iw_getr (pc' := 85) (q := (w35.2.1 r0 6)) ic_fk8 h36 rfl lif_X8_53 (by decide +kernel) ?_
  obtain ⟨h37, hf⟩ := ic_lk_of hf
  refine iw_qlen (pc' := 86) (t := 3) (N := 2) (v := (2 : Int32)) (h37.imp fun a h => ⟨h.1, h.2.1, Or.inr ⟨rfl, h.2.2⟩⟩) rfl (by decide +kernel) ?_
  refine iw_geF (off := 22) (tg := 108) (pc' := 89) (by decide) (by decide +kernel) ?_
  refine iw_aload_n (i := 0) (pc' := 90) 0 rfl (by decide +kernel) ?_
  obtain ⟨h38, hf⟩ := ic_lk_of hf
  refine iw_getr (pc' := 93) (q := (w35.2.1 r0 6)) ic_fk8 h38 rfl lif_X8_53 (by decide +kernel) ?_
  refine iw_iload_n (i := 1) (pc' := 94) 1 rfl (by decide +kernel) ?_
  refine iw_new (pc' := 97) (c1 := 73) (s1 := 1019) hf ic_fk2 lik_X8_51 (ic_in 222 (by decide +kernel)) (ic_in 77 (by decide +kernel)) (by decide +kernel) (by decide +kernel) (fun w39 hf => ?_)
  refine iw_dup (pc' := 98) (ic_cat _ _) (by decide +kernel) ?_
  obtain ⟨w40, hc, hf⟩ := ic_bd hf
  refine iw_callIN (S1 := []) (w1 := w40) (pc' := 101) (c1 := 76) (s1 := 1049) (ct_X2_init l κ w39 (w35.1 + 1) hc) ⟨_, rfl⟩ mi_X2_init lim_X8_57 (ic_sum8 ⟨ic_cat _ _, rfl, ic_cat _ _, trivial⟩ (Nat.le_of_ble_eq_true rfl)) (by unfold ic_rm; decide +kernel) ?_
  obtain ⟨h41, hf⟩ := ic_lk_of hf
  obtain ⟨h42, hf⟩ := ic_lk_of hf
  refine iw_aast (pc' := 102) (t := 4) (ci := 2) (by decide) hf h41 h42 (by decide) (by decide +kernel) (fun w43 hf => ?_)
  refine iw_iinc0 (i := 1) (d := 1) (pc' := 105) (v := (1 : Int32)) (y := (2 : Int32)) (L' := [(0, ic_rv κ.1 r0), (1, .int (2 : Int32))]) 1 rfl (by decide) rfl (by decide +kernel) ?_
  refine iw_goto (off := (-25)) (pc' := 80) (by decide +kernel) ?_
  refine iw_iload_n (i := 1) (pc' := 81) 1 rfl (by decide +kernel) ?_
  refine iw_aload_n (i := 0) (pc' := 82) 0 rfl (by decide +kernel) ?_
  obtain ⟨h44, hf⟩ := ic_lk_of hf
  refine iw_getr (pc' := 85) (q := (w43.2.1 r0 6)) ic_fk8 h44 rfl lif_X8_53 (by decide +kernel) ?_
  obtain ⟨h45, hf⟩ := ic_lk_of hf
  refine iw_qlen (pc' := 86) (t := 3) (N := 2) (v := (2 : Int32)) (h45.imp fun a h => ⟨h.1, h.2.1, Or.inr ⟨rfl, h.2.2⟩⟩) rfl (by decide +kernel) ?_
  refine iw_geT (off := 22) (tg := 108) (pc' := 89) (by decide) (by decide +kernel) ?_
  refine iw_aload_n (i := 0) (pc' := 109) 0 rfl (by decide +kernel) ?_
  refine iw_new (pc' := 112) (c1 := 77) (s1 := 1062) hf ic_fk5 lik_X8_58 (ic_in 238 (by decide +kernel)) (ic_in 78 (by decide +kernel)) (by decide +kernel) (by decide +kernel) (fun w46 hf => ?_)
  refine iw_dup (pc' := 113) (ic_cat _ _) (by decide +kernel) ?_
  obtain ⟨w47, hc, hf⟩ := ic_bd hf
  refine iw_callIN (S1 := []) (w1 := w47) (pc' := 116) (c1 := 82) (s1 := 1110) (ct_X5_init l κ w46 (w43.1 + 1) hc) ⟨_, rfl⟩ mi_X5_init lim_X8_60 (ic_sum8 ⟨ic_cat _ _, ic_cat _ _, trivial⟩ (Nat.le_of_ble_eq_true rfl)) (by unfold ic_rm; decide +kernel) ?_
  obtain ⟨h48, hf⟩ := ic_lk_of hf
  refine iw_jputr (pc' := 119) hf ic_fk8 h48 lif_X8_61 ic_fitO (by decide +kernel) (fun w49 hf => ?_)
  refine iw_aload_n (i := 0) (pc' := 120) 0 rfl (by decide +kernel) ?_
  refine iw_new (pc' := 123) (c1 := 83) (s1 := 1123) hf ic_fk5 lik_X8_58 (ic_in 238 (by decide +kernel)) (ic_in 78 (by decide +kernel)) (by decide +kernel) (by decide +kernel) (fun w50 hf => ?_)
  refine iw_dup (pc' := 124) (ic_cat _ _) (by decide +kernel) ?_
  obtain ⟨w51, hc, hf⟩ := ic_bd hf
  refine iw_callIN (S1 := []) (w1 := w51) (pc' := 127) (c1 := 88) (s1 := 1171) (ct_X5_init l κ w50 (w49.1 + 1) hc) ⟨_, rfl⟩ mi_X5_init lim_X8_60 (ic_sum8 ⟨ic_cat _ _, ic_cat _ _, trivial⟩ (Nat.le_of_ble_eq_true rfl)) (by unfold ic_rm; decide +kernel) ?_
  obtain ⟨h52, hf⟩ := ic_lk_of hf
  refine iw_jputr (pc' := 130) hf ic_fk8 h52 lif_X8_65 ic_fitO (by decide +kernel) (fun w53 hf => ?_)
  refine iw_aload_n (i := 0) (pc' := 131) 0 rfl (by decide +kernel) ?_
  refine iw_iconst (i := 0) (v := (0 : Int32)) (pc' := 132) (by decide +kernel) ?_
  obtain ⟨h54, hf⟩ := ic_lk_of hf
  refine iw_jput (pc' := 135) hf ic_fk8 h54 lif_X8_68 (by decide +kernel) (fun w55 hf => ?_)
  refine iw_aload_n (i := 0) (pc' := 136) 0 rfl (by decide +kernel) ?_
  refine iw_iconst (i := 0) (v := (0 : Int32)) (pc' := 137) (by decide +kernel) ?_
  obtain ⟨h56, hf⟩ := ic_lk_of hf
  refine iw_jput (pc' := 140) hf ic_fk8 h56 lif_X8_72 (by decide +kernel) (fun w57 hf => ?_)
  refine iw_aload_n (i := 0) (pc' := 141) 0 rfl (by decide +kernel) ?_
  refine iw_iconst (i := (-1)) (v := (-1 : Int32)) (pc' := 142) (by decide +kernel) ?_
  obtain ⟨h58, hf⟩ := ic_lk_of hf
  refine iw_jput (pc' := 145) hf ic_fk8 h58 lif_X8_75 (by decide +kernel) (fun w59 hf => ?_)
  exact iw_jret hf (by decide +kernel)
def MX9_init : ic_Md := (yX9_init, cX9_init, 1, none, { frames := 1, cells := 16, slots := 974, locals := 20 })
theorem mi_X9_init : ic_MI MX9_init := ⟨ic_in 890 (by decide +kernel), ic_in 79 (by decide +kernel), ic_in 891 (by decide +kernel), by decide +kernel, rfl, rfl⟩
theorem lif_X9_7 : Cond.fieldLink RX9 7 RX9 (TX9 0).2.1 (TX9 0).2.2.1 ∈ ic_tb := ic_in 893 (by decide +kernel)
theorem lif_X9_13 : Cond.fieldLink RX9 13 RX9 (TX9 2).2.1 (TX9 2).2.2.1 ∈ ic_tb := ic_in 895 (by decide +kernel)
theorem lif_X9_17 : Cond.fieldLink RX9 17 RX9 (TX9 3).2.1 (TX9 3).2.2.1 ∈ ic_tb := ic_in 896 (by decide +kernel)
theorem lif_X9_20 : Cond.fieldLink RX9 20 RX9 (TX9 4).2.1 (TX9 4).2.2.1 ∈ ic_tb := ic_in 897 (by decide +kernel)
theorem lif_X9_23 : Cond.fieldLink RX9 23 RX9 (TX9 5).2.1 (TX9 5).2.2.1 ∈ ic_tb := ic_in 898 (by decide +kernel)
theorem lif_X9_26 : Cond.fieldLink RX9 26 RX9 (TX9 6).2.1 (TX9 6).2.2.1 ∈ ic_tb := ic_in 899 (by decide +kernel)
theorem lif_X9_29 : Cond.fieldLink RX9 29 RX9 (TX9 7).2.1 (TX9 7).2.2.1 ∈ ic_tb := ic_in 900 (by decide +kernel)
theorem lif_X9_32 : Cond.fieldLink RX9 32 RX9 (TX9 8).2.1 (TX9 8).2.2.1 ∈ ic_tb := ic_in 901 (by decide +kernel)
theorem lif_X9_35 : Cond.fieldLink RX9 35 RX9 (TX9 9).2.1 (TX9 9).2.2.1 ∈ ic_tb := ic_in 902 (by decide +kernel)
theorem lif_X9_38 : Cond.fieldLink RX9 38 RX9 (TX9 10).2.1 (TX9 10).2.2.1 ∈ ic_tb := ic_in 903 (by decide +kernel)
theorem lif_X9_41 : Cond.fieldLink RX9 41 RX9 (TX9 11).2.1 (TX9 11).2.2.1 ∈ ic_tb := ic_in 904 (by decide +kernel)
theorem lif_X9_44 : Cond.fieldLink RX9 44 RX9 (TX9 13).2.1 (TX9 13).2.2.1 ∈ ic_tb := ic_in 906 (by decide +kernel)
theorem lif_X9_47 : Cond.fieldLink RX9 47 RX9 (TX9 14).2.1 (TX9 14).2.2.1 ∈ ic_tb := ic_in 907 (by decide +kernel)
theorem lif_X9_50 : Cond.fieldLink RX9 50 RX9 (TX9 15).2.1 (TX9 15).2.2.1 ∈ ic_tb := ic_in 908 (by decide +kernel)
theorem lif_X9_54 : Cond.fieldLink RX9 54 RX9 (TX9 17).2.1 (TX9 17).2.2.1 ∈ ic_tb := ic_in 910 (by decide +kernel)
theorem lif_X9_57 : Cond.fieldLink RX9 57 RX9 (TX9 19).2.1 (TX9 19).2.2.1 ∈ ic_tb := ic_in 912 (by decide +kernel)
theorem lif_X9_60 : Cond.fieldLink RX9 60 RX9 (TX9 23).2.1 (TX9 23).2.2.1 ∈ ic_tb := ic_in 916 (by decide +kernel)
def gX9_init (w : ic_S) (r0 : Nat) : Option ic_S := ic_lk w r0 (0, 9) (ic_nw w 1 240 (fun w1 => ic_lk w1 r0 (0, 9) (ic_jr w1 r0 0 (w.1 + 1) (fun w3 => ic_lk w3 r0 (0, 9) (ic_ji w3 r0 2 (-1 : Int32) (fun w5 => ic_nw w5 1 7 (fun w6 => ic_lk w6 r0 (0, 9) (ic_jr w6 r0 3 (w5.1 + 1) (fun w8 => ic_nw w8 1 36 (fun w9 => ic_lk w9 r0 (0, 9) (ic_jr w9 r0 4 (w8.1 + 1) (fun w11 => ic_nw w11 1 12 (fun w12 => ic_lk w12 r0 (0, 9) (ic_jr w12 r0 5 (w11.1 + 1) (fun w14 => ic_nw w14 1 7 (fun w15 => ic_lk w15 r0 (0, 9) (ic_jr w15 r0 6 (w14.1 + 1) (fun w17 => ic_nw w17 1 36 (fun w18 => ic_lk w18 r0 (0, 9) (ic_jr w18 r0 7 (w17.1 + 1) (fun w20 => ic_nw w20 1 12 (fun w21 => ic_lk w21 r0 (0, 9) (ic_jr w21 r0 8 (w20.1 + 1) (fun w23 => ic_nw w23 1 28 (fun w24 => ic_lk w24 r0 (0, 9) (ic_jr w24 r0 9 (w23.1 + 1) (fun w26 => ic_nw w26 1 28 (fun w27 => ic_lk w27 r0 (0, 9) (ic_jr w27 r0 10 (w26.1 + 1) (fun w29 => ic_nw w29 1 448 (fun w30 => ic_lk w30 r0 (0, 9) (ic_jr w30 r0 11 (w29.1 + 1) (fun w32 => ic_nw w32 1 56 (fun w33 => ic_lk w33 r0 (0, 9) (ic_jr w33 r0 13 (w32.1 + 1) (fun w35 => ic_nw w35 1 2 (fun w36 => ic_lk w36 r0 (0, 9) (ic_jr w36 r0 14 (w35.1 + 1) (fun w38 => ic_nw w38 2 2 (fun w39 => ic_lk w39 r0 (0, 9) (ic_jr w39 r0 15 (w38.1 + 1) (fun w41 => ic_nw w41 1 12 (fun w42 => ic_lk w42 r0 (0, 9) (ic_jr w42 r0 17 (w41.1 + 1) (fun w44 => ic_nw w44 1 30 (fun w45 => ic_lk w45 r0 (0, 9) (ic_jr w45 r0 19 (w44.1 + 1) (fun w47 => ic_nw w47 1 18 (fun w48 => ic_lk w48 r0 (0, 9) (ic_jr w48 r0 23 (w47.1 + 1) (fun w50 => ic_lk w50 r0 (0, 9) (ic_lk w50 (w50.2.1 r0 9) (1, 28) (ic_ji w50 (w50.2.1 r0 9) (Int32.toNatClampNeg (25 : Int32)) (-1 : Int32) (fun w53 => some w53))))))))))))))))))))))))))))))))))))))))))))))))))))))
set_option maxRecDepth 100000 in
set_option maxHeartbeats 8000000 in
theorem ct_X9_init (l : Launch) (κ : ic_K) (w : ic_S) (r0 : Nat) {R : ic_S} (hf : gX9_init w r0 = some R) : ic_C l κ MX9_init [ic_rv κ.1 r0] w.1 w.2.1 w.2.2 none R.1 R.2.1 R.2.2 := by
  refine ic_C.of (L := [(0, ic_rv κ.1 r0)]) ⟨ic_cat _ _, trivial⟩ ⟨by decide +kernel, Nat.le_of_ble_eq_true rfl⟩ rfl ?_
  unfold gX9_init at hf
  obtain ⟨h0, hf⟩ := ic_lk_of hf
  have ho : ∃ a, r0 = a + 1 := h0.imp fun a h => h.1
  refine iw_aload_n (i := 0) (pc' := 1) 0 rfl (by decide +kernel) ?_
  refine iw_obj (i := 1) (r := r0) (pc' := 4) (ic_in 892 (by decide +kernel)) (ic_in 89 (by decide +kernel)) (ic_in 90 (by decide +kernel)) ho (ic_sum8 trivial (Nat.le_of_ble_eq_true rfl)) (by decide +kernel) ?_
  refine iw_aload_n (i := 0) (pc' := 5) 0 rfl (by decide +kernel) ?_
  refine iw_sipush (i := 240) (v := (240 : Int32)) (pc' := 8) (by decide +kernel) ?_
  refine iw_newi (pc' := 10) (c1 := 1) (s1 := 240) hf (ic_in 116 (by decide +kernel)) (by decide +kernel) (by decide +kernel) (fun w1 hf => ?_)
  obtain ⟨h2, hf⟩ := ic_lk_of hf
  refine iw_jputr (pc' := 13) hf ic_fk9 h2 lif_X9_7 ic_fitA (by decide +kernel) (fun w3 hf => ?_)
  refine iw_aload_n (i := 0) (pc' := 14) 0 rfl (by decide +kernel) ?_
  refine iw_iconst (i := (-1)) (v := (-1 : Int32)) (pc' := 15) (by decide +kernel) ?_
  obtain ⟨h4, hf⟩ := ic_lk_of hf
  refine iw_jput (pc' := 18) hf ic_fk9 h4 lif_X9_13 (by decide +kernel) (fun w5 hf => ?_)
  refine iw_aload_n (i := 0) (pc' := 19) 0 rfl (by decide +kernel) ?_
  refine iw_bipush (i := 7) (v := (7 : Int32)) (pc' := 21) (by decide +kernel) ?_
  refine iw_newi (pc' := 23) (c1 := 2) (s1 := 247) hf (ic_in 116 (by decide +kernel)) (by decide +kernel) (by decide +kernel) (fun w6 hf => ?_)
  obtain ⟨h7, hf⟩ := ic_lk_of hf
  refine iw_jputr (pc' := 26) hf ic_fk9 h7 lif_X9_17 ic_fitA (by decide +kernel) (fun w8 hf => ?_)
  refine iw_aload_n (i := 0) (pc' := 27) 0 rfl (by decide +kernel) ?_
  refine iw_bipush (i := 36) (v := (36 : Int32)) (pc' := 29) (by decide +kernel) ?_
  refine iw_newi (pc' := 31) (c1 := 3) (s1 := 283) hf (ic_in 116 (by decide +kernel)) (by decide +kernel) (by decide +kernel) (fun w9 hf => ?_)
  obtain ⟨h10, hf⟩ := ic_lk_of hf
  refine iw_jputr (pc' := 34) hf ic_fk9 h10 lif_X9_20 ic_fitA (by decide +kernel) (fun w11 hf => ?_)
  refine iw_aload_n (i := 0) (pc' := 35) 0 rfl (by decide +kernel) ?_
  refine iw_bipush (i := 12) (v := (12 : Int32)) (pc' := 37) (by decide +kernel) ?_
  refine iw_newi (pc' := 39) (c1 := 4) (s1 := 295) hf (ic_in 116 (by decide +kernel)) (by decide +kernel) (by decide +kernel) (fun w12 hf => ?_)
  obtain ⟨h13, hf⟩ := ic_lk_of hf
  refine iw_jputr (pc' := 42) hf ic_fk9 h13 lif_X9_23 ic_fitA (by decide +kernel) (fun w14 hf => ?_)
  refine iw_aload_n (i := 0) (pc' := 43) 0 rfl (by decide +kernel) ?_
  refine iw_bipush (i := 7) (v := (7 : Int32)) (pc' := 45) (by decide +kernel) ?_
  refine iw_newi (pc' := 47) (c1 := 5) (s1 := 302) hf (ic_in 116 (by decide +kernel)) (by decide +kernel) (by decide +kernel) (fun w15 hf => ?_)
  obtain ⟨h16, hf⟩ := ic_lk_of hf
  refine iw_jputr (pc' := 50) hf ic_fk9 h16 lif_X9_26 ic_fitA (by decide +kernel) (fun w17 hf => ?_)
  refine iw_aload_n (i := 0) (pc' := 51) 0 rfl (by decide +kernel) ?_
  refine iw_bipush (i := 36) (v := (36 : Int32)) (pc' := 53) (by decide +kernel) ?_
  refine iw_newi (pc' := 55) (c1 := 6) (s1 := 338) hf (ic_in 116 (by decide +kernel)) (by decide +kernel) (by decide +kernel) (fun w18 hf => ?_)
  obtain ⟨h19, hf⟩ := ic_lk_of hf
  refine iw_jputr (pc' := 58) hf ic_fk9 h19 lif_X9_29 ic_fitA (by decide +kernel) (fun w20 hf => ?_)
  refine iw_aload_n (i := 0) (pc' := 59) 0 rfl (by decide +kernel) ?_
  refine iw_bipush (i := 12) (v := (12 : Int32)) (pc' := 61) (by decide +kernel) ?_
  refine iw_newi (pc' := 63) (c1 := 7) (s1 := 350) hf (ic_in 116 (by decide +kernel)) (by decide +kernel) (by decide +kernel) (fun w21 hf => ?_)
  obtain ⟨h22, hf⟩ := ic_lk_of hf
  refine iw_jputr (pc' := 66) hf ic_fk9 h22 lif_X9_32 ic_fitA (by decide +kernel) (fun w23 hf => ?_)
  refine iw_aload_n (i := 0) (pc' := 67) 0 rfl (by decide +kernel) ?_
  refine iw_bipush (i := 28) (v := (28 : Int32)) (pc' := 69) (by decide +kernel) ?_
  refine iw_newi (pc' := 71) (c1 := 8) (s1 := 378) hf (ic_in 116 (by decide +kernel)) (by decide +kernel) (by decide +kernel) (fun w24 hf => ?_)
  obtain ⟨h25, hf⟩ := ic_lk_of hf
  refine iw_jputr (pc' := 74) hf ic_fk9 h25 lif_X9_35 ic_fitA (by decide +kernel) (fun w26 hf => ?_)
  refine iw_aload_n (i := 0) (pc' := 75) 0 rfl (by decide +kernel) ?_
  refine iw_bipush (i := 28) (v := (28 : Int32)) (pc' := 77) (by decide +kernel) ?_
  refine iw_newi (pc' := 79) (c1 := 9) (s1 := 406) hf (ic_in 116 (by decide +kernel)) (by decide +kernel) (by decide +kernel) (fun w27 hf => ?_)
  obtain ⟨h28, hf⟩ := ic_lk_of hf
  refine iw_jputr (pc' := 82) hf ic_fk9 h28 lif_X9_38 ic_fitA (by decide +kernel) (fun w29 hf => ?_)
  refine iw_aload_n (i := 0) (pc' := 83) 0 rfl (by decide +kernel) ?_
  refine iw_sipush (i := 448) (v := (448 : Int32)) (pc' := 86) (by decide +kernel) ?_
  refine iw_newi (pc' := 88) (c1 := 10) (s1 := 854) hf (ic_in 116 (by decide +kernel)) (by decide +kernel) (by decide +kernel) (fun w30 hf => ?_)
  obtain ⟨h31, hf⟩ := ic_lk_of hf
  refine iw_jputr (pc' := 91) hf ic_fk9 h31 lif_X9_41 ic_fitA (by decide +kernel) (fun w32 hf => ?_)
  refine iw_aload_n (i := 0) (pc' := 92) 0 rfl (by decide +kernel) ?_
  refine iw_bipush (i := 56) (v := (56 : Int32)) (pc' := 94) (by decide +kernel) ?_
  refine iw_newi (pc' := 96) (c1 := 11) (s1 := 910) hf (ic_in 116 (by decide +kernel)) (by decide +kernel) (by decide +kernel) (fun w33 hf => ?_)
  obtain ⟨h34, hf⟩ := ic_lk_of hf
  refine iw_jputr (pc' := 99) hf ic_fk9 h34 lif_X9_44 ic_fitA (by decide +kernel) (fun w35 hf => ?_)
  refine iw_aload_n (i := 0) (pc' := 100) 0 rfl (by decide +kernel) ?_
  refine iw_iconst (i := 2) (v := (2 : Int32)) (pc' := 101) (by decide +kernel) ?_
  refine iw_newi (pc' := 103) (c1 := 12) (s1 := 912) hf (ic_in 116 (by decide +kernel)) (by decide +kernel) (by decide +kernel) (fun w36 hf => ?_)
  obtain ⟨h37, hf⟩ := ic_lk_of hf
  refine iw_jputr (pc' := 106) hf ic_fk9 h37 lif_X9_47 ic_fitA (by decide +kernel) (fun w38 hf => ?_)
  refine iw_aload_n (i := 0) (pc' := 107) 0 rfl (by decide +kernel) ?_
  refine iw_iconst (i := 2) (v := (2 : Int32)) (pc' := 108) (by decide +kernel) ?_
  refine iw_newz (pc' := 110) (c1 := 13) (s1 := 914) hf (ic_in 202 (by decide +kernel)) (by decide +kernel) (by decide +kernel) (fun w39 hf => ?_)
  obtain ⟨h40, hf⟩ := ic_lk_of hf
  refine iw_jputr (pc' := 113) hf ic_fk9 h40 lif_X9_50 ic_fitA (by decide +kernel) (fun w41 hf => ?_)
  refine iw_aload_n (i := 0) (pc' := 114) 0 rfl (by decide +kernel) ?_
  refine iw_bipush (i := 12) (v := (12 : Int32)) (pc' := 116) (by decide +kernel) ?_
  refine iw_newi (pc' := 118) (c1 := 14) (s1 := 926) hf (ic_in 116 (by decide +kernel)) (by decide +kernel) (by decide +kernel) (fun w42 hf => ?_)
  obtain ⟨h43, hf⟩ := ic_lk_of hf
  refine iw_jputr (pc' := 121) hf ic_fk9 h43 lif_X9_54 ic_fitA (by decide +kernel) (fun w44 hf => ?_)
  refine iw_aload_n (i := 0) (pc' := 122) 0 rfl (by decide +kernel) ?_
  refine iw_bipush (i := 30) (v := (30 : Int32)) (pc' := 124) (by decide +kernel) ?_
  refine iw_newi (pc' := 126) (c1 := 15) (s1 := 956) hf (ic_in 116 (by decide +kernel)) (by decide +kernel) (by decide +kernel) (fun w45 hf => ?_)
  obtain ⟨h46, hf⟩ := ic_lk_of hf
  refine iw_jputr (pc' := 129) hf ic_fk9 h46 lif_X9_57 ic_fitA (by decide +kernel) (fun w47 hf => ?_)
  refine iw_aload_n (i := 0) (pc' := 130) 0 rfl (by decide +kernel) ?_
  refine iw_bipush (i := 18) (v := (18 : Int32)) (pc' := 132) (by decide +kernel) ?_
  refine iw_newi (pc' := 134) (c1 := 16) (s1 := 974) hf (ic_in 116 (by decide +kernel)) (by decide +kernel) (by decide +kernel) (fun w48 hf => ?_)
  obtain ⟨h49, hf⟩ := ic_lk_of hf
  refine iw_jputr (pc' := 137) hf ic_fk9 h49 lif_X9_60 ic_fitA (by decide +kernel) (fun w50 hf => ?_)
  refine iw_aload_n (i := 0) (pc' := 138) 0 rfl (by decide +kernel) ?_
  obtain ⟨h51, hf⟩ := ic_lk_of hf
  refine iw_getr (pc' := 141) (q := (w50.2.1 r0 9)) ic_fk9 h51 rfl lif_X9_35 (by decide +kernel) ?_
  refine iw_bipush (i := 25) (v := (25 : Int32)) (pc' := 143) (by decide +kernel) ?_
  refine iw_iconst (i := (-1)) (v := (-1 : Int32)) (pc' := 144) (by decide +kernel) ?_
  obtain ⟨h52, hf⟩ := ic_lk_of hf
  refine iw_jast (pc' := 145) hf h52 (by decide) (by decide +kernel) (fun w53 hf => ?_)
  exact iw_jret hf (by decide +kernel)
end
