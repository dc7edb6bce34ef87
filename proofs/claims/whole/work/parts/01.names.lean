/-- a private method of a class that the tables say can be made, by its rows of tables_1 -/
def lw_okq (q : MethodName × Nat) : Prop := (q.1.cls ≠ "java/lang/invoke/MethodHandle" ∧ q.1.cls ≠ "java/lang/invoke/VarHandle") ∧ Cond.instantiable q.1.cls q.2 ∈ tables_1 ∧ Cond.privateMethod q.1 ∈ tables_1 ∧ Cond.instanceMethod q.1 ∈ tables_1
theorem lw_p0 : lw_okq (⟨"MeltHours$Reader", "clause", "()V"⟩, 5) := ⟨⟨by decide +kernel, by decide +kernel⟩, List.mem_of_getElem? (i := 235) (by decide +kernel), List.mem_of_getElem? (i := 268) (by decide +kernel), List.mem_of_getElem? (i := 269) (by decide +kernel)⟩
theorem lw_p1 : lw_okq (⟨"MeltHours$Reader", "word", "()I"⟩, 5) := ⟨⟨by decide +kernel, by decide +kernel⟩, List.mem_of_getElem? (i := 235) (by decide +kernel), List.mem_of_getElem? (i := 272) (by decide +kernel), List.mem_of_getElem? (i := 273) (by decide +kernel)⟩
theorem lw_p2 : lw_okq (⟨"MeltHours$Reader", "passes", "(I)Z"⟩, 5) := ⟨⟨by decide +kernel, by decide +kernel⟩, List.mem_of_getElem? (i := 235) (by decide +kernel), List.mem_of_getElem? (i := 276) (by decide +kernel), List.mem_of_getElem? (i := 277) (by decide +kernel)⟩
theorem lw_p3 : lw_okq (⟨"MeltHours$Reader", "next", "()I"⟩, 5) := ⟨⟨by decide +kernel, by decide +kernel⟩, List.mem_of_getElem? (i := 235) (by decide +kernel), List.mem_of_getElem? (i := 280) (by decide +kernel), List.mem_of_getElem? (i := 281) (by decide +kernel)⟩
theorem lw_p4 : lw_okq (⟨"MeltHours$Reader", "ending", "(Ljava/lang/String;I)I"⟩, 5) := ⟨⟨by decide +kernel, by decide +kernel⟩, List.mem_of_getElem? (i := 235) (by decide +kernel), List.mem_of_getElem? (i := 285) (by decide +kernel), List.mem_of_getElem? (i := 286) (by decide +kernel)⟩
theorem lw_p5 : lw_okq (⟨"MeltHours$Reader", "expect", "(I)V"⟩, 5) := ⟨⟨by decide +kernel, by decide +kernel⟩, List.mem_of_getElem? (i := 235) (by decide +kernel), List.mem_of_getElem? (i := 337) (by decide +kernel), List.mem_of_getElem? (i := 338) (by decide +kernel)⟩
theorem lw_p6 : lw_okq (⟨"MeltHours$Reader", "number", "()I"⟩, 5) := ⟨⟨by decide +kernel, by decide +kernel⟩, List.mem_of_getElem? (i := 235) (by decide +kernel), List.mem_of_getElem? (i := 345) (by decide +kernel), List.mem_of_getElem? (i := 346) (by decide +kernel)⟩
theorem lw_p7 : lw_okq (⟨"MeltHours$Reader", "either", "(I)[Z"⟩, 5) := ⟨⟨by decide +kernel, by decide +kernel⟩, List.mem_of_getElem? (i := 235) (by decide +kernel), List.mem_of_getElem? (i := 350) (by decide +kernel), List.mem_of_getElem? (i := 351) (by decide +kernel)⟩
theorem lw_p8 : lw_okq (⟨"MeltHours$Reader", "both", "(I)[Z"⟩, 5) := ⟨⟨by decide +kernel, by decide +kernel⟩, List.mem_of_getElem? (i := 235) (by decide +kernel), List.mem_of_getElem? (i := 354) (by decide +kernel), List.mem_of_getElem? (i := 355) (by decide +kernel)⟩
theorem lw_p9 : lw_okq (⟨"MeltHours$Reader", "factor", "(I)[Z"⟩, 5) := ⟨⟨by decide +kernel, by decide +kernel⟩, List.mem_of_getElem? (i := 235) (by decide +kernel), List.mem_of_getElem? (i := 358) (by decide +kernel), List.mem_of_getElem? (i := 359) (by decide +kernel)⟩
theorem lw_p10 : lw_okq (⟨"MeltHours$Reader", "oneOf", "(III)I"⟩, 5) := ⟨⟨by decide +kernel, by decide +kernel⟩, List.mem_of_getElem? (i := 235) (by decide +kernel), List.mem_of_getElem? (i := 362) (by decide +kernel), List.mem_of_getElem? (i := 363) (by decide +kernel)⟩
theorem lw_p11 : lw_okq (⟨"MeltHours$Reader", "figure", "(I)I"⟩, 5) := ⟨⟨by decide +kernel, by decide +kernel⟩, List.mem_of_getElem? (i := 235) (by decide +kernel), List.mem_of_getElem? (i := 373) (by decide +kernel), List.mem_of_getElem? (i := 374) (by decide +kernel)⟩
theorem lw_p12 : lw_okq (⟨"MeltHours$Water", "come", "(I[I)V"⟩, 10) := ⟨⟨by decide +kernel, by decide +kernel⟩, List.mem_of_getElem? (i := 97) (by decide +kernel), List.mem_of_getElem? (i := 444) (by decide +kernel), List.mem_of_getElem? (i := 445) (by decide +kernel)⟩
theorem lw_p13 : lw_okq (⟨"MeltHours$Water", "pass", "(I)V"⟩, 10) := ⟨⟨by decide +kernel, by decide +kernel⟩, List.mem_of_getElem? (i := 97) (by decide +kernel), List.mem_of_getElem? (i := 459) (by decide +kernel), List.mem_of_getElem? (i := 460) (by decide +kernel)⟩
theorem lw_p14 : lw_okq (⟨"MeltHours$Water", "takes", "([IIII)I"⟩, 10) := ⟨⟨by decide +kernel, by decide +kernel⟩, List.mem_of_getElem? (i := 97) (by decide +kernel), List.mem_of_getElem? (i := 463) (by decide +kernel), List.mem_of_getElem? (i := 464) (by decide +kernel)⟩
theorem lw_p15 : lw_okq (⟨"MeltHours$Water", "serve", "()I"⟩, 10) := ⟨⟨by decide +kernel, by decide +kernel⟩, List.mem_of_getElem? (i := 97) (by decide +kernel), List.mem_of_getElem? (i := 470) (by decide +kernel), List.mem_of_getElem? (i := 471) (by decide +kernel)⟩
def lw_privs_1 : List (MethodName × Nat) := [(⟨"MeltHours$Reader", "clause", "()V"⟩, 5), (⟨"MeltHours$Reader", "word", "()I"⟩, 5), (⟨"MeltHours$Reader", "passes", "(I)Z"⟩, 5), (⟨"MeltHours$Reader", "next", "()I"⟩, 5), (⟨"MeltHours$Reader", "ending", "(Ljava/lang/String;I)I"⟩, 5), (⟨"MeltHours$Reader", "expect", "(I)V"⟩, 5), (⟨"MeltHours$Reader", "number", "()I"⟩, 5), (⟨"MeltHours$Reader", "either", "(I)[Z"⟩, 5), (⟨"MeltHours$Reader", "both", "(I)[Z"⟩, 5), (⟨"MeltHours$Reader", "factor", "(I)[Z"⟩, 5), (⟨"MeltHours$Reader", "oneOf", "(III)I"⟩, 5), (⟨"MeltHours$Reader", "figure", "(I)I"⟩, 5), (⟨"MeltHours$Water", "come", "(I[I)V"⟩, 10), (⟨"MeltHours$Water", "pass", "(I)V"⟩, 10), (⟨"MeltHours$Water", "takes", "([IIII)I"⟩, 10), (⟨"MeltHours$Water", "serve", "()I"⟩, 10)]
theorem lw_r1 : ∀ q ∈ lw_privs_1, lw_okq q := List.forall_mem_cons.mpr ⟨lw_p0, List.forall_mem_cons.mpr ⟨lw_p1, List.forall_mem_cons.mpr ⟨lw_p2, List.forall_mem_cons.mpr ⟨lw_p3, List.forall_mem_cons.mpr ⟨lw_p4, List.forall_mem_cons.mpr ⟨lw_p5, List.forall_mem_cons.mpr ⟨lw_p6, List.forall_mem_cons.mpr ⟨lw_p7, List.forall_mem_cons.mpr ⟨lw_p8, List.forall_mem_cons.mpr ⟨lw_p9, List.forall_mem_cons.mpr ⟨lw_p10, List.forall_mem_cons.mpr ⟨lw_p11, List.forall_mem_cons.mpr ⟨lw_p12, List.forall_mem_cons.mpr ⟨lw_p13, List.forall_mem_cons.mpr ⟨lw_p14, List.forall_mem_cons.mpr ⟨lw_p15, fun _ h => absurd h List.not_mem_nil⟩⟩⟩⟩⟩⟩⟩⟩⟩⟩⟩⟩⟩⟩⟩⟩
theorem lw_p16 : lw_okq (⟨"MeltHours$Water", "servedBefore", "(I)I"⟩, 10) := ⟨⟨by decide +kernel, by decide +kernel⟩, List.mem_of_getElem? (i := 97) (by decide +kernel), List.mem_of_getElem? (i := 478) (by decide +kernel), List.mem_of_getElem? (i := 479) (by decide +kernel)⟩
theorem lw_p17 : lw_okq (⟨"MeltHours", "underSkies", "(III)I"⟩, 9) := ⟨⟨by decide +kernel, by decide +kernel⟩, List.mem_of_getElem? (i := 18) (by decide +kernel), List.mem_of_getElem? (i := 548) (by decide +kernel), List.mem_of_getElem? (i := 549) (by decide +kernel)⟩
theorem lw_p18 : lw_okq (⟨"MeltHours", "tapeAt", "(I)LMeltHours$Tape;"⟩, 9) := ⟨⟨by decide +kernel, by decide +kernel⟩, List.mem_of_getElem? (i := 18) (by decide +kernel), List.mem_of_getElem? (i := 586) (by decide +kernel), List.mem_of_getElem? (i := 587) (by decide +kernel)⟩
theorem lw_p19 : lw_okq (⟨"MeltHours$Acts", "lets", "(II)I"⟩, 5) := ⟨⟨by decide +kernel, by decide +kernel⟩, List.mem_of_getElem? (i := 143) (by decide +kernel), List.mem_of_getElem? (i := 617) (by decide +kernel), List.mem_of_getElem? (i := 618) (by decide +kernel)⟩
theorem lw_p20 : lw_okq (⟨"MeltHours$Acts", "began", "(I)V"⟩, 5) := ⟨⟨by decide +kernel, by decide +kernel⟩, List.mem_of_getElem? (i := 143) (by decide +kernel), List.mem_of_getElem? (i := 621) (by decide +kernel), List.mem_of_getElem? (i := 622) (by decide +kernel)⟩
theorem lw_p21 : lw_okq (⟨"MeltHours$Acts", "takes", "(II)I"⟩, 5) := ⟨⟨by decide +kernel, by decide +kernel⟩, List.mem_of_getElem? (i := 143) (by decide +kernel), List.mem_of_getElem? (i := 625) (by decide +kernel), List.mem_of_getElem? (i := 626) (by decide +kernel)⟩
theorem lw_p22 : lw_okq (⟨"MeltHours$Acts", "tells", "(II)I"⟩, 5) := ⟨⟨by decide +kernel, by decide +kernel⟩, List.mem_of_getElem? (i := 143) (by decide +kernel), List.mem_of_getElem? (i := 629) (by decide +kernel), List.mem_of_getElem? (i := 630) (by decide +kernel)⟩
theorem lw_p23 : lw_okq (⟨"MeltHoursModel", "in", "(III)Z"⟩, 67) := ⟨⟨by decide +kernel, by decide +kernel⟩, List.mem_of_getElem? (i := 678) (by decide +kernel), List.mem_of_getElem? (i := 890) (by decide +kernel), List.mem_of_getElem? (i := 891) (by decide +kernel)⟩
theorem lw_p24 : lw_okq (⟨"MeltHoursModel", "isGate", "(I)Z"⟩, 67) := ⟨⟨by decide +kernel, by decide +kernel⟩, List.mem_of_getElem? (i := 678) (by decide +kernel), List.mem_of_getElem? (i := 902) (by decide +kernel), List.mem_of_getElem? (i := 903) (by decide +kernel)⟩
theorem lw_p25 : lw_okq (⟨"MeltHoursModel", "goesText", "(I)Z"⟩, 67) := ⟨⟨by decide +kernel, by decide +kernel⟩, List.mem_of_getElem? (i := 678) (by decide +kernel), List.mem_of_getElem? (i := 919) (by decide +kernel), List.mem_of_getElem? (i := 920) (by decide +kernel)⟩
theorem lw_p26 : lw_okq (⟨"MeltHoursModel", "takesClause", "(I)Z"⟩, 67) := ⟨⟨by decide +kernel, by decide +kernel⟩, List.mem_of_getElem? (i := 678) (by decide +kernel), List.mem_of_getElem? (i := 923) (by decide +kernel), List.mem_of_getElem? (i := 924) (by decide +kernel)⟩
theorem lw_p27 : lw_okq (⟨"MeltHoursModel", "takesHead", "(I)Z"⟩, 67) := ⟨⟨by decide +kernel, by decide +kernel⟩, List.mem_of_getElem? (i := 678) (by decide +kernel), List.mem_of_getElem? (i := 927) (by decide +kernel), List.mem_of_getElem? (i := 928) (by decide +kernel)⟩
theorem lw_p28 : lw_okq (⟨"MeltHoursModel", "second", "()I"⟩, 67) := ⟨⟨by decide +kernel, by decide +kernel⟩, List.mem_of_getElem? (i := 678) (by decide +kernel), List.mem_of_getElem? (i := 931) (by decide +kernel), List.mem_of_getElem? (i := 932) (by decide +kernel)⟩
theorem lw_p29 : lw_okq (⟨"MeltHoursModel", "next", "()I"⟩, 67) := ⟨⟨by decide +kernel, by decide +kernel⟩, List.mem_of_getElem? (i := 678) (by decide +kernel), List.mem_of_getElem? (i := 935) (by decide +kernel), List.mem_of_getElem? (i := 936) (by decide +kernel)⟩
theorem lw_p30 : lw_okq (⟨"MeltHoursModel", "takesWord", "(II)Z"⟩, 67) := ⟨⟨by decide +kernel, by decide +kernel⟩, List.mem_of_getElem? (i := 678) (by decide +kernel), List.mem_of_getElem? (i := 940) (by decide +kernel), List.mem_of_getElem? (i := 941) (by decide +kernel)⟩
theorem lw_p31 : lw_okq (⟨"MeltHoursModel", "takesSign", "(I)Z"⟩, 67) := ⟨⟨by decide +kernel, by decide +kernel⟩, List.mem_of_getElem? (i := 678) (by decide +kernel), List.mem_of_getElem? (i := 944) (by decide +kernel), List.mem_of_getElem? (i := 945) (by decide +kernel)⟩
def lw_privs_2 : List (MethodName × Nat) := [(⟨"MeltHours$Water", "servedBefore", "(I)I"⟩, 10), (⟨"MeltHours", "underSkies", "(III)I"⟩, 9), (⟨"MeltHours", "tapeAt", "(I)LMeltHours$Tape;"⟩, 9), (⟨"MeltHours$Acts", "lets", "(II)I"⟩, 5), (⟨"MeltHours$Acts", "began", "(I)V"⟩, 5), (⟨"MeltHours$Acts", "takes", "(II)I"⟩, 5), (⟨"MeltHours$Acts", "tells", "(II)I"⟩, 5), (⟨"MeltHoursModel", "in", "(III)Z"⟩, 67), (⟨"MeltHoursModel", "isGate", "(I)Z"⟩, 67), (⟨"MeltHoursModel", "goesText", "(I)Z"⟩, 67), (⟨"MeltHoursModel", "takesClause", "(I)Z"⟩, 67), (⟨"MeltHoursModel", "takesHead", "(I)Z"⟩, 67), (⟨"MeltHoursModel", "second", "()I"⟩, 67), (⟨"MeltHoursModel", "next", "()I"⟩, 67), (⟨"MeltHoursModel", "takesWord", "(II)Z"⟩, 67), (⟨"MeltHoursModel", "takesSign", "(I)Z"⟩, 67)]
theorem lw_r2 : ∀ q ∈ lw_privs_2, lw_okq q := List.forall_mem_cons.mpr ⟨lw_p16, List.forall_mem_cons.mpr ⟨lw_p17, List.forall_mem_cons.mpr ⟨lw_p18, List.forall_mem_cons.mpr ⟨lw_p19, List.forall_mem_cons.mpr ⟨lw_p20, List.forall_mem_cons.mpr ⟨lw_p21, List.forall_mem_cons.mpr ⟨lw_p22, List.forall_mem_cons.mpr ⟨lw_p23, List.forall_mem_cons.mpr ⟨lw_p24, List.forall_mem_cons.mpr ⟨lw_p25, List.forall_mem_cons.mpr ⟨lw_p26, List.forall_mem_cons.mpr ⟨lw_p27, List.forall_mem_cons.mpr ⟨lw_p28, List.forall_mem_cons.mpr ⟨lw_p29, List.forall_mem_cons.mpr ⟨lw_p30, List.forall_mem_cons.mpr ⟨lw_p31, fun _ h => absurd h List.not_mem_nil⟩⟩⟩⟩⟩⟩⟩⟩⟩⟩⟩⟩⟩⟩⟩⟩
theorem lw_p32 : lw_okq (⟨"MeltHoursModel", "takesNumber", "()Z"⟩, 67) := ⟨⟨by decide +kernel, by decide +kernel⟩, List.mem_of_getElem? (i := 678) (by decide +kernel), List.mem_of_getElem? (i := 951) (by decide +kernel), List.mem_of_getElem? (i := 952) (by decide +kernel)⟩
theorem lw_p33 : lw_okq (⟨"MeltHoursModel", "isDigit", "()Z"⟩, 67) := ⟨⟨by decide +kernel, by decide +kernel⟩, List.mem_of_getElem? (i := 678) (by decide +kernel), List.mem_of_getElem? (i := 955) (by decide +kernel), List.mem_of_getElem? (i := 956) (by decide +kernel)⟩
theorem lw_p34 : lw_okq (⟨"MeltHoursModel", "takesE", "(I)Z"⟩, 67) := ⟨⟨by decide +kernel, by decide +kernel⟩, List.mem_of_getElem? (i := 678) (by decide +kernel), List.mem_of_getElem? (i := 959) (by decide +kernel), List.mem_of_getElem? (i := 960) (by decide +kernel)⟩
theorem lw_p35 : lw_okq (⟨"MeltHoursModel", "takesTest", "()Z"⟩, 67) := ⟨⟨by decide +kernel, by decide +kernel⟩, List.mem_of_getElem? (i := 678) (by decide +kernel), List.mem_of_getElem? (i := 963) (by decide +kernel), List.mem_of_getElem? (i := 964) (by decide +kernel)⟩
theorem lw_p36 : lw_okq (⟨"MeltHoursModel", "put", "(I)V"⟩, 67) := ⟨⟨by decide +kernel, by decide +kernel⟩, List.mem_of_getElem? (i := 678) (by decide +kernel), List.mem_of_getElem? (i := 967) (by decide +kernel), List.mem_of_getElem? (i := 968) (by decide +kernel)⟩
theorem lw_p37 : lw_okq (⟨"MeltHoursModel", "whole", "()V"⟩, 67) := ⟨⟨by decide +kernel, by decide +kernel⟩, List.mem_of_getElem? (i := 678) (by decide +kernel), List.mem_of_getElem? (i := 971) (by decide +kernel), List.mem_of_getElem? (i := 972) (by decide +kernel)⟩
theorem lw_p38 : lw_okq (⟨"MeltHoursModel", "settle", "(I)V"⟩, 67) := ⟨⟨by decide +kernel, by decide +kernel⟩, List.mem_of_getElem? (i := 678) (by decide +kernel), List.mem_of_getElem? (i := 975) (by decide +kernel), List.mem_of_getElem? (i := 976) (by decide +kernel)⟩
theorem lw_p39 : lw_okq (⟨"MeltHoursModel", "last", "(III)I"⟩, 67) := ⟨⟨by decide +kernel, by decide +kernel⟩, List.mem_of_getElem? (i := 678) (by decide +kernel), List.mem_of_getElem? (i := 983) (by decide +kernel), List.mem_of_getElem? (i := 984) (by decide +kernel)⟩
theorem lw_p40 : lw_okq (⟨"MeltHoursModel", "first", "()I"⟩, 67) := ⟨⟨by decide +kernel, by decide +kernel⟩, List.mem_of_getElem? (i := 678) (by decide +kernel), List.mem_of_getElem? (i := 987) (by decide +kernel), List.mem_of_getElem? (i := 988) (by decide +kernel)⟩
theorem lw_p41 : lw_okq (⟨"MeltHoursModel", "behind", "()I"⟩, 67) := ⟨⟨by decide +kernel, by decide +kernel⟩, List.mem_of_getElem? (i := 678) (by decide +kernel), List.mem_of_getElem? (i := 991) (by decide +kernel), List.mem_of_getElem? (i := 992) (by decide +kernel)⟩
theorem lw_p42 : lw_okq (⟨"MeltHoursModel", "min", "(II)I"⟩, 67) := ⟨⟨by decide +kernel, by decide +kernel⟩, List.mem_of_getElem? (i := 678) (by decide +kernel), List.mem_of_getElem? (i := 995) (by decide +kernel), List.mem_of_getElem? (i := 996) (by decide +kernel)⟩
theorem lw_p43 : lw_okq (⟨"MeltHoursModel", "isHour", "(I)Z"⟩, 67) := ⟨⟨by decide +kernel, by decide +kernel⟩, List.mem_of_getElem? (i := 678) (by decide +kernel), List.mem_of_getElem? (i := 1007) (by decide +kernel), List.mem_of_getElem? (i := 1008) (by decide +kernel)⟩
theorem lw_p44 : lw_okq (⟨"MeltHoursModel", "meltOf", "(II)I"⟩, 67) := ⟨⟨by decide +kernel, by decide +kernel⟩, List.mem_of_getElem? (i := 678) (by decide +kernel), List.mem_of_getElem? (i := 1011) (by decide +kernel), List.mem_of_getElem? (i := 1012) (by decide +kernel)⟩
theorem lw_p45 : lw_okq (⟨"MeltHoursModel", "holds", "(III)Z"⟩, 67) := ⟨⟨by decide +kernel, by decide +kernel⟩, List.mem_of_getElem? (i := 678) (by decide +kernel), List.mem_of_getElem? (i := 1015) (by decide +kernel), List.mem_of_getElem? (i := 1016) (by decide +kernel)⟩
theorem lw_p46 : lw_okq (⟨"MeltHoursModel", "isPlace", "(I)Z"⟩, 67) := ⟨⟨by decide +kernel, by decide +kernel⟩, List.mem_of_getElem? (i := 678) (by decide +kernel), List.mem_of_getElem? (i := 1023) (by decide +kernel), List.mem_of_getElem? (i := 1024) (by decide +kernel)⟩
theorem lw_p47 : lw_okq (⟨"MeltHoursModel", "asIs", "()V"⟩, 67) := ⟨⟨by decide +kernel, by decide +kernel⟩, List.mem_of_getElem? (i := 678) (by decide +kernel), List.mem_of_getElem? (i := 1027) (by decide +kernel), List.mem_of_getElem? (i := 1028) (by decide +kernel)⟩
def lw_privs_3 : List (MethodName × Nat) := [(⟨"MeltHoursModel", "takesNumber", "()Z"⟩, 67), (⟨"MeltHoursModel", "isDigit", "()Z"⟩, 67), (⟨"MeltHoursModel", "takesE", "(I)Z"⟩, 67), (⟨"MeltHoursModel", "takesTest", "()Z"⟩, 67), (⟨"MeltHoursModel", "put", "(I)V"⟩, 67), (⟨"MeltHoursModel", "whole", "()V"⟩, 67), (⟨"MeltHoursModel", "settle", "(I)V"⟩, 67), (⟨"MeltHoursModel", "last", "(III)I"⟩, 67), (⟨"MeltHoursModel", "first", "()I"⟩, 67), (⟨"MeltHoursModel", "behind", "()I"⟩, 67), (⟨"MeltHoursModel", "min", "(II)I"⟩, 67), (⟨"MeltHoursModel", "isHour", "(I)Z"⟩, 67), (⟨"MeltHoursModel", "meltOf", "(II)I"⟩, 67), (⟨"MeltHoursModel", "holds", "(III)Z"⟩, 67), (⟨"MeltHoursModel", "isPlace", "(I)Z"⟩, 67), (⟨"MeltHoursModel", "asIs", "()V"⟩, 67)]
theorem lw_r3 : ∀ q ∈ lw_privs_3, lw_okq q := List.forall_mem_cons.mpr ⟨lw_p32, List.forall_mem_cons.mpr ⟨lw_p33, List.forall_mem_cons.mpr ⟨lw_p34, List.forall_mem_cons.mpr ⟨lw_p35, List.forall_mem_cons.mpr ⟨lw_p36, List.forall_mem_cons.mpr ⟨lw_p37, List.forall_mem_cons.mpr ⟨lw_p38, List.forall_mem_cons.mpr ⟨lw_p39, List.forall_mem_cons.mpr ⟨lw_p40, List.forall_mem_cons.mpr ⟨lw_p41, List.forall_mem_cons.mpr ⟨lw_p42, List.forall_mem_cons.mpr ⟨lw_p43, List.forall_mem_cons.mpr ⟨lw_p44, List.forall_mem_cons.mpr ⟨lw_p45, List.forall_mem_cons.mpr ⟨lw_p46, List.forall_mem_cons.mpr ⟨lw_p47, fun _ h => absurd h List.not_mem_nil⟩⟩⟩⟩⟩⟩⟩⟩⟩⟩⟩⟩⟩⟩⟩⟩
theorem lw_p48 : lw_okq (⟨"MeltHoursModel", "go", "()V"⟩, 67) := ⟨⟨by decide +kernel, by decide +kernel⟩, List.mem_of_getElem? (i := 678) (by decide +kernel), List.mem_of_getElem? (i := 1032) (by decide +kernel), List.mem_of_getElem? (i := 1033) (by decide +kernel)⟩
theorem lw_p49 : lw_okq (⟨"MeltHoursModel", "sets", "(III)V"⟩, 67) := ⟨⟨by decide +kernel, by decide +kernel⟩, List.mem_of_getElem? (i := 678) (by decide +kernel), List.mem_of_getElem? (i := 1036) (by decide +kernel), List.mem_of_getElem? (i := 1037) (by decide +kernel)⟩
theorem lw_p50 : lw_okq (⟨"MeltHoursModel", "less", "(II)I"⟩, 67) := ⟨⟨by decide +kernel, by decide +kernel⟩, List.mem_of_getElem? (i := 678) (by decide +kernel), List.mem_of_getElem? (i := 1040) (by decide +kernel), List.mem_of_getElem? (i := 1041) (by decide +kernel)⟩
theorem lw_p51 : lw_okq (⟨"MeltHoursModel", "takes", "(IIII)I"⟩, 67) := ⟨⟨by decide +kernel, by decide +kernel⟩, List.mem_of_getElem? (i := 678) (by decide +kernel), List.mem_of_getElem? (i := 1044) (by decide +kernel), List.mem_of_getElem? (i := 1045) (by decide +kernel)⟩
theorem lw_p52 : lw_okq (⟨"MeltHoursModel", "has", "(II)Z"⟩, 67) := ⟨⟨by decide +kernel, by decide +kernel⟩, List.mem_of_getElem? (i := 678) (by decide +kernel), List.mem_of_getElem? (i := 1048) (by decide +kernel), List.mem_of_getElem? (i := 1049) (by decide +kernel)⟩
theorem lw_p53 : lw_okq (⟨"MeltHoursModel", "floods", "()I"⟩, 67) := ⟨⟨by decide +kernel, by decide +kernel⟩, List.mem_of_getElem? (i := 678) (by decide +kernel), List.mem_of_getElem? (i := 1056) (by decide +kernel), List.mem_of_getElem? (i := 1057) (by decide +kernel)⟩
theorem lw_p54 : lw_okq (⟨"MeltHoursModel", "worthNow", "()I"⟩, 67) := ⟨⟨by decide +kernel, by decide +kernel⟩, List.mem_of_getElem? (i := 678) (by decide +kernel), List.mem_of_getElem? (i := 1068) (by decide +kernel), List.mem_of_getElem? (i := 1069) (by decide +kernel)⟩
theorem lw_p55 : lw_okq (⟨"MeltHoursModel", "serve", "()I"⟩, 67) := ⟨⟨by decide +kernel, by decide +kernel⟩, List.mem_of_getElem? (i := 678) (by decide +kernel), List.mem_of_getElem? (i := 1072) (by decide +kernel), List.mem_of_getElem? (i := 1073) (by decide +kernel)⟩
theorem lw_p56 : lw_okq (⟨"MeltHoursModel", "oddsOf", "(I)I"⟩, 67) := ⟨⟨by decide +kernel, by decide +kernel⟩, List.mem_of_getElem? (i := 678) (by decide +kernel), List.mem_of_getElem? (i := 1101) (by decide +kernel), List.mem_of_getElem? (i := 1102) (by decide +kernel)⟩
theorem lw_p57 : lw_okq (⟨"MeltHoursModel", "divisor", "(JJ)J"⟩, 67) := ⟨⟨by decide +kernel, by decide +kernel⟩, List.mem_of_getElem? (i := 678) (by decide +kernel), List.mem_of_getElem? (i := 1106) (by decide +kernel), List.mem_of_getElem? (i := 1107) (by decide +kernel)⟩
theorem lw_p58 : lw_okq (⟨"MeltHoursModel", "ones", "(I)I"⟩, 67) := ⟨⟨by decide +kernel, by decide +kernel⟩, List.mem_of_getElem? (i := 678) (by decide +kernel), List.mem_of_getElem? (i := 1122) (by decide +kernel), List.mem_of_getElem? (i := 1123) (by decide +kernel)⟩
theorem lw_p59 : lw_okq (⟨"MeltHoursModel", "isTape", "(I)Z"⟩, 67) := ⟨⟨by decide +kernel, by decide +kernel⟩, List.mem_of_getElem? (i := 678) (by decide +kernel), List.mem_of_getElem? (i := 1130) (by decide +kernel), List.mem_of_getElem? (i := 1131) (by decide +kernel)⟩
theorem lw_p60 : lw_okq (⟨"MeltHoursModel", "copy", "([I[I)V"⟩, 67) := ⟨⟨by decide +kernel, by decide +kernel⟩, List.mem_of_getElem? (i := 678) (by decide +kernel), List.mem_of_getElem? (i := 1138) (by decide +kernel), List.mem_of_getElem? (i := 1139) (by decide +kernel)⟩
theorem lw_p61 : lw_okq (⟨"MeltHoursModel", "letsAct", "(II)I"⟩, 67) := ⟨⟨by decide +kernel, by decide +kernel⟩, List.mem_of_getElem? (i := 678) (by decide +kernel), List.mem_of_getElem? (i := 1150) (by decide +kernel), List.mem_of_getElem? (i := 1151) (by decide +kernel)⟩
theorem lw_p62 : lw_okq (⟨"MeltHoursModel", "body", "(I)V"⟩, 67) := ⟨⟨by decide +kernel, by decide +kernel⟩, List.mem_of_getElem? (i := 678) (by decide +kernel), List.mem_of_getElem? (i := 1154) (by decide +kernel), List.mem_of_getElem? (i := 1155) (by decide +kernel)⟩
theorem lw_p63 : lw_okq (⟨"MeltHoursModel", "plainLets", "(II)I"⟩, 67) := ⟨⟨by decide +kernel, by decide +kernel⟩, List.mem_of_getElem? (i := 678) (by decide +kernel), List.mem_of_getElem? (i := 1158) (by decide +kernel), List.mem_of_getElem? (i := 1159) (by decide +kernel)⟩
def lw_privs_4 : List (MethodName × Nat) := [(⟨"MeltHoursModel", "go", "()V"⟩, 67), (⟨"MeltHoursModel", "sets", "(III)V"⟩, 67), (⟨"MeltHoursModel", "less", "(II)I"⟩, 67), (⟨"MeltHoursModel", "takes", "(IIII)I"⟩, 67), (⟨"MeltHoursModel", "has", "(II)Z"⟩, 67), (⟨"MeltHoursModel", "floods", "()I"⟩, 67), (⟨"MeltHoursModel", "worthNow", "()I"⟩, 67), (⟨"MeltHoursModel", "serve", "()I"⟩, 67), (⟨"MeltHoursModel", "oddsOf", "(I)I"⟩, 67), (⟨"MeltHoursModel", "divisor", "(JJ)J"⟩, 67), (⟨"MeltHoursModel", "ones", "(I)I"⟩, 67), (⟨"MeltHoursModel", "isTape", "(I)Z"⟩, 67), (⟨"MeltHoursModel", "copy", "([I[I)V"⟩, 67), (⟨"MeltHoursModel", "letsAct", "(II)I"⟩, 67), (⟨"MeltHoursModel", "body", "(I)V"⟩, 67), (⟨"MeltHoursModel", "plainLets", "(II)I"⟩, 67)]
theorem lw_r4 : ∀ q ∈ lw_privs_4, lw_okq q := List.forall_mem_cons.mpr ⟨lw_p48, List.forall_mem_cons.mpr ⟨lw_p49, List.forall_mem_cons.mpr ⟨lw_p50, List.forall_mem_cons.mpr ⟨lw_p51, List.forall_mem_cons.mpr ⟨lw_p52, List.forall_mem_cons.mpr ⟨lw_p53, List.forall_mem_cons.mpr ⟨lw_p54, List.forall_mem_cons.mpr ⟨lw_p55, List.forall_mem_cons.mpr ⟨lw_p56, List.forall_mem_cons.mpr ⟨lw_p57, List.forall_mem_cons.mpr ⟨lw_p58, List.forall_mem_cons.mpr ⟨lw_p59, List.forall_mem_cons.mpr ⟨lw_p60, List.forall_mem_cons.mpr ⟨lw_p61, List.forall_mem_cons.mpr ⟨lw_p62, List.forall_mem_cons.mpr ⟨lw_p63, fun _ h => absurd h List.not_mem_nil⟩⟩⟩⟩⟩⟩⟩⟩⟩⟩⟩⟩⟩⟩⟩⟩
theorem lw_p64 : lw_okq (⟨"MeltHoursModel", "takesAct", "(II)I"⟩, 67) := ⟨⟨by decide +kernel, by decide +kernel⟩, List.mem_of_getElem? (i := 678) (by decide +kernel), List.mem_of_getElem? (i := 1162) (by decide +kernel), List.mem_of_getElem? (i := 1163) (by decide +kernel)⟩
theorem lw_p65 : lw_okq (⟨"MeltHoursModel", "clockTakes", "(II)I"⟩, 67) := ⟨⟨by decide +kernel, by decide +kernel⟩, List.mem_of_getElem? (i := 678) (by decide +kernel), List.mem_of_getElem? (i := 1166) (by decide +kernel), List.mem_of_getElem? (i := 1167) (by decide +kernel)⟩
theorem lw_p66 : lw_okq (⟨"MeltHoursModel", "plainTakes", "(II)I"⟩, 67) := ⟨⟨by decide +kernel, by decide +kernel⟩, List.mem_of_getElem? (i := 678) (by decide +kernel), List.mem_of_getElem? (i := 1170) (by decide +kernel), List.mem_of_getElem? (i := 1171) (by decide +kernel)⟩
theorem lw_p67 : lw_okq (⟨"MeltHoursModel", "tellsAct", "(II)I"⟩, 67) := ⟨⟨by decide +kernel, by decide +kernel⟩, List.mem_of_getElem? (i := 678) (by decide +kernel), List.mem_of_getElem? (i := 1174) (by decide +kernel), List.mem_of_getElem? (i := 1175) (by decide +kernel)⟩
theorem lw_p68 : lw_okq (⟨"MeltHoursModel", "plainTells", "(II)I"⟩, 67) := ⟨⟨by decide +kernel, by decide +kernel⟩, List.mem_of_getElem? (i := 678) (by decide +kernel), List.mem_of_getElem? (i := 1178) (by decide +kernel), List.mem_of_getElem? (i := 1179) (by decide +kernel)⟩
theorem lw_p69 : lw_okq (⟨"MeltHoursModel", "narrow", "(IJ)J"⟩, 67) := ⟨⟨by decide +kernel, by decide +kernel⟩, List.mem_of_getElem? (i := 678) (by decide +kernel), List.mem_of_getElem? (i := 1202) (by decide +kernel), List.mem_of_getElem? (i := 1203) (by decide +kernel)⟩
def lw_privs_5 : List (MethodName × Nat) := [(⟨"MeltHoursModel", "takesAct", "(II)I"⟩, 67), (⟨"MeltHoursModel", "clockTakes", "(II)I"⟩, 67), (⟨"MeltHoursModel", "plainTakes", "(II)I"⟩, 67), (⟨"MeltHoursModel", "tellsAct", "(II)I"⟩, 67), (⟨"MeltHoursModel", "plainTells", "(II)I"⟩, 67), (⟨"MeltHoursModel", "narrow", "(IJ)J"⟩, 67)]
theorem lw_r5 : ∀ q ∈ lw_privs_5, lw_okq q := List.forall_mem_cons.mpr ⟨lw_p64, List.forall_mem_cons.mpr ⟨lw_p65, List.forall_mem_cons.mpr ⟨lw_p66, List.forall_mem_cons.mpr ⟨lw_p67, List.forall_mem_cons.mpr ⟨lw_p68, List.forall_mem_cons.mpr ⟨lw_p69, fun _ h => absurd h List.not_mem_nil⟩⟩⟩⟩⟩⟩
def lw_privs : List (MethodName × Nat) := lw_privs_1 ++ (lw_privs_2 ++ (lw_privs_3 ++ (lw_privs_4 ++ (lw_privs_5))))
def lw_tbl : List Cond := k2_sels lw_privs ++ tables_1
theorem lw_privs_ok : ∀ q ∈ lw_privs, lw_okq q := by
  show ∀ q ∈ lw_privs_1 ++ (lw_privs_2 ++ (lw_privs_3 ++ (lw_privs_4 ++ (lw_privs_5)))), lw_okq q
  exact List.forall_mem_append.mpr ⟨lw_r1, List.forall_mem_append.mpr ⟨lw_r2, List.forall_mem_append.mpr ⟨lw_r3, List.forall_mem_append.mpr ⟨lw_r4, lw_r5⟩⟩⟩⟩
def RX0 : String := "MeltHours$Acts"
def TX0 : u_T := fun k => match k with
  | 0 => ("MeltHours$Acts", "place", "I", false)
  | 1 => ("MeltHours$Acts", "might", "I", false)
  | 2 => ("MeltHours$Acts", "kind", "I", false)
  | 3 => ("MeltHours$Acts", "bodies", "[I", true)
  | _ => ("MeltHours$Acts", "ran", "I", false)
def tyX0 : Nat → FieldType := fun k => match k with
  | 0 => .int
  | 1 => .int
  | 2 => .int
  | 3 => .array .int
  | _ => .int
theorem nmX0 : ∀ a, a < 5 → ∀ b, b < 5 → a ≠ b → (TX0 a).2.1 ≠ (TX0 b).2.1 := by decide +kernel
theorem tyX0_ok : ∀ k, k < 5 → parseFieldDescriptor (TX0 k).2.2.1 = some (tyX0 k) := by decide +kernel
abbrev cX0_init : ByteArray := prog_2_method_1_code
def yX0_init : MethodName := ⟨RX0, "<init>", "()V"⟩
abbrev cX0_standAt : ByteArray := prog_2_method_2_code
def yX0_standAt : MethodName := ⟨RX0, "standAt", "(I[I)V"⟩
abbrev cX0_done : ByteArray := prog_2_method_3_code
def yX0_done : MethodName := ⟨RX0, "done", "(II)I"⟩
abbrev cX0_lets : ByteArray := prog_2_method_4_code
def yX0_lets : MethodName := ⟨RX0, "lets", "(II)I"⟩
abbrev cX0_takes : ByteArray := prog_2_method_5_code
def yX0_takes : MethodName := ⟨RX0, "takes", "(II)I"⟩
abbrev cX0_tells : ByteArray := prog_2_method_6_code
def yX0_tells : MethodName := ⟨RX0, "tells", "(II)I"⟩
abbrev cX0_began : ByteArray := prog_2_method_7_code
def yX0_began : MethodName := ⟨RX0, "began", "(I)V"⟩
def RX1 : String := "MeltHours$Reader"
def TX1 : u_T := fun k => match k with
  | 0 => ("MeltHours$Reader", "text", "[I", true)
  | 1 => ("MeltHours$Reader", "length", "I", true)
  | 2 => ("MeltHours$Reader", "sound", "Z", false)
  | 3 => ("MeltHours$Reader", "at", "I", false)
  | _ => ("MeltHours$Reader", "valley", "LMeltHours$Valley;", true)
def tyX1 : Nat → FieldType := fun k => match k with
  | 0 => .array .int
  | 1 => .int
  | 2 => .boolean
  | 3 => .int
  | _ => .object "MeltHours$Valley"
theorem nmX1 : ∀ a, a < 5 → ∀ b, b < 5 → a ≠ b → (TX1 a).2.1 ≠ (TX1 b).2.1 := by decide +kernel
theorem tyX1_ok : ∀ k, k < 5 → parseFieldDescriptor (TX1 k).2.2.1 = some (tyX1 k) := by decide +kernel
abbrev cX1_init : ByteArray := prog_3_method_1_code
def yX1_init : MethodName := ⟨RX1, "<init>", "([II)V"⟩
abbrev cX1_isValley : ByteArray := prog_3_method_2_code
def yX1_isValley : MethodName := ⟨RX1, "isValley", "()Z"⟩
abbrev cX1_clause : ByteArray := prog_3_method_3_code
def yX1_clause : MethodName := ⟨RX1, "clause", "()V"⟩
abbrev cX1_word : ByteArray := prog_3_method_4_code
def yX1_word : MethodName := ⟨RX1, "word", "()I"⟩
abbrev cX1_ending : ByteArray := prog_3_method_5_code
def yX1_ending : MethodName := ⟨RX1, "ending", "(Ljava/lang/String;I)I"⟩
abbrev cX1_either : ByteArray := prog_3_method_6_code
def yX1_either : MethodName := ⟨RX1, "either", "(I)[Z"⟩
abbrev cX1_both : ByteArray := prog_3_method_7_code
def yX1_both : MethodName := ⟨RX1, "both", "(I)[Z"⟩
abbrev cX1_factor : ByteArray := prog_3_method_8_code
def yX1_factor : MethodName := ⟨RX1, "factor", "(I)[Z"⟩
abbrev cX1_whereHolds : ByteArray := prog_3_method_9_code
def yX1_whereHolds : MethodName := ⟨RX1, "whereHolds", "(III)[Z"⟩
abbrev cX1_number : ByteArray := prog_3_method_10_code
def yX1_number : MethodName := ⟨RX1, "number", "()I"⟩
abbrev cX1_figure : ByteArray := prog_3_method_11_code
def yX1_figure : MethodName := ⟨RX1, "figure", "(I)I"⟩
abbrev cX1_oneOf : ByteArray := prog_3_method_12_code
def yX1_oneOf : MethodName := ⟨RX1, "oneOf", "(III)I"⟩
abbrev cX1_expect : ByteArray := prog_3_method_13_code
def yX1_expect : MethodName := ⟨RX1, "expect", "(I)V"⟩
abbrev cX1_passes : ByteArray := prog_3_method_14_code
def yX1_passes : MethodName := ⟨RX1, "passes", "(I)Z"⟩
abbrev cX1_next : ByteArray := prog_3_method_15_code
def yX1_next : MethodName := ⟨RX1, "next", "()I"⟩
def RX2 : String := "MeltHours$State"
def TX2 : u_T := fun k => match k with
  | 0 => ("MeltHours$State", "placeCount", "I", false)
  | 1 => ("MeltHours$State", "skies", "[I", true)
  | 2 => ("MeltHours$State", "odds", "[I", true)
  | 3 => ("MeltHours$State", "gates", "[[I", true)
  | 4 => ("MeltHours$State", "wants", "[[I", true)
  | 5 => ("MeltHours$State", "wantCount", "I", false)
  | 6 => ("MeltHours$State", "toldMelts", "[I", true)
  | 7 => ("MeltHours$State", "toldHours", "I", false)
  | _ => ("MeltHours$State", "valley", "LMeltHours$Valley;", false)
def tyX2 : Nat → FieldType := fun k => match k with
  | 0 => .int
  | 1 => .array .int
  | 2 => .array .int
  | 3 => .array (.array .int)
  | 4 => .array (.array .int)
  | 5 => .int
  | 6 => .array .int
  | 7 => .int
  | _ => .object "MeltHours$Valley"
theorem nmX2 : ∀ a, a < 9 → ∀ b, b < 9 → a ≠ b → (TX2 a).2.1 ≠ (TX2 b).2.1 := by decide +kernel
theorem tyX2_ok : ∀ k, k < 9 → parseFieldDescriptor (TX2 k).2.2.1 = some (tyX2 k) := by decide +kernel
abbrev cX2_init : ByteArray := prog_4_method_1_code
def yX2_init : MethodName := ⟨RX2, "<init>", "(LMeltHours$Valley;)V"⟩
abbrev cX2_become : ByteArray := prog_4_method_2_code
def yX2_become : MethodName := ⟨RX2, "become", "(LMeltHours$State;)V"⟩
abbrev cX2_isPlace : ByteArray := prog_4_method_3_code
def yX2_isPlace : MethodName := ⟨RX2, "isPlace", "(I)Z"⟩
abbrev cX2_isWant : ByteArray := prog_4_method_4_code
def yX2_isWant : MethodName := ⟨RX2, "isWant", "(I)Z"⟩
abbrev cX2_melting : ByteArray := prog_4_method_5_code
def yX2_melting : MethodName := ⟨RX2, "melting", "(II)I"⟩
def RX3 : String := "MeltHours$Tape"
def TX3 : u_T := fun k => match k with
  | 0 => ("MeltHours$Tape", "sort", "I", false)
  | 1 => ("MeltHours$Tape", "size", "I", false)
  | _ => ("MeltHours$Tape", "items", "[J", true)
def tyX3 : Nat → FieldType := fun k => match k with
  | 0 => .int
  | 1 => .int
  | _ => .array .long
theorem nmX3 : ∀ a, a < 3 → ∀ b, b < 3 → a ≠ b → (TX3 a).2.1 ≠ (TX3 b).2.1 := by decide +kernel
theorem tyX3_ok : ∀ k, k < 3 → parseFieldDescriptor (TX3 k).2.2.1 = some (tyX3 k) := by decide +kernel
abbrev cX3_init : ByteArray := prog_5_method_1_code
def yX3_init : MethodName := ⟨RX3, "<init>", "()V"⟩
abbrev cX3_become : ByteArray := prog_5_method_2_code
def yX3_become : MethodName := ⟨RX3, "become", "(II)V"⟩
abbrev cX3_asItem : ByteArray := prog_5_method_3_code
def yX3_asItem : MethodName := ⟨RX3, "asItem", "(J)J"⟩
def RX4 : String := "MeltHours$Valley"
def TX4 : u_T := fun k => match k with
  | 0 => ("MeltHours$Valley", "ways", "[[I", true)
  | _ => ("MeltHours$Valley", "melts", "[I", true)
def tyX4 : Nat → FieldType := fun k => match k with
  | 0 => .array (.array .int)
  | _ => .array .int
theorem nmX4 : ∀ a, a < 2 → ∀ b, b < 2 → a ≠ b → (TX4 a).2.1 ≠ (TX4 b).2.1 := by decide +kernel
theorem tyX4_ok : ∀ k, k < 2 → parseFieldDescriptor (TX4 k).2.2.1 = some (tyX4 k) := by decide +kernel
abbrev cX4_init : ByteArray := prog_6_method_1_code
def yX4_init : MethodName := ⟨RX4, "<init>", "()V"⟩
abbrev cX4_tell : ByteArray := prog_6_method_2_code
def yX4_tell : MethodName := ⟨RX4, "tell", "(III)V"⟩
abbrev cX4_melt : ByteArray := prog_6_method_3_code
def yX4_melt : MethodName := ⟨RX4, "melt", "(I[Z)V"⟩
def RX5 : String := "MeltHours$Water"
def TX5 : u_T := fun k => match k with
  | 0 => ("MeltHours$Water", "state", "LMeltHours$State;", true)
  | 1 => ("MeltHours$Water", "melts", "[I", true)
  | 2 => ("MeltHours$Water", "ways", "[[I", true)
  | 3 => ("MeltHours$Water", "gates", "[[I", true)
  | 4 => ("MeltHours$Water", "comes", "[[I", true)
  | 5 => ("MeltHours$Water", "taken", "[[I", true)
  | 6 => ("MeltHours$Water", "by", "[[I", true)
  | 7 => ("MeltHours$Water", "held", "[[I", true)
  | 8 => ("MeltHours$Water", "flood", "[[I", true)
  | _ => ("MeltHours$Water", "served", "[I", true)
def tyX5 : Nat → FieldType := fun k => match k with
  | 0 => .object "MeltHours$State"
  | 1 => .array .int
  | 2 => .array (.array .int)
  | 3 => .array (.array .int)
  | 4 => .array (.array .int)
  | 5 => .array (.array .int)
  | 6 => .array (.array .int)
  | 7 => .array (.array .int)
  | 8 => .array (.array .int)
  | _ => .array .int
theorem nmX5 : ∀ a, a < 10 → ∀ b, b < 10 → a ≠ b → (TX5 a).2.1 ≠ (TX5 b).2.1 := by decide +kernel
theorem tyX5_ok : ∀ k, k < 10 → parseFieldDescriptor (TX5 k).2.2.1 = some (tyX5 k) := by decide +kernel
abbrev cX5_init : ByteArray := prog_7_method_1_code
def yX5_init : MethodName := ⟨RX5, "<init>", "(LMeltHours$State;)V"⟩
abbrev cX5_load : ByteArray := prog_7_method_2_code
def yX5_load : MethodName := ⟨RX5, "load", "()V"⟩
abbrev cX5_meltUnder : ByteArray := prog_7_method_3_code
def yX5_meltUnder : MethodName := ⟨RX5, "meltUnder", "(II)V"⟩
abbrev cX5_settle : ByteArray := prog_7_method_4_code
def yX5_settle : MethodName := ⟨RX5, "settle", "()I"⟩
abbrev cX5_again : ByteArray := prog_7_method_5_code
def yX5_again : MethodName := ⟨RX5, "again", "(I)I"⟩
abbrev cX5_worthWithout : ByteArray := prog_7_method_6_code
def yX5_worthWithout : MethodName := ⟨RX5, "worthWithout", "(I)I"⟩
abbrev cX5_going : ByteArray := prog_7_method_7_code
def yX5_going : MethodName := ⟨RX5, "going", "(II)I"⟩
abbrev cX5_arriving : ByteArray := prog_7_method_8_code
def yX5_arriving : MethodName := ⟨RX5, "arriving", "(II)I"⟩
abbrev cX5_come : ByteArray := prog_7_method_9_code
def yX5_come : MethodName := ⟨RX5, "come", "(I[I)V"⟩
abbrev cX5_pass : ByteArray := prog_7_method_10_code
def yX5_pass : MethodName := ⟨RX5, "pass", "(I)V"⟩
abbrev cX5_takes : ByteArray := prog_7_method_11_code
def yX5_takes : MethodName := ⟨RX5, "takes", "([IIII)I"⟩
abbrev cX5_serve : ByteArray := prog_7_method_12_code
def yX5_serve : MethodName := ⟨RX5, "serve", "()I"⟩
abbrev cX5_servedBefore : ByteArray := prog_7_method_13_code
def yX5_servedBefore : MethodName := ⟨RX5, "servedBefore", "(I)I"⟩
abbrev cX5_utmost : ByteArray := prog_7_method_14_code
def yX5_utmost : MethodName := ⟨RX5, "utmost", "(I)I"⟩
abbrev cX5_rows : ByteArray := prog_7_method_15_code
def yX5_rows : MethodName := ⟨RX5, "rows", "(I)[[I"⟩
abbrev cX5_inAllPlaces : ByteArray := prog_7_method_16_code
def yX5_inAllPlaces : MethodName := ⟨RX5, "inAllPlaces", "([[I)I"⟩
abbrev cX5_inPlace : ByteArray := prog_7_method_17_code
def yX5_inPlace : MethodName := ⟨RX5, "inPlace", "([[II)I"⟩
def RX6 : String := "MeltHours"
def TX6 : u_T := fun k => match k with
  | 0 => ("MeltHours", "now", "LMeltHours$State;", true)
  | 1 => ("MeltHours", "kept", "LMeltHours$State;", true)
  | 2 => ("MeltHours", "isKept", "Z", false)
  | 3 => ("MeltHours", "flow", "LMeltHours$Water;", true)
  | 4 => ("MeltHours", "acts", "LMeltHours$Acts;", true)
  | 5 => ("MeltHours", "text", "[I", true)
  | 6 => ("MeltHours", "textLength", "I", false)
  | 7 => ("MeltHours", "valleyCount", "I", false)
  | _ => ("MeltHours", "tapes", "[LMeltHours$Tape;", true)
def tyX6 : Nat → FieldType := fun k => match k with
  | 0 => .object "MeltHours$State"
  | 1 => .object "MeltHours$State"
  | 2 => .boolean
  | 3 => .object "MeltHours$Water"
  | 4 => .object "MeltHours$Acts"
  | 5 => .array .int
  | 6 => .int
  | 7 => .int
  | _ => .array (.object "MeltHours$Tape")
theorem nmX6 : ∀ a, a < 9 → ∀ b, b < 9 → a ≠ b → (TX6 a).2.1 ≠ (TX6 b).2.1 := by decide +kernel
theorem tyX6_ok : ∀ k, k < 9 → parseFieldDescriptor (TX6 k).2.2.1 = some (tyX6 k) := by decide +kernel
abbrev cX6_init : ByteArray := prog_1_method_1_code
def yX6_init : MethodName := ⟨RX6, "<init>", "()V"⟩
abbrev cX6_places : ByteArray := prog_1_method_2_code
def yX6_places : MethodName := ⟨RX6, "places", "(I)I"⟩
abbrev cX6_sky : ByteArray := prog_1_method_3_code
def yX6_sky : MethodName := ⟨RX6, "sky", "(II)I"⟩
abbrev cX6_feed : ByteArray := prog_1_method_4_code
def yX6_feed : MethodName := ⟨RX6, "feed", "(II)I"⟩
abbrev cX6_valley : ByteArray := prog_1_method_5_code
def yX6_valley : MethodName := ⟨RX6, "valley", "()I"⟩
abbrev cX6_told : ByteArray := prog_1_method_6_code
def yX6_told : MethodName := ⟨RX6, "told", "(II)I"⟩
abbrev cX6_melts : ByteArray := prog_1_method_7_code
def yX6_melts : MethodName := ⟨RX6, "melts", "(I)I"⟩
abbrev cX6_gate : ByteArray := prog_1_method_8_code
def yX6_gate : MethodName := ⟨RX6, "gate", "(IIII)I"⟩
abbrev cX6_of : ByteArray := prog_1_method_9_code
def yX6_of : MethodName := ⟨RX6, "of", "(II)I"⟩
abbrev cX6_water : ByteArray := prog_1_method_10_code
def yX6_water : MethodName := ⟨RX6, "water", "(III)I"⟩
abbrev cX6_all : ByteArray := prog_1_method_11_code
def yX6_all : MethodName := ⟨RX6, "all", "(I)I"⟩
abbrev cX6_want : ByteArray := prog_1_method_12_code
def yX6_want : MethodName := ⟨RX6, "want", "(IIII)I"⟩
abbrev cX6_wants : ByteArray := prog_1_method_13_code
def yX6_wants : MethodName := ⟨RX6, "wants", "(II)I"⟩
abbrev cX6_worth : ByteArray := prog_1_method_14_code
def yX6_worth : MethodName := ⟨RX6, "worth", "()I"⟩
abbrev cX6_best : ByteArray := prog_1_method_15_code
def yX6_best : MethodName := ⟨RX6, "best", "(II)I"⟩
abbrev cX6_price : ByteArray := prog_1_method_16_code
def yX6_price : MethodName := ⟨RX6, "price", "(I)I"⟩
abbrev cX6_part : ByteArray := prog_1_method_17_code
def yX6_part : MethodName := ⟨RX6, "part", "(IIII)I"⟩
abbrev cX6_odds : ByteArray := prog_1_method_18_code
def yX6_odds : MethodName := ⟨RX6, "odds", "(II)I"⟩
abbrev cX6_mean : ByteArray := prog_1_method_19_code
def yX6_mean : MethodName := ⟨RX6, "mean", "(II)J"⟩
abbrev cX6_pond : ByteArray := prog_1_method_20_code
def yX6_pond : MethodName := ⟨RX6, "pond", "(I)I"⟩
abbrev cX6_wrong : ByteArray := prog_1_method_21_code
def yX6_wrong : MethodName := ⟨RX6, "wrong", "()I"⟩
abbrev cX6_spare : ByteArray := prog_1_method_22_code
def yX6_spare : MethodName := ⟨RX6, "spare", "()I"⟩
abbrev cX6_day : ByteArray := prog_1_method_23_code
def yX6_day : MethodName := ⟨RX6, "day", "(I)I"⟩
abbrev cX6_judge : ByteArray := prog_1_method_24_code
def yX6_judge : MethodName := ⟨RX6, "judge", "(III)I"⟩
abbrev cX6_image : ByteArray := prog_1_method_25_code
def yX6_image : MethodName := ⟨RX6, "image", "()I"⟩
abbrev cX6_undo : ByteArray := prog_1_method_26_code
def yX6_undo : MethodName := ⟨RX6, "undo", "()I"⟩
abbrev cX6_act : ByteArray := prog_1_method_27_code
def yX6_act : MethodName := ⟨RX6, "act", "(III)I"⟩
abbrev cX6_trace : ByteArray := prog_1_method_28_code
def yX6_trace : MethodName := ⟨RX6, "trace", "(I)I"⟩
abbrev cX6_taken : ByteArray := prog_1_method_29_code
def yX6_taken : MethodName := ⟨RX6, "taken", "(II)I"⟩
abbrev cX6_count : ByteArray := prog_1_method_30_code
def yX6_count : MethodName := ⟨RX6, "count", "(I)I"⟩
abbrev cX6_tape : ByteArray := prog_1_method_31_code
def yX6_tape : MethodName := ⟨RX6, "tape", "(III)I"⟩
abbrev cX6_item : ByteArray := prog_1_method_32_code
def yX6_item : MethodName := ⟨RX6, "item", "(IIJ)I"⟩
abbrev cX6_read : ByteArray := prog_1_method_33_code
def yX6_read : MethodName := ⟨RX6, "read", "(II)J"⟩
abbrev cX6_shift : ByteArray := prog_1_method_34_code
def yX6_shift : MethodName := ⟨RX6, "shift", "(IIIII)I"⟩
abbrev cX6_isUnder : ByteArray := prog_1_method_35_code
def yX6_isUnder : MethodName := ⟨RX6, "isUnder", "(II)Z"⟩
abbrev cX6_tapeAt : ByteArray := prog_1_method_36_code
def yX6_tapeAt : MethodName := ⟨RX6, "tapeAt", "(I)LMeltHours$Tape;"⟩
abbrev cX6_span : ByteArray := prog_1_method_37_code
def yX6_span : MethodName := ⟨RX6, "span", "(II)I"⟩
abbrev cX6_underSkies : ByteArray := prog_1_method_38_code
def yX6_underSkies : MethodName := ⟨RX6, "underSkies", "(III)I"⟩
abbrev cX6_divisorWithHundred : ByteArray := prog_1_method_39_code
def yX6_divisorWithHundred : MethodName := ⟨RX6, "divisorWithHundred", "(I)I"⟩
abbrev cX6_isOrUnder : ByteArray := prog_1_method_40_code
def yX6_isOrUnder : MethodName := ⟨RX6, "isOrUnder", "(II)Z"⟩
abbrev cX6_sum : ByteArray := prog_1_method_41_code
def yX6_sum : MethodName := ⟨RX6, "sum", "([I)I"⟩
abbrev cX6_copy : ByteArray := prog_1_method_42_code
def yX6_copy : MethodName := ⟨RX6, "copy", "([I[I)V"⟩
abbrev cX6_copyRows : ByteArray := prog_1_method_43_code
def yX6_copyRows : MethodName := ⟨RX6, "copyRows", "([[I[[I)V"⟩
def RX7 : String := "MeltHoursModel"
def TX7 : u_T := fun k => match k with
  | 0 => ("MeltHoursModel", "places", "I", false)
  | 1 => ("MeltHoursModel", "oddsA", "I", false)
  | 2 => ("MeltHoursModel", "oddsB", "I", false)
  | 3 => ("MeltHoursModel", "sky", "[I", true)
  | 4 => ("MeltHoursModel", "kind", "[I", true)
  | 5 => ("MeltHoursModel", "v", "[I", true)
  | 6 => ("MeltHoursModel", "hours", "[I", true)
  | 7 => ("MeltHoursModel", "valleys", "I", false)
  | 8 => ("MeltHoursModel", "the", "I", false)
  | 9 => ("MeltHoursModel", "fed", "I", false)
  | 10 => ("MeltHoursModel", "at", "I", false)
  | 11 => ("MeltHoursModel", "digits", "I", false)
  | 12 => ("MeltHoursModel", "text", "[I", true)
  | 13 => ("MeltHoursModel", "clauses", "[I", true)
  | 14 => ("MeltHoursModel", "word", "[I", true)
  | 15 => ("MeltHoursModel", "spot", "[I", true)
  | 16 => ("MeltHoursModel", "number", "[I", true)
  | 17 => ("MeltHoursModel", "from", "[I", true)
  | 18 => ("MeltHoursModel", "to", "[I", true)
  | 19 => ("MeltHoursModel", "sign", "[I", true)
  | 20 => ("MeltHoursModel", "waits", "[I", true)
  | 21 => ("MeltHoursModel", "signs", "I", false)
  | 22 => ("MeltHoursModel", "waiting", "I", false)
  | 23 => ("MeltHoursModel", "open", "I", false)
  | 24 => ("MeltHoursModel", "pile", "[Z", true)
  | 25 => ("MeltHoursModel", "days", "I", false)
  | 26 => ("MeltHoursModel", "day", "[I", true)
  | 27 => ("MeltHoursModel", "melt", "[I", true)
  | 28 => ("MeltHoursModel", "lag", "[I", true)
  | 29 => ("MeltHoursModel", "leak", "[I", true)
  | 30 => ("MeltHoursModel", "most", "[I", true)
  | 31 => ("MeltHoursModel", "hold", "[I", true)
  | 32 => ("MeltHoursModel", "tryKind", "[I", true)
  | 33 => ("MeltHoursModel", "tryHours", "[I", true)
  | 34 => ("MeltHoursModel", "comes", "[I", true)
  | 35 => ("MeltHoursModel", "taken", "[I", true)
  | 36 => ("MeltHoursModel", "by", "[I", true)
  | 37 => ("MeltHoursModel", "held", "[I", true)
  | 38 => ("MeltHoursModel", "flood", "[I", true)
  | 39 => ("MeltHoursModel", "wants", "I", false)
  | 40 => ("MeltHoursModel", "place", "[I", true)
  | 41 => ("MeltHoursModel", "hour", "[I", true)
  | 42 => ("MeltHoursModel", "cups", "[I", true)
  | 43 => ("MeltHoursModel", "worth", "[I", true)
  | 44 => ("MeltHoursModel", "served", "[I", true)
  | 45 => ("MeltHoursModel", "hasImage", "Z", false)
  | 46 => ("MeltHoursModel", "imagePlaces", "I", false)
  | 47 => ("MeltHoursModel", "imageA", "I", false)
  | 48 => ("MeltHoursModel", "imageB", "I", false)
  | 49 => ("MeltHoursModel", "imageThe", "I", false)
  | 50 => ("MeltHoursModel", "imageDays", "I", false)
  | 51 => ("MeltHoursModel", "imageWants", "I", false)
  | 52 => ("MeltHoursModel", "imageSky", "[I", true)
  | 53 => ("MeltHoursModel", "imageKind", "[I", true)
  | 54 => ("MeltHoursModel", "imageV", "[I", true)
  | 55 => ("MeltHoursModel", "imageHours", "[I", true)
  | 56 => ("MeltHoursModel", "imageDay", "[I", true)
  | 57 => ("MeltHoursModel", "imagePlace", "[I", true)
  | 58 => ("MeltHoursModel", "imageHour", "[I", true)
  | 59 => ("MeltHoursModel", "imageCups", "[I", true)
  | 60 => ("MeltHoursModel", "imageWorth", "[I", true)
  | 61 => ("MeltHoursModel", "ran", "I", false)
  | 62 => ("MeltHoursModel", "bodies", "[I", true)
  | 63 => ("MeltHoursModel", "sort", "[I", true)
  | 64 => ("MeltHoursModel", "length", "[I", true)
  | 65 => ("MeltHoursModel", "item", "[J", true)
  | _ => ("MeltHoursModel", "aside", "[J", true)
def tyX7 : Nat → FieldType := fun k => match k with
  | 0 => .int
  | 1 => .int
  | 2 => .int
  | 3 => .array .int
  | 4 => .array .int
  | 5 => .array .int
  | 6 => .array .int
  | 7 => .int
  | 8 => .int
  | 9 => .int
  | 10 => .int
  | 11 => .int
  | 12 => .array .int
  | 13 => .array .int
  | 14 => .array .int
  | 15 => .array .int
  | 16 => .array .int
  | 17 => .array .int
  | 18 => .array .int
  | 19 => .array .int
  | 20 => .array .int
  | 21 => .int
  | 22 => .int
  | 23 => .int
  | 24 => .array .boolean
  | 25 => .int
  | 26 => .array .int
  | 27 => .array .int
  | 28 => .array .int
  | 29 => .array .int
  | 30 => .array .int
  | 31 => .array .int
  | 32 => .array .int
  | 33 => .array .int
  | 34 => .array .int
  | 35 => .array .int
  | 36 => .array .int
  | 37 => .array .int
  | 38 => .array .int
  | 39 => .int
  | 40 => .array .int
  | 41 => .array .int
  | 42 => .array .int
  | 43 => .array .int
  | 44 => .array .int
  | 45 => .boolean
  | 46 => .int
  | 47 => .int
  | 48 => .int
  | 49 => .int
  | 50 => .int
  | 51 => .int
  | 52 => .array .int
  | 53 => .array .int
  | 54 => .array .int
  | 55 => .array .int
  | 56 => .array .int
  | 57 => .array .int
  | 58 => .array .int
  | 59 => .array .int
  | 60 => .array .int
  | 61 => .int
  | 62 => .array .int
  | 63 => .array .int
  | 64 => .array .int
  | 65 => .array .long
  | _ => .array .long
theorem nmX7 : ∀ a, a < 67 → ∀ b, b < 67 → a ≠ b → (TX7 a).2.1 ≠ (TX7 b).2.1 := by decide +kernel
theorem tyX7_ok : ∀ k, k < 67 → parseFieldDescriptor (TX7 k).2.2.1 = some (tyX7 k) := by decide +kernel
abbrev cX7_init : ByteArray := prog_9_method_1_code
def yX7_init : MethodName := ⟨RX7, "<init>", "()V"⟩
abbrev cX7_in : ByteArray := prog_9_method_2_code
def yX7_in : MethodName := ⟨RX7, "in", "(III)Z"⟩
abbrev cX7_min : ByteArray := prog_9_method_3_code
def yX7_min : MethodName := ⟨RX7, "min", "(II)I"⟩
abbrev cX7_has : ByteArray := prog_9_method_4_code
def yX7_has : MethodName := ⟨RX7, "has", "(II)Z"⟩
abbrev cX7_isPlace : ByteArray := prog_9_method_5_code
def yX7_isPlace : MethodName := ⟨RX7, "isPlace", "(I)Z"⟩
abbrev cX7_isGate : ByteArray := prog_9_method_6_code
def yX7_isGate : MethodName := ⟨RX7, "isGate", "(I)Z"⟩
abbrev cX7_isHour : ByteArray := prog_9_method_7_code
def yX7_isHour : MethodName := ⟨RX7, "isHour", "(I)Z"⟩
abbrev cX7_places : ByteArray := prog_9_method_8_code
def yX7_places : MethodName := ⟨RX7, "places", "(I)I"⟩
abbrev cX7_sky : ByteArray := prog_9_method_9_code
def yX7_sky : MethodName := ⟨RX7, "sky", "(II)I"⟩
abbrev cX7_gate : ByteArray := prog_9_method_10_code
def yX7_gate : MethodName := ⟨RX7, "gate", "(IIII)I"⟩
abbrev cX7_of : ByteArray := prog_9_method_11_code
def yX7_of : MethodName := ⟨RX7, "of", "(II)I"⟩
abbrev cX7_feed : ByteArray := prog_9_method_12_code
def yX7_feed : MethodName := ⟨RX7, "feed", "(II)I"⟩
abbrev cX7_next : ByteArray := prog_9_method_13_code
def yX7_next : MethodName := ⟨RX7, "next", "()I"⟩
abbrev cX7_second : ByteArray := prog_9_method_14_code
def yX7_second : MethodName := ⟨RX7, "second", "()I"⟩
abbrev cX7_takesSign : ByteArray := prog_9_method_15_code
def yX7_takesSign : MethodName := ⟨RX7, "takesSign", "(I)Z"⟩
abbrev cX7_takesWord : ByteArray := prog_9_method_16_code
def yX7_takesWord : MethodName := ⟨RX7, "takesWord", "(II)Z"⟩
abbrev cX7_isDigit : ByteArray := prog_9_method_17_code
def yX7_isDigit : MethodName := ⟨RX7, "isDigit", "()Z"⟩
abbrev cX7_takesNumber : ByteArray := prog_9_method_18_code
def yX7_takesNumber : MethodName := ⟨RX7, "takesNumber", "()Z"⟩
abbrev cX7_put : ByteArray := prog_9_method_19_code
def yX7_put : MethodName := ⟨RX7, "put", "(I)V"⟩
abbrev cX7_whole : ByteArray := prog_9_method_20_code
def yX7_whole : MethodName := ⟨RX7, "whole", "()V"⟩
abbrev cX7_settle : ByteArray := prog_9_method_21_code
def yX7_settle : MethodName := ⟨RX7, "settle", "(I)V"⟩
abbrev cX7_takesTest : ByteArray := prog_9_method_22_code
def yX7_takesTest : MethodName := ⟨RX7, "takesTest", "()Z"⟩
abbrev cX7_takesE : ByteArray := prog_9_method_23_code
def yX7_takesE : MethodName := ⟨RX7, "takesE", "(I)Z"⟩
abbrev cX7_takesHead : ByteArray := prog_9_method_24_code
def yX7_takesHead : MethodName := ⟨RX7, "takesHead", "(I)Z"⟩
abbrev cX7_takesClause : ByteArray := prog_9_method_25_code
def yX7_takesClause : MethodName := ⟨RX7, "takesClause", "(I)Z"⟩
abbrev cX7_goesText : ByteArray := prog_9_method_26_code
def yX7_goesText : MethodName := ⟨RX7, "goesText", "(I)Z"⟩
abbrev cX7_valley : ByteArray := prog_9_method_27_code
def yX7_valley : MethodName := ⟨RX7, "valley", "()I"⟩
abbrev cX7_first : ByteArray := prog_9_method_28_code
def yX7_first : MethodName := ⟨RX7, "first", "()I"⟩
abbrev cX7_behind : ByteArray := prog_9_method_29_code
def yX7_behind : MethodName := ⟨RX7, "behind", "()I"⟩
abbrev cX7_last : ByteArray := prog_9_method_30_code
def yX7_last : MethodName := ⟨RX7, "last", "(III)I"⟩
abbrev cX7_told : ByteArray := prog_9_method_31_code
def yX7_told : MethodName := ⟨RX7, "told", "(II)I"⟩
abbrev cX7_holds : ByteArray := prog_9_method_32_code
def yX7_holds : MethodName := ⟨RX7, "holds", "(III)Z"⟩
abbrev cX7_day : ByteArray := prog_9_method_33_code
def yX7_day : MethodName := ⟨RX7, "day", "(I)I"⟩
abbrev cX7_meltOf : ByteArray := prog_9_method_34_code
def yX7_meltOf : MethodName := ⟨RX7, "meltOf", "(II)I"⟩
abbrev cX7_melts : ByteArray := prog_9_method_35_code
def yX7_melts : MethodName := ⟨RX7, "melts", "(I)I"⟩
abbrev cX7_asIs : ByteArray := prog_9_method_36_code
def yX7_asIs : MethodName := ⟨RX7, "asIs", "()V"⟩
abbrev cX7_less : ByteArray := prog_9_method_37_code
def yX7_less : MethodName := ⟨RX7, "less", "(II)I"⟩
abbrev cX7_sets : ByteArray := prog_9_method_38_code
def yX7_sets : MethodName := ⟨RX7, "sets", "(III)V"⟩
abbrev cX7_takes : ByteArray := prog_9_method_39_code
def yX7_takes : MethodName := ⟨RX7, "takes", "(IIII)I"⟩
abbrev cX7_go : ByteArray := prog_9_method_40_code
def yX7_go : MethodName := ⟨RX7, "go", "()V"⟩
abbrev cX7_water : ByteArray := prog_9_method_41_code
def yX7_water : MethodName := ⟨RX7, "water", "(III)I"⟩
abbrev cX7_floods : ByteArray := prog_9_method_42_code
def yX7_floods : MethodName := ⟨RX7, "floods", "()I"⟩
abbrev cX7_all : ByteArray := prog_9_method_43_code
def yX7_all : MethodName := ⟨RX7, "all", "(I)I"⟩
abbrev cX7_want : ByteArray := prog_9_method_44_code
def yX7_want : MethodName := ⟨RX7, "want", "(IIII)I"⟩
abbrev cX7_serve : ByteArray := prog_9_method_45_code
def yX7_serve : MethodName := ⟨RX7, "serve", "()I"⟩
abbrev cX7_worthNow : ByteArray := prog_9_method_46_code
def yX7_worthNow : MethodName := ⟨RX7, "worthNow", "()I"⟩
abbrev cX7_wants : ByteArray := prog_9_method_47_code
def yX7_wants : MethodName := ⟨RX7, "wants", "(II)I"⟩
abbrev cX7_worth : ByteArray := prog_9_method_48_code
def yX7_worth : MethodName := ⟨RX7, "worth", "()I"⟩
abbrev cX7_best : ByteArray := prog_9_method_49_code
def yX7_best : MethodName := ⟨RX7, "best", "(II)I"⟩
abbrev cX7_price : ByteArray := prog_9_method_50_code
def yX7_price : MethodName := ⟨RX7, "price", "(I)I"⟩
abbrev cX7_part : ByteArray := prog_9_method_51_code
def yX7_part : MethodName := ⟨RX7, "part", "(IIII)I"⟩
abbrev cX7_odds : ByteArray := prog_9_method_52_code
def yX7_odds : MethodName := ⟨RX7, "odds", "(II)I"⟩
abbrev cX7_oddsOf : ByteArray := prog_9_method_53_code
def yX7_oddsOf : MethodName := ⟨RX7, "oddsOf", "(I)I"⟩
abbrev cX7_divisor : ByteArray := prog_9_method_54_code
def yX7_divisor : MethodName := ⟨RX7, "divisor", "(JJ)J"⟩
abbrev cX7_mean : ByteArray := prog_9_method_55_code
def yX7_mean : MethodName := ⟨RX7, "mean", "(II)J"⟩
abbrev cX7_pond : ByteArray := prog_9_method_56_code
def yX7_pond : MethodName := ⟨RX7, "pond", "(I)I"⟩
abbrev cX7_wrong : ByteArray := prog_9_method_57_code
def yX7_wrong : MethodName := ⟨RX7, "wrong", "()I"⟩
abbrev cX7_ones : ByteArray := prog_9_method_58_code
def yX7_ones : MethodName := ⟨RX7, "ones", "(I)I"⟩
abbrev cX7_spare : ByteArray := prog_9_method_59_code
def yX7_spare : MethodName := ⟨RX7, "spare", "()I"⟩
abbrev cX7_judge : ByteArray := prog_9_method_60_code
def yX7_judge : MethodName := ⟨RX7, "judge", "(III)I"⟩
abbrev cX7_copy : ByteArray := prog_9_method_61_code
def yX7_copy : MethodName := ⟨RX7, "copy", "([I[I)V"⟩
abbrev cX7_image : ByteArray := prog_9_method_62_code
def yX7_image : MethodName := ⟨RX7, "image", "()I"⟩
abbrev cX7_undo : ByteArray := prog_9_method_63_code
def yX7_undo : MethodName := ⟨RX7, "undo", "()I"⟩
abbrev cX7_body : ByteArray := prog_9_method_64_code
def yX7_body : MethodName := ⟨RX7, "body", "(I)V"⟩
abbrev cX7_plainLets : ByteArray := prog_9_method_65_code
def yX7_plainLets : MethodName := ⟨RX7, "plainLets", "(II)I"⟩
abbrev cX7_letsAct : ByteArray := prog_9_method_66_code
def yX7_letsAct : MethodName := ⟨RX7, "letsAct", "(II)I"⟩
abbrev cX7_plainTakes : ByteArray := prog_9_method_67_code
def yX7_plainTakes : MethodName := ⟨RX7, "plainTakes", "(II)I"⟩
abbrev cX7_clockTakes : ByteArray := prog_9_method_68_code
def yX7_clockTakes : MethodName := ⟨RX7, "clockTakes", "(II)I"⟩
abbrev cX7_takesAct : ByteArray := prog_9_method_69_code
def yX7_takesAct : MethodName := ⟨RX7, "takesAct", "(II)I"⟩
abbrev cX7_plainTells : ByteArray := prog_9_method_70_code
def yX7_plainTells : MethodName := ⟨RX7, "plainTells", "(II)I"⟩
abbrev cX7_tellsAct : ByteArray := prog_9_method_71_code
def yX7_tellsAct : MethodName := ⟨RX7, "tellsAct", "(II)I"⟩
abbrev cX7_act : ByteArray := prog_9_method_72_code
def yX7_act : MethodName := ⟨RX7, "act", "(III)I"⟩
abbrev cX7_trace : ByteArray := prog_9_method_73_code
def yX7_trace : MethodName := ⟨RX7, "trace", "(I)I"⟩
abbrev cX7_taken : ByteArray := prog_9_method_74_code
def yX7_taken : MethodName := ⟨RX7, "taken", "(II)I"⟩
abbrev cX7_count : ByteArray := prog_9_method_75_code
def yX7_count : MethodName := ⟨RX7, "count", "(I)I"⟩
abbrev cX7_isTape : ByteArray := prog_9_method_76_code
def yX7_isTape : MethodName := ⟨RX7, "isTape", "(I)Z"⟩
abbrev cX7_tape : ByteArray := prog_9_method_77_code
def yX7_tape : MethodName := ⟨RX7, "tape", "(III)I"⟩
abbrev cX7_narrow : ByteArray := prog_9_method_78_code
def yX7_narrow : MethodName := ⟨RX7, "narrow", "(IJ)J"⟩
abbrev cX7_item : ByteArray := prog_9_method_79_code
def yX7_item : MethodName := ⟨RX7, "item", "(IIJ)I"⟩
abbrev cX7_read : ByteArray := prog_9_method_80_code
def yX7_read : MethodName := ⟨RX7, "read", "(II)J"⟩
abbrev cX7_shift : ByteArray := prog_9_method_81_code
def yX7_shift : MethodName := ⟨RX7, "shift", "(IIIII)I"⟩
def RJ6 : String := "java/lang/Integer"
abbrev cJ6_bitCount_0f7a4 : ByteArray := prog_10_method_49_code
def yJ6_bitCount_0f7a4 : MethodName := ⟨RJ6, "bitCount", "(I)I"⟩
def RJ9 : String := "java/lang/Math"
abbrev cJ9_max_7cf53 : ByteArray := prog_11_method_65_code
def yJ9_max_7cf53 : MethodName := ⟨RJ9, "max", "(II)I"⟩
abbrev cJ9_min_7cf53 : ByteArray := prog_11_method_69_code
def yJ9_min_7cf53 : MethodName := ⟨RJ9, "min", "(II)I"⟩
def RJ0 : String := "java/lang/String"
abbrev cJ0_length_8abf5 : ByteArray := prog_12_method_54_code
def yJ0_length_8abf5 : MethodName := ⟨RJ0, "length", "()I"⟩
abbrev cJ0_charAt_5068e : ByteArray := prog_12_method_56_code
def yJ0_charAt_5068e : MethodName := ⟨RJ0, "charAt", "(I)C"⟩
abbrev cJ0_coder_7d493 : ByteArray := prog_12_method_152_code
def yJ0_coder_7d493 : MethodName := ⟨RJ0, "coder", "()B"⟩
abbrev cJ0_isLatin1_aae02 : ByteArray := prog_12_method_154_code
def yJ0_isLatin1_aae02 : MethodName := ⟨RJ0, "isLatin1", "()Z"⟩
abbrev cJ0_checkIndex_df160 : ByteArray := prog_12_method_155_code
def yJ0_checkIndex_df160 : MethodName := ⟨RJ0, "checkIndex", "(II)V"⟩
def RJ1 : String := "java/lang/StringLatin1"
abbrev cJ1_charAt_3b067 : ByteArray := prog_13_method_2_code
def yJ1_charAt_3b067 : MethodName := ⟨RJ1, "charAt", "([BI)C"⟩
def RJ2 : String := "java/lang/StringUTF16"
abbrev cJ2_getChar_3b067 : ByteArray := prog_14_method_5_code
def yJ2_getChar_3b067 : MethodName := ⟨RJ2, "getChar", "([BI)C"⟩
abbrev cJ2_length_9d52b : ByteArray := prog_14_method_6_code
def yJ2_length_9d52b : MethodName := ⟨RJ2, "length", "([B)I"⟩
abbrev cJ2_charAt_3b067 : ByteArray := prog_14_method_83_code
def yJ2_charAt_3b067 : MethodName := ⟨RJ2, "charAt", "([BI)C"⟩
abbrev cJ2_checkIndex_2214a : ByteArray := prog_14_method_91_code
def yJ2_checkIndex_2214a : MethodName := ⟨RJ2, "checkIndex", "(I[B)V"⟩
def RJ10 : String := "java/lang/System"
def RJ7 : String := "java/util/Arrays"
abbrev cJ7_fill_d0a16 : ByteArray := prog_16_method_101_code
def yJ7_fill_d0a16 : MethodName := ⟨RJ7, "fill", "([JJ)V"⟩
abbrev cJ7_fill_53178 : ByteArray := prog_16_method_103_code
def yJ7_fill_53178 : MethodName := ⟨RJ7, "fill", "([II)V"⟩
def RJ3 : String := "jdk/internal/util/Preconditions"
abbrev cJ3_checkIndex_8e157 : ByteArray := prog_17_method_11_code
def yJ3_checkIndex_8e157 : MethodName := ⟨RJ3, "checkIndex", "(IILjava/util/function/BiFunction;)I"⟩
def RL : String := "MeltHoursLaw"
abbrev cL_law : ByteArray := code
def yL_law : MethodName := ⟨RL, "law", "([I)Z"⟩
abbrev vwCl : List vw_C := [(RX0, TX0, 5), (RX1, TX1, 5), (RX2, TX2, 9), (RX3, TX3, 3), (RX4, TX4, 2), (RX5, TX5, 10), (RX6, TX6, 9), (RX7, TX7, 67)]
/-- the words that a call can hand on -/
def lw_good : List Cond := lw_tbl.filter goodWord
theorem good_of {w : Cond} (i : Nat) (h : lw_tbl[i]? = some w) (hg : goodWord w = true) : w ∈ lw_good := List.mem_filter.mpr ⟨List.mem_of_getElem? h, hg⟩
theorem good_in {w : Cond} (h : w ∈ lw_good) : w ∈ lw_tbl := (List.mem_filter.mp h).1
/-- the words of a method: its own code, then all good words of the tables -/
def wsU (y : MethodName) (cc : ByteArray) (maxL : Nat) (ret : Option FieldType) : List Cond := .code y cc maxL ret :: lw_good
theorem goodU {y : MethodName} {cc : ByteArray} {maxL : Nat} {ret : Option FieldType} (h : Cond.code y cc maxL ret ∈ lw_good) : GoodIn lw_good (wsU y cc maxL ret) := fun w hw => by
  rcases List.mem_cons.mp hw with e | e
  · subst e
    exact ⟨h, good_of_word (List.mem_filter.mp h).2⟩
  · exact ⟨e, good_of_word (List.mem_filter.mp e).2⟩
theorem htsU {y : MethodName} {cc : ByteArray} {maxL : Nat} {ret : Option FieldType} {args : Array Value} {s : State} (h : ∀ w ∈ wsU y cc maxL ret, w.before args s = true) : ∀ w ∈ lw_good, w.before args s = true := fun w hw => h w (List.mem_cons_of_mem _ hw)
theorem inX0 : ∀ w ∈ u_ws RX0 TX0 5, w ∈ lw_good := by decide +kernel
theorem inX1 : ∀ w ∈ u_ws RX1 TX1 5, w ∈ lw_good := by decide +kernel
theorem inX2 : ∀ w ∈ u_ws RX2 TX2 9, w ∈ lw_good := by decide +kernel
theorem inX3 : ∀ w ∈ u_ws RX3 TX3 3, w ∈ lw_good := by decide +kernel
theorem inX4 : ∀ w ∈ u_ws RX4 TX4 2, w ∈ lw_good := by decide +kernel
theorem inX5 : ∀ w ∈ u_ws RX5 TX5 10, w ∈ lw_good := by decide +kernel
theorem inX6 : ∀ w ∈ u_ws RX6 TX6 9, w ∈ lw_good := by decide +kernel
theorem inX7 : ∀ w ∈ u_ws RX7 TX7 67, w ∈ lw_good := by decide +kernel
