section
/-- a private method of a class that the tables say can be made, by its rows of tables_1 -/
def lw_okq (q : MethodName × Nat) : Prop := (q.1.cls ≠ "java/lang/invoke/MethodHandle" ∧ q.1.cls ≠ "java/lang/invoke/VarHandle") ∧ Cond.instantiable q.1.cls q.2 ∈ tables_1 ∧ Cond.privateMethod q.1 ∈ tables_1 ∧ Cond.instanceMethod q.1 ∈ tables_1
theorem lw_p0 : lw_okq (⟨"MeltHours$Reader", "clause", "()V"⟩, 5) := ⟨⟨by decide +kernel, by decide +kernel⟩, List.mem_of_getElem? (i := 236) (by decide +kernel), List.mem_of_getElem? (i := 269) (by decide +kernel), List.mem_of_getElem? (i := 270) (by decide +kernel)⟩
theorem lw_p1 : lw_okq (⟨"MeltHours$Reader", "word", "()I"⟩, 5) := ⟨⟨by decide +kernel, by decide +kernel⟩, List.mem_of_getElem? (i := 236) (by decide +kernel), List.mem_of_getElem? (i := 273) (by decide +kernel), List.mem_of_getElem? (i := 274) (by decide +kernel)⟩
theorem lw_p2 : lw_okq (⟨"MeltHours$Reader", "passes", "(I)Z"⟩, 5) := ⟨⟨by decide +kernel, by decide +kernel⟩, List.mem_of_getElem? (i := 236) (by decide +kernel), List.mem_of_getElem? (i := 277) (by decide +kernel), List.mem_of_getElem? (i := 278) (by decide +kernel)⟩
theorem lw_p3 : lw_okq (⟨"MeltHours$Reader", "next", "()I"⟩, 5) := ⟨⟨by decide +kernel, by decide +kernel⟩, List.mem_of_getElem? (i := 236) (by decide +kernel), List.mem_of_getElem? (i := 281) (by decide +kernel), List.mem_of_getElem? (i := 282) (by decide +kernel)⟩
theorem lw_p4 : lw_okq (⟨"MeltHours$Reader", "ending", "(Ljava/lang/String;I)I"⟩, 5) := ⟨⟨by decide +kernel, by decide +kernel⟩, List.mem_of_getElem? (i := 236) (by decide +kernel), List.mem_of_getElem? (i := 286) (by decide +kernel), List.mem_of_getElem? (i := 287) (by decide +kernel)⟩
theorem lw_p5 : lw_okq (⟨"MeltHours$Reader", "expect", "(I)V"⟩, 5) := ⟨⟨by decide +kernel, by decide +kernel⟩, List.mem_of_getElem? (i := 236) (by decide +kernel), List.mem_of_getElem? (i := 338) (by decide +kernel), List.mem_of_getElem? (i := 339) (by decide +kernel)⟩
theorem lw_p6 : lw_okq (⟨"MeltHours$Reader", "number", "()I"⟩, 5) := ⟨⟨by decide +kernel, by decide +kernel⟩, List.mem_of_getElem? (i := 236) (by decide +kernel), List.mem_of_getElem? (i := 346) (by decide +kernel), List.mem_of_getElem? (i := 347) (by decide +kernel)⟩
theorem lw_p7 : lw_okq (⟨"MeltHours$Reader", "either", "(I)[Z"⟩, 5) := ⟨⟨by decide +kernel, by decide +kernel⟩, List.mem_of_getElem? (i := 236) (by decide +kernel), List.mem_of_getElem? (i := 351) (by decide +kernel), List.mem_of_getElem? (i := 352) (by decide +kernel)⟩
theorem lw_p8 : lw_okq (⟨"MeltHours$Reader", "both", "(I)[Z"⟩, 5) := ⟨⟨by decide +kernel, by decide +kernel⟩, List.mem_of_getElem? (i := 236) (by decide +kernel), List.mem_of_getElem? (i := 355) (by decide +kernel), List.mem_of_getElem? (i := 356) (by decide +kernel)⟩
theorem lw_p9 : lw_okq (⟨"MeltHours$Reader", "factor", "(I)[Z"⟩, 5) := ⟨⟨by decide +kernel, by decide +kernel⟩, List.mem_of_getElem? (i := 236) (by decide +kernel), List.mem_of_getElem? (i := 359) (by decide +kernel), List.mem_of_getElem? (i := 360) (by decide +kernel)⟩
theorem lw_p10 : lw_okq (⟨"MeltHours$Reader", "oneOf", "(III)I"⟩, 5) := ⟨⟨by decide +kernel, by decide +kernel⟩, List.mem_of_getElem? (i := 236) (by decide +kernel), List.mem_of_getElem? (i := 363) (by decide +kernel), List.mem_of_getElem? (i := 364) (by decide +kernel)⟩
theorem lw_p11 : lw_okq (⟨"MeltHours$Reader", "figure", "(I)I"⟩, 5) := ⟨⟨by decide +kernel, by decide +kernel⟩, List.mem_of_getElem? (i := 236) (by decide +kernel), List.mem_of_getElem? (i := 374) (by decide +kernel), List.mem_of_getElem? (i := 375) (by decide +kernel)⟩
theorem lw_p12 : lw_okq (⟨"MeltHours$Water", "come", "(I[I)V"⟩, 10) := ⟨⟨by decide +kernel, by decide +kernel⟩, List.mem_of_getElem? (i := 97) (by decide +kernel), List.mem_of_getElem? (i := 445) (by decide +kernel), List.mem_of_getElem? (i := 446) (by decide +kernel)⟩
theorem lw_p13 : lw_okq (⟨"MeltHours$Water", "pass", "(I)V"⟩, 10) := ⟨⟨by decide +kernel, by decide +kernel⟩, List.mem_of_getElem? (i := 97) (by decide +kernel), List.mem_of_getElem? (i := 460) (by decide +kernel), List.mem_of_getElem? (i := 461) (by decide +kernel)⟩
theorem lw_p14 : lw_okq (⟨"MeltHours$Water", "takes", "([IIII)I"⟩, 10) := ⟨⟨by decide +kernel, by decide +kernel⟩, List.mem_of_getElem? (i := 97) (by decide +kernel), List.mem_of_getElem? (i := 464) (by decide +kernel), List.mem_of_getElem? (i := 465) (by decide +kernel)⟩
theorem lw_p15 : lw_okq (⟨"MeltHours$Water", "serve", "()I"⟩, 10) := ⟨⟨by decide +kernel, by decide +kernel⟩, List.mem_of_getElem? (i := 97) (by decide +kernel), List.mem_of_getElem? (i := 471) (by decide +kernel), List.mem_of_getElem? (i := 472) (by decide +kernel)⟩
def lw_privs_1 : List (MethodName × Nat) := [(⟨"MeltHours$Reader", "clause", "()V"⟩, 5), (⟨"MeltHours$Reader", "word", "()I"⟩, 5), (⟨"MeltHours$Reader", "passes", "(I)Z"⟩, 5), (⟨"MeltHours$Reader", "next", "()I"⟩, 5), (⟨"MeltHours$Reader", "ending", "(Ljava/lang/String;I)I"⟩, 5), (⟨"MeltHours$Reader", "expect", "(I)V"⟩, 5), (⟨"MeltHours$Reader", "number", "()I"⟩, 5), (⟨"MeltHours$Reader", "either", "(I)[Z"⟩, 5), (⟨"MeltHours$Reader", "both", "(I)[Z"⟩, 5), (⟨"MeltHours$Reader", "factor", "(I)[Z"⟩, 5), (⟨"MeltHours$Reader", "oneOf", "(III)I"⟩, 5), (⟨"MeltHours$Reader", "figure", "(I)I"⟩, 5), (⟨"MeltHours$Water", "come", "(I[I)V"⟩, 10), (⟨"MeltHours$Water", "pass", "(I)V"⟩, 10), (⟨"MeltHours$Water", "takes", "([IIII)I"⟩, 10), (⟨"MeltHours$Water", "serve", "()I"⟩, 10)]
theorem lw_r1 : ∀ q ∈ lw_privs_1, lw_okq q := List.forall_mem_cons.mpr ⟨lw_p0, List.forall_mem_cons.mpr ⟨lw_p1, List.forall_mem_cons.mpr ⟨lw_p2, List.forall_mem_cons.mpr ⟨lw_p3, List.forall_mem_cons.mpr ⟨lw_p4, List.forall_mem_cons.mpr ⟨lw_p5, List.forall_mem_cons.mpr ⟨lw_p6, List.forall_mem_cons.mpr ⟨lw_p7, List.forall_mem_cons.mpr ⟨lw_p8, List.forall_mem_cons.mpr ⟨lw_p9, List.forall_mem_cons.mpr ⟨lw_p10, List.forall_mem_cons.mpr ⟨lw_p11, List.forall_mem_cons.mpr ⟨lw_p12, List.forall_mem_cons.mpr ⟨lw_p13, List.forall_mem_cons.mpr ⟨lw_p14, List.forall_mem_cons.mpr ⟨lw_p15, fun _ h => absurd h List.not_mem_nil⟩⟩⟩⟩⟩⟩⟩⟩⟩⟩⟩⟩⟩⟩⟩⟩
theorem lw_p16 : lw_okq (⟨"MeltHours$Water", "servedBefore", "(I)I"⟩, 10) := ⟨⟨by decide +kernel, by decide +kernel⟩, List.mem_of_getElem? (i := 97) (by decide +kernel), List.mem_of_getElem? (i := 479) (by decide +kernel), List.mem_of_getElem? (i := 480) (by decide +kernel)⟩
theorem lw_p17 : lw_okq (⟨"MeltHours", "underSkies", "(III)I"⟩, 9) := ⟨⟨by decide +kernel, by decide +kernel⟩, List.mem_of_getElem? (i := 18) (by decide +kernel), List.mem_of_getElem? (i := 549) (by decide +kernel), List.mem_of_getElem? (i := 550) (by decide +kernel)⟩
theorem lw_p18 : lw_okq (⟨"MeltHours", "tapeAt", "(I)LMeltHours$Tape;"⟩, 9) := ⟨⟨by decide +kernel, by decide +kernel⟩, List.mem_of_getElem? (i := 18) (by decide +kernel), List.mem_of_getElem? (i := 587) (by decide +kernel), List.mem_of_getElem? (i := 588) (by decide +kernel)⟩
theorem lw_p19 : lw_okq (⟨"MeltHours$Acts", "began", "(I)V"⟩, 5) := ⟨⟨by decide +kernel, by decide +kernel⟩, List.mem_of_getElem? (i := 143) (by decide +kernel), List.mem_of_getElem? (i := 618) (by decide +kernel), List.mem_of_getElem? (i := 619) (by decide +kernel)⟩
theorem lw_p20 : lw_okq (⟨"MeltHoursModel", "in", "(III)Z"⟩, 67) := ⟨⟨by decide +kernel, by decide +kernel⟩, List.mem_of_getElem? (i := 678) (by decide +kernel), List.mem_of_getElem? (i := 890) (by decide +kernel), List.mem_of_getElem? (i := 891) (by decide +kernel)⟩
theorem lw_p21 : lw_okq (⟨"MeltHoursModel", "isGate", "(I)Z"⟩, 67) := ⟨⟨by decide +kernel, by decide +kernel⟩, List.mem_of_getElem? (i := 678) (by decide +kernel), List.mem_of_getElem? (i := 902) (by decide +kernel), List.mem_of_getElem? (i := 903) (by decide +kernel)⟩
theorem lw_p22 : lw_okq (⟨"MeltHoursModel", "goesText", "(I)Z"⟩, 67) := ⟨⟨by decide +kernel, by decide +kernel⟩, List.mem_of_getElem? (i := 678) (by decide +kernel), List.mem_of_getElem? (i := 919) (by decide +kernel), List.mem_of_getElem? (i := 920) (by decide +kernel)⟩
theorem lw_p23 : lw_okq (⟨"MeltHoursModel", "takesClause", "(I)Z"⟩, 67) := ⟨⟨by decide +kernel, by decide +kernel⟩, List.mem_of_getElem? (i := 678) (by decide +kernel), List.mem_of_getElem? (i := 923) (by decide +kernel), List.mem_of_getElem? (i := 924) (by decide +kernel)⟩
theorem lw_p24 : lw_okq (⟨"MeltHoursModel", "takesHead", "(I)Z"⟩, 67) := ⟨⟨by decide +kernel, by decide +kernel⟩, List.mem_of_getElem? (i := 678) (by decide +kernel), List.mem_of_getElem? (i := 927) (by decide +kernel), List.mem_of_getElem? (i := 928) (by decide +kernel)⟩
theorem lw_p25 : lw_okq (⟨"MeltHoursModel", "second", "()I"⟩, 67) := ⟨⟨by decide +kernel, by decide +kernel⟩, List.mem_of_getElem? (i := 678) (by decide +kernel), List.mem_of_getElem? (i := 931) (by decide +kernel), List.mem_of_getElem? (i := 932) (by decide +kernel)⟩
theorem lw_p26 : lw_okq (⟨"MeltHoursModel", "next", "()I"⟩, 67) := ⟨⟨by decide +kernel, by decide +kernel⟩, List.mem_of_getElem? (i := 678) (by decide +kernel), List.mem_of_getElem? (i := 935) (by decide +kernel), List.mem_of_getElem? (i := 936) (by decide +kernel)⟩
theorem lw_p27 : lw_okq (⟨"MeltHoursModel", "takesWord", "(II)Z"⟩, 67) := ⟨⟨by decide +kernel, by decide +kernel⟩, List.mem_of_getElem? (i := 678) (by decide +kernel), List.mem_of_getElem? (i := 940) (by decide +kernel), List.mem_of_getElem? (i := 941) (by decide +kernel)⟩
theorem lw_p28 : lw_okq (⟨"MeltHoursModel", "takesSign", "(I)Z"⟩, 67) := ⟨⟨by decide +kernel, by decide +kernel⟩, List.mem_of_getElem? (i := 678) (by decide +kernel), List.mem_of_getElem? (i := 944) (by decide +kernel), List.mem_of_getElem? (i := 945) (by decide +kernel)⟩
theorem lw_p29 : lw_okq (⟨"MeltHoursModel", "takesNumber", "()Z"⟩, 67) := ⟨⟨by decide +kernel, by decide +kernel⟩, List.mem_of_getElem? (i := 678) (by decide +kernel), List.mem_of_getElem? (i := 951) (by decide +kernel), List.mem_of_getElem? (i := 952) (by decide +kernel)⟩
theorem lw_p30 : lw_okq (⟨"MeltHoursModel", "isDigit", "()Z"⟩, 67) := ⟨⟨by decide +kernel, by decide +kernel⟩, List.mem_of_getElem? (i := 678) (by decide +kernel), List.mem_of_getElem? (i := 955) (by decide +kernel), List.mem_of_getElem? (i := 956) (by decide +kernel)⟩
theorem lw_p31 : lw_okq (⟨"MeltHoursModel", "takesE", "(I)Z"⟩, 67) := ⟨⟨by decide +kernel, by decide +kernel⟩, List.mem_of_getElem? (i := 678) (by decide +kernel), List.mem_of_getElem? (i := 959) (by decide +kernel), List.mem_of_getElem? (i := 960) (by decide +kernel)⟩
def lw_privs_2 : List (MethodName × Nat) := [(⟨"MeltHours$Water", "servedBefore", "(I)I"⟩, 10), (⟨"MeltHours", "underSkies", "(III)I"⟩, 9), (⟨"MeltHours", "tapeAt", "(I)LMeltHours$Tape;"⟩, 9), (⟨"MeltHours$Acts", "began", "(I)V"⟩, 5), (⟨"MeltHoursModel", "in", "(III)Z"⟩, 67), (⟨"MeltHoursModel", "isGate", "(I)Z"⟩, 67), (⟨"MeltHoursModel", "goesText", "(I)Z"⟩, 67), (⟨"MeltHoursModel", "takesClause", "(I)Z"⟩, 67), (⟨"MeltHoursModel", "takesHead", "(I)Z"⟩, 67), (⟨"MeltHoursModel", "second", "()I"⟩, 67), (⟨"MeltHoursModel", "next", "()I"⟩, 67), (⟨"MeltHoursModel", "takesWord", "(II)Z"⟩, 67), (⟨"MeltHoursModel", "takesSign", "(I)Z"⟩, 67), (⟨"MeltHoursModel", "takesNumber", "()Z"⟩, 67), (⟨"MeltHoursModel", "isDigit", "()Z"⟩, 67), (⟨"MeltHoursModel", "takesE", "(I)Z"⟩, 67)]
theorem lw_r2 : ∀ q ∈ lw_privs_2, lw_okq q := List.forall_mem_cons.mpr ⟨lw_p16, List.forall_mem_cons.mpr ⟨lw_p17, List.forall_mem_cons.mpr ⟨lw_p18, List.forall_mem_cons.mpr ⟨lw_p19, List.forall_mem_cons.mpr ⟨lw_p20, List.forall_mem_cons.mpr ⟨lw_p21, List.forall_mem_cons.mpr ⟨lw_p22, List.forall_mem_cons.mpr ⟨lw_p23, List.forall_mem_cons.mpr ⟨lw_p24, List.forall_mem_cons.mpr ⟨lw_p25, List.forall_mem_cons.mpr ⟨lw_p26, List.forall_mem_cons.mpr ⟨lw_p27, List.forall_mem_cons.mpr ⟨lw_p28, List.forall_mem_cons.mpr ⟨lw_p29, List.forall_mem_cons.mpr ⟨lw_p30, List.forall_mem_cons.mpr ⟨lw_p31, fun _ h => absurd h List.not_mem_nil⟩⟩⟩⟩⟩⟩⟩⟩⟩⟩⟩⟩⟩⟩⟩⟩
theorem lw_p32 : lw_okq (⟨"MeltHoursModel", "takesTest", "()Z"⟩, 67) := ⟨⟨by decide +kernel, by decide +kernel⟩, List.mem_of_getElem? (i := 678) (by decide +kernel), List.mem_of_getElem? (i := 963) (by decide +kernel), List.mem_of_getElem? (i := 964) (by decide +kernel)⟩
theorem lw_p33 : lw_okq (⟨"MeltHoursModel", "put", "(I)V"⟩, 67) := ⟨⟨by decide +kernel, by decide +kernel⟩, List.mem_of_getElem? (i := 678) (by decide +kernel), List.mem_of_getElem? (i := 967) (by decide +kernel), List.mem_of_getElem? (i := 968) (by decide +kernel)⟩
theorem lw_p34 : lw_okq (⟨"MeltHoursModel", "whole", "()V"⟩, 67) := ⟨⟨by decide +kernel, by decide +kernel⟩, List.mem_of_getElem? (i := 678) (by decide +kernel), List.mem_of_getElem? (i := 971) (by decide +kernel), List.mem_of_getElem? (i := 972) (by decide +kernel)⟩
theorem lw_p35 : lw_okq (⟨"MeltHoursModel", "settle", "(I)V"⟩, 67) := ⟨⟨by decide +kernel, by decide +kernel⟩, List.mem_of_getElem? (i := 678) (by decide +kernel), List.mem_of_getElem? (i := 975) (by decide +kernel), List.mem_of_getElem? (i := 976) (by decide +kernel)⟩
theorem lw_p36 : lw_okq (⟨"MeltHoursModel", "last", "(III)I"⟩, 67) := ⟨⟨by decide +kernel, by decide +kernel⟩, List.mem_of_getElem? (i := 678) (by decide +kernel), List.mem_of_getElem? (i := 983) (by decide +kernel), List.mem_of_getElem? (i := 984) (by decide +kernel)⟩
theorem lw_p37 : lw_okq (⟨"MeltHoursModel", "first", "()I"⟩, 67) := ⟨⟨by decide +kernel, by decide +kernel⟩, List.mem_of_getElem? (i := 678) (by decide +kernel), List.mem_of_getElem? (i := 987) (by decide +kernel), List.mem_of_getElem? (i := 988) (by decide +kernel)⟩
theorem lw_p38 : lw_okq (⟨"MeltHoursModel", "behind", "()I"⟩, 67) := ⟨⟨by decide +kernel, by decide +kernel⟩, List.mem_of_getElem? (i := 678) (by decide +kernel), List.mem_of_getElem? (i := 991) (by decide +kernel), List.mem_of_getElem? (i := 992) (by decide +kernel)⟩
theorem lw_p39 : lw_okq (⟨"MeltHoursModel", "min", "(II)I"⟩, 67) := ⟨⟨by decide +kernel, by decide +kernel⟩, List.mem_of_getElem? (i := 678) (by decide +kernel), List.mem_of_getElem? (i := 995) (by decide +kernel), List.mem_of_getElem? (i := 996) (by decide +kernel)⟩
theorem lw_p40 : lw_okq (⟨"MeltHoursModel", "isHour", "(I)Z"⟩, 67) := ⟨⟨by decide +kernel, by decide +kernel⟩, List.mem_of_getElem? (i := 678) (by decide +kernel), List.mem_of_getElem? (i := 1007) (by decide +kernel), List.mem_of_getElem? (i := 1008) (by decide +kernel)⟩
theorem lw_p41 : lw_okq (⟨"MeltHoursModel", "meltOf", "(II)I"⟩, 67) := ⟨⟨by decide +kernel, by decide +kernel⟩, List.mem_of_getElem? (i := 678) (by decide +kernel), List.mem_of_getElem? (i := 1011) (by decide +kernel), List.mem_of_getElem? (i := 1012) (by decide +kernel)⟩
theorem lw_p42 : lw_okq (⟨"MeltHoursModel", "holds", "(III)Z"⟩, 67) := ⟨⟨by decide +kernel, by decide +kernel⟩, List.mem_of_getElem? (i := 678) (by decide +kernel), List.mem_of_getElem? (i := 1015) (by decide +kernel), List.mem_of_getElem? (i := 1016) (by decide +kernel)⟩
theorem lw_p43 : lw_okq (⟨"MeltHoursModel", "isPlace", "(I)Z"⟩, 67) := ⟨⟨by decide +kernel, by decide +kernel⟩, List.mem_of_getElem? (i := 678) (by decide +kernel), List.mem_of_getElem? (i := 1023) (by decide +kernel), List.mem_of_getElem? (i := 1024) (by decide +kernel)⟩
theorem lw_p44 : lw_okq (⟨"MeltHoursModel", "asIs", "()V"⟩, 67) := ⟨⟨by decide +kernel, by decide +kernel⟩, List.mem_of_getElem? (i := 678) (by decide +kernel), List.mem_of_getElem? (i := 1027) (by decide +kernel), List.mem_of_getElem? (i := 1028) (by decide +kernel)⟩
theorem lw_p45 : lw_okq (⟨"MeltHoursModel", "go", "()V"⟩, 67) := ⟨⟨by decide +kernel, by decide +kernel⟩, List.mem_of_getElem? (i := 678) (by decide +kernel), List.mem_of_getElem? (i := 1032) (by decide +kernel), List.mem_of_getElem? (i := 1033) (by decide +kernel)⟩
theorem lw_p46 : lw_okq (⟨"MeltHoursModel", "sets", "(III)V"⟩, 67) := ⟨⟨by decide +kernel, by decide +kernel⟩, List.mem_of_getElem? (i := 678) (by decide +kernel), List.mem_of_getElem? (i := 1036) (by decide +kernel), List.mem_of_getElem? (i := 1037) (by decide +kernel)⟩
theorem lw_p47 : lw_okq (⟨"MeltHoursModel", "less", "(II)I"⟩, 67) := ⟨⟨by decide +kernel, by decide +kernel⟩, List.mem_of_getElem? (i := 678) (by decide +kernel), List.mem_of_getElem? (i := 1040) (by decide +kernel), List.mem_of_getElem? (i := 1041) (by decide +kernel)⟩
def lw_privs_3 : List (MethodName × Nat) := [(⟨"MeltHoursModel", "takesTest", "()Z"⟩, 67), (⟨"MeltHoursModel", "put", "(I)V"⟩, 67), (⟨"MeltHoursModel", "whole", "()V"⟩, 67), (⟨"MeltHoursModel", "settle", "(I)V"⟩, 67), (⟨"MeltHoursModel", "last", "(III)I"⟩, 67), (⟨"MeltHoursModel", "first", "()I"⟩, 67), (⟨"MeltHoursModel", "behind", "()I"⟩, 67), (⟨"MeltHoursModel", "min", "(II)I"⟩, 67), (⟨"MeltHoursModel", "isHour", "(I)Z"⟩, 67), (⟨"MeltHoursModel", "meltOf", "(II)I"⟩, 67), (⟨"MeltHoursModel", "holds", "(III)Z"⟩, 67), (⟨"MeltHoursModel", "isPlace", "(I)Z"⟩, 67), (⟨"MeltHoursModel", "asIs", "()V"⟩, 67), (⟨"MeltHoursModel", "go", "()V"⟩, 67), (⟨"MeltHoursModel", "sets", "(III)V"⟩, 67), (⟨"MeltHoursModel", "less", "(II)I"⟩, 67)]
theorem lw_r3 : ∀ q ∈ lw_privs_3, lw_okq q := List.forall_mem_cons.mpr ⟨lw_p32, List.forall_mem_cons.mpr ⟨lw_p33, List.forall_mem_cons.mpr ⟨lw_p34, List.forall_mem_cons.mpr ⟨lw_p35, List.forall_mem_cons.mpr ⟨lw_p36, List.forall_mem_cons.mpr ⟨lw_p37, List.forall_mem_cons.mpr ⟨lw_p38, List.forall_mem_cons.mpr ⟨lw_p39, List.forall_mem_cons.mpr ⟨lw_p40, List.forall_mem_cons.mpr ⟨lw_p41, List.forall_mem_cons.mpr ⟨lw_p42, List.forall_mem_cons.mpr ⟨lw_p43, List.forall_mem_cons.mpr ⟨lw_p44, List.forall_mem_cons.mpr ⟨lw_p45, List.forall_mem_cons.mpr ⟨lw_p46, List.forall_mem_cons.mpr ⟨lw_p47, fun _ h => absurd h List.not_mem_nil⟩⟩⟩⟩⟩⟩⟩⟩⟩⟩⟩⟩⟩⟩⟩⟩
theorem lw_p48 : lw_okq (⟨"MeltHoursModel", "takes", "(IIII)I"⟩, 67) := ⟨⟨by decide +kernel, by decide +kernel⟩, List.mem_of_getElem? (i := 678) (by decide +kernel), List.mem_of_getElem? (i := 1044) (by decide +kernel), List.mem_of_getElem? (i := 1045) (by decide +kernel)⟩
theorem lw_p49 : lw_okq (⟨"MeltHoursModel", "has", "(II)Z"⟩, 67) := ⟨⟨by decide +kernel, by decide +kernel⟩, List.mem_of_getElem? (i := 678) (by decide +kernel), List.mem_of_getElem? (i := 1048) (by decide +kernel), List.mem_of_getElem? (i := 1049) (by decide +kernel)⟩
theorem lw_p50 : lw_okq (⟨"MeltHoursModel", "floods", "()I"⟩, 67) := ⟨⟨by decide +kernel, by decide +kernel⟩, List.mem_of_getElem? (i := 678) (by decide +kernel), List.mem_of_getElem? (i := 1056) (by decide +kernel), List.mem_of_getElem? (i := 1057) (by decide +kernel)⟩
theorem lw_p51 : lw_okq (⟨"MeltHoursModel", "worthNow", "()I"⟩, 67) := ⟨⟨by decide +kernel, by decide +kernel⟩, List.mem_of_getElem? (i := 678) (by decide +kernel), List.mem_of_getElem? (i := 1068) (by decide +kernel), List.mem_of_getElem? (i := 1069) (by decide +kernel)⟩
theorem lw_p52 : lw_okq (⟨"MeltHoursModel", "serve", "()I"⟩, 67) := ⟨⟨by decide +kernel, by decide +kernel⟩, List.mem_of_getElem? (i := 678) (by decide +kernel), List.mem_of_getElem? (i := 1072) (by decide +kernel), List.mem_of_getElem? (i := 1073) (by decide +kernel)⟩
theorem lw_p53 : lw_okq (⟨"MeltHoursModel", "oddsOf", "(I)I"⟩, 67) := ⟨⟨by decide +kernel, by decide +kernel⟩, List.mem_of_getElem? (i := 678) (by decide +kernel), List.mem_of_getElem? (i := 1101) (by decide +kernel), List.mem_of_getElem? (i := 1102) (by decide +kernel)⟩
theorem lw_p54 : lw_okq (⟨"MeltHoursModel", "divisor", "(JJ)J"⟩, 67) := ⟨⟨by decide +kernel, by decide +kernel⟩, List.mem_of_getElem? (i := 678) (by decide +kernel), List.mem_of_getElem? (i := 1106) (by decide +kernel), List.mem_of_getElem? (i := 1107) (by decide +kernel)⟩
theorem lw_p55 : lw_okq (⟨"MeltHoursModel", "ones", "(I)I"⟩, 67) := ⟨⟨by decide +kernel, by decide +kernel⟩, List.mem_of_getElem? (i := 678) (by decide +kernel), List.mem_of_getElem? (i := 1122) (by decide +kernel), List.mem_of_getElem? (i := 1123) (by decide +kernel)⟩
theorem lw_p56 : lw_okq (⟨"MeltHoursModel", "isTape", "(I)Z"⟩, 67) := ⟨⟨by decide +kernel, by decide +kernel⟩, List.mem_of_getElem? (i := 678) (by decide +kernel), List.mem_of_getElem? (i := 1130) (by decide +kernel), List.mem_of_getElem? (i := 1131) (by decide +kernel)⟩
theorem lw_p57 : lw_okq (⟨"MeltHoursModel", "copy", "([I[I)V"⟩, 67) := ⟨⟨by decide +kernel, by decide +kernel⟩, List.mem_of_getElem? (i := 678) (by decide +kernel), List.mem_of_getElem? (i := 1138) (by decide +kernel), List.mem_of_getElem? (i := 1139) (by decide +kernel)⟩
theorem lw_p58 : lw_okq (⟨"MeltHoursModel", "letsAct", "(II)I"⟩, 67) := ⟨⟨by decide +kernel, by decide +kernel⟩, List.mem_of_getElem? (i := 678) (by decide +kernel), List.mem_of_getElem? (i := 1150) (by decide +kernel), List.mem_of_getElem? (i := 1151) (by decide +kernel)⟩
theorem lw_p59 : lw_okq (⟨"MeltHoursModel", "body", "(I)V"⟩, 67) := ⟨⟨by decide +kernel, by decide +kernel⟩, List.mem_of_getElem? (i := 678) (by decide +kernel), List.mem_of_getElem? (i := 1154) (by decide +kernel), List.mem_of_getElem? (i := 1155) (by decide +kernel)⟩
theorem lw_p60 : lw_okq (⟨"MeltHoursModel", "plainLets", "(II)I"⟩, 67) := ⟨⟨by decide +kernel, by decide +kernel⟩, List.mem_of_getElem? (i := 678) (by decide +kernel), List.mem_of_getElem? (i := 1158) (by decide +kernel), List.mem_of_getElem? (i := 1159) (by decide +kernel)⟩
theorem lw_p61 : lw_okq (⟨"MeltHoursModel", "takesAct", "(II)I"⟩, 67) := ⟨⟨by decide +kernel, by decide +kernel⟩, List.mem_of_getElem? (i := 678) (by decide +kernel), List.mem_of_getElem? (i := 1162) (by decide +kernel), List.mem_of_getElem? (i := 1163) (by decide +kernel)⟩
theorem lw_p62 : lw_okq (⟨"MeltHoursModel", "clockTakes", "(II)I"⟩, 67) := ⟨⟨by decide +kernel, by decide +kernel⟩, List.mem_of_getElem? (i := 678) (by decide +kernel), List.mem_of_getElem? (i := 1166) (by decide +kernel), List.mem_of_getElem? (i := 1167) (by decide +kernel)⟩
theorem lw_p63 : lw_okq (⟨"MeltHoursModel", "plainTakes", "(II)I"⟩, 67) := ⟨⟨by decide +kernel, by decide +kernel⟩, List.mem_of_getElem? (i := 678) (by decide +kernel), List.mem_of_getElem? (i := 1170) (by decide +kernel), List.mem_of_getElem? (i := 1171) (by decide +kernel)⟩
def lw_privs_4 : List (MethodName × Nat) := [(⟨"MeltHoursModel", "takes", "(IIII)I"⟩, 67), (⟨"MeltHoursModel", "has", "(II)Z"⟩, 67), (⟨"MeltHoursModel", "floods", "()I"⟩, 67), (⟨"MeltHoursModel", "worthNow", "()I"⟩, 67), (⟨"MeltHoursModel", "serve", "()I"⟩, 67), (⟨"MeltHoursModel", "oddsOf", "(I)I"⟩, 67), (⟨"MeltHoursModel", "divisor", "(JJ)J"⟩, 67), (⟨"MeltHoursModel", "ones", "(I)I"⟩, 67), (⟨"MeltHoursModel", "isTape", "(I)Z"⟩, 67), (⟨"MeltHoursModel", "copy", "([I[I)V"⟩, 67), (⟨"MeltHoursModel", "letsAct", "(II)I"⟩, 67), (⟨"MeltHoursModel", "body", "(I)V"⟩, 67), (⟨"MeltHoursModel", "plainLets", "(II)I"⟩, 67), (⟨"MeltHoursModel", "takesAct", "(II)I"⟩, 67), (⟨"MeltHoursModel", "clockTakes", "(II)I"⟩, 67), (⟨"MeltHoursModel", "plainTakes", "(II)I"⟩, 67)]
theorem lw_r4 : ∀ q ∈ lw_privs_4, lw_okq q := List.forall_mem_cons.mpr ⟨lw_p48, List.forall_mem_cons.mpr ⟨lw_p49, List.forall_mem_cons.mpr ⟨lw_p50, List.forall_mem_cons.mpr ⟨lw_p51, List.forall_mem_cons.mpr ⟨lw_p52, List.forall_mem_cons.mpr ⟨lw_p53, List.forall_mem_cons.mpr ⟨lw_p54, List.forall_mem_cons.mpr ⟨lw_p55, List.forall_mem_cons.mpr ⟨lw_p56, List.forall_mem_cons.mpr ⟨lw_p57, List.forall_mem_cons.mpr ⟨lw_p58, List.forall_mem_cons.mpr ⟨lw_p59, List.forall_mem_cons.mpr ⟨lw_p60, List.forall_mem_cons.mpr ⟨lw_p61, List.forall_mem_cons.mpr ⟨lw_p62, List.forall_mem_cons.mpr ⟨lw_p63, fun _ h => absurd h List.not_mem_nil⟩⟩⟩⟩⟩⟩⟩⟩⟩⟩⟩⟩⟩⟩⟩⟩
theorem lw_p64 : lw_okq (⟨"MeltHoursModel", "tellsAct", "(II)I"⟩, 67) := ⟨⟨by decide +kernel, by decide +kernel⟩, List.mem_of_getElem? (i := 678) (by decide +kernel), List.mem_of_getElem? (i := 1174) (by decide +kernel), List.mem_of_getElem? (i := 1175) (by decide +kernel)⟩
theorem lw_p65 : lw_okq (⟨"MeltHoursModel", "plainTells", "(II)I"⟩, 67) := ⟨⟨by decide +kernel, by decide +kernel⟩, List.mem_of_getElem? (i := 678) (by decide +kernel), List.mem_of_getElem? (i := 1178) (by decide +kernel), List.mem_of_getElem? (i := 1179) (by decide +kernel)⟩
theorem lw_p66 : lw_okq (⟨"MeltHoursModel", "narrow", "(IJ)J"⟩, 67) := ⟨⟨by decide +kernel, by decide +kernel⟩, List.mem_of_getElem? (i := 678) (by decide +kernel), List.mem_of_getElem? (i := 1202) (by decide +kernel), List.mem_of_getElem? (i := 1203) (by decide +kernel)⟩
def lw_privs_5 : List (MethodName × Nat) := [(⟨"MeltHoursModel", "tellsAct", "(II)I"⟩, 67), (⟨"MeltHoursModel", "plainTells", "(II)I"⟩, 67), (⟨"MeltHoursModel", "narrow", "(IJ)J"⟩, 67)]
theorem lw_r5 : ∀ q ∈ lw_privs_5, lw_okq q := List.forall_mem_cons.mpr ⟨lw_p64, List.forall_mem_cons.mpr ⟨lw_p65, List.forall_mem_cons.mpr ⟨lw_p66, fun _ h => absurd h List.not_mem_nil⟩⟩⟩
def lw_privs : List (MethodName × Nat) := lw_privs_1 ++ (lw_privs_2 ++ (lw_privs_3 ++ (lw_privs_4 ++ (lw_privs_5))))
def lw_tbl : List Cond := k2_sels lw_privs ++ tables_1
theorem lw_privs_ok : ∀ q ∈ lw_privs, lw_okq q := by
  show ∀ q ∈ lw_privs_1 ++ (lw_privs_2 ++ (lw_privs_3 ++ (lw_privs_4 ++ (lw_privs_5)))), lw_okq q
  exact List.forall_mem_append.mpr ⟨lw_r1, List.forall_mem_append.mpr ⟨lw_r2, List.forall_mem_append.mpr ⟨lw_r3, List.forall_mem_append.mpr ⟨lw_r4, lw_r5⟩⟩⟩⟩
def RX0 : String := "MeltHours$Acts"
def TX0 : u_T := fun k => match k with
  | 0 => ("MeltHours$Acts", "place", "I", false)
  | 1 => ("MeltHours$Acts", "might", "I", false)
  | 2 => ("MeltHours$Acts", "kind", "I", false)
  | 3 => ("MeltHours$Acts", "bodies", "[I", true)
  | _ => ("MeltHours$Acts", "ran", "I", false)
def tyX0 : Nat → FieldType := fun k => match k with
  | 0 => .int
  | 1 => .int
  | 2 => .int
  | 3 => .array .int
  | _ => .int
theorem nmX0 : ∀ a, a < 5 → ∀ b, b < 5 → a ≠ b → (TX0 a).2.1 ≠ (TX0 b).2.1 := by decide +kernel
theorem tyX0_ok : ∀ k, k < 5 → parseFieldDescriptor (TX0 k).2.2.1 = some (tyX0 k) := by decide +kernel
abbrev cX0_init : ByteArray := prog_2_method_1_code
def yX0_init : MethodName := ⟨RX0, "<init>", "()V"⟩
abbrev cX0_standAt : ByteArray := prog_2_method_2_code
def yX0_standAt : MethodName := ⟨RX0, "standAt", "(I[I)V"⟩
abbrev cX0_lets : ByteArray := prog_2_method_3_code
def yX0_lets : MethodName := ⟨RX0, "lets", "(II)I"⟩
abbrev cX0_takes : ByteArray := prog_2_method_4_code
def yX0_takes : MethodName := ⟨RX0, "takes", "(II)I"⟩
abbrev cX0_tells : ByteArray := prog_2_method_5_code
def yX0_tells : MethodName := ⟨RX0, "tells", "(II)I"⟩
abbrev cX0_began : ByteArray := prog_2_method_6_code
def yX0_began : MethodName := ⟨RX0, "began", "(I)V"⟩
def RX1 : String := "MeltHours$Reader"
def TX1 : u_T := fun k => match k with
  | 0 => ("MeltHours$Reader", "text", "[I", true)
  | 1 => ("MeltHours$Reader", "length", "I", true)
  | 2 => ("MeltHours$Reader", "sound", "Z", false)
  | 3 => ("MeltHours$Reader", "at", "I", false)
  | _ => ("MeltHours$Reader", "valley", "LMeltHours$Valley;", true)
def tyX1 : Nat → FieldType := fun k => match k with
  | 0 => .array .int
  | 1 => .int
  | 2 => .boolean
  | 3 => .int
  | _ => .object "MeltHours$Valley"
theorem nmX1 : ∀ a, a < 5 → ∀ b, b < 5 → a ≠ b → (TX1 a).2.1 ≠ (TX1 b).2.1 := by decide +kernel
theorem tyX1_ok : ∀ k, k < 5 → parseFieldDescriptor (TX1 k).2.2.1 = some (tyX1 k) := by decide +kernel
abbrev cX1_init : ByteArray := prog_3_method_1_code
def yX1_init : MethodName := ⟨RX1, "<init>", "([II)V"⟩
abbrev cX1_isValley : ByteArray := prog_3_method_2_code
def yX1_isValley : MethodName := ⟨RX1, "isValley", "()Z"⟩
abbrev cX1_clause : ByteArray := prog_3_method_3_code
def yX1_clause : MethodName := ⟨RX1, "clause", "()V"⟩
abbrev cX1_word : ByteArray := prog_3_method_4_code
def yX1_word : MethodName := ⟨RX1, "word", "()I"⟩
abbrev cX1_ending : ByteArray := prog_3_method_5_code
def yX1_ending : MethodName := ⟨RX1, "ending", "(Ljava/lang/String;I)I"⟩
abbrev cX1_either : ByteArray := prog_3_method_6_code
def yX1_either : MethodName := ⟨RX1, "either", "(I)[Z"⟩
abbrev cX1_both : ByteArray := prog_3_method_7_code
def yX1_both : MethodName := ⟨RX1, "both", "(I)[Z"⟩
abbrev cX1_factor : ByteArray := prog_3_method_8_code
def yX1_factor : MethodName := ⟨RX1, "factor", "(I)[Z"⟩
abbrev cX1_whereHolds : ByteArray := prog_3_method_9_code
def yX1_whereHolds : MethodName := ⟨RX1, "whereHolds", "(III)[Z"⟩
abbrev cX1_number : ByteArray := prog_3_method_10_code
def yX1_number : MethodName := ⟨RX1, "number", "()I"⟩
abbrev cX1_figure : ByteArray := prog_3_method_11_code
def yX1_figure : MethodName := ⟨RX1, "figure", "(I)I"⟩
abbrev cX1_oneOf : ByteArray := prog_3_method_12_code
def yX1_oneOf : MethodName := ⟨RX1, "oneOf", "(III)I"⟩
abbrev cX1_expect : ByteArray := prog_3_method_13_code
def yX1_expect : MethodName := ⟨RX1, "expect", "(I)V"⟩
abbrev cX1_passes : ByteArray := prog_3_method_14_code
def yX1_passes : MethodName := ⟨RX1, "passes", "(I)Z"⟩
abbrev cX1_next : ByteArray := prog_3_method_15_code
def yX1_next : MethodName := ⟨RX1, "next", "()I"⟩
def RX2 : String := "MeltHours$State"
def TX2 : u_T := fun k => match k with
  | 0 => ("MeltHours$State", "placeCount", "I", false)
  | 1 => ("MeltHours$State", "skies", "[I", true)
  | 2 => ("MeltHours$State", "odds", "[I", true)
  | 3 => ("MeltHours$State", "gates", "[[I", true)
  | 4 => ("MeltHours$State", "wants", "[[I", true)
  | 5 => ("MeltHours$State", "wantCount", "I", false)
  | 6 => ("MeltHours$State", "toldMelts", "[I", true)
  | 7 => ("MeltHours$State", "toldHours", "I", false)
  | _ => ("MeltHours$State", "valley", "LMeltHours$Valley;", false)
def tyX2 : Nat → FieldType := fun k => match k with
  | 0 => .int
  | 1 => .array .int
  | 2 => .array .int
  | 3 => .array (.array .int)
  | 4 => .array (.array .int)
  | 5 => .int
  | 6 => .array .int
  | 7 => .int
  | _ => .object "MeltHours$Valley"
theorem nmX2 : ∀ a, a < 9 → ∀ b, b < 9 → a ≠ b → (TX2 a).2.1 ≠ (TX2 b).2.1 := by decide +kernel
theorem tyX2_ok : ∀ k, k < 9 → parseFieldDescriptor (TX2 k).2.2.1 = some (tyX2 k) := by decide +kernel
abbrev cX2_init : ByteArray := prog_4_method_1_code
def yX2_init : MethodName := ⟨RX2, "<init>", "(LMeltHours$Valley;)V"⟩
abbrev cX2_become : ByteArray := prog_4_method_2_code
def yX2_become : MethodName := ⟨RX2, "become", "(LMeltHours$State;)V"⟩
abbrev cX2_isPlace : ByteArray := prog_4_method_3_code
def yX2_isPlace : MethodName := ⟨RX2, "isPlace", "(I)Z"⟩
abbrev cX2_isWant : ByteArray := prog_4_method_4_code
def yX2_isWant : MethodName := ⟨RX2, "isWant", "(I)Z"⟩
abbrev cX2_melting : ByteArray := prog_4_method_5_code
def yX2_melting : MethodName := ⟨RX2, "melting", "(II)I"⟩
def RX3 : String := "MeltHours$Tape"
def TX3 : u_T := fun k => match k with
  | 0 => ("MeltHours$Tape", "sort", "I", false)
  | 1 => ("MeltHours$Tape", "size", "I", false)
  | _ => ("MeltHours$Tape", "items", "[J", true)
def tyX3 : Nat → FieldType := fun k => match k with
  | 0 => .int
  | 1 => .int
  | _ => .array .long
theorem nmX3 : ∀ a, a < 3 → ∀ b, b < 3 → a ≠ b → (TX3 a).2.1 ≠ (TX3 b).2.1 := by decide +kernel
theorem tyX3_ok : ∀ k, k < 3 → parseFieldDescriptor (TX3 k).2.2.1 = some (tyX3 k) := by decide +kernel
abbrev cX3_init : ByteArray := prog_5_method_1_code
def yX3_init : MethodName := ⟨RX3, "<init>", "()V"⟩
abbrev cX3_become : ByteArray := prog_5_method_2_code
def yX3_become : MethodName := ⟨RX3, "become", "(II)V"⟩
abbrev cX3_asItem : ByteArray := prog_5_method_3_code
def yX3_asItem : MethodName := ⟨RX3, "asItem", "(J)J"⟩
def RX4 : String := "MeltHours$Valley"
def TX4 : u_T := fun k => match k with
  | 0 => ("MeltHours$Valley", "ways", "[[I", true)
  | _ => ("MeltHours$Valley", "melts", "[I", true)
def tyX4 : Nat → FieldType := fun k => match k with
  | 0 => .array (.array .int)
  | _ => .array .int
theorem nmX4 : ∀ a, a < 2 → ∀ b, b < 2 → a ≠ b → (TX4 a).2.1 ≠ (TX4 b).2.1 := by decide +kernel
theorem tyX4_ok : ∀ k, k < 2 → parseFieldDescriptor (TX4 k).2.2.1 = some (tyX4 k) := by decide +kernel
abbrev cX4_init : ByteArray := prog_6_method_1_code
def yX4_init : MethodName := ⟨RX4, "<init>", "()V"⟩
abbrev cX4_tell : ByteArray := prog_6_method_2_code
def yX4_tell : MethodName := ⟨RX4, "tell", "(III)V"⟩
abbrev cX4_melt : ByteArray := prog_6_method_3_code
def yX4_melt : MethodName := ⟨RX4, "melt", "(I[Z)V"⟩
def RX5 : String := "MeltHours$Water"
def TX5 : u_T := fun k => match k with
  | 0 => ("MeltHours$Water", "state", "LMeltHours$State;", true)
  | 1 => ("MeltHours$Water", "melts", "[I", true)
  | 2 => ("MeltHours$Water", "ways", "[[I", true)
  | 3 => ("MeltHours$Water", "gates", "[[I", true)
  | 4 => ("MeltHours$Water", "comes", "[[I", true)
  | 5 => ("MeltHours$Water", "taken", "[[I", true)
  | 6 => ("MeltHours$Water", "by", "[[I", true)
  | 7 => ("MeltHours$Water", "held", "[[I", true)
  | 8 => ("MeltHours$Water", "flood", "[[I", true)
  | _ => ("MeltHours$Water", "served", "[I", true)
def tyX5 : Nat → FieldType := fun k => match k with
  | 0 => .object "MeltHours$State"
  | 1 => .array .int
  | 2 => .array (.array .int)
  | 3 => .array (.array .int)
  | 4 => .array (.array .int)
  | 5 => .array (.array .int)
  | 6 => .array (.array .int)
  | 7 => .array (.array .int)
  | 8 => .array (.array .int)
  | _ => .array .int
theorem nmX5 : ∀ a, a < 10 → ∀ b, b < 10 → a ≠ b → (TX5 a).2.1 ≠ (TX5 b).2.1 := by decide +kernel
theorem tyX5_ok : ∀ k, k < 10 → parseFieldDescriptor (TX5 k).2.2.1 = some (tyX5 k) := by decide +kernel
abbrev cX5_init : ByteArray := prog_7_method_1_code
def yX5_init : MethodName := ⟨RX5, "<init>", "(LMeltHours$State;)V"⟩
abbrev cX5_load : ByteArray := prog_7_method_2_code
def yX5_load : MethodName := ⟨RX5, "load", "()V"⟩
abbrev cX5_meltUnder : ByteArray := prog_7_method_3_code
def yX5_meltUnder : MethodName := ⟨RX5, "meltUnder", "(II)V"⟩
abbrev cX5_settle : ByteArray := prog_7_method_4_code
def yX5_settle : MethodName := ⟨RX5, "settle", "()I"⟩
abbrev cX5_again : ByteArray := prog_7_method_5_code
def yX5_again : MethodName := ⟨RX5, "again", "(I)I"⟩
abbrev cX5_worthWithout : ByteArray := prog_7_method_6_code
def yX5_worthWithout : MethodName := ⟨RX5, "worthWithout", "(I)I"⟩
abbrev cX5_going : ByteArray := prog_7_method_7_code
def yX5_going : MethodName := ⟨RX5, "going", "(II)I"⟩
abbrev cX5_arriving : ByteArray := prog_7_method_8_code
def yX5_arriving : MethodName := ⟨RX5, "arriving", "(II)I"⟩
abbrev cX5_come : ByteArray := prog_7_method_9_code
def yX5_come : MethodName := ⟨RX5, "come", "(I[I)V"⟩
abbrev cX5_pass : ByteArray := prog_7_method_10_code
def yX5_pass : MethodName := ⟨RX5, "pass", "(I)V"⟩
abbrev cX5_takes : ByteArray := prog_7_method_11_code
def yX5_takes : MethodName := ⟨RX5, "takes", "([IIII)I"⟩
abbrev cX5_serve : ByteArray := prog_7_method_12_code
def yX5_serve : MethodName := ⟨RX5, "serve", "()I"⟩
abbrev cX5_servedBefore : ByteArray := prog_7_method_13_code
def yX5_servedBefore : MethodName := ⟨RX5, "servedBefore", "(I)I"⟩
abbrev cX5_utmost : ByteArray := prog_7_method_14_code
def yX5_utmost : MethodName := ⟨RX5, "utmost", "(I)I"⟩
abbrev cX5_rows : ByteArray := prog_7_method_15_code
def yX5_rows : MethodName := ⟨RX5, "rows", "(I)[[I"⟩
abbrev cX5_inAllPlaces : ByteArray := prog_7_method_16_code
def yX5_inAllPlaces : MethodName := ⟨RX5, "inAllPlaces", "([[I)I"⟩
abbrev cX5_inPlace : ByteArray := prog_7_method_17_code
def yX5_inPlace : MethodName := ⟨RX5, "inPlace", "([[II)I"⟩
def RX6 : String := "MeltHours"
def TX6 : u_T := fun k => match k with
  | 0 => ("MeltHours", "now", "LMeltHours$State;", true)
  | 1 => ("MeltHours", "kept", "LMeltHours$State;", true)
  | 2 => ("MeltHours", "isKept", "Z", false)
  | 3 => ("MeltHours", "flow", "LMeltHours$Water;", true)
  | 4 => ("MeltHours", "acts", "LMeltHours$Acts;", true)
  | 5 => ("MeltHours", "text", "[I", true)
  | 6 => ("MeltHours", "textLength", "I", false)
  | 7 => ("MeltHours", "valleyCount", "I", false)
  | _ => ("MeltHours", "tapes", "[LMeltHours$Tape;", true)
def tyX6 : Nat → FieldType := fun k => match k with
  | 0 => .object "MeltHours$State"
  | 1 => .object "MeltHours$State"
  | 2 => .boolean
  | 3 => .object "MeltHours$Water"
  | 4 => .object "MeltHours$Acts"
  | 5 => .array .int
  | 6 => .int
  | 7 => .int
  | _ => .array (.object "MeltHours$Tape")
theorem nmX6 : ∀ a, a < 9 → ∀ b, b < 9 → a ≠ b → (TX6 a).2.1 ≠ (TX6 b).2.1 := by decide +kernel
theorem tyX6_ok : ∀ k, k < 9 → parseFieldDescriptor (TX6 k).2.2.1 = some (tyX6 k) := by decide +kernel
abbrev cX6_init : ByteArray := prog_1_method_1_code
def yX6_init : MethodName := ⟨RX6, "<init>", "()V"⟩
abbrev cX6_places : ByteArray := prog_1_method_2_code
def yX6_places : MethodName := ⟨RX6, "places", "(I)I"⟩
abbrev cX6_sky : ByteArray := prog_1_method_3_code
def yX6_sky : MethodName := ⟨RX6, "sky", "(II)I"⟩
abbrev cX6_feed : ByteArray := prog_1_method_4_code
def yX6_feed : MethodName := ⟨RX6, "feed", "(II)I"⟩
abbrev cX6_valley : ByteArray := prog_1_method_5_code
def yX6_valley : MethodName := ⟨RX6, "valley", "()I"⟩
abbrev cX6_told : ByteArray := prog_1_method_6_code
def yX6_told : MethodName := ⟨RX6, "told", "(II)I"⟩
abbrev cX6_melts : ByteArray := prog_1_method_7_code
def yX6_melts : MethodName := ⟨RX6, "melts", "(I)I"⟩
abbrev cX6_gate : ByteArray := prog_1_method_8_code
def yX6_gate : MethodName := ⟨RX6, "gate", "(IIII)I"⟩
abbrev cX6_of : ByteArray := prog_1_method_9_code
def yX6_of : MethodName := ⟨RX6, "of", "(II)I"⟩
abbrev cX6_water : ByteArray := prog_1_method_10_code
def yX6_water : MethodName := ⟨RX6, "water", "(III)I"⟩
abbrev cX6_all : ByteArray := prog_1_method_11_code
def yX6_all : MethodName := ⟨RX6, "all", "(I)I"⟩
abbrev cX6_want : ByteArray := prog_1_method_12_code
def yX6_want : MethodName := ⟨RX6, "want", "(IIII)I"⟩
abbrev cX6_wants : ByteArray := prog_1_method_13_code
def yX6_wants : MethodName := ⟨RX6, "wants", "(II)I"⟩
abbrev cX6_worth : ByteArray := prog_1_method_14_code
def yX6_worth : MethodName := ⟨RX6, "worth", "()I"⟩
abbrev cX6_best : ByteArray := prog_1_method_15_code
def yX6_best : MethodName := ⟨RX6, "best", "(II)I"⟩
abbrev cX6_price : ByteArray := prog_1_method_16_code
def yX6_price : MethodName := ⟨RX6, "price", "(I)I"⟩
abbrev cX6_part : ByteArray := prog_1_method_17_code
def yX6_part : MethodName := ⟨RX6, "part", "(IIII)I"⟩
abbrev cX6_odds : ByteArray := prog_1_method_18_code
def yX6_odds : MethodName := ⟨RX6, "odds", "(II)I"⟩
abbrev cX6_mean : ByteArray := prog_1_method_19_code
def yX6_mean : MethodName := ⟨RX6, "mean", "(II)J"⟩
abbrev cX6_pond : ByteArray := prog_1_method_20_code
def yX6_pond : MethodName := ⟨RX6, "pond", "(I)I"⟩
abbrev cX6_wrong : ByteArray := prog_1_method_21_code
def yX6_wrong : MethodName := ⟨RX6, "wrong", "()I"⟩
abbrev cX6_spare : ByteArray := prog_1_method_22_code
def yX6_spare : MethodName := ⟨RX6, "spare", "()I"⟩
abbrev cX6_day : ByteArray := prog_1_method_23_code
def yX6_day : MethodName := ⟨RX6, "day", "(I)I"⟩
abbrev cX6_judge : ByteArray := prog_1_method_24_code
def yX6_judge : MethodName := ⟨RX6, "judge", "(III)I"⟩
abbrev cX6_image : ByteArray := prog_1_method_25_code
def yX6_image : MethodName := ⟨RX6, "image", "()I"⟩
abbrev cX6_undo : ByteArray := prog_1_method_26_code
def yX6_undo : MethodName := ⟨RX6, "undo", "()I"⟩
abbrev cX6_act : ByteArray := prog_1_method_27_code
def yX6_act : MethodName := ⟨RX6, "act", "(III)I"⟩
abbrev cX6_trace : ByteArray := prog_1_method_28_code
def yX6_trace : MethodName := ⟨RX6, "trace", "(I)I"⟩
abbrev cX6_taken : ByteArray := prog_1_method_29_code
def yX6_taken : MethodName := ⟨RX6, "taken", "(II)I"⟩
abbrev cX6_count : ByteArray := prog_1_method_30_code
def yX6_count : MethodName := ⟨RX6, "count", "(I)I"⟩
abbrev cX6_tape : ByteArray := prog_1_method_31_code
def yX6_tape : MethodName := ⟨RX6, "tape", "(III)I"⟩
abbrev cX6_item : ByteArray := prog_1_method_32_code
def yX6_item : MethodName := ⟨RX6, "item", "(IIJ)I"⟩
abbrev cX6_read : ByteArray := prog_1_method_33_code
def yX6_read : MethodName := ⟨RX6, "read", "(II)J"⟩
abbrev cX6_shift : ByteArray := prog_1_method_34_code
def yX6_shift : MethodName := ⟨RX6, "shift", "(IIIII)I"⟩
abbrev cX6_isUnder : ByteArray := prog_1_method_35_code
def yX6_isUnder : MethodName := ⟨RX6, "isUnder", "(II)Z"⟩
abbrev cX6_tapeAt : ByteArray := prog_1_method_36_code
def yX6_tapeAt : MethodName := ⟨RX6, "tapeAt", "(I)LMeltHours$Tape;"⟩
abbrev cX6_span : ByteArray := prog_1_method_37_code
def yX6_span : MethodName := ⟨RX6, "span", "(II)I"⟩
abbrev cX6_underSkies : ByteArray := prog_1_method_38_code
def yX6_underSkies : MethodName := ⟨RX6, "underSkies", "(III)I"⟩
abbrev cX6_divisorWithHundred : ByteArray := prog_1_method_39_code
def yX6_divisorWithHundred : MethodName := ⟨RX6, "divisorWithHundred", "(I)I"⟩
abbrev cX6_isOrUnder : ByteArray := prog_1_method_40_code
def yX6_isOrUnder : MethodName := ⟨RX6, "isOrUnder", "(II)Z"⟩
abbrev cX6_sum : ByteArray := prog_1_method_41_code
def yX6_sum : MethodName := ⟨RX6, "sum", "([I)I"⟩
abbrev cX6_copy : ByteArray := prog_1_method_42_code
def yX6_copy : MethodName := ⟨RX6, "copy", "([I[I)V"⟩
abbrev cX6_copyRows : ByteArray := prog_1_method_43_code
def yX6_copyRows : MethodName := ⟨RX6, "copyRows", "([[I[[I)V"⟩
def RX7 : String := "MeltHoursModel"
def TX7 : u_T := fun k => match k with
  | 0 => ("MeltHoursModel", "places", "I", false)
  | 1 => ("MeltHoursModel", "oddsA", "I", false)
  | 2 => ("MeltHoursModel", "oddsB", "I", false)
  | 3 => ("MeltHoursModel", "sky", "[I", true)
  | 4 => ("MeltHoursModel", "kind", "[I", true)
  | 5 => ("MeltHoursModel", "v", "[I", true)
  | 6 => ("MeltHoursModel", "hours", "[I", true)
  | 7 => ("MeltHoursModel", "valleys", "I", false)
  | 8 => ("MeltHoursModel", "the", "I", false)
  | 9 => ("MeltHoursModel", "fed", "I", false)
  | 10 => ("MeltHoursModel", "at", "I", false)
  | 11 => ("MeltHoursModel", "digits", "I", false)
  | 12 => ("MeltHoursModel", "text", "[I", true)
  | 13 => ("MeltHoursModel", "clauses", "[I", true)
  | 14 => ("MeltHoursModel", "word", "[I", true)
  | 15 => ("MeltHoursModel", "spot", "[I", true)
  | 16 => ("MeltHoursModel", "number", "[I", true)
  | 17 => ("MeltHoursModel", "from", "[I", true)
  | 18 => ("MeltHoursModel", "to", "[I", true)
  | 19 => ("MeltHoursModel", "sign", "[I", true)
  | 20 => ("MeltHoursModel", "waits", "[I", true)
  | 21 => ("MeltHoursModel", "signs", "I", false)
  | 22 => ("MeltHoursModel", "waiting", "I", false)
  | 23 => ("MeltHoursModel", "open", "I", false)
  | 24 => ("MeltHoursModel", "pile", "[Z", true)
  | 25 => ("MeltHoursModel", "days", "I", false)
  | 26 => ("MeltHoursModel", "day", "[I", true)
  | 27 => ("MeltHoursModel", "melt", "[I", true)
  | 28 => ("MeltHoursModel", "lag", "[I", true)
  | 29 => ("MeltHoursModel", "leak", "[I", true)
  | 30 => ("MeltHoursModel", "most", "[I", true)
  | 31 => ("MeltHoursModel", "hold", "[I", true)
  | 32 => ("MeltHoursModel", "tryKind", "[I", true)
  | 33 => ("MeltHoursModel", "tryHours", "[I", true)
  | 34 => ("MeltHoursModel", "comes", "[I", true)
  | 35 => ("MeltHoursModel", "taken", "[I", true)
  | 36 => ("MeltHoursModel", "by", "[I", true)
  | 37 => ("MeltHoursModel", "held", "[I", true)
  | 38 => ("MeltHoursModel", "flood", "[I", true)
  | 39 => ("MeltHoursModel", "wants", "I", false)
  | 40 => ("MeltHoursModel", "place", "[I", true)
  | 41 => ("MeltHoursModel", "hour", "[I", true)
  | 42 => ("MeltHoursModel", "cups", "[I", true)
  | 43 => ("MeltHoursModel", "worth", "[I", true)
  | 44 => ("MeltHoursModel", "served", "[I", true)
  | 45 => ("MeltHoursModel", "hasImage", "Z", false)
  | 46 => ("MeltHoursModel", "imagePlaces", "I", false)
  | 47 => ("MeltHoursModel", "imageA", "I", false)
  | 48 => ("MeltHoursModel", "imageB", "I", false)
  | 49 => ("MeltHoursModel", "imageThe", "I", false)
  | 50 => ("MeltHoursModel", "imageDays", "I", false)
  | 51 => ("MeltHoursModel", "imageWants", "I", false)
  | 52 => ("MeltHoursModel", "imageSky", "[I", true)
  | 53 => ("MeltHoursModel", "imageKind", "[I", true)
  | 54 => ("MeltHoursModel", "imageV", "[I", true)
  | 55 => ("MeltHoursModel", "imageHours", "[I", true)
  | 56 => ("MeltHoursModel", "imageDay", "[I", true)
  | 57 => ("MeltHoursModel", "imagePlace", "[I", true)
  | 58 => ("MeltHoursModel", "imageHour", "[I", true)
  | 59 => ("MeltHoursModel", "imageCups", "[I", true)
  | 60 => ("MeltHoursModel", "imageWorth", "[I", true)
  | 61 => ("MeltHoursModel", "ran", "I", false)
  | 62 => ("MeltHoursModel", "bodies", "[I", true)
  | 63 => ("MeltHoursModel", "sort", "[I", true)
  | 64 => ("MeltHoursModel", "length", "[I", true)
  | 65 => ("MeltHoursModel", "item", "[J", true)
  | _ => ("MeltHoursModel", "aside", "[J", true)
def tyX7 : Nat → FieldType := fun k => match k with
  | 0 => .int
  | 1 => .int
  | 2 => .int
  | 3 => .array .int
  | 4 => .array .int
  | 5 => .array .int
  | 6 => .array .int
  | 7 => .int
  | 8 => .int
  | 9 => .int
  | 10 => .int
  | 11 => .int
  | 12 => .array .int
  | 13 => .array .int
  | 14 => .array .int
  | 15 => .array .int
  | 16 => .array .int
  | 17 => .array .int
  | 18 => .array .int
  | 19 => .array .int
  | 20 => .array .int
  | 21 => .int
  | 22 => .int
  | 23 => .int
  | 24 => .array .boolean
  | 25 => .int
  | 26 => .array .int
  | 27 => .array .int
  | 28 => .array .int
  | 29 => .array .int
  | 30 => .array .int
  | 31 => .array .int
  | 32 => .array .int
  | 33 => .array .int
  | 34 => .array .int
  | 35 => .array .int
  | 36 => .array .int
  | 37 => .array .int
  | 38 => .array .int
  | 39 => .int
  | 40 => .array .int
  | 41 => .array .int
  | 42 => .array .int
  | 43 => .array .int
  | 44 => .array .int
  | 45 => .boolean
  | 46 => .int
  | 47 => .int
  | 48 => .int
  | 49 => .int
  | 50 => .int
  | 51 => .int
  | 52 => .array .int
  | 53 => .array .int
  | 54 => .array .int
  | 55 => .array .int
  | 56 => .array .int
  | 57 => .array .int
  | 58 => .array .int
  | 59 => .array .int
  | 60 => .array .int
  | 61 => .int
  | 62 => .array .int
  | 63 => .array .int
  | 64 => .array .int
  | 65 => .array .long
  | _ => .array .long
theorem nmX7 : ∀ a, a < 67 → ∀ b, b < 67 → a ≠ b → (TX7 a).2.1 ≠ (TX7 b).2.1 := by decide +kernel
theorem tyX7_ok : ∀ k, k < 67 → parseFieldDescriptor (TX7 k).2.2.1 = some (tyX7 k) := by decide +kernel
abbrev cX7_init : ByteArray := prog_9_method_1_code
def yX7_init : MethodName := ⟨RX7, "<init>", "()V"⟩
abbrev cX7_in : ByteArray := prog_9_method_2_code
def yX7_in : MethodName := ⟨RX7, "in", "(III)Z"⟩
abbrev cX7_min : ByteArray := prog_9_method_3_code
def yX7_min : MethodName := ⟨RX7, "min", "(II)I"⟩
abbrev cX7_has : ByteArray := prog_9_method_4_code
def yX7_has : MethodName := ⟨RX7, "has", "(II)Z"⟩
abbrev cX7_isPlace : ByteArray := prog_9_method_5_code
def yX7_isPlace : MethodName := ⟨RX7, "isPlace", "(I)Z"⟩
abbrev cX7_isGate : ByteArray := prog_9_method_6_code
def yX7_isGate : MethodName := ⟨RX7, "isGate", "(I)Z"⟩
abbrev cX7_isHour : ByteArray := prog_9_method_7_code
def yX7_isHour : MethodName := ⟨RX7, "isHour", "(I)Z"⟩
abbrev cX7_places : ByteArray := prog_9_method_8_code
def yX7_places : MethodName := ⟨RX7, "places", "(I)I"⟩
abbrev cX7_sky : ByteArray := prog_9_method_9_code
def yX7_sky : MethodName := ⟨RX7, "sky", "(II)I"⟩
abbrev cX7_gate : ByteArray := prog_9_method_10_code
def yX7_gate : MethodName := ⟨RX7, "gate", "(IIII)I"⟩
abbrev cX7_of : ByteArray := prog_9_method_11_code
def yX7_of : MethodName := ⟨RX7, "of", "(II)I"⟩
abbrev cX7_feed : ByteArray := prog_9_method_12_code
def yX7_feed : MethodName := ⟨RX7, "feed", "(II)I"⟩
abbrev cX7_next : ByteArray := prog_9_method_13_code
def yX7_next : MethodName := ⟨RX7, "next", "()I"⟩
abbrev cX7_second : ByteArray := prog_9_method_14_code
def yX7_second : MethodName := ⟨RX7, "second", "()I"⟩
abbrev cX7_takesSign : ByteArray := prog_9_method_15_code
def yX7_takesSign : MethodName := ⟨RX7, "takesSign", "(I)Z"⟩
abbrev cX7_takesWord : ByteArray := prog_9_method_16_code
def yX7_takesWord : MethodName := ⟨RX7, "takesWord", "(II)Z"⟩
abbrev cX7_isDigit : ByteArray := prog_9_method_17_code
def yX7_isDigit : MethodName := ⟨RX7, "isDigit", "()Z"⟩
abbrev cX7_takesNumber : ByteArray := prog_9_method_18_code
def yX7_takesNumber : MethodName := ⟨RX7, "takesNumber", "()Z"⟩
abbrev cX7_put : ByteArray := prog_9_method_19_code
def yX7_put : MethodName := ⟨RX7, "put", "(I)V"⟩
abbrev cX7_whole : ByteArray := prog_9_method_20_code
def yX7_whole : MethodName := ⟨RX7, "whole", "()V"⟩
abbrev cX7_settle : ByteArray := prog_9_method_21_code
def yX7_settle : MethodName := ⟨RX7, "settle", "(I)V"⟩
abbrev cX7_takesTest : ByteArray := prog_9_method_22_code
def yX7_takesTest : MethodName := ⟨RX7, "takesTest", "()Z"⟩
abbrev cX7_takesE : ByteArray := prog_9_method_23_code
def yX7_takesE : MethodName := ⟨RX7, "takesE", "(I)Z"⟩
abbrev cX7_takesHead : ByteArray := prog_9_method_24_code
def yX7_takesHead : MethodName := ⟨RX7, "takesHead", "(I)Z"⟩
abbrev cX7_takesClause : ByteArray := prog_9_method_25_code
def yX7_takesClause : MethodName := ⟨RX7, "takesClause", "(I)Z"⟩
abbrev cX7_goesText : ByteArray := prog_9_method_26_code
def yX7_goesText : MethodName := ⟨RX7, "goesText", "(I)Z"⟩
abbrev cX7_valley : ByteArray := prog_9_method_27_code
def yX7_valley : MethodName := ⟨RX7, "valley", "()I"⟩
abbrev cX7_first : ByteArray := prog_9_method_28_code
def yX7_first : MethodName := ⟨RX7, "first", "()I"⟩
abbrev cX7_behind : ByteArray := prog_9_method_29_code
def yX7_behind : MethodName := ⟨RX7, "behind", "()I"⟩
abbrev cX7_last : ByteArray := prog_9_method_30_code
def yX7_last : MethodName := ⟨RX7, "last", "(III)I"⟩
abbrev cX7_told : ByteArray := prog_9_method_31_code
def yX7_told : MethodName := ⟨RX7, "told", "(II)I"⟩
abbrev cX7_holds : ByteArray := prog_9_method_32_code
def yX7_holds : MethodName := ⟨RX7, "holds", "(III)Z"⟩
abbrev cX7_day : ByteArray := prog_9_method_33_code
def yX7_day : MethodName := ⟨RX7, "day", "(I)I"⟩
abbrev cX7_meltOf : ByteArray := prog_9_method_34_code
def yX7_meltOf : MethodName := ⟨RX7, "meltOf", "(II)I"⟩
abbrev cX7_melts : ByteArray := prog_9_method_35_code
def yX7_melts : MethodName := ⟨RX7, "melts", "(I)I"⟩
abbrev cX7_asIs : ByteArray := prog_9_method_36_code
def yX7_asIs : MethodName := ⟨RX7, "asIs", "()V"⟩
abbrev cX7_less : ByteArray := prog_9_method_37_code
def yX7_less : MethodName := ⟨RX7, "less", "(II)I"⟩
abbrev cX7_sets : ByteArray := prog_9_method_38_code
def yX7_sets : MethodName := ⟨RX7, "sets", "(III)V"⟩
abbrev cX7_takes : ByteArray := prog_9_method_39_code
def yX7_takes : MethodName := ⟨RX7, "takes", "(IIII)I"⟩
abbrev cX7_go : ByteArray := prog_9_method_40_code
def yX7_go : MethodName := ⟨RX7, "go", "()V"⟩
abbrev cX7_water : ByteArray := prog_9_method_41_code
def yX7_water : MethodName := ⟨RX7, "water", "(III)I"⟩
abbrev cX7_floods : ByteArray := prog_9_method_42_code
def yX7_floods : MethodName := ⟨RX7, "floods", "()I"⟩
abbrev cX7_all : ByteArray := prog_9_method_43_code
def yX7_all : MethodName := ⟨RX7, "all", "(I)I"⟩
abbrev cX7_want : ByteArray := prog_9_method_44_code
def yX7_want : MethodName := ⟨RX7, "want", "(IIII)I"⟩
abbrev cX7_serve : ByteArray := prog_9_method_45_code
def yX7_serve : MethodName := ⟨RX7, "serve", "()I"⟩
abbrev cX7_worthNow : ByteArray := prog_9_method_46_code
def yX7_worthNow : MethodName := ⟨RX7, "worthNow", "()I"⟩
abbrev cX7_wants : ByteArray := prog_9_method_47_code
def yX7_wants : MethodName := ⟨RX7, "wants", "(II)I"⟩
abbrev cX7_worth : ByteArray := prog_9_method_48_code
def yX7_worth : MethodName := ⟨RX7, "worth", "()I"⟩
abbrev cX7_best : ByteArray := prog_9_method_49_code
def yX7_best : MethodName := ⟨RX7, "best", "(II)I"⟩
abbrev cX7_price : ByteArray := prog_9_method_50_code
def yX7_price : MethodName := ⟨RX7, "price", "(I)I"⟩
abbrev cX7_part : ByteArray := prog_9_method_51_code
def yX7_part : MethodName := ⟨RX7, "part", "(IIII)I"⟩
abbrev cX7_odds : ByteArray := prog_9_method_52_code
def yX7_odds : MethodName := ⟨RX7, "odds", "(II)I"⟩
abbrev cX7_oddsOf : ByteArray := prog_9_method_53_code
def yX7_oddsOf : MethodName := ⟨RX7, "oddsOf", "(I)I"⟩
abbrev cX7_divisor : ByteArray := prog_9_method_54_code
def yX7_divisor : MethodName := ⟨RX7, "divisor", "(JJ)J"⟩
abbrev cX7_mean : ByteArray := prog_9_method_55_code
def yX7_mean : MethodName := ⟨RX7, "mean", "(II)J"⟩
abbrev cX7_pond : ByteArray := prog_9_method_56_code
def yX7_pond : MethodName := ⟨RX7, "pond", "(I)I"⟩
abbrev cX7_wrong : ByteArray := prog_9_method_57_code
def yX7_wrong : MethodName := ⟨RX7, "wrong", "()I"⟩
abbrev cX7_ones : ByteArray := prog_9_method_58_code
def yX7_ones : MethodName := ⟨RX7, "ones", "(I)I"⟩
abbrev cX7_spare : ByteArray := prog_9_method_59_code
def yX7_spare : MethodName := ⟨RX7, "spare", "()I"⟩
abbrev cX7_judge : ByteArray := prog_9_method_60_code
def yX7_judge : MethodName := ⟨RX7, "judge", "(III)I"⟩
abbrev cX7_copy : ByteArray := prog_9_method_61_code
def yX7_copy : MethodName := ⟨RX7, "copy", "([I[I)V"⟩
abbrev cX7_image : ByteArray := prog_9_method_62_code
def yX7_image : MethodName := ⟨RX7, "image", "()I"⟩
abbrev cX7_undo : ByteArray := prog_9_method_63_code
def yX7_undo : MethodName := ⟨RX7, "undo", "()I"⟩
abbrev cX7_body : ByteArray := prog_9_method_64_code
def yX7_body : MethodName := ⟨RX7, "body", "(I)V"⟩
abbrev cX7_plainLets : ByteArray := prog_9_method_65_code
def yX7_plainLets : MethodName := ⟨RX7, "plainLets", "(II)I"⟩
abbrev cX7_letsAct : ByteArray := prog_9_method_66_code
def yX7_letsAct : MethodName := ⟨RX7, "letsAct", "(II)I"⟩
abbrev cX7_plainTakes : ByteArray := prog_9_method_67_code
def yX7_plainTakes : MethodName := ⟨RX7, "plainTakes", "(II)I"⟩
abbrev cX7_clockTakes : ByteArray := prog_9_method_68_code
def yX7_clockTakes : MethodName := ⟨RX7, "clockTakes", "(II)I"⟩
abbrev cX7_takesAct : ByteArray := prog_9_method_69_code
def yX7_takesAct : MethodName := ⟨RX7, "takesAct", "(II)I"⟩
abbrev cX7_plainTells : ByteArray := prog_9_method_70_code
def yX7_plainTells : MethodName := ⟨RX7, "plainTells", "(II)I"⟩
abbrev cX7_tellsAct : ByteArray := prog_9_method_71_code
def yX7_tellsAct : MethodName := ⟨RX7, "tellsAct", "(II)I"⟩
abbrev cX7_act : ByteArray := prog_9_method_72_code
def yX7_act : MethodName := ⟨RX7, "act", "(III)I"⟩
abbrev cX7_trace : ByteArray := prog_9_method_73_code
def yX7_trace : MethodName := ⟨RX7, "trace", "(I)I"⟩
abbrev cX7_taken : ByteArray := prog_9_method_74_code
def yX7_taken : MethodName := ⟨RX7, "taken", "(II)I"⟩
abbrev cX7_count : ByteArray := prog_9_method_75_code
def yX7_count : MethodName := ⟨RX7, "count", "(I)I"⟩
abbrev cX7_isTape : ByteArray := prog_9_method_76_code
def yX7_isTape : MethodName := ⟨RX7, "isTape", "(I)Z"⟩
abbrev cX7_tape : ByteArray := prog_9_method_77_code
def yX7_tape : MethodName := ⟨RX7, "tape", "(III)I"⟩
abbrev cX7_narrow : ByteArray := prog_9_method_78_code
def yX7_narrow : MethodName := ⟨RX7, "narrow", "(IJ)J"⟩
abbrev cX7_item : ByteArray := prog_9_method_79_code
def yX7_item : MethodName := ⟨RX7, "item", "(IIJ)I"⟩
abbrev cX7_read : ByteArray := prog_9_method_80_code
def yX7_read : MethodName := ⟨RX7, "read", "(II)J"⟩
abbrev cX7_shift : ByteArray := prog_9_method_81_code
def yX7_shift : MethodName := ⟨RX7, "shift", "(IIIII)I"⟩
def RJ6 : String := "java/lang/Integer"
abbrev cJ6_bitCount_0f7a4 : ByteArray := prog_10_method_49_code
def yJ6_bitCount_0f7a4 : MethodName := ⟨RJ6, "bitCount", "(I)I"⟩
def RJ9 : String := "java/lang/Math"
abbrev cJ9_max_7cf53 : ByteArray := prog_11_method_65_code
def yJ9_max_7cf53 : MethodName := ⟨RJ9, "max", "(II)I"⟩
abbrev cJ9_min_7cf53 : ByteArray := prog_11_method_69_code
def yJ9_min_7cf53 : MethodName := ⟨RJ9, "min", "(II)I"⟩
def RJ0 : String := "java/lang/String"
abbrev cJ0_length_8abf5 : ByteArray := prog_12_method_54_code
def yJ0_length_8abf5 : MethodName := ⟨RJ0, "length", "()I"⟩
abbrev cJ0_charAt_5068e : ByteArray := prog_12_method_56_code
def yJ0_charAt_5068e : MethodName := ⟨RJ0, "charAt", "(I)C"⟩
abbrev cJ0_coder_7d493 : ByteArray := prog_12_method_152_code
def yJ0_coder_7d493 : MethodName := ⟨RJ0, "coder", "()B"⟩
abbrev cJ0_isLatin1_aae02 : ByteArray := prog_12_method_154_code
def yJ0_isLatin1_aae02 : MethodName := ⟨RJ0, "isLatin1", "()Z"⟩
abbrev cJ0_checkIndex_df160 : ByteArray := prog_12_method_155_code
def yJ0_checkIndex_df160 : MethodName := ⟨RJ0, "checkIndex", "(II)V"⟩
def RJ1 : String := "java/lang/StringLatin1"
abbrev cJ1_charAt_3b067 : ByteArray := prog_13_method_2_code
def yJ1_charAt_3b067 : MethodName := ⟨RJ1, "charAt", "([BI)C"⟩
def RJ2 : String := "java/lang/StringUTF16"
abbrev cJ2_getChar_3b067 : ByteArray := prog_14_method_5_code
def yJ2_getChar_3b067 : MethodName := ⟨RJ2, "getChar", "([BI)C"⟩
abbrev cJ2_length_9d52b : ByteArray := prog_14_method_6_code
def yJ2_length_9d52b : MethodName := ⟨RJ2, "length", "([B)I"⟩
abbrev cJ2_charAt_3b067 : ByteArray := prog_14_method_83_code
def yJ2_charAt_3b067 : MethodName := ⟨RJ2, "charAt", "([BI)C"⟩
abbrev cJ2_checkIndex_2214a : ByteArray := prog_14_method_91_code
def yJ2_checkIndex_2214a : MethodName := ⟨RJ2, "checkIndex", "(I[B)V"⟩
def RJ10 : String := "java/lang/System"
def RJ7 : String := "java/util/Arrays"
abbrev cJ7_fill_d0a16 : ByteArray := prog_16_method_101_code
def yJ7_fill_d0a16 : MethodName := ⟨RJ7, "fill", "([JJ)V"⟩
abbrev cJ7_fill_53178 : ByteArray := prog_16_method_103_code
def yJ7_fill_53178 : MethodName := ⟨RJ7, "fill", "([II)V"⟩
def RJ3 : String := "jdk/internal/util/Preconditions"
abbrev cJ3_checkIndex_8e157 : ByteArray := prog_17_method_11_code
def yJ3_checkIndex_8e157 : MethodName := ⟨RJ3, "checkIndex", "(IILjava/util/function/BiFunction;)I"⟩
def RL : String := "MeltHoursLaw"
abbrev cL_law : ByteArray := code
def yL_law : MethodName := ⟨RL, "law", "([I)Z"⟩
abbrev vwCl : List vw_C := [(RX0, TX0, 5), (RX1, TX1, 5), (RX2, TX2, 9), (RX3, TX3, 3), (RX4, TX4, 2), (RX5, TX5, 10), (RX6, TX6, 9), (RX7, TX7, 67)]
/-- the words that a call can hand on -/
def lw_good : List Cond := lw_tbl.filter goodWord
theorem good_of {w : Cond} (i : Nat) (h : lw_tbl[i]? = some w) (hg : goodWord w = true) : w ∈ lw_good := List.mem_filter.mpr ⟨List.mem_of_getElem? h, hg⟩
theorem good_in {w : Cond} (h : w ∈ lw_good) : w ∈ lw_tbl := (List.mem_filter.mp h).1
/-- the words of a method: its own code, then all good words of the tables -/
def wsU (y : MethodName) (cc : ByteArray) (maxL : Nat) (ret : Option FieldType) : List Cond := .code y cc maxL ret :: lw_good
theorem goodU {y : MethodName} {cc : ByteArray} {maxL : Nat} {ret : Option FieldType} (h : Cond.code y cc maxL ret ∈ lw_good) : GoodIn lw_good (wsU y cc maxL ret) := fun w hw => by
  rcases List.mem_cons.mp hw with e | e
  · subst e
    exact ⟨h, good_of_word (List.mem_filter.mp h).2⟩
  · exact ⟨e, good_of_word (List.mem_filter.mp e).2⟩
theorem htsU {y : MethodName} {cc : ByteArray} {maxL : Nat} {ret : Option FieldType} {args : Array Value} {s : State} (h : ∀ w ∈ wsU y cc maxL ret, w.before args s = true) : ∀ w ∈ lw_good, w.before args s = true := fun w hw => h w (List.mem_cons_of_mem _ hw)
theorem inX0 : ∀ w ∈ u_ws RX0 TX0 5, w ∈ lw_good := by decide +kernel
theorem inX1 : ∀ w ∈ u_ws RX1 TX1 5, w ∈ lw_good := by decide +kernel
theorem inX2 : ∀ w ∈ u_ws RX2 TX2 9, w ∈ lw_good := by decide +kernel
theorem inX3 : ∀ w ∈ u_ws RX3 TX3 3, w ∈ lw_good := by decide +kernel
theorem inX4 : ∀ w ∈ u_ws RX4 TX4 2, w ∈ lw_good := by decide +kernel
theorem inX5 : ∀ w ∈ u_ws RX5 TX5 10, w ∈ lw_good := by decide +kernel
theorem inX6 : ∀ w ∈ u_ws RX6 TX6 9, w ∈ lw_good := by decide +kernel
theorem inX7 : ∀ w ∈ u_ws RX7 TX7 67, w ∈ lw_good := by decide +kernel
end
section
/-! THE TYPED HEAP: shapes by address, ints by address and place, longs by address and place; J: a judgement over it -/
abbrev shC : Type := (Nat × (Nat → Option (Option Nat))) ⊕ (Nat × Nat × (Nat → Option Nat))
abbrev SH : Type := Nat → Option shC
abbrev IH : Type := Nat → Nat → Int32
abbrev LH : Type := Nat → Nat → Int64
/-- the kinds of arrays: 0 int, 1 boolean, 2 long, 3 of tapes, 4 of int rows -/
def tyA (t : Nat) : FieldType := match t with
  | 0 => .int
  | 1 => .boolean
  | 2 => .long
  | 3 => .object "MeltHours$Tape"
  | _ => .array .int
/-- what is fixed for the whole run: the classes, their slots, the arrays' classes, the heap at the start, the addresses of the texts and their bytes, of the table ABOVE, and of one cell more -/
abbrev GT : Type := (Nat → ClassId) × (Nat → Nat → Nat) × (Nat → ClassId) × Heap × (Nat → Nat) × (Nat → Nat) × Nat × Nat
abbrev gH0 (G : GT) : Heap := G.2.2.2.1
abbrev bA (G : GT) : Nat → Prop := fun q => (gH0 G).size ≤ q
def fv (fk : Nat → Option (Option Nat)) (f : Nat → Int32) (k : Nat) : Value := match fk k with
  | none => .int (f k)
  | some r => va_rf r
def av (t : Nat) (rf : Nat → Option Nat) (f : Nat → Int32) (g : Nat → Int64) (j : Nat) : Value := match t with
  | 0 => .int (f j)
  | 1 => .int (f j)
  | 2 => .long (g j)
  | _ => va_rf (rf j)
def cellAt (G : GT) (c : shC) (f : Nat → Int32) (g : Nat → Int64) (a : Nat) (H : Heap) : Prop := match c with
  | .inl (ci, fk) => ∃ r : vw_C, vwCl[ci]? = some r ∧ t_OB a (G.1 ci) r.2.2 (G.2.1 ci) H (fv fk f)
  | .inr (t, n, rf) => H[a]? = some (arrV (G.2.2.1 t) n (av t rf f g))
def HPh (G : GT) (sh : SH) (I : IH) (L : LH) (n : Nat) (H : Heap) : Prop := H.size = n ∧ (gH0 G).size ≤ n ∧ (∀ q : Nat, q < (gH0 G).size → H[q]? = (gH0 G)[q]?) ∧ ∀ (a : Nat) (c : shC), sh a = some c → (gH0 G).size ≤ a ∧ cellAt G c (I a) (L a) a H
/-- the nest mates' links -/
def nestWs : List Cond := [.methodLinkNest RX6 41 yX0_init RX6, .methodLinkNest RX6 56 yX3_init RX6, .methodLinkNest RX1 112 yX6_isUnder RX6, .methodLinkNest RX4 26 yX6_isUnder RX6, .methodLinkNest RX2 51 yX6_isUnder RX6, .methodLinkNest RX5 54 yX6_copyRows RX6, .methodLinkNest RX5 107 yX6_isUnder RX6, .methodLinkNest RX5 138 yX6_sum RX6, .methodLinkNest RX2 37 yX6_copy RX6, .methodLinkNest RX2 41 yX6_copyRows RX6]
def sLen : List Nat := [2, 3, 1, 3, 4]
def sByt : List (List Int32) := [[108, 116], [111, 115, 116], [103], [101, 97, 107], [112, 111, 110, 100]]
def sIx : List (Nat × String) := [(73, "lt"), (79, "ost"), (81, "g"), (83, "eak"), (85, "pond")]
def abvL : List Int32 := [-1, 0, 0, 0, 1, 2, 3]
def va_AOA (ty : FieldType) (U : State) : Prop := (Cond.arrayOver (.array ty)).before #[] U = true
theorem va_AOA.spec {t : FieldType} {s : State} (h : va_AOA t s) : ∃ comp c k, s.vm.findClass (FieldType.array t).toString = some comp ∧ (s.vm.classes.findIdx? fun x => match x.kind with | .array component _ => component == comp | _ => false) = some c ∧ s.vm.classes[c]? = some k ∧ k.kind = .array comp (.array t) ∧ s.vm.findClass ("[" ++ (FieldType.array t).toString) = some c := by
  unfold va_AOA Cond.before at h
  simp only [Cond.holds, Cond.value, beq_iff_eq] at h
  cases hc : s.vm.findClass (FieldType.array t).toString with
  | none => simp [hc] at h
  | some comp =>
    simp only [hc, Option.bind_some, Option.bind_eq_some_iff, Option.map_eq_some_iff] at h
    obtain ⟨c, hi, k, hk, hb⟩ := h
    obtain ⟨hlt, hp, -⟩ := Array.findIdx?_eq_some_iff_getElem.mp hi
    have hkk : s.vm.classes[c] = k := (Array.getElem?_eq_some_iff.mp hk).2
    rw [hkk] at hp
    cases hkind : k.kind with
    | array component ty =>
      simp only [hkind, Bool.and_eq_true, decide_eq_true_eq, beq_iff_eq] at hb hp
      obtain ⟨e1, e2⟩ := hb
      subst e1
      subst hp
      exact ⟨component, c, k, rfl, hi, hk, hkind, e2⟩
    | _ => simp [hkind] at hp
theorem va_AOA.moved {t : FieldType} {u U : State} (hvm : u.vm.Alike U.vm) (h : va_AOA t u) : va_AOA t U := by
  obtain ⟨comp, c, k, h1, h2, h3, h4, h5⟩ := h.spec
  obtain ⟨k', hk', he⟩ := hvm.2.2 _ _ h3
  have hi : (U.vm.classes.findIdx? fun (x : Class) => match x.kind with | .array component _ => component == comp | _ => false) = some c := by
    first
      | exact (va_idx_bare U.vm comp).symm.trans ((congrArg (fun v : Vm => v.classes.findIdx? fun (x : Class) => match x.kind with | .array component _ => comp == component | _ => false) hvm.bare_eq.symm).trans ((va_idx_bare u.vm comp).trans h2))
      | exact (va_idx_bare U.vm comp).symm.trans ((congrArg (fun v : Vm => v.classes.findIdx? fun (x : Class) => match x.kind with | .array component _ => component == comp | _ => false) hvm.bare_eq).trans ((va_idx_bare u.vm comp).trans h2))
      | exact (va_idx_bare U.vm comp).symm.trans ((congrArg (fun v : Vm => v.classes.findIdx? fun (x : Class) => match x.kind with | .array component _ => component == comp | _ => false) hvm.bare_eq.symm).trans ((va_idx_bare u.vm comp).trans h2))
  have hkind : k'.kind = .array comp (.array t) := by rw [he]; exact h4
  have f1 : U.vm.findClass (FieldType.array t).toString = some comp := by rw [hvm.findClass]; exact h1
  have f2 : U.vm.findClass ("[" ++ (FieldType.array t).toString) = some c := by rw [hvm.findClass]; exact h5
  unfold va_AOA Cond.before Cond.holds
  simp only [Cond.value]
  rw [f1, Option.bind_some]
  refine (congrArg (fun o : Option Nat => (o.bind (fun c => (U.vm.classes[c]?).map fun (k : Class) => match k.kind with | .array _ ty => decide (ty = FieldType.array t) && decide (U.vm.findClass ("[" ++ (FieldType.array t).toString) = some c) | _ => false) == some true)) hi).trans ?_
  simp [hk', hkind, f2]
/-- what the tables, the statics and the texts give, all along -/
def KF (G : GT) (U : State) : Prop :=
  ((∀ (c : Nat) (q : vw_C), vwCl[c]? = some q → u_Kn U q.1 q.2.1 q.2.2 (G.1 c) (G.2.1 c)) ∧ (∀ t, t < 5 → ArrOfT U (G.2.2.1 t) (tyA t) ∧ va_RA U (G.2.2.1 t) (tyA t))) ∧
  va_AO "MeltHours$Tape" U ∧ va_AOA .int U ∧ (∀ w ∈ nestWs, va_Nw w U) ∧
  (∀ i q, sIx[i]? = some q → vk_R RX1 q.1 q.2 (G.2.2.2.2.1 i) U) ∧ vk_S 5 sLen sByt G.2.2.2.2.1 G.2.2.2.2.2.1 (bA G) U (gH0 G) ∧
  va_Z "MeltHours" "ABOVE" "[I" (.ref G.2.2.2.2.2.2.1) (bA G) U (gH0 G) ∧ va_T .int G.2.2.2.2.2.2.1 7 (fun j => .int (abvL.getD j 0)) (bA G) U (gH0 G) ∧
  va_Z "java/lang/String" "COMPACT_STRINGS" "Z" (.int 1) (bA G) U (gH0 G) ∧ va_Z "jdk/internal/util/Preconditions" "SIOOBE_FORMATTER" "Ljava/util/function/BiFunction;" (.ref G.2.2.2.2.2.2.2) (bA G) U (gH0 G)
theorem KF.warm {G : GT} {s U : State} (hW : s.WarmedH U.vm) (h : KF G s) : KF G U := by
  have hv := hW.alike
  obtain ⟨⟨h1, h2⟩, h3, h4, h5, h6, h7, h8, h9, h10, h11⟩ := h
  refine ⟨⟨fun c q hq => u_Kn_moved hv (h1 c q hq), fun t ht => ⟨arrOfT_moved hv (h2 t ht).1, (h2 t ht).2.moved hv⟩⟩, h3.moved hv, h4.moved hv, fun w hw => ?_, fun i q hq => (h6 i q hq).warm hW, h7.moved hv, h8.moved hv, h9.moved hv, h10.moved hv, h11.moved hv⟩
  have h0 := h5 w hw
  simp only [nestWs, List.mem_cons, List.not_mem_nil, or_false] at hw
  rcases hw with rfl | rfl | rfl | rfl | rfl | rfl | rfl | rfl | rfl | rfl <;> exact va_Nw.warmM hW h0
theorem KF.same {G : GT} {s U : State} (hv : s.vm = U.vm) (h : KF G s) : KF G U := by
  have h9 : s.WarmedH U.vm := by rw [← hv]; exact State.WarmedH.refl s
  exact KF.warm h9 h
theorem HPh.lt {G : GT} {sh : SH} {I : IH} {L : LH} {n : Nat} {H : Heap} (h : HPh G sh I L n H) {a : Nat} {c : shC} (ha : sh a = some c) : a < n := by
  obtain ⟨h1, h2, h3, h4⟩ := h
  have h5 := (h4 a c ha).2
  rw [← h1]
  obtain ⟨ci, fk⟩ | ⟨t, m, rf⟩ := c
  · obtain ⟨r, -, cell, q1, -⟩ := h5
    exact (Array.getElem?_eq_some_iff.mp q1).1
  · exact (Array.getElem?_eq_some_iff.mp h5).1
abbrev XT : Type := Program × Launch × Env × Room × State × MethodId × Array Value × List Frame × Method × Code
def MF (G : GT) (X : XT) (own : String) (cc : ByteArray) (nL d : Nat) (ret : Option FieldType) (nm : String) : Prop := match X with
  | (p, _, _, R, s, m, args, _, meth, c) => p.tables.exec = Jvm.exec ∧ c.code = cc ∧ c.maxLocals = nL ∧ s.vm.findClass own = some m.cls ∧ (∀ w ∈ lw_good, w.before args s = true) ∧ meth.sig.returnType = ret ∧ meth.locks = false ∧ meth.name = nm ∧ KF G s ∧ (∀ q : Nat, q < (gH0 G).size → s.heap[q]? = (gH0 G)[q]?) ∧ (gH0 G).size ≤ s.heap.size ∧ R.frames = d ∧ R.locals = 120 * d
def J (G : GT) (X : XT) (Q : State → Prop) (nL : Nat) (sh : SH) (I : IH) (L : LH) (n e es pc : Nat) (ls : List (Nat × Value)) (st : List Value) : Prop := match X with
  | (p, l, e', R, s, m, args, below, meth, c) => ∀ (H : Heap) (locs : List Loc) (cells slots : Nat) (LS : Array Slot), cells + e = R.cells → slots + es = R.slots → HPh G sh I L n H → va_S (bA G) s.heap H locs → lv_has LS nL ls → W p l e' R s m args below meth c H locs cells slots Q (F0 m pc LS st)
def QcT (G : GT) (v : Option Value) (sh : SH) (I : IH) (L : LH) (n : Nat) : Array Value → State → Outcome → State → Prop := fun _ st o t => o = .returned v ∧ HPh G sh I L n t.heap ∧ va_F (bA G) st t
def PcT (G : GT) (av : List Value) (sh : SH) (I : IH) (L : LH) (n : Nat) : Array Value → State → Prop := fun a U => a = av.toArray ∧ HPh G sh I L n U.heap ∧ KF G U
def rmD (d e es : Nat) : Room := { frames := d, cells := e, slots := es, locals := 120 * d }
def Ct (G : GT) (y : MethodName) (cc : ByteArray) (nL : Nat) (ret : Option FieldType) (d : Nat) (av : List Value) (sh : SH) (I : IH) (L : LH) (n : Nat) (v : Option Value) (sh' : SH) (I' : IH) (L' : LH) (n' e es : Nat) : Prop := ∀ l : Launch, Met l y (wsU y cc nL ret) (rmD d e es) (PcT G av sh I L n) (QcT G v sh' I' L' n') e es (bA G)
def QE (G : GT) (X : XT) (v : Option Value) (sh : SH) (I : IH) (L : LH) (n : Nat) : State → Prop := match X with
  | (_, _, _, R, s, _, args, below, _, _) => MQ below (QcT G v sh I L n) args s R.cells R.slots (bA G)
theorem PcT.blind {G : GT} {av : List Value} {sh : SH} {I : IH} {L : LH} {n : Nat} : FrameBlind (PcT G av sh I L n) := fun a U g mk h => ⟨h.1, h.2.1, KF.same (s := U) (U := U.calling g mk a) rfl h.2.2⟩
set_option maxHeartbeats 1000000 in
theorem ct_of {G : GT} {y : MethodName} {cc : ByteArray} {nL : Nat} {ret : Option FieldType} {d : Nat} {av : List Value} {sh : SH} {I : IH} {L : LH} {n : Nat} {v : Option Value} {sh' : SH} {I' : IH} {L' : LH} {n' e es : Nat} (hy : plainName y.cls = true) (hn : Nat.ble (lg_sl av).length nL = true)
    (body : ∀ X : XT, MF G X y.cls cc nL d ret y.name → J G X (QE G X v sh' I' L' n') nL sh I L n e es 0 (lv_args 0 av) []) : Ct G y cc nL ret d av sh I L n v sh' I' L' n' e es := by
  intro l
  refine Met.ofW (cc := cc) (maxL := nL) (ret := ret) hy rfl ?_
  intro p e9 s m args below meth c s₁ B hml hv
  obtain ⟨rfl, hH, hK⟩ := hv
  have hts := atoms_spec (ws := wsU y cc nL ret) B.pre
  have hown : s.vm.findClass y.cls = some m.cls := findClass_of_methodNamed B.named
  have hl := lv_entry av (n := nL) (Nat.le_of_ble_eq_true hn)
  rw [lg_entry_eq]
  exact body (p, l, e9, rmD d e es, s, m, av.toArray, below, meth, c) ⟨B.exec, B.bytes, hml, hown, htsU hts, B.returns, B.notSynchronized, (name_of_methodNamed B.named B.method).1, hK, hH.2.2.1, by rw [hH.1]; exact hH.2.1, rfl, rfl⟩ s.heap [] 0 0 _ (Nat.zero_add e) (Nat.zero_add es) hH va_S.rf hl
section JR
variable {G : GT} {X : XT} {Q : State → Prop} {nL : Nat} {sh : SH} {I : IH} {L : LH} {n e es pc : Nat} {ls : List (Nat × Value)} {st : List Value}
variable {own : String} {cc : ByteArray} {d : Nat} {ret : Option FieldType} {nm : String}
/-- another list of the same locals -/
theorem j_sub (is : List Nat) {ls' : List (Nat × Value)} (hp : lv_pick ls is = ls') (k : J G X Q nL sh I L n e es pc ls' st) : J G X Q nL sh I L n e es pc ls st := by
  obtain ⟨p, l, e', R, s, m, args, below, meth, c⟩ := X
  intro H locs cells slots LS h1 h2 h3 h4 h5
  exact k H locs cells slots LS h1 h2 h3 h4 (lv_sub h5 is hp)
theorem j_e {e0 es0 : Nat} (h1 : e = e0) (h2 : es = es0) (k : J G X Q nL sh I L n e0 es0 pc ls st) : J G X Q nL sh I L n e es pc ls st := by
  subst h1
  subst h2
  exact k

theorem j_iconst (F : MF G X own cc nL d ret nm) {i : Int} (v : Int32) (hd : decode cc pc = .ok (.iconst i, 1)) (hv : Int32.ofInt i = v) (k : J G X Q nL sh I L n e es (pc + 1) ls (.int v :: st)) : J G X Q nL sh I L n e es pc ls (st) := by
  obtain ⟨p, l, e', R, s, m, args, below, meth, c⟩ := X
  obtain ⟨hx, hb, hml, hown, hts, hr, hlocks, hnm, hK, hq0, hq1, hRf, hRl⟩ := F
  intro H locs cells slots LS h1 h2 h3 h4 h5
  exact lv_iconst hx hb hd hv (k H locs cells slots LS h1 h2 h3 h4 h5)
theorem j_bipush (F : MF G X own cc nL d ret nm) {i : Int} (v : Int32) (hd : decode cc pc = .ok (.bipush i, 2)) (hv : (Int8.ofInt i).toInt32 = v) (k : J G X Q nL sh I L n e es (pc + 2) ls (.int v :: st)) : J G X Q nL sh I L n e es pc ls (st) := by
  obtain ⟨p, l, e', R, s, m, args, below, meth, c⟩ := X
  obtain ⟨hx, hb, hml, hown, hts, hr, hlocks, hnm, hK, hq0, hq1, hRf, hRl⟩ := F
  intro H locs cells slots LS h1 h2 h3 h4 h5
  exact lv_bipush hx hb hd hv (k H locs cells slots LS h1 h2 h3 h4 h5)
theorem j_sipush (F : MF G X own cc nL d ret nm) {i : Int} (v : Int32) (hd : decode cc pc = .ok (.sipush i, 3)) (hv : (Int16.ofInt i).toInt32 = v) (k : J G X Q nL sh I L n e es (pc + 3) ls (.int v :: st)) : J G X Q nL sh I L n e es pc ls (st) := by
  obtain ⟨p, l, e', R, s, m, args, below, meth, c⟩ := X
  obtain ⟨hx, hb, hml, hown, hts, hr, hlocks, hnm, hK, hq0, hq1, hRf, hRl⟩ := F
  intro H locs cells slots LS h1 h2 h3 h4 h5
  exact lv_sipush hx hb hd hv (k H locs cells slots LS h1 h2 h3 h4 h5)
theorem j_lconst (F : MF G X own cc nL d ret nm) {i : Fin 2} (v : Int64) (hd : decode cc pc = .ok (.lconst i, 1)) (hv : Int64.ofNat (i : Nat) = v) (k : J G X Q nL sh I L n e es (pc + 1) ls (.long v :: st)) : J G X Q nL sh I L n e es pc ls (st) := by
  obtain ⟨p, l, e', R, s, m, args, below, meth, c⟩ := X
  obtain ⟨hx, hb, hml, hown, hts, hr, hlocks, hnm, hK, hq0, hq1, hRf, hRl⟩ := F
  intro H locs cells slots LS h1 h2 h3 h4 h5
  exact lv_lconst hx hb hd hv (k H locs cells slots LS h1 h2 h3 h4 h5)
theorem j_ldc (F : MF G X own cc nL d ret nm) {ix : Nat} {v : Int32} (hw : Cond.constant own ix v ∈ lw_good) (hd : decode cc pc = .ok (.ldc ix, 2)) (k : J G X Q nL sh I L n e es (pc + 2) ls (.int v :: st)) : J G X Q nL sh I L n e es pc ls (st) := by
  obtain ⟨p, l, e', R, s, m, args, below, meth, c⟩ := X
  obtain ⟨hx, hb, hml, hown, hts, hr, hlocks, hnm, hK, hq0, hq1, hRf, hRl⟩ := F
  intro H locs cells slots LS h1 h2 h3 h4 h5
  exact lv_ldc hx hb hown (hts _ hw) hd (k H locs cells slots LS h1 h2 h3 h4 h5)
theorem j_ldcw (F : MF G X own cc nL d ret nm) {ix : Nat} {v : Int32} (hw : Cond.constant own ix v ∈ lw_good) (hd : decode cc pc = .ok (.ldc_w ix, 3)) (k : J G X Q nL sh I L n e es (pc + 3) ls (.int v :: st)) : J G X Q nL sh I L n e es pc ls (st) := by
  obtain ⟨p, l, e', R, s, m, args, below, meth, c⟩ := X
  obtain ⟨hx, hb, hml, hown, hts, hr, hlocks, hnm, hK, hq0, hq1, hRf, hRl⟩ := F
  intro H locs cells slots LS h1 h2 h3 h4 h5
  exact lv_ldcw hx hb hown (hts _ hw) hd (k H locs cells slots LS h1 h2 h3 h4 h5)
theorem j_ldc2 (F : MF G X own cc nL d ret nm) {ix : Nat} {v : Int64} (hw : Cond.constantLong own ix v ∈ lw_good) (hd : decode cc pc = .ok (.ldc2_w ix, 3)) (k : J G X Q nL sh I L n e es (pc + 3) ls (.long v :: st)) : J G X Q nL sh I L n e es pc ls (st) := by
  obtain ⟨p, l, e', R, s, m, args, below, meth, c⟩ := X
  obtain ⟨hx, hb, hml, hown, hts, hr, hlocks, hnm, hK, hq0, hq1, hRf, hRl⟩ := F
  intro H locs cells slots LS h1 h2 h3 h4 h5
  exact lv_ldc2 hx hb hown (hts _ hw) hd (k H locs cells slots LS h1 h2 h3 h4 h5)
theorem j_iload_n (F : MF G X own cc nL d ret nm) {k0 : Fin 4} {x : Int32} (i : Nat) (hl : ls[i]? = some ((k0 : Nat), .int x)) (hd : decode cc pc = .ok (.iload_n k0, 1)) (k : J G X Q nL sh I L n e es (pc + 1) ls (.int x :: st)) : J G X Q nL sh I L n e es pc ls (st) := by
  obtain ⟨p, l, e', R, s, m, args, below, meth, c⟩ := X
  obtain ⟨hx, hb, hml, hown, hts, hr, hlocks, hnm, hK, hq0, hq1, hRf, hRl⟩ := F
  intro H locs cells slots LS h1 h2 h3 h4 h5
  exact lv_iload_n hx hb hd rfl (lv_at h5 i hl) (k H locs cells slots LS h1 h2 h3 h4 h5)
theorem j_iload (F : MF G X own cc nL d ret nm) {k0 : Nat} {x : Int32} (i : Nat) (hl : ls[i]? = some (k0, .int x)) (hd : decode cc pc = .ok (.iload k0, 2)) (k : J G X Q nL sh I L n e es (pc + 2) ls (.int x :: st)) : J G X Q nL sh I L n e es pc ls (st) := by
  obtain ⟨p, l, e', R, s, m, args, below, meth, c⟩ := X
  obtain ⟨hx, hb, hml, hown, hts, hr, hlocks, hnm, hK, hq0, hq1, hRf, hRl⟩ := F
  intro H locs cells slots LS h1 h2 h3 h4 h5
  exact lv_iload hx hb hd (lv_at h5 i hl) (k H locs cells slots LS h1 h2 h3 h4 h5)
theorem j_lload_n (F : MF G X own cc nL d ret nm) {k0 : Fin 4} {x : Int64} (i : Nat) (hl : ls[i]? = some ((k0 : Nat), .long x)) (hd : decode cc pc = .ok (.lload_n k0, 1)) (k : J G X Q nL sh I L n e es (pc + 1) ls (.long x :: st)) : J G X Q nL sh I L n e es pc ls (st) := by
  obtain ⟨p, l, e', R, s, m, args, below, meth, c⟩ := X
  obtain ⟨hx, hb, hml, hown, hts, hr, hlocks, hnm, hK, hq0, hq1, hRf, hRl⟩ := F
  intro H locs cells slots LS h1 h2 h3 h4 h5
  exact lv_lload_n hx hb hd rfl (lv_at h5 i hl) (k H locs cells slots LS h1 h2 h3 h4 h5)
theorem j_lload (F : MF G X own cc nL d ret nm) {k0 : Nat} {x : Int64} (i : Nat) (hl : ls[i]? = some (k0, .long x)) (hd : decode cc pc = .ok (.lload k0, 2)) (k : J G X Q nL sh I L n e es (pc + 2) ls (.long x :: st)) : J G X Q nL sh I L n e es pc ls (st) := by
  obtain ⟨p, l, e', R, s, m, args, below, meth, c⟩ := X
  obtain ⟨hx, hb, hml, hown, hts, hr, hlocks, hnm, hK, hq0, hq1, hRf, hRl⟩ := F
  intro H locs cells slots LS h1 h2 h3 h4 h5
  exact lv_lload hx hb hd (lv_at h5 i hl) (k H locs cells slots LS h1 h2 h3 h4 h5)
theorem j_aload_n (F : MF G X own cc nL d ret nm) {k0 : Fin 4} {x : Nat} (i : Nat) (hl : ls[i]? = some ((k0 : Nat), .ref x)) (hd : decode cc pc = .ok (.aload_n k0, 1)) (k : J G X Q nL sh I L n e es (pc + 1) ls (.ref x :: st)) : J G X Q nL sh I L n e es pc ls (st) := by
  obtain ⟨p, l, e', R, s, m, args, below, meth, c⟩ := X
  obtain ⟨hx, hb, hml, hown, hts, hr, hlocks, hnm, hK, hq0, hq1, hRf, hRl⟩ := F
  intro H locs cells slots LS h1 h2 h3 h4 h5
  exact lv_aload_n hx hb hd rfl (lv_at h5 i hl) (k H locs cells slots LS h1 h2 h3 h4 h5)
theorem j_aload (F : MF G X own cc nL d ret nm) {k0 : Nat} {x : Nat} (i : Nat) (hl : ls[i]? = some (k0, .ref x)) (hd : decode cc pc = .ok (.aload k0, 2)) (k : J G X Q nL sh I L n e es (pc + 2) ls (.ref x :: st)) : J G X Q nL sh I L n e es pc ls (st) := by
  obtain ⟨p, l, e', R, s, m, args, below, meth, c⟩ := X
  obtain ⟨hx, hb, hml, hown, hts, hr, hlocks, hnm, hK, hq0, hq1, hRf, hRl⟩ := F
  intro H locs cells slots LS h1 h2 h3 h4 h5
  exact lv_aload hx hb hd (lv_at h5 i hl) (k H locs cells slots LS h1 h2 h3 h4 h5)
theorem j_aload_nN (F : MF G X own cc nL d ret nm) {k0 : Fin 4} (i : Nat) (hl : ls[i]? = some ((k0 : Nat), .null)) (hd : decode cc pc = .ok (.aload_n k0, 1)) (k : J G X Q nL sh I L n e es (pc + 1) ls (.null :: st)) : J G X Q nL sh I L n e es pc ls (st) := by
  obtain ⟨p, l, e', R, s, m, args, below, meth, c⟩ := X
  obtain ⟨hx, hb, hml, hown, hts, hr, hlocks, hnm, hK, hq0, hq1, hRf, hRl⟩ := F
  intro H locs cells slots LS h1 h2 h3 h4 h5
  exact lv_aload_nN hx hb hd rfl (lv_at h5 i hl) (k H locs cells slots LS h1 h2 h3 h4 h5)
theorem j_aloadN (F : MF G X own cc nL d ret nm) {k0 : Nat} (i : Nat) (hl : ls[i]? = some (k0, .null)) (hd : decode cc pc = .ok (.aload k0, 2)) (k : J G X Q nL sh I L n e es (pc + 2) ls (.null :: st)) : J G X Q nL sh I L n e es pc ls (st) := by
  obtain ⟨p, l, e', R, s, m, args, below, meth, c⟩ := X
  obtain ⟨hx, hb, hml, hown, hts, hr, hlocks, hnm, hK, hq0, hq1, hRf, hRl⟩ := F
  intro H locs cells slots LS h1 h2 h3 h4 h5
  exact lv_aloadN hx hb hd (lv_at h5 i hl) (k H locs cells slots LS h1 h2 h3 h4 h5)
theorem j_istore_n (F : MF G X own cc nL d ret nm) {k0 : Fin 4} {k1 : Nat} (hk : (k0 : Nat) = k1) {x : Int32} {ls' : List (Nat × Value)} (hn : Nat.ble (k1 + 1) nL = true) (hl : (k1, Value.int x) :: ls.filter (fun q => !(q.1 == k1) && !(q.1 + 1 == k1 && q.2.category == 2)) = ls') (hd : decode cc pc = .ok (.istore_n k0, 1)) (k : J G X Q nL sh I L n e es (pc + 1) ls' st) : J G X Q nL sh I L n e es pc ls (.int x :: st) := by
  obtain ⟨p, l, e', R, s, m, args, below, meth, c⟩ := X
  obtain ⟨hx, hb, hml, hown, hts, hr, hlocks, hnm, hK, hq0, hq1, hRf, hRl⟩ := F
  intro H locs cells slots LS h1 h2 h3 h4 h5
  exact lv_istore_n hx hb hd hk h5 (Nat.le_of_ble_eq_true hn) hl (fun LS h5 => k H locs cells slots LS h1 h2 h3 h4 h5)
theorem j_istore (F : MF G X own cc nL d ret nm) {k1 : Nat} {x : Int32} {ls' : List (Nat × Value)} (hn : Nat.ble (k1 + 1) nL = true) (hl : (k1, Value.int x) :: ls.filter (fun q => !(q.1 == k1) && !(q.1 + 1 == k1 && q.2.category == 2)) = ls') (hd : decode cc pc = .ok (.istore k1, 2)) (k : J G X Q nL sh I L n e es (pc + 2) ls' st) : J G X Q nL sh I L n e es pc ls (.int x :: st) := by
  obtain ⟨p, l, e', R, s, m, args, below, meth, c⟩ := X
  obtain ⟨hx, hb, hml, hown, hts, hr, hlocks, hnm, hK, hq0, hq1, hRf, hRl⟩ := F
  intro H locs cells slots LS h1 h2 h3 h4 h5
  exact lv_istore hx hb hd h5 (Nat.le_of_ble_eq_true hn) hl (fun LS h5 => k H locs cells slots LS h1 h2 h3 h4 h5)
theorem j_lstore_n (F : MF G X own cc nL d ret nm) {k0 : Fin 4} {k1 : Nat} (hk : (k0 : Nat) = k1) {x : Int64} {ls' : List (Nat × Value)} (hn : Nat.ble (k1 + 1 + 1) nL = true) (hl : (k1, Value.long x) :: ls.filter (fun q => !(q.1 == k1) && (!(q.1 == k1 + 1) && !(q.1 + 1 == k1 && q.2.category == 2))) = ls') (hd : decode cc pc = .ok (.lstore_n k0, 1)) (k : J G X Q nL sh I L n e es (pc + 1) ls' st) : J G X Q nL sh I L n e es pc ls (.long x :: st) := by
  obtain ⟨p, l, e', R, s, m, args, below, meth, c⟩ := X
  obtain ⟨hx, hb, hml, hown, hts, hr, hlocks, hnm, hK, hq0, hq1, hRf, hRl⟩ := F
  intro H locs cells slots LS h1 h2 h3 h4 h5
  exact lv_lstore_n hx hb hd hk h5 (Nat.le_of_ble_eq_true hn) hl (fun LS h5 => k H locs cells slots LS h1 h2 h3 h4 h5)
theorem j_lstore (F : MF G X own cc nL d ret nm) {k1 : Nat} {x : Int64} {ls' : List (Nat × Value)} (hn : Nat.ble (k1 + 1 + 1) nL = true) (hl : (k1, Value.long x) :: ls.filter (fun q => !(q.1 == k1) && (!(q.1 == k1 + 1) && !(q.1 + 1 == k1 && q.2.category == 2))) = ls') (hd : decode cc pc = .ok (.lstore k1, 2)) (k : J G X Q nL sh I L n e es (pc + 2) ls' st) : J G X Q nL sh I L n e es pc ls (.long x :: st) := by
  obtain ⟨p, l, e', R, s, m, args, below, meth, c⟩ := X
  obtain ⟨hx, hb, hml, hown, hts, hr, hlocks, hnm, hK, hq0, hq1, hRf, hRl⟩ := F
  intro H locs cells slots LS h1 h2 h3 h4 h5
  exact lv_lstore hx hb hd h5 (Nat.le_of_ble_eq_true hn) hl (fun LS h5 => k H locs cells slots LS h1 h2 h3 h4 h5)
theorem j_astore_n (F : MF G X own cc nL d ret nm) {k0 : Fin 4} {k1 : Nat} (hk : (k0 : Nat) = k1) {x : Nat} {ls' : List (Nat × Value)} (hn : Nat.ble (k1 + 1) nL = true) (hl : (k1, Value.ref x) :: ls.filter (fun q => !(q.1 == k1) && !(q.1 + 1 == k1 && q.2.category == 2)) = ls') (hd : decode cc pc = .ok (.astore_n k0, 1)) (k : J G X Q nL sh I L n e es (pc + 1) ls' st) : J G X Q nL sh I L n e es pc ls (.ref x :: st) := by
  obtain ⟨p, l, e', R, s, m, args, below, meth, c⟩ := X
  obtain ⟨hx, hb, hml, hown, hts, hr, hlocks, hnm, hK, hq0, hq1, hRf, hRl⟩ := F
  intro H locs cells slots LS h1 h2 h3 h4 h5
  exact lv_astore_n hx hb hd hk h5 (Nat.le_of_ble_eq_true hn) hl (fun LS h5 => k H locs cells slots LS h1 h2 h3 h4 h5)
theorem j_astore (F : MF G X own cc nL d ret nm) {k1 : Nat} {x : Nat} {ls' : List (Nat × Value)} (hn : Nat.ble (k1 + 1) nL = true) (hl : (k1, Value.ref x) :: ls.filter (fun q => !(q.1 == k1) && !(q.1 + 1 == k1 && q.2.category == 2)) = ls') (hd : decode cc pc = .ok (.astore k1, 2)) (k : J G X Q nL sh I L n e es (pc + 2) ls' st) : J G X Q nL sh I L n e es pc ls (.ref x :: st) := by
  obtain ⟨p, l, e', R, s, m, args, below, meth, c⟩ := X
  obtain ⟨hx, hb, hml, hown, hts, hr, hlocks, hnm, hK, hq0, hq1, hRf, hRl⟩ := F
  intro H locs cells slots LS h1 h2 h3 h4 h5
  exact lv_astore hx hb hd h5 (Nat.le_of_ble_eq_true hn) hl (fun LS h5 => k H locs cells slots LS h1 h2 h3 h4 h5)
theorem j_astore_nN (F : MF G X own cc nL d ret nm) {k0 : Fin 4} {k1 : Nat} (hk : (k0 : Nat) = k1) {ls' : List (Nat × Value)} (hn : Nat.ble (k1 + 1) nL = true) (hl : (k1, Value.null) :: ls.filter (fun q => !(q.1 == k1) && !(q.1 + 1 == k1 && q.2.category == 2)) = ls') (hd : decode cc pc = .ok (.astore_n k0, 1)) (k : J G X Q nL sh I L n e es (pc + 1) ls' st) : J G X Q nL sh I L n e es pc ls (.null :: st) := by
  obtain ⟨p, l, e', R, s, m, args, below, meth, c⟩ := X
  obtain ⟨hx, hb, hml, hown, hts, hr, hlocks, hnm, hK, hq0, hq1, hRf, hRl⟩ := F
  intro H locs cells slots LS h1 h2 h3 h4 h5
  exact lv_astore_nN hx hb hd hk h5 (Nat.le_of_ble_eq_true hn) hl (fun LS h5 => k H locs cells slots LS h1 h2 h3 h4 h5)
theorem j_astoreN (F : MF G X own cc nL d ret nm) {k1 : Nat} {ls' : List (Nat × Value)} (hn : Nat.ble (k1 + 1) nL = true) (hl : (k1, Value.null) :: ls.filter (fun q => !(q.1 == k1) && !(q.1 + 1 == k1 && q.2.category == 2)) = ls') (hd : decode cc pc = .ok (.astore k1, 2)) (k : J G X Q nL sh I L n e es (pc + 2) ls' st) : J G X Q nL sh I L n e es pc ls (.null :: st) := by
  obtain ⟨p, l, e', R, s, m, args, below, meth, c⟩ := X
  obtain ⟨hx, hb, hml, hown, hts, hr, hlocks, hnm, hK, hq0, hq1, hRf, hRl⟩ := F
  intro H locs cells slots LS h1 h2 h3 h4 h5
  exact lv_astoreN hx hb hd h5 (Nat.le_of_ble_eq_true hn) hl (fun LS h5 => k H locs cells slots LS h1 h2 h3 h4 h5)
theorem j_iinc (F : MF G X own cc nL d ret nm) {k1 : Nat} {i : Int} {x : Int32} (v : Int32) {ls' : List (Nat × Value)} (j : Nat) (hj : ls[j]? = some (k1, .int x)) (hv : x + Int32.ofInt i = v) (hn : Nat.ble (k1 + 1) nL = true) (hl : (k1, Value.int v) :: ls.filter (fun q => !(q.1 == k1) && !(q.1 + 1 == k1 && q.2.category == 2)) = ls') (hd : decode cc pc = .ok (.iinc k1 i, 3)) (k : J G X Q nL sh I L n e es (pc + 3) ls' st) : J G X Q nL sh I L n e es pc ls st := by
  obtain ⟨p, l, e', R, s, m, args, below, meth, c⟩ := X
  obtain ⟨hx, hb, hml, hown, hts, hr, hlocks, hnm, hK, hq0, hq1, hRf, hRl⟩ := F
  intro H locs cells slots LS h1 h2 h3 h4 h5
  exact lv_iinc hx hb hd h5 hj hv (Nat.le_of_ble_eq_true hn) hl (fun LS h5 => k H locs cells slots LS h1 h2 h3 h4 h5)
theorem j_iadd (F : MF G X own cc nL d ret nm) {x y : Int32} (hd : decode cc pc = .ok (.iadd, 1)) (k : J G X Q nL sh I L n e es (pc + 1) ls (.int (x + y) :: st)) : J G X Q nL sh I L n e es pc ls (.int y :: .int x :: st) := by
  obtain ⟨p, l, e', R, s, m, args, below, meth, c⟩ := X
  obtain ⟨hx, hb, hml, hown, hts, hr, hlocks, hnm, hK, hq0, hq1, hRf, hRl⟩ := F
  intro H locs cells slots LS h1 h2 h3 h4 h5
  exact lv_iadd hx hb hd (k H locs cells slots LS h1 h2 h3 h4 h5)
theorem j_isub (F : MF G X own cc nL d ret nm) {x y : Int32} (hd : decode cc pc = .ok (.isub, 1)) (k : J G X Q nL sh I L n e es (pc + 1) ls (.int (x - y) :: st)) : J G X Q nL sh I L n e es pc ls (.int y :: .int x :: st) := by
  obtain ⟨p, l, e', R, s, m, args, below, meth, c⟩ := X
  obtain ⟨hx, hb, hml, hown, hts, hr, hlocks, hnm, hK, hq0, hq1, hRf, hRl⟩ := F
  intro H locs cells slots LS h1 h2 h3 h4 h5
  exact lv_isub hx hb hd (k H locs cells slots LS h1 h2 h3 h4 h5)
theorem j_imul (F : MF G X own cc nL d ret nm) {x y : Int32} (hd : decode cc pc = .ok (.imul, 1)) (k : J G X Q nL sh I L n e es (pc + 1) ls (.int (x * y) :: st)) : J G X Q nL sh I L n e es pc ls (.int y :: .int x :: st) := by
  obtain ⟨p, l, e', R, s, m, args, below, meth, c⟩ := X
  obtain ⟨hx, hb, hml, hown, hts, hr, hlocks, hnm, hK, hq0, hq1, hRf, hRl⟩ := F
  intro H locs cells slots LS h1 h2 h3 h4 h5
  exact lv_imul hx hb hd (k H locs cells slots LS h1 h2 h3 h4 h5)
theorem j_iand (F : MF G X own cc nL d ret nm) {x y : Int32} (hd : decode cc pc = .ok (.iand, 1)) (k : J G X Q nL sh I L n e es (pc + 1) ls (.int (x &&& y) :: st)) : J G X Q nL sh I L n e es pc ls (.int y :: .int x :: st) := by
  obtain ⟨p, l, e', R, s, m, args, below, meth, c⟩ := X
  obtain ⟨hx, hb, hml, hown, hts, hr, hlocks, hnm, hK, hq0, hq1, hRf, hRl⟩ := F
  intro H locs cells slots LS h1 h2 h3 h4 h5
  exact lv_iand hx hb hd (k H locs cells slots LS h1 h2 h3 h4 h5)
theorem j_ior (F : MF G X own cc nL d ret nm) {x y : Int32} (hd : decode cc pc = .ok (.ior, 1)) (k : J G X Q nL sh I L n e es (pc + 1) ls (.int (x ||| y) :: st)) : J G X Q nL sh I L n e es pc ls (.int y :: .int x :: st) := by
  obtain ⟨p, l, e', R, s, m, args, below, meth, c⟩ := X
  obtain ⟨hx, hb, hml, hown, hts, hr, hlocks, hnm, hK, hq0, hq1, hRf, hRl⟩ := F
  intro H locs cells slots LS h1 h2 h3 h4 h5
  exact lv_ior hx hb hd (k H locs cells slots LS h1 h2 h3 h4 h5)
theorem j_ixor (F : MF G X own cc nL d ret nm) {x y : Int32} (hd : decode cc pc = .ok (.ixor, 1)) (k : J G X Q nL sh I L n e es (pc + 1) ls (.int (x ^^^ y) :: st)) : J G X Q nL sh I L n e es pc ls (.int y :: .int x :: st) := by
  obtain ⟨p, l, e', R, s, m, args, below, meth, c⟩ := X
  obtain ⟨hx, hb, hml, hown, hts, hr, hlocks, hnm, hK, hq0, hq1, hRf, hRl⟩ := F
  intro H locs cells slots LS h1 h2 h3 h4 h5
  exact lv_ixor hx hb hd (k H locs cells slots LS h1 h2 h3 h4 h5)
theorem j_ladd (F : MF G X own cc nL d ret nm) {x y : Int64} (hd : decode cc pc = .ok (.ladd, 1)) (k : J G X Q nL sh I L n e es (pc + 1) ls (.long (x + y) :: st)) : J G X Q nL sh I L n e es pc ls (.long y :: .long x :: st) := by
  obtain ⟨p, l, e', R, s, m, args, below, meth, c⟩ := X
  obtain ⟨hx, hb, hml, hown, hts, hr, hlocks, hnm, hK, hq0, hq1, hRf, hRl⟩ := F
  intro H locs cells slots LS h1 h2 h3 h4 h5
  exact lv_ladd hx hb hd (k H locs cells slots LS h1 h2 h3 h4 h5)
theorem j_lsub (F : MF G X own cc nL d ret nm) {x y : Int64} (hd : decode cc pc = .ok (.lsub, 1)) (k : J G X Q nL sh I L n e es (pc + 1) ls (.long (x - y) :: st)) : J G X Q nL sh I L n e es pc ls (.long y :: .long x :: st) := by
  obtain ⟨p, l, e', R, s, m, args, below, meth, c⟩ := X
  obtain ⟨hx, hb, hml, hown, hts, hr, hlocks, hnm, hK, hq0, hq1, hRf, hRl⟩ := F
  intro H locs cells slots LS h1 h2 h3 h4 h5
  exact lv_lsub hx hb hd (k H locs cells slots LS h1 h2 h3 h4 h5)
theorem j_lmul (F : MF G X own cc nL d ret nm) {x y : Int64} (hd : decode cc pc = .ok (.lmul, 1)) (k : J G X Q nL sh I L n e es (pc + 1) ls (.long (x * y) :: st)) : J G X Q nL sh I L n e es pc ls (.long y :: .long x :: st) := by
  obtain ⟨p, l, e', R, s, m, args, below, meth, c⟩ := X
  obtain ⟨hx, hb, hml, hown, hts, hr, hlocks, hnm, hK, hq0, hq1, hRf, hRl⟩ := F
  intro H locs cells slots LS h1 h2 h3 h4 h5
  exact lv_lmul hx hb hd (k H locs cells slots LS h1 h2 h3 h4 h5)
theorem j_land (F : MF G X own cc nL d ret nm) {x y : Int64} (hd : decode cc pc = .ok (.land, 1)) (k : J G X Q nL sh I L n e es (pc + 1) ls (.long (x &&& y) :: st)) : J G X Q nL sh I L n e es pc ls (.long y :: .long x :: st) := by
  obtain ⟨p, l, e', R, s, m, args, below, meth, c⟩ := X
  obtain ⟨hx, hb, hml, hown, hts, hr, hlocks, hnm, hK, hq0, hq1, hRf, hRl⟩ := F
  intro H locs cells slots LS h1 h2 h3 h4 h5
  exact lv_land hx hb hd (k H locs cells slots LS h1 h2 h3 h4 h5)
theorem j_lor (F : MF G X own cc nL d ret nm) {x y : Int64} (hd : decode cc pc = .ok (.lor, 1)) (k : J G X Q nL sh I L n e es (pc + 1) ls (.long (x ||| y) :: st)) : J G X Q nL sh I L n e es pc ls (.long y :: .long x :: st) := by
  obtain ⟨p, l, e', R, s, m, args, below, meth, c⟩ := X
  obtain ⟨hx, hb, hml, hown, hts, hr, hlocks, hnm, hK, hq0, hq1, hRf, hRl⟩ := F
  intro H locs cells slots LS h1 h2 h3 h4 h5
  exact lv_lor hx hb hd (k H locs cells slots LS h1 h2 h3 h4 h5)
theorem j_ishl (F : MF G X own cc nL d ret nm) {x y : Int32} (hd : decode cc pc = .ok (.ishl, 1)) (k : J G X Q nL sh I L n e es (pc + 1) ls (.int (x <<< (y &&& 31)) :: st)) : J G X Q nL sh I L n e es pc ls (.int y :: .int x :: st) := by
  obtain ⟨p, l, e', R, s, m, args, below, meth, c⟩ := X
  obtain ⟨hx, hb, hml, hown, hts, hr, hlocks, hnm, hK, hq0, hq1, hRf, hRl⟩ := F
  intro H locs cells slots LS h1 h2 h3 h4 h5
  exact lv_ishl hx hb hd (k H locs cells slots LS h1 h2 h3 h4 h5)
theorem j_ishr (F : MF G X own cc nL d ret nm) {x y : Int32} (hd : decode cc pc = .ok (.ishr, 1)) (k : J G X Q nL sh I L n e es (pc + 1) ls (.int (x >>> (y &&& 31)) :: st)) : J G X Q nL sh I L n e es pc ls (.int y :: .int x :: st) := by
  obtain ⟨p, l, e', R, s, m, args, below, meth, c⟩ := X
  obtain ⟨hx, hb, hml, hown, hts, hr, hlocks, hnm, hK, hq0, hq1, hRf, hRl⟩ := F
  intro H locs cells slots LS h1 h2 h3 h4 h5
  exact lv_ishr hx hb hd (k H locs cells slots LS h1 h2 h3 h4 h5)
theorem j_idiv (F : MF G X own cc nL d ret nm) {x y : Int32} (hne : ¬ y = 0) (hd : decode cc pc = .ok (.idiv, 1)) (k : J G X Q nL sh I L n e es (pc + 1) ls (.int (x / y) :: st)) : J G X Q nL sh I L n e es pc ls (.int y :: .int x :: st) := by
  obtain ⟨p, l, e', R, s, m, args, below, meth, c⟩ := X
  obtain ⟨hx, hb, hml, hown, hts, hr, hlocks, hnm, hK, hq0, hq1, hRf, hRl⟩ := F
  intro H locs cells slots LS h1 h2 h3 h4 h5
  exact lv_idiv hx hb hd hne (k H locs cells slots LS h1 h2 h3 h4 h5)
theorem j_irem (F : MF G X own cc nL d ret nm) {x y : Int32} (hne : ¬ y = 0) (hd : decode cc pc = .ok (.irem, 1)) (k : J G X Q nL sh I L n e es (pc + 1) ls (.int (x - x / y * y) :: st)) : J G X Q nL sh I L n e es pc ls (.int y :: .int x :: st) := by
  obtain ⟨p, l, e', R, s, m, args, below, meth, c⟩ := X
  obtain ⟨hx, hb, hml, hown, hts, hr, hlocks, hnm, hK, hq0, hq1, hRf, hRl⟩ := F
  intro H locs cells slots LS h1 h2 h3 h4 h5
  exact lv_irem hx hb hd hne (k H locs cells slots LS h1 h2 h3 h4 h5)
theorem j_ldiv (F : MF G X own cc nL d ret nm) {x y : Int64} (hne : ¬ y = 0) (hd : decode cc pc = .ok (.ldiv, 1)) (k : J G X Q nL sh I L n e es (pc + 1) ls (.long (x / y) :: st)) : J G X Q nL sh I L n e es pc ls (.long y :: .long x :: st) := by
  obtain ⟨p, l, e', R, s, m, args, below, meth, c⟩ := X
  obtain ⟨hx, hb, hml, hown, hts, hr, hlocks, hnm, hK, hq0, hq1, hRf, hRl⟩ := F
  intro H locs cells slots LS h1 h2 h3 h4 h5
  exact lv_ldiv hx hb hd hne (k H locs cells slots LS h1 h2 h3 h4 h5)
theorem j_lrem (F : MF G X own cc nL d ret nm) {x y : Int64} (hne : ¬ y = 0) (hd : decode cc pc = .ok (.lrem, 1)) (k : J G X Q nL sh I L n e es (pc + 1) ls (.long (x - x / y * y) :: st)) : J G X Q nL sh I L n e es pc ls (.long y :: .long x :: st) := by
  obtain ⟨p, l, e', R, s, m, args, below, meth, c⟩ := X
  obtain ⟨hx, hb, hml, hown, hts, hr, hlocks, hnm, hK, hq0, hq1, hRf, hRl⟩ := F
  intro H locs cells slots LS h1 h2 h3 h4 h5
  exact lv_lrem hx hb hd hne (k H locs cells slots LS h1 h2 h3 h4 h5)
theorem j_ineg (F : MF G X own cc nL d ret nm) {x : Int32} (hd : decode cc pc = .ok (.ineg, 1)) (k : J G X Q nL sh I L n e es (pc + 1) ls (.int (-x) :: st)) : J G X Q nL sh I L n e es pc ls (.int x :: st) := by
  obtain ⟨p, l, e', R, s, m, args, below, meth, c⟩ := X
  obtain ⟨hx, hb, hml, hown, hts, hr, hlocks, hnm, hK, hq0, hq1, hRf, hRl⟩ := F
  intro H locs cells slots LS h1 h2 h3 h4 h5
  exact lv_ineg hx hb hd (k H locs cells slots LS h1 h2 h3 h4 h5)
theorem j_i2l (F : MF G X own cc nL d ret nm) {x : Int32} (hd : decode cc pc = .ok (.i2l, 1)) (k : J G X Q nL sh I L n e es (pc + 1) ls (.long (x.toInt64) :: st)) : J G X Q nL sh I L n e es pc ls (.int x :: st) := by
  obtain ⟨p, l, e', R, s, m, args, below, meth, c⟩ := X
  obtain ⟨hx, hb, hml, hown, hts, hr, hlocks, hnm, hK, hq0, hq1, hRf, hRl⟩ := F
  intro H locs cells slots LS h1 h2 h3 h4 h5
  exact lv_i2l hx hb hd rfl (k H locs cells slots LS h1 h2 h3 h4 h5)
theorem j_l2i (F : MF G X own cc nL d ret nm) {x : Int64} (hd : decode cc pc = .ok (.l2i, 1)) (k : J G X Q nL sh I L n e es (pc + 1) ls (.int (x.toInt32) :: st)) : J G X Q nL sh I L n e es pc ls (.long x :: st) := by
  obtain ⟨p, l, e', R, s, m, args, below, meth, c⟩ := X
  obtain ⟨hx, hb, hml, hown, hts, hr, hlocks, hnm, hK, hq0, hq1, hRf, hRl⟩ := F
  intro H locs cells slots LS h1 h2 h3 h4 h5
  exact lv_l2i hx hb hd rfl (k H locs cells slots LS h1 h2 h3 h4 h5)
theorem j_i2b (F : MF G X own cc nL d ret nm) {x : Int32} (hd : decode cc pc = .ok (.i2b, 1)) (k : J G X Q nL sh I L n e es (pc + 1) ls (.int (x.toInt8.toInt32) :: st)) : J G X Q nL sh I L n e es pc ls (.int x :: st) := by
  obtain ⟨p, l, e', R, s, m, args, below, meth, c⟩ := X
  obtain ⟨hx, hb, hml, hown, hts, hr, hlocks, hnm, hK, hq0, hq1, hRf, hRl⟩ := F
  intro H locs cells slots LS h1 h2 h3 h4 h5
  exact lv_i2b hx hb hd rfl (k H locs cells slots LS h1 h2 h3 h4 h5)
theorem j_i2s (F : MF G X own cc nL d ret nm) {x : Int32} (hd : decode cc pc = .ok (.i2s, 1)) (k : J G X Q nL sh I L n e es (pc + 1) ls (.int (x.toInt16.toInt32) :: st)) : J G X Q nL sh I L n e es pc ls (.int x :: st) := by
  obtain ⟨p, l, e', R, s, m, args, below, meth, c⟩ := X
  obtain ⟨hx, hb, hml, hown, hts, hr, hlocks, hnm, hK, hq0, hq1, hRf, hRl⟩ := F
  intro H locs cells slots LS h1 h2 h3 h4 h5
  exact lv_i2s hx hb hd rfl (k H locs cells slots LS h1 h2 h3 h4 h5)
theorem j_i2c (F : MF G X own cc nL d ret nm) {x : Int32} (hd : decode cc pc = .ok (.i2c, 1)) (k : J G X Q nL sh I L n e es (pc + 1) ls (.int ((x.toUInt32 % 65536).toInt32) :: st)) : J G X Q nL sh I L n e es pc ls (.int x :: st) := by
  obtain ⟨p, l, e', R, s, m, args, below, meth, c⟩ := X
  obtain ⟨hx, hb, hml, hown, hts, hr, hlocks, hnm, hK, hq0, hq1, hRf, hRl⟩ := F
  intro H locs cells slots LS h1 h2 h3 h4 h5
  exact lv_i2c hx hb hd rfl (k H locs cells slots LS h1 h2 h3 h4 h5)
theorem j_iushr (F : MF G X own cc nL d ret nm) {x y : Int32} (hd : decode cc pc = .ok (.iushr, 1)) (k : J G X Q nL sh I L n e es (pc + 1) ls (.int ((x.toUInt32 >>> (y.toUInt32 &&& Int32.toUInt32 31)).toInt32) :: st)) : J G X Q nL sh I L n e es pc ls (.int y :: .int x :: st) := by
  obtain ⟨p, l, e', R, s, m, args, below, meth, c⟩ := X
  obtain ⟨hx, hb, hml, hown, hts, hr, hlocks, hnm, hK, hq0, hq1, hRf, hRl⟩ := F
  intro H locs cells slots LS h1 h2 h3 h4 h5
  exact lv_iushr hx hb hd rfl (k H locs cells slots LS h1 h2 h3 h4 h5)
theorem j_lshl (F : MF G X own cc nL d ret nm) {x : Int64} {y : Int32} (hd : decode cc pc = .ok (.lshl, 1)) (k : J G X Q nL sh I L n e es (pc + 1) ls (.long (x <<< (y.toInt64 &&& 63)) :: st)) : J G X Q nL sh I L n e es pc ls (.int y :: .long x :: st) := by
  obtain ⟨p, l, e', R, s, m, args, below, meth, c⟩ := X
  obtain ⟨hx, hb, hml, hown, hts, hr, hlocks, hnm, hK, hq0, hq1, hRf, hRl⟩ := F
  intro H locs cells slots LS h1 h2 h3 h4 h5
  exact lv_lshl hx hb hd rfl (k H locs cells slots LS h1 h2 h3 h4 h5)
theorem j_lshr (F : MF G X own cc nL d ret nm) {x : Int64} {y : Int32} (hd : decode cc pc = .ok (.lshr, 1)) (k : J G X Q nL sh I L n e es (pc + 1) ls (.long (x >>> (y.toInt64 &&& 63)) :: st)) : J G X Q nL sh I L n e es pc ls (.int y :: .long x :: st) := by
  obtain ⟨p, l, e', R, s, m, args, below, meth, c⟩ := X
  obtain ⟨hx, hb, hml, hown, hts, hr, hlocks, hnm, hK, hq0, hq1, hRf, hRl⟩ := F
  intro H locs cells slots LS h1 h2 h3 h4 h5
  exact lv_lshr hx hb hd rfl (k H locs cells slots LS h1 h2 h3 h4 h5)
theorem j_lcmp (F : MF G X own cc nL d ret nm) {x y : Int64} (hd : decode cc pc = .ok (.lcmp, 1)) (k : J G X Q nL sh I L n e es (pc + 1) ls (.int (lg_cmp x y) :: st)) : J G X Q nL sh I L n e es pc ls (.long y :: .long x :: st) := by
  obtain ⟨p, l, e', R, s, m, args, below, meth, c⟩ := X
  obtain ⟨hx, hb, hml, hown, hts, hr, hlocks, hnm, hK, hq0, hq1, hRf, hRl⟩ := F
  intro H locs cells slots LS h1 h2 h3 h4 h5
  exact W.lcmp hx hb hd (k H locs cells slots LS h1 h2 h3 h4 h5)
theorem j_dup (F : MF G X own cc nL d ret nm) {va : Value} (hd : decode cc pc = .ok (.dup, 1)) (hva : va.category = 1) (k : J G X Q nL sh I L n e es (pc + 1) ls (va :: va :: st)) : J G X Q nL sh I L n e es pc ls (va :: st) := by
  obtain ⟨p, l, e', R, s, m, args, below, meth, c⟩ := X
  obtain ⟨hx, hb, hml, hown, hts, hr, hlocks, hnm, hK, hq0, hq1, hRf, hRl⟩ := F
  intro H locs cells slots LS h1 h2 h3 h4 h5
  exact lv_dup hx hb hd hva (k H locs cells slots LS h1 h2 h3 h4 h5)
theorem j_dup2 (F : MF G X own cc nL d ret nm) {va vb : Value} (hd : decode cc pc = .ok (.dup2, 1)) (hva : va.category = 1) (hvb : vb.category = 1) (k : J G X Q nL sh I L n e es (pc + 1) ls (va :: vb :: va :: vb :: st)) : J G X Q nL sh I L n e es pc ls (va :: vb :: st) := by
  obtain ⟨p, l, e', R, s, m, args, below, meth, c⟩ := X
  obtain ⟨hx, hb, hml, hown, hts, hr, hlocks, hnm, hK, hq0, hq1, hRf, hRl⟩ := F
  intro H locs cells slots LS h1 h2 h3 h4 h5
  exact lv_dup2_11 hx hb hd hva hvb (k H locs cells slots LS h1 h2 h3 h4 h5)
theorem j_pop (F : MF G X own cc nL d ret nm) {va : Value} (hd : decode cc pc = .ok (.pop, 1)) (hva : va.category = 1) (k : J G X Q nL sh I L n e es (pc + 1) ls (st)) : J G X Q nL sh I L n e es pc ls (va :: st) := by
  obtain ⟨p, l, e', R, s, m, args, below, meth, c⟩ := X
  obtain ⟨hx, hb, hml, hown, hts, hr, hlocks, hnm, hK, hq0, hq1, hRf, hRl⟩ := F
  intro H locs cells slots LS h1 h2 h3 h4 h5
  exact lv_pop hx hb hd hva (k H locs cells slots LS h1 h2 h3 h4 h5)
theorem j_null (F : MF G X own cc nL d ret nm) (hd : decode cc pc = .ok (.aconst_null, 1)) (k : J G X Q nL sh I L n e es (pc + 1) ls (.null :: st)) : J G X Q nL sh I L n e es pc ls (st) := by
  obtain ⟨p, l, e', R, s, m, args, below, meth, c⟩ := X
  obtain ⟨hx, hb, hml, hown, hts, hr, hlocks, hnm, hK, hq0, hq1, hRf, hRl⟩ := F
  intro H locs cells slots LS h1 h2 h3 h4 h5
  exact lv_null hx hb hd (k H locs cells slots LS h1 h2 h3 h4 h5)
theorem j_goto (F : MF G X own cc nL d ret nm) {off : Int} (tgt : Nat) (hd : decode cc pc = .ok (.goto off, 3)) (ht : (pc : Int) + off = (tgt : Int)) (k : J G X Q nL sh I L n e es tgt ls st) : J G X Q nL sh I L n e es pc ls st := by
  obtain ⟨p, l, e', R, s, m, args, below, meth, c⟩ := X
  obtain ⟨hx, hb, hml, hown, hts, hr, hlocks, hnm, hK, hq0, hq1, hRf, hRl⟩ := F
  intro H locs cells slots LS h1 h2 h3 h4 h5
  exact lv_goto hx hb hd ht (k H locs cells slots LS h1 h2 h3 h4 h5)
theorem j_if_eq (F : MF G X own cc nL d ret nm) {x : Int32} {off : Int} (tgt : Nat) (hd : decode cc pc = .ok (.ifCond .eq off, 3)) (ht : (pc : Int) + off = (tgt : Int)) (kt : x = 0 → J G X Q nL sh I L n e es tgt ls st) (kf : ¬ (x = 0) → J G X Q nL sh I L n e es (pc + 3) ls st) : J G X Q nL sh I L n e es pc ls (.int x :: st) := by
  obtain ⟨p, l, e', R, s, m, args, below, meth, c⟩ := X
  obtain ⟨hx, hb, hml, hown, hts, hr, hlocks, hnm, hK, hq0, hq1, hRf, hRl⟩ := F
  intro H locs cells slots LS h1 h2 h3 h4 h5
  exact lv_if_eq hx hb hd ht (fun z => kt z H locs cells slots LS h1 h2 h3 h4 h5) (fun z => kf z H locs cells slots LS h1 h2 h3 h4 h5)
theorem j_icmp_eq (F : MF G X own cc nL d ret nm) {x y : Int32} {off : Int} (tgt : Nat) (hd : decode cc pc = .ok (.if_icmp .eq off, 3)) (ht : (pc : Int) + off = (tgt : Int)) (kt : x = y → J G X Q nL sh I L n e es tgt ls st) (kf : ¬ (x = y) → J G X Q nL sh I L n e es (pc + 3) ls st) : J G X Q nL sh I L n e es pc ls (.int y :: .int x :: st) := by
  obtain ⟨p, l, e', R, s, m, args, below, meth, c⟩ := X
  obtain ⟨hx, hb, hml, hown, hts, hr, hlocks, hnm, hK, hq0, hq1, hRf, hRl⟩ := F
  intro H locs cells slots LS h1 h2 h3 h4 h5
  exact lv_icmp_eq hx hb hd ht (fun z => kt z H locs cells slots LS h1 h2 h3 h4 h5) (fun z => kf z H locs cells slots LS h1 h2 h3 h4 h5)
theorem j_if_ne (F : MF G X own cc nL d ret nm) {x : Int32} {off : Int} (tgt : Nat) (hd : decode cc pc = .ok (.ifCond .ne off, 3)) (ht : (pc : Int) + off = (tgt : Int)) (kt : ¬ x = 0 → J G X Q nL sh I L n e es tgt ls st) (kf : x = 0 → J G X Q nL sh I L n e es (pc + 3) ls st) : J G X Q nL sh I L n e es pc ls (.int x :: st) := by
  obtain ⟨p, l, e', R, s, m, args, below, meth, c⟩ := X
  obtain ⟨hx, hb, hml, hown, hts, hr, hlocks, hnm, hK, hq0, hq1, hRf, hRl⟩ := F
  intro H locs cells slots LS h1 h2 h3 h4 h5
  exact lv_if_ne hx hb hd ht (fun z => kt z H locs cells slots LS h1 h2 h3 h4 h5) (fun z => kf z H locs cells slots LS h1 h2 h3 h4 h5)
theorem j_icmp_ne (F : MF G X own cc nL d ret nm) {x y : Int32} {off : Int} (tgt : Nat) (hd : decode cc pc = .ok (.if_icmp .ne off, 3)) (ht : (pc : Int) + off = (tgt : Int)) (kt : ¬ x = y → J G X Q nL sh I L n e es tgt ls st) (kf : x = y → J G X Q nL sh I L n e es (pc + 3) ls st) : J G X Q nL sh I L n e es pc ls (.int y :: .int x :: st) := by
  obtain ⟨p, l, e', R, s, m, args, below, meth, c⟩ := X
  obtain ⟨hx, hb, hml, hown, hts, hr, hlocks, hnm, hK, hq0, hq1, hRf, hRl⟩ := F
  intro H locs cells slots LS h1 h2 h3 h4 h5
  exact lv_icmp_ne hx hb hd ht (fun z => kt z H locs cells slots LS h1 h2 h3 h4 h5) (fun z => kf z H locs cells slots LS h1 h2 h3 h4 h5)
theorem j_if_lt (F : MF G X own cc nL d ret nm) {x : Int32} {off : Int} (tgt : Nat) (hd : decode cc pc = .ok (.ifCond .lt off, 3)) (ht : (pc : Int) + off = (tgt : Int)) (kt : x < 0 → J G X Q nL sh I L n e es tgt ls st) (kf : ¬ (x < 0) → J G X Q nL sh I L n e es (pc + 3) ls st) : J G X Q nL sh I L n e es pc ls (.int x :: st) := by
  obtain ⟨p, l, e', R, s, m, args, below, meth, c⟩ := X
  obtain ⟨hx, hb, hml, hown, hts, hr, hlocks, hnm, hK, hq0, hq1, hRf, hRl⟩ := F
  intro H locs cells slots LS h1 h2 h3 h4 h5
  exact lv_if_lt hx hb hd ht (fun z => kt z H locs cells slots LS h1 h2 h3 h4 h5) (fun z => kf z H locs cells slots LS h1 h2 h3 h4 h5)
theorem j_icmp_lt (F : MF G X own cc nL d ret nm) {x y : Int32} {off : Int} (tgt : Nat) (hd : decode cc pc = .ok (.if_icmp .lt off, 3)) (ht : (pc : Int) + off = (tgt : Int)) (kt : x < y → J G X Q nL sh I L n e es tgt ls st) (kf : ¬ (x < y) → J G X Q nL sh I L n e es (pc + 3) ls st) : J G X Q nL sh I L n e es pc ls (.int y :: .int x :: st) := by
  obtain ⟨p, l, e', R, s, m, args, below, meth, c⟩ := X
  obtain ⟨hx, hb, hml, hown, hts, hr, hlocks, hnm, hK, hq0, hq1, hRf, hRl⟩ := F
  intro H locs cells slots LS h1 h2 h3 h4 h5
  exact lv_icmp_lt hx hb hd ht (fun z => kt z H locs cells slots LS h1 h2 h3 h4 h5) (fun z => kf z H locs cells slots LS h1 h2 h3 h4 h5)
theorem j_if_ge (F : MF G X own cc nL d ret nm) {x : Int32} {off : Int} (tgt : Nat) (hd : decode cc pc = .ok (.ifCond .ge off, 3)) (ht : (pc : Int) + off = (tgt : Int)) (kt : 0 ≤ x → J G X Q nL sh I L n e es tgt ls st) (kf : ¬ (0 ≤ x) → J G X Q nL sh I L n e es (pc + 3) ls st) : J G X Q nL sh I L n e es pc ls (.int x :: st) := by
  obtain ⟨p, l, e', R, s, m, args, below, meth, c⟩ := X
  obtain ⟨hx, hb, hml, hown, hts, hr, hlocks, hnm, hK, hq0, hq1, hRf, hRl⟩ := F
  intro H locs cells slots LS h1 h2 h3 h4 h5
  exact lv_if_ge hx hb hd ht (fun z => kt z H locs cells slots LS h1 h2 h3 h4 h5) (fun z => kf z H locs cells slots LS h1 h2 h3 h4 h5)
theorem j_icmp_ge (F : MF G X own cc nL d ret nm) {x y : Int32} {off : Int} (tgt : Nat) (hd : decode cc pc = .ok (.if_icmp .ge off, 3)) (ht : (pc : Int) + off = (tgt : Int)) (kt : y ≤ x → J G X Q nL sh I L n e es tgt ls st) (kf : ¬ (y ≤ x) → J G X Q nL sh I L n e es (pc + 3) ls st) : J G X Q nL sh I L n e es pc ls (.int y :: .int x :: st) := by
  obtain ⟨p, l, e', R, s, m, args, below, meth, c⟩ := X
  obtain ⟨hx, hb, hml, hown, hts, hr, hlocks, hnm, hK, hq0, hq1, hRf, hRl⟩ := F
  intro H locs cells slots LS h1 h2 h3 h4 h5
  exact lv_icmp_ge hx hb hd ht (fun z => kt z H locs cells slots LS h1 h2 h3 h4 h5) (fun z => kf z H locs cells slots LS h1 h2 h3 h4 h5)
theorem j_if_gt (F : MF G X own cc nL d ret nm) {x : Int32} {off : Int} (tgt : Nat) (hd : decode cc pc = .ok (.ifCond .gt off, 3)) (ht : (pc : Int) + off = (tgt : Int)) (kt : 0 < x → J G X Q nL sh I L n e es tgt ls st) (kf : ¬ (0 < x) → J G X Q nL sh I L n e es (pc + 3) ls st) : J G X Q nL sh I L n e es pc ls (.int x :: st) := by
  obtain ⟨p, l, e', R, s, m, args, below, meth, c⟩ := X
  obtain ⟨hx, hb, hml, hown, hts, hr, hlocks, hnm, hK, hq0, hq1, hRf, hRl⟩ := F
  intro H locs cells slots LS h1 h2 h3 h4 h5
  exact lv_if_gt hx hb hd ht (fun z => kt z H locs cells slots LS h1 h2 h3 h4 h5) (fun z => kf z H locs cells slots LS h1 h2 h3 h4 h5)
theorem j_icmp_gt (F : MF G X own cc nL d ret nm) {x y : Int32} {off : Int} (tgt : Nat) (hd : decode cc pc = .ok (.if_icmp .gt off, 3)) (ht : (pc : Int) + off = (tgt : Int)) (kt : y < x → J G X Q nL sh I L n e es tgt ls st) (kf : ¬ (y < x) → J G X Q nL sh I L n e es (pc + 3) ls st) : J G X Q nL sh I L n e es pc ls (.int y :: .int x :: st) := by
  obtain ⟨p, l, e', R, s, m, args, below, meth, c⟩ := X
  obtain ⟨hx, hb, hml, hown, hts, hr, hlocks, hnm, hK, hq0, hq1, hRf, hRl⟩ := F
  intro H locs cells slots LS h1 h2 h3 h4 h5
  exact lv_icmp_gt hx hb hd ht (fun z => kt z H locs cells slots LS h1 h2 h3 h4 h5) (fun z => kf z H locs cells slots LS h1 h2 h3 h4 h5)
theorem j_if_le (F : MF G X own cc nL d ret nm) {x : Int32} {off : Int} (tgt : Nat) (hd : decode cc pc = .ok (.ifCond .le off, 3)) (ht : (pc : Int) + off = (tgt : Int)) (kt : x ≤ 0 → J G X Q nL sh I L n e es tgt ls st) (kf : ¬ (x ≤ 0) → J G X Q nL sh I L n e es (pc + 3) ls st) : J G X Q nL sh I L n e es pc ls (.int x :: st) := by
  obtain ⟨p, l, e', R, s, m, args, below, meth, c⟩ := X
  obtain ⟨hx, hb, hml, hown, hts, hr, hlocks, hnm, hK, hq0, hq1, hRf, hRl⟩ := F
  intro H locs cells slots LS h1 h2 h3 h4 h5
  exact lv_if_le hx hb hd ht (fun z => kt z H locs cells slots LS h1 h2 h3 h4 h5) (fun z => kf z H locs cells slots LS h1 h2 h3 h4 h5)
theorem j_icmp_le (F : MF G X own cc nL d ret nm) {x y : Int32} {off : Int} (tgt : Nat) (hd : decode cc pc = .ok (.if_icmp .le off, 3)) (ht : (pc : Int) + off = (tgt : Int)) (kt : x ≤ y → J G X Q nL sh I L n e es tgt ls st) (kf : ¬ (x ≤ y) → J G X Q nL sh I L n e es (pc + 3) ls st) : J G X Q nL sh I L n e es pc ls (.int y :: .int x :: st) := by
  obtain ⟨p, l, e', R, s, m, args, below, meth, c⟩ := X
  obtain ⟨hx, hb, hml, hown, hts, hr, hlocks, hnm, hK, hq0, hq1, hRf, hRl⟩ := F
  intro H locs cells slots LS h1 h2 h3 h4 h5
  exact lv_icmp_le hx hb hd ht (fun z => kt z H locs cells slots LS h1 h2 h3 h4 h5) (fun z => kf z H locs cells slots LS h1 h2 h3 h4 h5)
theorem j_ifnull (F : MF G X own cc nL d ret nm) {a : Nat} {off : Int} (hd : decode cc pc = .ok (.ifnull off, 3)) (k : J G X Q nL sh I L n e es (pc + 3) ls st) : J G X Q nL sh I L n e es pc ls (.ref a :: st) := by
  obtain ⟨p, l, e', R, s, m, args, below, meth, c⟩ := X
  obtain ⟨hx, hb, hml, hown, hts, hr, hlocks, hnm, hK, hq0, hq1, hRf, hRl⟩ := F
  intro H locs cells slots LS h1 h2 h3 h4 h5
  exact lv_ifnull hx hb hd (k H locs cells slots LS h1 h2 h3 h4 h5)
theorem j_ifnullN (F : MF G X own cc nL d ret nm) {off : Int} (tgt : Nat) (hd : decode cc pc = .ok (.ifnull off, 3)) (ht : (pc : Int) + off = (tgt : Int)) (k : J G X Q nL sh I L n e es tgt ls st) : J G X Q nL sh I L n e es pc ls (.null :: st) := by
  obtain ⟨p, l, e', R, s, m, args, below, meth, c⟩ := X
  obtain ⟨hx, hb, hml, hown, hts, hr, hlocks, hnm, hK, hq0, hq1, hRf, hRl⟩ := F
  intro H locs cells slots LS h1 h2 h3 h4 h5
  exact lv_ifnullN hx hb hd ht (k H locs cells slots LS h1 h2 h3 h4 h5)
theorem j_ifnonnull (F : MF G X own cc nL d ret nm) {a : Nat} {off : Int} (tgt : Nat) (hd : decode cc pc = .ok (.ifnonnull off, 3)) (ht : (pc : Int) + off = (tgt : Int)) (k : J G X Q nL sh I L n e es tgt ls st) : J G X Q nL sh I L n e es pc ls (.ref a :: st) := by
  obtain ⟨p, l, e', R, s, m, args, below, meth, c⟩ := X
  obtain ⟨hx, hb, hml, hown, hts, hr, hlocks, hnm, hK, hq0, hq1, hRf, hRl⟩ := F
  intro H locs cells slots LS h1 h2 h3 h4 h5
  exact lv_ifnonnull hx hb hd ht (k H locs cells slots LS h1 h2 h3 h4 h5)
theorem j_ifnonnullN (F : MF G X own cc nL d ret nm) {off : Int} (hd : decode cc pc = .ok (.ifnonnull off, 3)) (k : J G X Q nL sh I L n e es (pc + 3) ls st) : J G X Q nL sh I L n e es pc ls (.null :: st) := by
  obtain ⟨p, l, e', R, s, m, args, below, meth, c⟩ := X
  obtain ⟨hx, hb, hml, hown, hts, hr, hlocks, hnm, hK, hq0, hq1, hRf, hRl⟩ := F
  intro H locs cells slots LS h1 h2 h3 h4 h5
  exact lv_ifnonnullN hx hb hd (k H locs cells slots LS h1 h2 h3 h4 h5)
theorem j_tabIn (F : MF G X own cc nL d ret nm) {dflt lo hi : Int} {offs : Array Int} {len : Nat} {x k0 : Int32} {off : Int} (tgt : Nat) (hk : x = k0) (hd : decode cc pc = .ok (.tableswitch dflt lo hi offs, len)) (hc : (decide (¬ k0.toInt < lo) && decide (¬ hi < k0.toInt)) = true) (ho : offs[(k0.toInt - lo).toNat]? = some off) (ht : (pc : Int) + off = (tgt : Int)) (k : J G X Q nL sh I L n e es tgt ls st) : J G X Q nL sh I L n e es pc ls (.int x :: st) := by
  subst hk
  simp only [Bool.and_eq_true, decide_eq_true_eq] at hc
  obtain ⟨p, l, e', R, s, m, args, below, meth, c⟩ := X
  obtain ⟨hx, hb, hml, hown, hts, hr, hlocks, hnm, hK, hq0, hq1, hRf, hRl⟩ := F
  intro H locs cells slots LS h1 h2 h3 h4 h5
  exact lv_tableIn hx hb hd hc.1 hc.2 ho ht (k H locs cells slots LS h1 h2 h3 h4 h5)
theorem j_tabOut (F : MF G X own cc nL d ret nm) {dflt lo hi : Int} {offs : Array Int} {len : Nat} {x : Int32} (tgt : Nat) (hd : decode cc pc = .ok (.tableswitch dflt lo hi offs, len)) (h : x.toInt < lo ∨ hi < x.toInt) (ht : (pc : Int) + dflt = (tgt : Int)) (k : J G X Q nL sh I L n e es tgt ls st) : J G X Q nL sh I L n e es pc ls (.int x :: st) := by
  obtain ⟨p, l, e', R, s, m, args, below, meth, c⟩ := X
  obtain ⟨hx, hb, hml, hown, hts, hr, hlocks, hnm, hK, hq0, hq1, hRf, hRl⟩ := F
  intro H locs cells slots LS h1 h2 h3 h4 h5
  exact lv_tableOut hx hb hd h ht (k H locs cells slots LS h1 h2 h3 h4 h5)
theorem j_look (F : MF G X own cc nL d ret nm) {dflt : Int} {ps : Array (Int × Int)} {len : Nat} {x : Int32} {off : Int} (tgt : Nat) (hd : decode cc pc = .ok (.lookupswitch dflt ps, len)) (hp : (ps.toList.zip (ps.toList.drop 1)).all (fun (a, next) => a.1 < next.1) = true) (ho : Op.lookupswitch.offset ps.toList dflt x.toInt = off) (ht : (pc : Int) + off = (tgt : Int)) (k : J G X Q nL sh I L n e es tgt ls st) : J G X Q nL sh I L n e es pc ls (.int x :: st) := by
  obtain ⟨p, l, e', R, s, m, args, below, meth, c⟩ := X
  obtain ⟨hx, hb, hml, hown, hts, hr, hlocks, hnm, hK, hq0, hq1, hRf, hRl⟩ := F
  intro H locs cells slots LS h1 h2 h3 h4 h5
  exact lv_lookup hx hb hd hp ho ht (k H locs cells slots LS h1 h2 h3 h4 h5)
end JR
end
section
/-! ROWS OF J: fields, arrays, new cells, calls, returns -/
def upS (sh : SH) (a : Nat) (c : shC) : SH := fun b => if b = a then some c else sh b
def upR {α : Type} (I : Nat → Nat → α) (a : Nat) (f : Nat → α) : Nat → Nat → α := fun b => if b = a then f else I b
theorem upS_same {sh : SH} {a : Nat} {c : shC} : upS sh a c a = some c := if_pos rfl
theorem upR_same {α : Type} {I : Nat → Nat → α} {a : Nat} {f : Nat → α} : upR I a f a = f := if_pos rfl
theorem upS_ne {sh : SH} {a b : Nat} {c : shC} (h : b ≠ a) : upS sh a c b = sh b := if_neg h
theorem upR_ne {α : Type} {I : Nat → Nat → α} {a b : Nat} {f : Nat → α} (h : b ≠ a) : upR I a f b = I b := if_neg h
/-- an int field's value -/
def gI (sh : SH) (I : IH) (ci a k : Nat) : Option Int32 := match sh a with
  | some (.inl (c, fk)) => if c = ci ∧ fk k = none then some (I a k) else none
  | _ => none
/-- a field's reference, not null -/
def gR (sh : SH) (ci a k : Nat) : Option Nat := match sh a with
  | some (.inl (c, fk)) => if c = ci then (fk k).join else none
  | _ => none
def pI (sh : SH) (I : IH) (ci a k : Nat) (v : Int32) : Option IH := match sh a with
  | some (.inl (c, fk)) => if c = ci ∧ fk k = none then some (upR I a (upd (I a) k v)) else none
  | _ => none
def pR (sh : SH) (ci a k r : Nat) : Option SH := match sh a with
  | some (.inl (c, fk)) => if c = ci ∧ (fk k).isSome = true then some (upS sh a (.inl (ci, va_up fk k (some (some r))))) else none
  | _ => none
/-- an array's int -/
def aI (sh : SH) (I : IH) (t a : Nat) (i : Int32) : Option Int32 := match sh a with
  | some (.inr (t', n, _)) => if t' = t ∧ ¬ (i < 0 ∨ n ≤ i.toNatClampNeg) then some (I a i.toNatClampNeg) else none
  | _ => none
def aJ (sh : SH) (L : LH) (a : Nat) (i : Int32) : Option Int64 := match sh a with
  | some (.inr (t', n, _)) => if t' = 2 ∧ ¬ (i < 0 ∨ n ≤ i.toNatClampNeg) then some (L a i.toNatClampNeg) else none
  | _ => none
def aR (sh : SH) (t a : Nat) (i : Int32) : Option Nat := match sh a with
  | some (.inr (t', n, rf)) => if t' = t ∧ ¬ (i < 0 ∨ n ≤ i.toNatClampNeg) then rf i.toNatClampNeg else none
  | _ => none
def sI (sh : SH) (I : IH) (a : Nat) (i v : Int32) : Option IH := match sh a with
  | some (.inr (t', n, _)) => if t' = 0 ∧ ¬ (i < 0 ∨ n ≤ i.toNatClampNeg) then some (upR I a (upd (I a) i.toNatClampNeg v)) else none
  | _ => none
def sZ (sh : SH) (I : IH) (a : Nat) (i v : Int32) : Option IH := match sh a with
  | some (.inr (t', n, _)) => if t' = 1 ∧ ¬ (i < 0 ∨ n ≤ i.toNatClampNeg) then some (upR I a (upd (I a) i.toNatClampNeg (vp_nar .boolean v))) else none
  | _ => none
def sJ (sh : SH) (L : LH) (a : Nat) (i : Int32) (v : Int64) : Option LH := match sh a with
  | some (.inr (t', n, _)) => if t' = 2 ∧ ¬ (i < 0 ∨ n ≤ i.toNatClampNeg) then some (upR L a (vp_updL (L a) i.toNatClampNeg v)) else none
  | _ => none
def sR (sh : SH) (a : Nat) (i : Int32) (r : Nat) : Option SH := match sh a, sh r with
  | some (.inr (t', n, rf)), some (.inl (3, _)) => if t' = 3 ∧ ¬ (i < 0 ∨ n ≤ i.toNatClampNeg) then some (upS sh a (.inr (3, n, va_up rf i.toNatClampNeg (some r)))) else none
  | _, _ => none
def aL (sh : SH) (a : Nat) : Option Int32 := match sh a with
  | some (.inr (t', n, _)) => if t' < 5 then some (Int32.ofNat n) else none
  | _ => none
/-- the object is of a class -/
def isO (sh : SH) (ci a : Nat) : Prop := ∃ fk, sh a = some (.inl (ci, fk))
def ck (sh : SH) (ci a : Nat) : Option Unit := match sh a with
  | some (.inl (c, _)) => if c = ci then some () else none
  | _ => none
/-- a boolean that is one -/
def bz (v : Int32) : Option Int32 := if v = 0 ∨ v = 1 then some v else none
def dvI (x y : Int32) : Option Int32 := if y = 0 then none else some (x / y)
def rmI (x y : Int32) : Option Int32 := if y = 0 then none else some (x - x / y * y)
def dvL (x y : Int64) : Option Int64 := if y = 0 then none else some (x / y)
def rmL (x y : Int64) : Option Int64 := if y = 0 then none else some (x - x / y * y)
/-- a reference that may be null -/
def oc {β : Type} (r : Option Nat) (A : β) (B : Nat → β) : β := match r with
  | none => A
  | some a => B a
theorem oc_obt {β : Type} {r : Option Nat} {A : β} {B : Nat → β} {z : β} (h : oc r A B = z) : (r = none ∧ A = z) ∨ ∃ a, r = some a ∧ B a = z := by
  cases r with
  | none => exact Or.inl ⟨rfl, h⟩
  | some a => exact Or.inr ⟨a, rfl, h⟩
theorem ob {α β : Type} {o : Option α} {f : α → Option β} {r : β} (h : o.bind f = some r) : ∃ x, o = some x ∧ f x = some r := Option.bind_eq_some_iff.mp h
theorem iz_t {c : Prop} {inst : Decidable c} {α : Type} {a b z : α} (hc : c) (h : ite c a b = z) : a = z := by rw [if_pos hc] at h; exact h
theorem iz_f {c : Prop} {inst : Decidable c} {α : Type} {a b z : α} (hc : ¬ c) (h : ite c a b = z) : b = z := by rw [if_neg hc] at h; exact h
theorem gI_obt {sh : SH} {I : IH} {ci a k : Nat} {x : Int32} (h : gI sh I ci a k = some x) : ∃ fk, sh a = some (.inl (ci, fk)) ∧ fk k = none ∧ I a k = x := by
  unfold gI at h
  split at h
  · next c fk hs =>
    split at h
    · next hc =>
      obtain ⟨rfl, h2⟩ := hc
      exact ⟨fk, hs, h2, Option.some.inj h⟩
    · cases h
  · cases h
theorem gR_obt {sh : SH} {ci a k r : Nat} (h : gR sh ci a k = some r) : ∃ fk, sh a = some (.inl (ci, fk)) ∧ fk k = some (some r) := by
  unfold gR at h
  split at h
  · next c fk hs =>
    split at h
    · next hc =>
      subst hc
      refine ⟨fk, hs, ?_⟩
      cases hf : fk k with
      | none => rw [hf] at h; cases h
      | some z =>
        rw [hf] at h
        cases z with
        | none => cases h
        | some w => cases h; rfl
    · cases h
  · cases h
theorem pI_obt {sh : SH} {I I' : IH} {ci a k : Nat} {v : Int32} (h : pI sh I ci a k v = some I') : ∃ fk, sh a = some (.inl (ci, fk)) ∧ fk k = none ∧ I' = upR I a (upd (I a) k v) := by
  unfold pI at h
  split at h
  · next c fk hs =>
    split at h
    · next hc =>
      obtain ⟨rfl, h2⟩ := hc
      exact ⟨fk, hs, h2, (Option.some.inj h).symm⟩
    · cases h
  · cases h
theorem pR_obt {sh sh' : SH} {ci a k r : Nat} (h : pR sh ci a k r = some sh') : ∃ fk, sh a = some (.inl (ci, fk)) ∧ (fk k).isSome = true ∧ sh' = upS sh a (.inl (ci, va_up fk k (some (some r)))) := by
  unfold pR at h
  split at h
  · next c fk hs =>
    split at h
    · next hc =>
      obtain ⟨rfl, h2⟩ := hc
      exact ⟨fk, hs, h2, (Option.some.inj h).symm⟩
    · cases h
  · cases h
theorem aI_obt {sh : SH} {I : IH} {t a : Nat} {i x : Int32} (h : aI sh I t a i = some x) : ∃ n rf, sh a = some (.inr (t, n, rf)) ∧ vp_in i n ∧ I a i.toNatClampNeg = x := by
  unfold aI at h
  split at h
  · next t' n rf hs =>
    split at h
    · next hc =>
      obtain ⟨rfl, h2⟩ := hc
      exact ⟨n, rf, hs, h2, Option.some.inj h⟩
    · cases h
  · cases h
theorem aJ_obt {sh : SH} {L : LH} {a : Nat} {i : Int32} {x : Int64} (h : aJ sh L a i = some x) : ∃ n rf, sh a = some (.inr (2, n, rf)) ∧ vp_in i n ∧ L a i.toNatClampNeg = x := by
  unfold aJ at h
  split at h
  · next t' n rf hs =>
    split at h
    · next hc =>
      obtain ⟨rfl, h2⟩ := hc
      exact ⟨n, rf, hs, h2, Option.some.inj h⟩
    · cases h
  · cases h
theorem aR_obt {sh : SH} {t a : Nat} {i : Int32} {r : Nat} (h : aR sh t a i = some r) : ∃ n rf, sh a = some (.inr (t, n, rf)) ∧ vp_in i n ∧ rf i.toNatClampNeg = some r := by
  unfold aR at h
  split at h
  · next t' n rf hs =>
    split at h
    · next hc =>
      obtain ⟨rfl, h2⟩ := hc
      exact ⟨n, rf, hs, h2, h⟩
    · cases h
  · cases h
theorem sI_obt {sh : SH} {I I' : IH} {a : Nat} {i v : Int32} (h : sI sh I a i v = some I') : ∃ n rf, sh a = some (.inr (0, n, rf)) ∧ vp_in i n ∧ I' = upR I a (upd (I a) i.toNatClampNeg v) := by
  unfold sI at h
  split at h
  · next t' n rf hs =>
    split at h
    · next hc =>
      obtain ⟨rfl, h2⟩ := hc
      exact ⟨n, rf, hs, h2, (Option.some.inj h).symm⟩
    · cases h
  · cases h
theorem sZ_obt {sh : SH} {I I' : IH} {a : Nat} {i v : Int32} (h : sZ sh I a i v = some I') : ∃ n rf, sh a = some (.inr (1, n, rf)) ∧ vp_in i n ∧ I' = upR I a (upd (I a) i.toNatClampNeg (vp_nar .boolean v)) := by
  unfold sZ at h
  split at h
  · next t' n rf hs =>
    split at h
    · next hc =>
      obtain ⟨rfl, h2⟩ := hc
      exact ⟨n, rf, hs, h2, (Option.some.inj h).symm⟩
    · cases h
  · cases h
theorem sJ_obt {sh : SH} {L L' : LH} {a : Nat} {i : Int32} {v : Int64} (h : sJ sh L a i v = some L') : ∃ n rf, sh a = some (.inr (2, n, rf)) ∧ vp_in i n ∧ L' = upR L a (vp_updL (L a) i.toNatClampNeg v) := by
  unfold sJ at h
  split at h
  · next t' n rf hs =>
    split at h
    · next hc =>
      obtain ⟨rfl, h2⟩ := hc
      exact ⟨n, rf, hs, h2, (Option.some.inj h).symm⟩
    · cases h
  · cases h
theorem sR_obt {sh sh' : SH} {a : Nat} {i : Int32} {r : Nat} (h : sR sh a i r = some sh') : ∃ n rf fk, sh a = some (.inr (3, n, rf)) ∧ sh r = some (.inl (3, fk)) ∧ vp_in i n ∧ sh' = upS sh a (.inr (3, n, va_up rf i.toNatClampNeg (some r))) := by
  unfold sR at h
  split at h
  · next t' n rf fk hs hr =>
    split at h
    · next hc =>
      obtain ⟨rfl, h2⟩ := hc
      exact ⟨n, rf, fk, hs, hr, h2, (Option.some.inj h).symm⟩
    · cases h
  · cases h
theorem aL_obt {sh : SH} {a : Nat} {x : Int32} (h : aL sh a = some x) : ∃ t n rf, sh a = some (.inr (t, n, rf)) ∧ t < 5 ∧ x = Int32.ofNat n := by
  unfold aL at h
  split at h
  · next t' n rf hs =>
    split at h
    · next hc => exact ⟨t', n, rf, hs, hc, (Option.some.inj h).symm⟩
    · cases h
  · cases h
theorem ck_obt {sh : SH} {ci a : Nat} {u : Unit} (h : ck sh ci a = some u) : isO sh ci a := by
  unfold ck at h
  split at h
  · next c fk hs =>
    split at h
    · next hc =>
      subst hc
      exact ⟨fk, hs⟩
    · cases h
  · cases h
theorem bz_obt {v r : Int32} (h : bz v = some r) : r = v ∧ (v = 0 ∨ v = 1) := by
  unfold bz at h
  split at h
  · next hc => exact ⟨(Option.some.inj h).symm, hc⟩
  · cases h
theorem dvI_obt {x y r : Int32} (h : dvI x y = some r) : ¬ y = 0 ∧ r = x / y := by
  unfold dvI at h
  split at h
  · cases h
  · next hc => exact ⟨hc, (Option.some.inj h).symm⟩
theorem rmI_obt {x y r : Int32} (h : rmI x y = some r) : ¬ y = 0 ∧ r = x - x / y * y := by
  unfold rmI at h
  split at h
  · cases h
  · next hc => exact ⟨hc, (Option.some.inj h).symm⟩
theorem dvL_obt {x y r : Int64} (h : dvL x y = some r) : ¬ y = 0 ∧ r = x / y := by
  unfold dvL at h
  split at h
  · cases h
  · next hc => exact ⟨hc, (Option.some.inj h).symm⟩
theorem rmL_obt {x y r : Int64} (h : rmL x y = some r) : ¬ y = 0 ∧ r = x - x / y * y := by
  unfold rmL at h
  split at h
  · cases h
  · next hc => exact ⟨hc, (Option.some.inj h).symm⟩
/-! the picture under a change -/
theorem cellAt.kept {G : GT} {c : shC} {f : Nat → Int32} {g : Nat → Int64} {a : Nat} {H H1 : Heap} (h : cellAt G c f g a H) (hq : H1[a]? = H[a]?) : cellAt G c f g a H1 := by
  obtain ⟨ci, fk⟩ | ⟨t, m, rf⟩ := c
  · obtain ⟨r, h1, h2⟩ := h
    exact ⟨r, h1, h2.kept hq⟩
  · exact hq.trans h
theorem HPh.putI {G : GT} {sh : SH} {I : IH} {L : LH} {n : Nat} {H H1 : Heap} {a : Nat} {c : shC} {f : Nat → Int32} (h : HPh G sh I L n H) (ha : sh a = some c) (hz : H1.size = H.size) (ho : ∀ q : Nat, q ≠ a → H1[q]? = H[q]?) (hc : cellAt G c f (L a) a H1) : HPh G sh (upR I a f) L n H1 := by
  obtain ⟨h1, h2, h3, h4⟩ := h
  refine ⟨hz.trans h1, h2, fun q hq => ?_, fun b c' hb => ?_⟩
  · rw [ho q (fun e => by subst e; exact absurd (h4 q c ha).1 (by omega))]
    exact h3 q hq
  · by_cases e : b = a
    · subst e
      rw [ha] at hb
      cases hb
      exact ⟨(h4 b c ha).1, by rw [upR_same]; exact hc⟩
    · rw [upR_ne e]
      exact ⟨(h4 b c' hb).1, (h4 b c' hb).2.kept (ho b e)⟩
theorem HPh.putL {G : GT} {sh : SH} {I : IH} {L : LH} {n : Nat} {H H1 : Heap} {a : Nat} {c : shC} {g : Nat → Int64} (h : HPh G sh I L n H) (ha : sh a = some c) (hz : H1.size = H.size) (ho : ∀ q : Nat, q ≠ a → H1[q]? = H[q]?) (hc : cellAt G c (I a) g a H1) : HPh G sh I (upR L a g) n H1 := by
  obtain ⟨h1, h2, h3, h4⟩ := h
  refine ⟨hz.trans h1, h2, fun q hq => ?_, fun b c' hb => ?_⟩
  · rw [ho q (fun e => by subst e; exact absurd (h4 q c ha).1 (by omega))]
    exact h3 q hq
  · by_cases e : b = a
    · subst e
      rw [ha] at hb
      cases hb
      exact ⟨(h4 b c ha).1, by rw [upR_same]; exact hc⟩
    · rw [upR_ne e]
      exact ⟨(h4 b c' hb).1, (h4 b c' hb).2.kept (ho b e)⟩
theorem HPh.putS {G : GT} {sh : SH} {I : IH} {L : LH} {n : Nat} {H H1 : Heap} {a : Nat} {c c1 : shC} (h : HPh G sh I L n H) (ha : sh a = some c) (hz : H1.size = H.size) (ho : ∀ q : Nat, q ≠ a → H1[q]? = H[q]?) (hc : cellAt G c1 (I a) (L a) a H1) : HPh G (upS sh a c1) I L n H1 := by
  obtain ⟨h1, h2, h3, h4⟩ := h
  refine ⟨hz.trans h1, h2, fun q hq => ?_, fun b c' hb => ?_⟩
  · rw [ho q (fun e => by subst e; exact absurd (h4 q c ha).1 (by omega))]
    exact h3 q hq
  · by_cases e : b = a
    · subst e
      rw [upS_same] at hb
      cases hb
      exact ⟨(h4 b c ha).1, hc⟩
    · rw [upS_ne e] at hb
      exact ⟨(h4 b c' hb).1, (h4 b c' hb).2.kept (ho b e)⟩
theorem HPh.push {G : GT} {sh : SH} {I : IH} {L : LH} {n : Nat} {H H1 : Heap} {c : shC} {f : Nat → Int32} {g : Nat → Int64} (h : HPh G sh I L n H) (hz : H1.size = H.size + 1) (ho : ∀ q : Nat, q < H.size → H1[q]? = H[q]?) (hc : cellAt G c f g n H1) : HPh G (upS sh n c) (upR I n f) (upR L n g) (n + 1) H1 := by
  have h9 := h
  obtain ⟨h1, h2, h3, h4⟩ := h
  refine ⟨by rw [hz, h1], by omega, fun q hq => ?_, fun b c' hb => ?_⟩
  · rw [ho q (by omega)]
    exact h3 q hq
  · by_cases e : b = n
    · subst e
      rw [upS_same] at hb
      cases hb
      exact ⟨h2, by rw [upR_same, upR_same]; exact hc⟩
    · rw [upS_ne e] at hb
      rw [upR_ne e, upR_ne e]
      exact ⟨(h4 b c' hb).1, (h4 b c' hb).2.kept (ho b (by rw [h1]; exact h9.lt hb))⟩
theorem upR_id {α : Type} {I : Nat → Nat → α} {a : Nat} : upR I a (I a) = I := by
  funext b
  by_cases e : b = a
  · subst e
    exact upR_same
  · exact upR_ne e
/-! the words of a field, of a call -/
def FL (own : String) (ix ci k : Nat) : Prop := ∃ (C : String) (T : u_T) (N : Nat), vwCl[ci]? = some (C, T, N) ∧ k < N ∧ (∀ w ∈ u_ws C T N, w ∈ lw_good) ∧ Cond.fieldLink own ix C (T k).2.1 (T k).2.2.1 ∈ lw_good ∧ (T k).1 = C
def FP (ci k : Nat) (fin : Bool) (ty : FieldType) : Prop := ∃ (C : String) (T : u_T) (N : Nat) (tf : Nat → FieldType), vwCl[ci]? = some (C, T, N) ∧ (∀ k, k < N → parseFieldDescriptor (T k).2.2.1 = some (tf k)) ∧ (∀ a, a < N → ∀ b, b < N → a ≠ b → (T a).2.1 ≠ (T b).2.1) ∧ (T k).2.2.2 = fin ∧ parseFieldDescriptor (T k).2.2.1 = some ty
section PW
variable {p : Program} {l : Launch} {e : Env} {R : Room} {s : State} {m : MethodId} {args : Array Value} {below : List Frame} {meth : Method} {c : Code} {H : Heap} {locs : List Loc} {cells slots : Nat} {Q : State → Prop}
variable {cc : ByteArray} {pc : Nat} {ls : Array Slot} {rest : List Value} {G : GT} {own : String}
theorem getW (hexec : p.tables.exec = Jvm.exec) (hb : c.code = cc) (hown : s.vm.findClass own = some m.cls) (hts : ∀ w ∈ lw_good, w.before args s = true) (hK : KF G s) {ix ci k : Nat} (fl : FL own ix ci k) {a : Nat} {V : Nat → Value} {r : vw_C} (hr : vwCl[ci]? = some r) (ho : t_OB a (G.1 ci) r.2.2 (G.2.1 ci) H V) {v : Value} (hv : V k = v) (hdg : decode cc pc = .ok (.getfield ix, 3))
    (kk : W p l e R s m args below meth c H locs cells slots Q (F0 m (pc + 3) ls (v :: rest))) : W p l e R s m args below meth c H locs cells slots Q (F0 m pc ls (.ref a :: rest)) := by
  obtain ⟨C, T, N, hc, hk, hin, hlink, hTk⟩ := fl
  cases hr.symm.trans hc
  obtain ⟨cell, q1, q2, q3, q4⟩ := ho
  obtain ⟨hS, hfc, kC, hkC, hkind⟩ := hK.1.1 ci _ hc
  obtain ⟨cf, kf, fi, f, hi, hsl⟩ := hS k hk
  refine W.getf hexec hb hown (hts _ hlink) (by rw [← hTk]; exact hi) (u_facts hfc hkC (u_lays hts hin hk) hi).1 q1 (by rw [q3]; exact fun h => by cases h) (v := v) ?_ rfl rfl hdg kk
  rw [hsl, q4 k hk, hv]
theorem putW (hexec : p.tables.exec = Jvm.exec) (hb : c.code = cc) (hown : s.vm.findClass own = some m.cls) (hts : ∀ w ∈ lw_good, w.before args s = true) (hK : KF G s) {ix ci k : Nat} (fl : FL own ix ci k) {fin : Bool} {ty : FieldType} (fp : FP ci k fin ty) {a : Nat} {V : Nat → Value} {r : vw_C} (hr : vwCl[ci]? = some r) (hfin : fin = true → meth.name = "<init>" ∧ r.1 = own) (ho : t_OB a (G.1 ci) r.2.2 (G.2.1 ci) H V) {v : Value} (hn : narrow ty v = v) (hfit : fits ty v = true) (hdg : decode cc pc = .ok (.putfield ix, 3))
    (kk : ∀ (H1 : Heap) (i : Nat), t_OB a (G.1 ci) r.2.2 (G.2.1 ci) H1 (updV V k v) → H1.size = H.size → (∀ q : Nat, q ≠ a → H1[q]? = H[q]?) → W p l e R s m args below meth c H1 (locs ++ [⟨a, i⟩]) cells slots Q (F0 m (pc + 3) ls rest)) : W p l e R s m args below meth c H locs cells slots Q (F0 m pc ls (v :: .ref a :: rest)) := by
  obtain ⟨C, T, N, hc, hk, hin, hlink, hTk⟩ := fl
  cases hr.symm.trans hc
  obtain ⟨C', T', N', tf, hc', htf, hnm, hfl, hd⟩ := fp
  cases hc.symm.trans hc'
  have hap := va_apart (D := (G.1, G.2.1)) (cl := vwCl) (tys := []) (own := own) hts hin tf htf hnm ⟨hK.1.1, fun k q h => by simp at h⟩ hc
  obtain ⟨cell, q1, q2, q3, q4⟩ := ho
  obtain ⟨hS, hfc, kC, hkC, hkind⟩ := hK.1.1 ci _ hc
  obtain ⟨cf, kf, fi, f, hi, hsl⟩ := hS k hk
  have hlay := hts _ (hin _ (u_in_lay hk))
  have hst := (u_facts hfc hkC (u_lays hts hin hk) hi).1
  unfold u_lay at hlay
  cases fin with
  | false =>
    rw [if_neg (by rw [hfl]; decide)] at hlay
    have h6 := u_store hfc hkC hkind hlay hi hd hn hfit
    refine W.putK hexec hb (f := f) ⟨hown, hts _ hlink, ⟨_, _, _, by rw [← hTk]; exact hi⟩, hst⟩ (by rw [q2]; exact h6) q1 q3 (by rw [hsl]; exact k2_hasslot (q4 k hk)) rfl rfl hdg fun H' e1 e2 e3 => ?_
    rw [hsl] at e1 ⊢
    exact kk H' _ ⟨_, e1, q2, q3, t_set q4 hap hk v⟩ e2 e3
  | true =>
    rw [if_pos hfl] at hlay
    have hcf : m.cls = cf := by
      obtain ⟨_, _, c', _, _, _, -, -, hf', -, -, -, hown2, -⟩ := Cond.laysFinal_spec hlay
      have e1 : c' = cf := by have := hi.symm.trans hf'; simp at this; exact this.1.symm
      have hC : C = own := (hfin rfl).2
      rw [hTk, hC] at hown2
      rw [← e1]; exact Option.some.inj (hown.symm.trans hown2)
    have h6 := u_fits hfc hkC hkind (Or.inr hlay) hi hd hn hfit
    refine W.putFinK hexec hb hown (hts _ hlink) (by rw [← hTk]; exact hi) hst hcf (hfin rfl).1 (by rw [q2]; exact h6) q1 q3 (by rw [hsl]; exact k2_hasslot (q4 k hk)) rfl rfl hdg fun H' e1 e2 e3 => ?_
    rw [hsl] at e1 ⊢
    exact kk H' _ ⟨_, e1, q2, q3, t_set q4 hap hk v⟩ e2 e3
end PW
theorem fv_int {fk : Nat → Option (Option Nat)} {f : Nat → Int32} {k : Nat} (h : fk k = none) : fv fk f k = .int (f k) := by simp [fv, h]
theorem fv_ref {fk : Nat → Option (Option Nat)} {f : Nat → Int32} {k r : Nat} (h : fk k = some (some r)) : fv fk f k = .ref r := by simp [fv, h, va_rf]
theorem fv_putI {fk : Nat → Option (Option Nat)} {f : Nat → Int32} {k : Nat} {v : Int32} (h : fk k = none) (j : Nat) : updV (fv fk f) k (.int v) j = fv fk (upd f k v) j := by
  by_cases e : j = k
  · subst e
    simp [updV, fv, h, upd]
  · simp [updV, fv, upd, e]
theorem fv_putR {fk : Nat → Option (Option Nat)} {f : Nat → Int32} {k r : Nat} (j : Nat) : updV (fv fk f) k (.ref r) j = fv (va_up fk k (some (some r))) f j := by
  by_cases e : j = k
  · subst e
    simp [updV, fv, va_up, va_rf]
  · simp [updV, fv, va_up, e]
theorem narrow_z {v : Int32} (h : v = 0 ∨ v = 1) : narrow .boolean (.int v) = .int v := by rcases h with rfl | rfl <;> rfl
theorem fits_z {v : Int32} (h : v = 0 ∨ v = 1) : fits .boolean (.int v) = true := by rcases h with rfl | rfl <;> rfl
section JH
variable {G : GT} {X : XT} {Q : State → Prop} {nL : Nat} {sh : SH} {I : IH} {L : LH} {n e es pc : Nat} {ls : List (Nat × Value)} {st : List Value}
variable {own : String} {cc : ByteArray} {d : Nat} {ret : Option FieldType} {nm : String}
theorem j_getI (F : MF G X own cc nL d ret nm) {ix ci k a : Nat} {x : Int32} (fl : FL own ix ci k) (hg : gI sh I ci a k = some x) (hd : decode cc pc = .ok (.getfield ix, 3)) (kk : J G X Q nL sh I L n e es (pc + 3) ls (.int x :: st)) : J G X Q nL sh I L n e es pc ls (.ref a :: st) := by
  obtain ⟨p, l, e', R, s, m, args, below, meth, c⟩ := X
  obtain ⟨hx, hb, hml, hown, hts, hr, hlocks, hnm, hK, hq0, hq1, hRf, hRl⟩ := F
  intro H locs cells slots LS h1 h2 h3 h4 h5
  obtain ⟨fk, g1, g2, g3⟩ := gI_obt hg
  obtain ⟨r, r1, r2⟩ := (h3.2.2.2 a _ g1).2
  exact getW hx hb hown hts hK fl r1 r2 (by rw [fv_int g2, g3]) hd (kk H locs cells slots LS h1 h2 h3 h4 h5)
theorem j_getR (F : MF G X own cc nL d ret nm) {ix ci k a r0 : Nat} (fl : FL own ix ci k) (hg : gR sh ci a k = some r0) (hd : decode cc pc = .ok (.getfield ix, 3)) (kk : J G X Q nL sh I L n e es (pc + 3) ls (.ref r0 :: st)) : J G X Q nL sh I L n e es pc ls (.ref a :: st) := by
  obtain ⟨p, l, e', R, s, m, args, below, meth, c⟩ := X
  obtain ⟨hx, hb, hml, hown, hts, hr, hlocks, hnm, hK, hq0, hq1, hRf, hRl⟩ := F
  intro H locs cells slots LS h1 h2 h3 h4 h5
  obtain ⟨fk, g1, g2⟩ := gR_obt hg
  obtain ⟨r, r1, r2⟩ := (h3.2.2.2 a _ g1).2
  exact getW hx hb hown hts hK fl r1 r2 (fv_ref g2) hd (kk H locs cells slots LS h1 h2 h3 h4 h5)
theorem j_putI (F : MF G X own cc nL d ret nm) {ix ci k a : Nat} {v : Int32} {I' : IH} {fin : Bool} (fl : FL own ix ci k) (fp : FP ci k fin .int) (hfin : fin = true → nm = "<init>" ∧ (vwCl[ci]?).map (·.1) = some own) (hg : pI sh I ci a k v = some I') (hd : decode cc pc = .ok (.putfield ix, 3)) (kk : J G X Q nL sh I' L n e es (pc + 3) ls st) : J G X Q nL sh I L n e es pc ls (.int v :: .ref a :: st) := by
  obtain ⟨p, l, e', R, s, m, args, below, meth, c⟩ := X
  obtain ⟨hx, hb, hml, hown, hts, hr, hlocks, hnm, hK, hq0, hq1, hRf, hRl⟩ := F
  intro H locs cells slots LS h1 h2 h3 h4 h5
  obtain ⟨fk, g1, g2, rfl⟩ := pI_obt hg
  obtain ⟨r, r1, r2⟩ := (h3.2.2.2 a _ g1).2
  refine putW hx hb hown hts hK fl fp r1 (fun z => ⟨hnm.trans (hfin z).1, ?_⟩) r2 (vp_nar_int v) rfl hd (fun H1 i e1 e2 e3 => ?_)
  · have := (hfin z).2
    rw [r1] at this
    exact Option.some.inj this
  · exact kk H1 _ cells slots LS h1 h2 (h3.putI g1 e2 e3 ⟨r, r1, e1.to (fun j _ => fv_putI g2 j)⟩) (h4.put e2 e3 (h3.2.2.2 a _ g1).1) h5
theorem j_putZ (F : MF G X own cc nL d ret nm) {ix ci k a : Nat} {v : Int32} {I' : IH} {fin : Bool} (hz : v = 0 ∨ v = 1) (fl : FL own ix ci k) (fp : FP ci k fin .boolean) (hfin : fin = true → nm = "<init>" ∧ (vwCl[ci]?).map (·.1) = some own) (hg : pI sh I ci a k v = some I') (hd : decode cc pc = .ok (.putfield ix, 3)) (kk : J G X Q nL sh I' L n e es (pc + 3) ls st) : J G X Q nL sh I L n e es pc ls (.int v :: .ref a :: st) := by
  obtain ⟨p, l, e', R, s, m, args, below, meth, c⟩ := X
  obtain ⟨hx, hb, hml, hown, hts, hr, hlocks, hnm, hK, hq0, hq1, hRf, hRl⟩ := F
  intro H locs cells slots LS h1 h2 h3 h4 h5
  obtain ⟨fk, g1, g2, rfl⟩ := pI_obt hg
  obtain ⟨r, r1, r2⟩ := (h3.2.2.2 a _ g1).2
  refine putW hx hb hown hts hK fl fp r1 (fun z => ⟨hnm.trans (hfin z).1, ?_⟩) r2 (narrow_z hz) (fits_z hz) hd (fun H1 i e1 e2 e3 => ?_)
  · have := (hfin z).2
    rw [r1] at this
    exact Option.some.inj this
  · exact kk H1 _ cells slots LS h1 h2 (h3.putI g1 e2 e3 ⟨r, r1, e1.to (fun j _ => fv_putI g2 j)⟩) (h4.put e2 e3 (h3.2.2.2 a _ g1).1) h5
theorem j_putR (F : MF G X own cc nL d ret nm) {ix ci k a r0 : Nat} {sh' : SH} {fin : Bool} {ty : FieldType} (hty : narrow ty (.ref r0) = .ref r0 ∧ fits ty (.ref r0) = true) (fl : FL own ix ci k) (fp : FP ci k fin ty) (hfin : fin = true → nm = "<init>" ∧ (vwCl[ci]?).map (·.1) = some own) (hg : pR sh ci a k r0 = some sh') (hd : decode cc pc = .ok (.putfield ix, 3)) (kk : J G X Q nL sh' I L n e es (pc + 3) ls st) : J G X Q nL sh I L n e es pc ls (.ref r0 :: .ref a :: st) := by
  obtain ⟨p, l, e', R, s, m, args, below, meth, c⟩ := X
  obtain ⟨hx, hb, hml, hown, hts, hr, hlocks, hnm, hK, hq0, hq1, hRf, hRl⟩ := F
  intro H locs cells slots LS h1 h2 h3 h4 h5
  obtain ⟨fk, g1, g2, rfl⟩ := pR_obt hg
  obtain ⟨r, r1, r2⟩ := (h3.2.2.2 a _ g1).2
  refine putW hx hb hown hts hK fl fp r1 (fun z => ⟨hnm.trans (hfin z).1, ?_⟩) r2 hty.1 hty.2 hd (fun H1 i e1 e2 e3 => ?_)
  · have := (hfin z).2
    rw [r1] at this
    exact Option.some.inj this
  · exact kk H1 _ cells slots LS h1 h2 (h3.putS g1 e2 e3 ⟨r, r1, e1.to (fun j _ => fv_putR j)⟩) (h4.put e2 e3 (h3.2.2.2 a _ g1).1) h5
/-! arrays -/
theorem j_iald (F : MF G X own cc nL d ret nm) {a : Nat} {i x : Int32} (hg : aI sh I 0 a i = some x) (hd : decode cc pc = .ok (.iaload, 1)) (kk : J G X Q nL sh I L n e es (pc + 1) ls (.int x :: st)) : J G X Q nL sh I L n e es pc ls (.int i :: .ref a :: st) := by
  obtain ⟨p, l, e', R, s, m, args, below, meth, c⟩ := X
  obtain ⟨hx, hb, hml, hown, hts, hr, hlocks, hnm, hK, hq0, hq1, hRf, hRl⟩ := F
  intro H locs cells slots LS h1 h2 h3 h4 h5
  obtain ⟨N, rf, g1, g2, g3⟩ := aI_obt hg
  have hc := (h3.2.2.2 a _ g1).2
  have hlt : i.toNatClampNeg < N := Nat.not_le.mp fun q => g2 (Or.inr q)
  exact W.iald (v := .int x) hx hb hc ((hK.1.2 0 (by omega)).1 _ _) (fun q => by cases q) (by rw [arrV_size]; exact g2) (by rw [arrV_read _ _ hlt]; simp [av, g3]) rfl rfl hd (kk H locs cells slots LS h1 h2 h3 h4 h5)
theorem j_zald (F : MF G X own cc nL d ret nm) {a : Nat} {i x : Int32} (hg : aI sh I 1 a i = some x) (hd : decode cc pc = .ok (.baload, 1)) (kk : J G X Q nL sh I L n e es (pc + 1) ls (.int x :: st)) : J G X Q nL sh I L n e es pc ls (.int i :: .ref a :: st) := by
  obtain ⟨p, l, e', R, s, m, args, below, meth, c⟩ := X
  obtain ⟨hx, hb, hml, hown, hts, hr, hlocks, hnm, hK, hq0, hq1, hRf, hRl⟩ := F
  intro H locs cells slots LS h1 h2 h3 h4 h5
  obtain ⟨N, rf, g1, g2, g3⟩ := aI_obt hg
  have hc := (h3.2.2.2 a _ g1).2
  have hlt : i.toNatClampNeg < N := Nat.not_le.mp fun q => g2 (Or.inr q)
  exact W.zald (v := .int x) hx hb hc ((hK.1.2 1 (by omega)).1 _ _) (fun q => by cases q) (by rw [arrV_size]; exact g2) (by rw [arrV_read _ _ hlt]; simp [av, g3]) rfl rfl hd (kk H locs cells slots LS h1 h2 h3 h4 h5)
theorem j_lald (F : MF G X own cc nL d ret nm) {a : Nat} {i : Int32} {x : Int64} (hg : aJ sh L a i = some x) (hd : decode cc pc = .ok (.laload, 1)) (kk : J G X Q nL sh I L n e es (pc + 1) ls (.long x :: st)) : J G X Q nL sh I L n e es pc ls (.int i :: .ref a :: st) := by
  obtain ⟨p, l, e', R, s, m, args, below, meth, c⟩ := X
  obtain ⟨hx, hb, hml, hown, hts, hr, hlocks, hnm, hK, hq0, hq1, hRf, hRl⟩ := F
  intro H locs cells slots LS h1 h2 h3 h4 h5
  obtain ⟨N, rf, g1, g2, g3⟩ := aJ_obt hg
  have hc := (h3.2.2.2 a _ g1).2
  have hlt : i.toNatClampNeg < N := Nat.not_le.mp fun q => g2 (Or.inr q)
  exact W.lald (v := .long x) hx hb hc ((hK.1.2 2 (by omega)).1 _ _) (fun q => by cases q) (by rw [arrV_size]; exact g2) (by rw [arrV_read _ _ hlt]; simp [av, g3]) rfl rfl hd (kk H locs cells slots LS h1 h2 h3 h4 h5)
theorem j_aald (F : MF G X own cc nL d ret nm) {t a r0 : Nat} {i : Int32} (ht : t = 3 ∨ t = 4) (hg : aR sh t a i = some r0) (hd : decode cc pc = .ok (.aaload, 1)) (kk : J G X Q nL sh I L n e es (pc + 1) ls (.ref r0 :: st)) : J G X Q nL sh I L n e es pc ls (.int i :: .ref a :: st) := by
  obtain ⟨p, l, e', R, s, m, args, below, meth, c⟩ := X
  obtain ⟨hx, hb, hml, hown, hts, hr, hlocks, hnm, hK, hq0, hq1, hRf, hRl⟩ := F
  intro H locs cells slots LS h1 h2 h3 h4 h5
  obtain ⟨N, rf, g1, g2, g3⟩ := aR_obt hg
  have hc := (h3.2.2.2 a _ g1).2
  have hlt : i.toNatClampNeg < N := Nat.not_le.mp fun q => g2 (Or.inr q)
  rcases ht with rfl | rfl
  · exact W.aald (v := .ref r0) hx hb hc ((hK.1.2 3 (by omega)).1 _ _) rfl (fun q => by cases q) (by rw [arrV_size]; exact g2) (by rw [arrV_read _ _ hlt]; simp [av, g3, va_rf]) rfl rfl hd (kk H locs cells slots LS h1 h2 h3 h4 h5)
  · exact W.aald (v := .ref r0) hx hb hc ((hK.1.2 4 (by omega)).1 _ _) rfl (fun q => by cases q) (by rw [arrV_size]; exact g2) (by rw [arrV_read _ _ hlt]; simp [av, g3, va_rf]) rfl rfl hd (kk H locs cells slots LS h1 h2 h3 h4 h5)
theorem av_putI {t : Nat} {rf : Nat → Option Nat} {f : Nat → Int32} {g : Nat → Int64} {k : Nat} {v : Int32} (ht : t = 0 ∨ t = 1) : updV (av t rf f g) k (.int v) = av t rf (upd f k v) g := by
  funext j
  rcases ht with rfl | rfl <;> by_cases e : j = k <;> simp [updV, av, upd, e]
theorem av_putL {rf : Nat → Option Nat} {f : Nat → Int32} {g : Nat → Int64} {k : Nat} {v : Int64} : updV (av 2 rf f g) k (.long v) = av 2 rf f (vp_updL g k v) := by
  funext j
  by_cases e : j = k <;> simp [updV, av, vp_updL, e]
theorem av_putR {rf : Nat → Option Nat} {f : Nat → Int32} {g : Nat → Int64} {k r : Nat} : updV (av 3 rf f g) k (.ref r) = av 3 (va_up rf k (some r)) f g := by
  funext j
  by_cases e : j = k <;> simp [updV, av, va_up, va_rf, e]
theorem j_iast (F : MF G X own cc nL d ret nm) {a : Nat} {i v : Int32} {I' : IH} (hg : sI sh I a i v = some I') (hd : decode cc pc = .ok (.iastore, 1)) (kk : J G X Q nL sh I' L n e es (pc + 1) ls st) : J G X Q nL sh I L n e es pc ls (.int v :: .int i :: .ref a :: st) := by
  obtain ⟨p, l, e', R, s, m, args, below, meth, c⟩ := X
  obtain ⟨hx, hb, hml, hown, hts, hr, hlocks, hnm, hK, hq0, hq1, hRf, hRl⟩ := F
  intro H locs cells slots LS h1 h2 h3 h4 h5
  obtain ⟨N, rf, g1, g2, rfl⟩ := sI_obt hg
  have hc := (h3.2.2.2 a _ g1).2
  refine W.iast hx hb hc ((hK.1.2 0 (by omega)).1 _ _) (fun q => by cases q) (by rw [arrV_size]; exact g2) rfl rfl hd (fun H1 e1 e2 e3 => ?_)
  refine kk H1 _ cells slots LS h1 h2 (h3.putI g1 e2 e3 ?_) (h4.put e2 e3 (h3.2.2.2 a _ g1).1) h5
  show H1[a]? = some _
  rw [e1, arrV_store, av_putI (Or.inl rfl)]
theorem j_zast (F : MF G X own cc nL d ret nm) {a : Nat} {i v : Int32} {I' : IH} (hg : sZ sh I a i v = some I') (hd : decode cc pc = .ok (.bastore, 1)) (kk : J G X Q nL sh I' L n e es (pc + 1) ls st) : J G X Q nL sh I L n e es pc ls (.int v :: .int i :: .ref a :: st) := by
  obtain ⟨p, l, e', R, s, m, args, below, meth, c⟩ := X
  obtain ⟨hx, hb, hml, hown, hts, hr, hlocks, hnm, hK, hq0, hq1, hRf, hRl⟩ := F
  intro H locs cells slots LS h1 h2 h3 h4 h5
  obtain ⟨N, rf, g1, g2, rfl⟩ := sZ_obt hg
  have hc := (h3.2.2.2 a _ g1).2
  refine W.zast hx hb hc ((hK.1.2 1 (by omega)).1 _ _) (fun q => by cases q) (by rw [arrV_size]; exact g2) rfl rfl hd (fun H1 e1 e2 e3 => ?_)
  refine kk H1 _ cells slots LS h1 h2 (h3.putI g1 e2 e3 ?_) (h4.put e2 e3 (h3.2.2.2 a _ g1).1) h5
  show H1[a]? = some _
  have hnz : narrow .boolean (.int v) = .int (vp_nar .boolean v) := rfl
  rw [e1, hnz, arrV_store, av_putI (Or.inr rfl)]
theorem j_last (F : MF G X own cc nL d ret nm) {a : Nat} {i : Int32} {v : Int64} {L' : LH} (hg : sJ sh L a i v = some L') (hd : decode cc pc = .ok (.lastore, 1)) (kk : J G X Q nL sh I L' n e es (pc + 1) ls st) : J G X Q nL sh I L n e es pc ls (.long v :: .int i :: .ref a :: st) := by
  obtain ⟨p, l, e', R, s, m, args, below, meth, c⟩ := X
  obtain ⟨hx, hb, hml, hown, hts, hr, hlocks, hnm, hK, hq0, hq1, hRf, hRl⟩ := F
  intro H locs cells slots LS h1 h2 h3 h4 h5
  obtain ⟨N, rf, g1, g2, rfl⟩ := sJ_obt hg
  have hc := (h3.2.2.2 a _ g1).2
  refine W.last hx hb hc ((hK.1.2 2 (by omega)).1 _ _) (fun q => by cases q) (by rw [arrV_size]; exact g2) rfl rfl hd (fun H1 e1 e2 e3 => ?_)
  refine kk H1 _ cells slots LS h1 h2 (h3.putL g1 e2 e3 ?_) (h4.put e2 e3 (h3.2.2.2 a _ g1).1) h5
  show H1[a]? = some _
  rw [e1, arrV_store, av_putL]
theorem j_alen (F : MF G X own cc nL d ret nm) {a : Nat} {x : Int32} (hg : aL sh a = some x) (hd : decode cc pc = .ok (.arraylength, 1)) (kk : J G X Q nL sh I L n e es (pc + 1) ls (.int x :: st)) : J G X Q nL sh I L n e es pc ls (.ref a :: st) := by
  obtain ⟨p, l, e', R, s, m, args, below, meth, c⟩ := X
  obtain ⟨hx, hb, hml, hown, hts, hr, hlocks, hnm, hK, hq0, hq1, hRf, hRl⟩ := F
  intro H locs cells slots LS h1 h2 h3 h4 h5
  obtain ⟨t, N, rf, g1, g2, rfl⟩ := aL_obt hg
  have hc := (h3.2.2.2 a _ g1).2
  exact W.alen (n := Int32.ofNat N) hx hb hc ((hK.1.2 t g2).1 _ _) (by rw [arrV_size] <;> rfl) rfl rfl hd (kk H locs cells slots LS h1 h2 h3 h4 h5)
end JH
end
section
/-! ROWS OF J: new cells, arraycopy, statics, calls, returns -/
theorem ite_obt {α : Type} {c : Prop} {inst : Decidable c} {a z : α} (h : (if c then some a else none) = some z) : c ∧ a = z := by
  split at h
  · next hc => exact ⟨hc, Option.some.inj h⟩
  · cases h
/-- a new int or boolean array, a new array of longs, of references -/
def nAI (sh : SH) (I : IH) (n t : Nat) (c : Int32) : Option (SH × IH) := if ¬ c < 0 ∧ c.toNatClampNeg ≤ 100000 then some (upS sh n (.inr (t, c.toNatClampNeg, fun _ => none)), upR I n (fun _ => 0)) else none
def nAL (sh : SH) (L : LH) (n : Nat) (c : Int32) : Option (SH × LH) := if ¬ c < 0 ∧ c.toNatClampNeg ≤ 100000 then some (upS sh n (.inr (2, c.toNatClampNeg, fun _ => none)), upR L n (fun _ => 0)) else none
def nAR (sh : SH) (n : Nat) (c : Int32) : Option SH := if ¬ c < 0 ∧ c.toNatClampNeg ≤ 100000 then some (upS sh n (.inr (3, c.toNatClampNeg, fun _ => none))) else none
/-- rows of a new array of int rows -/
def nMS (sh : SH) (n N K : Nat) : SH := fun b => if b = n then some (.inr (4, N, fun j => if j < N then some (n + 1 + j) else none)) else if n < b ∧ b ≤ n + N then some (.inr (0, K, fun _ => none)) else sh b
def nMI (I : IH) (n N : Nat) : IH := fun b => if n < b ∧ b ≤ n + N then fun _ => 0 else I b
def nM (sh : SH) (I : IH) (n : Nat) (a c : Int32) : Option (SH × IH) := if (¬ a < 0 ∧ a.toNatClampNeg ≤ 100000) ∧ ¬ c < 0 ∧ c.toNatClampNeg ≤ 100000 then some (nMS sh n a.toNatClampNeg c.toNatClampNeg, nMI I n a.toNatClampNeg) else none
/-- which fields of a new object are references -/
def fkD (ci : Nat) : Nat → Option (Option Nat) := match ci with
  | 0 => fun k => if k = 3 then some none else none
  | 1 => fun k => if k = 0 ∨ k = 4 then some none else none
  | 2 => fun k => if k = 1 ∨ k = 2 ∨ k = 3 ∨ k = 4 ∨ k = 6 ∨ k = 8 then some none else none
  | 3 => fun k => if k = 2 then some none else none
  | 4 => fun _ => some none
  | 5 => fun _ => some none
  | 6 => fun k => if k = 2 ∨ k = 6 ∨ k = 7 then none else some none
  | _ => fun k => if k ∈ [0, 1, 2, 7, 8, 9, 10, 11, 21, 22, 23, 25, 39, 45, 46, 47, 48, 49, 50, 51, 61] then none else some none
def nO (sh : SH) (n ci : Nat) : SH := upS sh n (.inl (ci, fkD ci))
def nOI (I : IH) (n : Nat) : IH := upR I n (fun _ => 0)
def cpI (sh : SH) (I : IH) (a : Nat) (sp : Int32) (b : Nat) (dp c : Int32) : Option IH := match sh a, sh b with
  | some (.inr (0, n0, _)), some (.inr (0, n1, _)) => if (¬ sp < 0 ∧ ¬ dp < 0 ∧ ¬ c < 0) ∧ sp.toNatClampNeg + c.toNatClampNeg ≤ n0 ∧ dp.toNatClampNeg + c.toNatClampNeg ≤ n1 then some (upR I b (va_cpy (I a) (I b) sp.toNatClampNeg dp.toNatClampNeg c.toNatClampNeg)) else none
  | _, _ => none
def cpL (sh : SH) (L : LH) (a : Nat) (sp : Int32) (b : Nat) (dp c : Int32) : Option LH := match sh a, sh b with
  | some (.inr (2, n0, _)), some (.inr (2, n1, _)) => if (¬ sp < 0 ∧ ¬ dp < 0 ∧ ¬ c < 0) ∧ sp.toNatClampNeg + c.toNatClampNeg ≤ n0 ∧ dp.toNatClampNeg + c.toNatClampNeg ≤ n1 then some (upR L b (va_cpy (L a) (L b) sp.toNatClampNeg dp.toNatClampNeg c.toNatClampNeg)) else none
  | _, _ => none
/-- the table ABOVE -/
def abv (i : Int32) : Option Int32 := if ¬ (i < 0 ∨ 7 ≤ i.toNatClampNeg) then some (abvL.getD i.toNatClampNeg 0) else none
theorem cpI_obt {sh : SH} {I I' : IH} {a b : Nat} {sp dp c : Int32} (h : cpI sh I a sp b dp c = some I') : ∃ n0 n1 r0 r1, sh a = some (.inr (0, n0, r0)) ∧ sh b = some (.inr (0, n1, r1)) ∧ (¬ sp < 0 ∧ ¬ dp < 0 ∧ ¬ c < 0) ∧ sp.toNatClampNeg + c.toNatClampNeg ≤ n0 ∧ dp.toNatClampNeg + c.toNatClampNeg ≤ n1 ∧ I' = upR I b (va_cpy (I a) (I b) sp.toNatClampNeg dp.toNatClampNeg c.toNatClampNeg) := by
  unfold cpI at h
  split at h
  · next n0 r0 n1 r1 ha hb =>
    obtain ⟨⟨h1, h2, h3⟩, h4⟩ := ite_obt h
    exact ⟨n0, n1, r0, r1, ha, hb, h1, h2, h3, h4.symm⟩
  · cases h
theorem cpL_obt {sh : SH} {L L' : LH} {a b : Nat} {sp dp c : Int32} (h : cpL sh L a sp b dp c = some L') : ∃ n0 n1 r0 r1, sh a = some (.inr (2, n0, r0)) ∧ sh b = some (.inr (2, n1, r1)) ∧ (¬ sp < 0 ∧ ¬ dp < 0 ∧ ¬ c < 0) ∧ sp.toNatClampNeg + c.toNatClampNeg ≤ n0 ∧ dp.toNatClampNeg + c.toNatClampNeg ≤ n1 ∧ L' = upR L b (va_cpy (L a) (L b) sp.toNatClampNeg dp.toNatClampNeg c.toNatClampNeg) := by
  unfold cpL at h
  split at h
  · next n0 r0 n1 r1 ha hb =>
    obtain ⟨⟨h1, h2, h3⟩, h4⟩ := ite_obt h
    exact ⟨n0, n1, r0, r1, ha, hb, h1, h2, h3, h4.symm⟩
  · cases h
theorem abv_obt {i x : Int32} (h : abv i = some x) : vp_in i 7 ∧ abvL.getD i.toNatClampNeg 0 = x := ite_obt h
theorem cpw1 : Cond.native arraycopyName ∈ lw_good := good_of 500 (by decide +kernel) (by decide +kernel)
theorem cpw2 : Cond.static arraycopyName ∈ lw_good := good_of 499 (by decide +kernel) (by decide +kernel)
theorem cpw3 : Cond.initialized "java/lang/System" ∈ lw_good := good_of 82 (by decide +kernel) (by decide +kernel)
theorem oiw1 : Cond.instanceMethod objectInit ∈ lw_good := good_of 90 (by decide +kernel) (by decide +kernel)
theorem oiw2 : Cond.code objectInit ⟨#[0xb1]⟩ 1 none ∈ lw_good := good_of 91 (by decide +kernel) (by decide +kernel)
theorem HPh.pushI {G : GT} {sh : SH} {I : IH} {L : LH} {n : Nat} {H H1 : Heap} {c : shC} {f : Nat → Int32} (h : HPh G sh I L n H) (hz : H1.size = H.size + 1) (ho : ∀ q : Nat, q < H.size → H1[q]? = H[q]?) (hc : cellAt G c f (L n) n H1) : HPh G (upS sh n c) (upR I n f) L (n + 1) H1 := by
  have h9 := h.push (g := L n) hz ho hc
  rw [upR_id] at h9
  exact h9
theorem HPh.pushL {G : GT} {sh : SH} {I : IH} {L : LH} {n : Nat} {H H1 : Heap} {c : shC} {g : Nat → Int64} (h : HPh G sh I L n H) (hz : H1.size = H.size + 1) (ho : ∀ q : Nat, q < H.size → H1[q]? = H[q]?) (hc : cellAt G c (I n) g n H1) : HPh G (upS sh n c) I (upR L n g) (n + 1) H1 := by
  have h9 := h.push (f := I n) hz ho hc
  rw [upR_id] at h9
  exact h9
theorem HPh.pushS {G : GT} {sh : SH} {I : IH} {L : LH} {n : Nat} {H H1 : Heap} {c : shC} (h : HPh G sh I L n H) (hz : H1.size = H.size + 1) (ho : ∀ q : Nat, q < H.size → H1[q]? = H[q]?) (hc : cellAt G c (I n) (L n) n H1) : HPh G (upS sh n c) I L (n + 1) H1 := by
  have h9 := h.pushI (f := I n) hz ho hc
  rw [upR_id] at h9
  exact h9
theorem va_S.grow {A : Nat → Prop} {H0 H H1 : Heap} {locs : List Loc} (h : va_S A H0 H locs) (hz : H.size ≤ H1.size) (ho : ∀ q : Nat, q < H.size → H1[q]? = H[q]?) : va_S A H0 H1 locs := ⟨Nat.le_trans h.1 hz, fun q g1 g2 => (ho q (Nat.lt_of_lt_of_le g1 h.1)).trans (h.2.1 q g1 g2), h.2.2⟩
/-! words of new objects and calls -/
def CN (own : String) (ix ci N : Nat) : Prop := ∃ (C : String) (T : u_T) (tf : Nat → FieldType), vwCl[ci]? = some (C, T, N) ∧ Cond.classLink own ix C ∈ lw_good ∧ Cond.instantiable C N ∈ lw_good ∧ Cond.initialized C ∈ lw_good ∧ (∀ w ∈ u_ws C T N, w ∈ lw_good) ∧ (∀ k, k < N → parseFieldDescriptor (T k).2.2.1 = some (tf k)) ∧ ∀ j, j < N → defaultValue (tf j) = fv (fkD ci) (fun _ => 0) j
def cwd (y : MethodName) (cnt : Nat) : Prop := (y.cls ≠ "java/lang/invoke/MethodHandle" ∧ y.cls ≠ "java/lang/invoke/VarHandle") ∧ (parseMethodDescriptor y.desc).map (fun d => d.parameters.length) = some cnt
def CLV (own : String) (ix : Nat) (y : MethodName) (cnt : Nat) : Prop := Cond.methodLink own ix y ∈ lw_good ∧ Cond.instanceMethod y ∈ lw_good ∧ Cond.selects y.cls y y ∈ lw_good ∧ Cond.initialized y.cls ∈ lw_good ∧ cwd y cnt
def CLS (own : String) (ix : Nat) (y : MethodName) (cnt : Nat) : Prop := Cond.methodLink own ix y ∈ lw_good ∧ Cond.static y ∈ lw_good ∧ Cond.initialized y.cls ∈ lw_good ∧ cwd y cnt
def CLSN (own : String) (ix : Nat) (y : MethodName) (cnt : Nat) : Prop := Cond.methodLinkNest own ix y RX6 ∈ nestWs ∧ Cond.static y ∈ lw_good ∧ Cond.initialized y.cls ∈ lw_good ∧ cwd y cnt
def CLI (own : String) (ix : Nat) (y : MethodName) (cnt : Nat) : Prop := Cond.methodLink own ix y ∈ lw_good ∧ Cond.instanceMethod y ∈ lw_good ∧ Cond.initialized y.cls ∈ lw_good ∧ cwd y cnt ∧ y.name = "<init>"
def CLIN (own : String) (ix : Nat) (y : MethodName) (cnt : Nat) : Prop := Cond.methodLinkNest own ix y RX6 ∈ nestWs ∧ Cond.instanceMethod y ∈ lw_good ∧ Cond.initialized y.cls ∈ lw_good ∧ cwd y cnt ∧ y.name = "<init>"
theorem cwd_len {y : MethodName} {cnt : Nat} (h : cwd y cnt) : ∀ sig, parseMethodDescriptor y.desc = some sig → cnt = sig.parameters.length := fun sig hs => by
  have h2 := h.2
  rw [hs] at h2
  exact (Option.some.inj h2).symm
/-- the callee's depth and locals fit -/
def dok (d0 nL0 d : Nat) : Bool := Nat.ble (d0 + 1) d && Nat.ble (nL0 + 19) 120
theorem dok_fr {d0 nL0 d : Nat} (h : dok d0 nL0 d = true) : d0 + 1 ≤ d ∧ 8 + (nL0 + 11) + 120 * d0 ≤ 120 * d := by
  unfold dok at h
  rw [Bool.and_eq_true] at h
  have h1 := Nat.le_of_ble_eq_true h.1
  have h2 := Nat.le_of_ble_eq_true h.2
  omega
section RW
variable {p : Program} {l : Launch} {e : Env} {R : Room} {s : State} {m : MethodId} {args : Array Value} {below : List Frame} {meth : Method} {c : Code} {H : Heap} {locs : List Loc} {cells slots : Nat} {Q : State → Prop}
theorem run_W {G : GT} {v : Option Value} {sh' : SH} {I' : IH} {L' : LH} {n' mc ms pc : Nat} {LS : Array Slot} {st0 rest : List Value} {a : Array Value} (hr : va_Run p l e R s m args below meth c H locs cells slots mc ms (F0 m pc LS st0) rest (QcT G v sh' I' L' n' a) (bA G)) (h4 : va_S (bA G) s.heap H locs)
    (kk : ∀ (H1 : Heap) (locs1 : List Loc), HPh G sh' I' L' n' H1 → va_S (bA G) s.heap H1 locs1 → W p l e R s m args below meth c H1 locs1 (cells + mc) (slots + ms) Q (F0 m (pc + 3) LS (v.toList ++ rest))) : W p l e R s m args below meth c H locs cells slots Q (F0 m pc LS st0) := by
  intro T hT X
  obtain ⟨w, st₀, t, T', L, h0, X', hL, e1, e2, ⟨hv, hH, hz, hk⟩, st⟩ := hr T hT X
  cases hv
  rw [h0] at hz hk
  obtain ⟨t2, a1, b1⟩ := kk T'.heap (locs ++ L) (by rw [e1]; exact hH)
    ⟨Nat.le_trans h4.1 (by rw [e1]; exact hz), fun q g1 g2 => by rw [e1, hk q (Nat.lt_of_lt_of_le g1 h4.1) g2]; exact h4.2.1 q g1 g2, fun q hq => by
      rcases List.mem_append.mp hq with h | h
      · exact h4.2.2 q h
      · exact hL q h⟩ T' rfl X'
  exact ⟨t2, st t2 a1, b1⟩
end RW
theorem preT {G : GT} {sh : SH} {I : IH} {L : LH} {n : Nat} {s : State} {H : Heap} {As : List Value} (h3 : HPh G sh I L n H) (hK : KF G s) : ∀ U : State, U.heap = H → s.WarmedH U.vm → PcT G As sh I L n As.toArray U := fun U hU hW => ⟨rfl, by rw [hU]; exact h3, hK.warm hW⟩
section JC
variable {G : GT} {X : XT} {Q : State → Prop} {nL : Nat} {sh : SH} {I : IH} {L : LH} {n e es pc : Nat} {ls : List (Nat × Value)} {st : List Value}
variable {own : String} {cc : ByteArray} {d : Nat} {ret : Option FieldType} {nm : String}
theorem j_newI (F : MF G X own cc nL d ret nm) {at0 : ArrayType} {t e1 es1 : Nat} {c0 : Int32} {sh' : SH} {I' : IH} (ht : (t = 0 ∧ newarray.typeOf at0 = .int) ∨ (t = 1 ∧ newarray.typeOf at0 = .boolean)) (hw : Cond.arrayClass (newarray.typeOf at0) ∈ lw_good) (hg : nAI sh I n t c0 = some (sh', I')) (he : e = 1 + e1) (hes : es = c0.toNatClampNeg + es1) (hd : decode cc pc = .ok (.newarray at0, 2)) (kk : J G X Q nL sh' I' L (n + 1) e1 es1 (pc + 2) ls (.ref n :: st)) : J G X Q nL sh I L n e es pc ls (.int c0 :: st) := by
  obtain ⟨p, l, e', R, s, m, args, below, meth, c⟩ := X
  obtain ⟨hx, hb, hml, hown, hts, hr, hlocks, hnm, hK, hq0, hq1, hRf, hRl⟩ := F
  intro H locs cells slots LS h1 h2 h3 h4 h5
  obtain ⟨⟨g1, g2⟩, g3⟩ := ite_obt hg
  cases g3
  refine va_newaK hx hb (hts _ hw) rfl hd rfl g1 rfl (by rcases ht with ⟨-, h⟩ | ⟨-, h⟩ <;> rw [h] <;> simp [componentBytes] <;> omega) (by omega) (by omega) h3.1 (fun H1 cA a1 a2 a3 a4 a5 => ?_)
  have h9 : H.size = n := h3.1
  have hz : H1.size = H.size + 1 := by rw [a2, h9]
  have ho : ∀ q : Nat, q < H.size → H1[q]? = H[q]? := fun q hq => a3 q (by omega)
  refine kk H1 locs (cells + 1) (slots + c0.toNatClampNeg) LS (by omega) (by omega) (h3.pushI hz ho ?_) (h4.grow (by omega) ho) h5
  show H1[n]? = some _
  rcases ht with ⟨rfl, h⟩ | ⟨rfl, h⟩
  · rw [h] at a1 a5
    have hcA : cA = G.2.2.1 0 := Option.some.inj (a5.symm.trans (hK.1.2 0 (by omega)).2)
    rw [a1, hcA]
    rfl
  · rw [h] at a1 a5
    have hcA : cA = G.2.2.1 1 := Option.some.inj (a5.symm.trans (hK.1.2 1 (by omega)).2)
    rw [a1, hcA]
    rfl
theorem j_newL (F : MF G X own cc nL d ret nm) {at0 : ArrayType} {e1 es1 : Nat} {c0 : Int32} {sh' : SH} {L' : LH} (h : newarray.typeOf at0 = .long) (hw : Cond.arrayClass (newarray.typeOf at0) ∈ lw_good) (hg : nAL sh L n c0 = some (sh', L')) (he : e = 1 + e1) (hes : es = c0.toNatClampNeg + es1) (hd : decode cc pc = .ok (.newarray at0, 2)) (kk : J G X Q nL sh' I L' (n + 1) e1 es1 (pc + 2) ls (.ref n :: st)) : J G X Q nL sh I L n e es pc ls (.int c0 :: st) := by
  obtain ⟨p, l, e', R, s, m, args, below, meth, c⟩ := X
  obtain ⟨hx, hb, hml, hown, hts, hr, hlocks, hnm, hK, hq0, hq1, hRf, hRl⟩ := F
  intro H locs cells slots LS h1 h2 h3 h4 h5
  obtain ⟨⟨g1, g2⟩, g3⟩ := ite_obt hg
  cases g3
  refine va_newaK hx hb (hts _ hw) rfl hd rfl g1 rfl (by rw [h]; simp [componentBytes]; omega) (by omega) (by omega) h3.1 (fun H1 cA a1 a2 a3 a4 a5 => ?_)
  have h9 : H.size = n := h3.1
  have hz : H1.size = H.size + 1 := by rw [a2, h9]
  have ho : ∀ q : Nat, q < H.size → H1[q]? = H[q]? := fun q hq => a3 q (by omega)
  refine kk H1 locs (cells + 1) (slots + c0.toNatClampNeg) LS (by omega) (by omega) (h3.pushL hz ho ?_) (h4.grow (by omega) ho) h5
  show H1[n]? = some _
  rw [h] at a1 a5
  have hcA : cA = G.2.2.1 2 := Option.some.inj (a5.symm.trans (hK.1.2 2 (by omega)).2)
  rw [a1, hcA]
  rfl
theorem j_anew (F : MF G X own cc nL d ret nm) {ix e1 es1 : Nat} {c0 : Int32} {sh' : SH} (hw : Cond.classLink own ix "MeltHours$Tape" ∈ lw_good) (hg : nAR sh n c0 = some sh') (he : e = 1 + e1) (hes : es = c0.toNatClampNeg + es1) (hd : decode cc pc = .ok (.anewarray ix, 3)) (kk : J G X Q nL sh' I L (n + 1) e1 es1 (pc + 3) ls (.ref n :: st)) : J G X Q nL sh I L n e es pc ls (.int c0 :: st) := by
  obtain ⟨p, l, e', R, s, m, args, below, meth, c⟩ := X
  obtain ⟨hx, hb, hml, hown, hts, hr, hlocks, hnm, hK, hq0, hq1, hRf, hRl⟩ := F
  intro H locs cells slots LS h1 h2 h3 h4 h5
  obtain ⟨⟨g1, g2⟩, g3⟩ := ite_obt hg
  cases g3
  refine W.anew hx hb hown (hts _ hw) (va_AO.use hK.2.1) rfl hd rfl g1 (by omega) (by omega) (by omega) fun cA kA comp f1 f2 f3 f4 => ?_
  have h9 : H.size = n := h3.1
  generalize hH1 : H.push ({ cls := cA, slots := Array.replicate c0.toNatClampNeg .null, vm := .none } : Cell) = H1
  have hz : H1.size = H.size + 1 := by rw [← hH1, Array.size_push]
  have e1' : H1[H.size]? = some (arrV cA c0.toNatClampNeg (fun _ => .null)) := by rw [← hH1, Array.getElem?_push_size, ← arrV_new]
  have ho : ∀ q : Nat, q < H.size → H1[q]? = H[q]? := fun q hq => by rw [← hH1, Array.getElem?_push, if_neg (Nat.ne_of_lt hq)]
  rw [h9]
  refine kk H1 locs (cells + 1) (slots + c0.toNatClampNeg) LS (by omega) (by omega) (h3.pushS hz ho ?_) (h4.grow (by omega) ho) h5
  show H1[n]? = some _
  obtain ⟨kB, cB, -, -, -, k4⟩ := (hK.1.2 3 (by omega)).2
  have hcA : cA = G.2.2.1 3 := Option.some.inj (f1.symm.trans k4)
  rw [← h9, e1', hcA]
  rfl
theorem j_new (F : MF G X own cc nL d ret nm) {ix ci N e1 es1 : Nat} (cn : CN own ix ci N) (he : e = 1 + e1) (hes : es = N + es1) (hd : decode cc pc = .ok (.new ix, 3)) (kk : J G X Q nL (nO sh n ci) (nOI I n) L (n + 1) e1 es1 (pc + 3) ls (.ref n :: st)) : J G X Q nL sh I L n e es pc ls st := by
  obtain ⟨p, l, e', R, s, m, args, below, meth, c⟩ := X
  obtain ⟨hx, hb, hml, hown, hts, hr, hlocks, hnm, hK, hq0, hq1, hRf, hRl⟩ := F
  intro H locs cells slots LS h1 h2 h3 h4 h5
  obtain ⟨C, T, tf, hc, w1, w2, w3, hin, htf, hdf⟩ := cn
  have hKn := hK.1.1 ci _ hc
  have h9 : H.size = n := h3.1
  refine W.newcK hx hb hown (hts _ w1) (hts _ w2) (hts _ w3) rfl hd (by omega) (by omega) hKn.2.1 h9 fun H1 kC hkC a1 a2 a3 => ?_
  have hz : H1.size = H.size + 1 := by rw [a2, h9]
  have ho : ∀ q : Nat, q < H.size → H1[q]? = H[q]? := fun q hq => a3 q (by omega)
  refine kk H1 locs (cells + 1) (slots + N) LS (by omega) (by omega) (h3.pushI hz ho ?_) (h4.grow (by omega) ho) h5
  exact ⟨_, hc, (u_born tf (fun w hw => hts w hw) hin hKn hkC a1 htf).to hdf⟩
/-! arraycopy -/
theorem j_cpI (F : MF G X own cc nL d ret nm) {ix a b : Nat} {sp dp c0 : Int32} {I' : IH} (hw : Cond.methodLink own ix arraycopyName ∈ lw_good) (hg : cpI sh I a sp b dp c0 = some I') (hst : Nat.ble ((st.map fun v => v.category).sum) 8 = true) (hdd : Nat.ble 1 d = true) (hd : decode cc pc = .ok (.invokestatic ix, 3)) (kk : J G X Q nL sh I' L n e es (pc + 3) ls st) : J G X Q nL sh I L n e es pc ls (.int c0 :: .int dp :: .ref b :: .int sp :: .ref a :: st) := by
  obtain ⟨p, l, e', R, s, m, args, below, meth, c⟩ := X
  obtain ⟨hx, hb, hml, hown, hts, hr, hlocks, hnm, hK, hq0, hq1, hRf, hRl⟩ := F
  intro H locs cells slots LS h1 h2 h3 h4 h5
  obtain ⟨n0, n1, r0, r1, g0, g1, ⟨g2, g3, g4⟩, g5, g6, rfl⟩ := cpI_obt hg
  have nn : ∀ z : Int32, ¬ z < 0 → z.toInt = (z.toNatClampNeg : Int) := by
    intro z hz
    have hz0 : (0 : Int) ≤ z.toInt := by
      have := Int32.not_lt.mp hz
      simpa using Int32.le_iff_toInt_le.mp this
    show z.toInt = ((z.toInt.toNat : Nat) : Int)
    omega
  have hc0 := (h3.2.2.2 a _ g0).2
  have hc1 := (h3.2.2.2 b _ g1).2
  have hA := (h3.2.2.2 b _ g1).1
  obtain ⟨-, k0, hk0, cm0, hkk0⟩ := (hK.1.2 0 (by omega)).1 n0 (fun j => .int (I a j))
  have hst' := Nat.le_of_ble_eq_true hst
  have hdd' := Nat.le_of_ble_eq_true hdd
  have hnw : nativeFrameWords "java/lang/System" "arraycopy" 5 + 11 ≤ 100 := by decide +kernel
  have hc0 : H[a]? = some (vp_cell (G.2.2.1 0) (n0, .inl (I a))) := hc0
  have hc1 : H[b]? = some (vp_cell (G.2.2.1 0) (n1, .inl (I b))) := hc1
  intro T hT X
  obtain ⟨vm', X', step⟩ := X.arraycopy hx hown (hts _ hw) (hts _ cpw1) (hts _ cpw2) (hts _ cpw3) (src := a) (dst := b) (cs := vp_cell (G.2.2.1 0) (n0, .inl (I a))) (cd := vp_cell (G.2.2.1 0) (n1, .inl (I b))) (srcPos := sp) (destPos := dp) (n := c0) (by rw [hT]; exact hc0) (by rw [hT]; exact hc1)
    (fun _ h => by cases h) (fun _ h => by cases h) (fun h => by cases h) (fun h => by cases h) hk0 hk0 hkk0 hkk0 (by simp [tyA, refKind]) g2 g3 g4
    (by rw [nn sp g2, nn c0 g4]; show ¬ _ > ((arrV _ n0 (fun j => .int (I a j))).slots.size : Int); rw [arrV_size]; omega)
    (by rw [nn dp g3, nn c0 g4]; show ¬ _ > ((arrV _ n1 (fun j => .int (I b j))).slots.size : Int); rw [arrV_size]; omega)
    (fun vm₁ _ i hi => by
      have e : (vp_cell (G.2.2.1 0) (n0, .inl (I a))).slots.getD (sp.toNatClampNeg + i) .null = .int (I a (sp.toNatClampNeg + i)) := by
        show (arrV _ n0 (fun j => .int (I a j))).slots.getD _ _ = _
        rw [Array.getD_eq_getD_getElem?, arrV_read _ _ (by omega)]
        rfl
      refine ⟨?_, ?_⟩
      · rw [e]
        rfl
      · rw [e]
        exact trivial)
    (g := F0 m pc LS (.int c0 :: .int dp :: .ref b :: .int sp :: .ref a :: st)) rfl (by rw [hml]; exact h5.1) (rest := st) rfl (by rw [hb]; exact hd) (by omega) (by show 2 * 0 + _ + _ ≤ _; omega)
  have e1 : copied (vp_cell (G.2.2.1 0) (n0, .inl (I a))) (vp_cell (G.2.2.1 0) (n1, .inl (I b))) sp dp c0 = vp_cell (G.2.2.1 0) (n1, .inl (va_cpy (I a) (I b) sp.toNatClampNeg dp.toNatClampNeg c0.toNatClampNeg)) := va_copied (fun z => .int z) _ _ (I a) (I b) g5
  rw [e1] at X' step
  have hl : b < H.size := (Array.getElem?_eq_some_iff.mp hc1).1
  have hheap : ((T.setVm vm').setCell b (vp_cell (G.2.2.1 0) (n1, .inl (va_cpy (I a) (I b) sp.toNatClampNeg dp.toNatClampNeg c0.toNatClampNeg)))).heap = H.setIfInBounds b (vp_cell (G.2.2.1 0) (n1, .inl (va_cpy (I a) (I b) sp.toNatClampNeg dp.toNatClampNeg c0.toNatClampNeg))) := by rw [← hT]; rfl
  have oq : ∀ q : Nat, q ≠ b → (H.setIfInBounds b (vp_cell (G.2.2.1 0) (n1, .inl (va_cpy (I a) (I b) sp.toNatClampNeg dp.toNatClampNeg c0.toNatClampNeg))))[q]? = H[q]? := fun q hq => by simp [Array.getElem?_setIfInBounds, Ne.symm hq]
  obtain ⟨t, a1, b1⟩ := kk _ _ cells slots LS h1 h2 (h3.putI (f := va_cpy (I a) (I b) sp.toNatClampNeg dp.toNatClampNeg c0.toNatClampNeg) g1 (by simp) oq (show (H.setIfInBounds b _)[b]? = some _ by rw [Array.getElem?_setIfInBounds, if_pos rfl, if_pos hl]; rfl)) ⟨by simp; exact h4.1, fun q k1 k2 => by
      rw [oq q (fun e => k2 (by rw [e]; exact hA))]
      exact h4.2.1 q k1 k2, fun q hq => by
      rcases List.mem_append.mp hq with h | h
      · exact h4.2.2 q h
      · obtain ⟨z, -, hz⟩ := List.mem_map.mp h
        rw [← hz]
        exact hA⟩ h5 _ hheap X'
  exact ⟨t, step t a1, b1⟩
theorem j_cpL (F : MF G X own cc nL d ret nm) {ix a b : Nat} {sp dp c0 : Int32} {L' : LH} (hw : Cond.methodLink own ix arraycopyName ∈ lw_good) (hg : cpL sh L a sp b dp c0 = some L') (hst : Nat.ble ((st.map fun v => v.category).sum) 8 = true) (hdd : Nat.ble 1 d = true) (hd : decode cc pc = .ok (.invokestatic ix, 3)) (kk : J G X Q nL sh I L' n e es (pc + 3) ls st) : J G X Q nL sh I L n e es pc ls (.int c0 :: .int dp :: .ref b :: .int sp :: .ref a :: st) := by
  obtain ⟨p, l, e', R, s, m, args, below, meth, c⟩ := X
  obtain ⟨hx, hb, hml, hown, hts, hr, hlocks, hnm, hK, hq0, hq1, hRf, hRl⟩ := F
  intro H locs cells slots LS h1 h2 h3 h4 h5
  obtain ⟨n0, n1, r0, r1, g0, g1, ⟨g2, g3, g4⟩, g5, g6, rfl⟩ := cpL_obt hg
  have nn : ∀ z : Int32, ¬ z < 0 → z.toInt = (z.toNatClampNeg : Int) := by
    intro z hz
    have hz0 : (0 : Int) ≤ z.toInt := by
      have := Int32.not_lt.mp hz
      simpa using Int32.le_iff_toInt_le.mp this
    show z.toInt = ((z.toInt.toNat : Nat) : Int)
    omega
  have hc0 := (h3.2.2.2 a _ g0).2
  have hc1 := (h3.2.2.2 b _ g1).2
  have hA := (h3.2.2.2 b _ g1).1
  obtain ⟨-, k0, hk0, cm0, hkk0⟩ := (hK.1.2 2 (by omega)).1 n0 (fun j => .long (L a j))
  have hst' := Nat.le_of_ble_eq_true hst
  have hdd' := Nat.le_of_ble_eq_true hdd
  have hnw : nativeFrameWords "java/lang/System" "arraycopy" 5 + 11 ≤ 100 := by decide +kernel
  have hc0 : H[a]? = some (vp_cell (G.2.2.1 2) (n0, .inr (.inl (L a)))) := hc0
  have hc1 : H[b]? = some (vp_cell (G.2.2.1 2) (n1, .inr (.inl (L b)))) := hc1
  intro T hT X
  obtain ⟨vm', X', step⟩ := X.arraycopy hx hown (hts _ hw) (hts _ cpw1) (hts _ cpw2) (hts _ cpw3) (src := a) (dst := b) (cs := vp_cell (G.2.2.1 2) (n0, .inr (.inl (L a)))) (cd := vp_cell (G.2.2.1 2) (n1, .inr (.inl (L b)))) (srcPos := sp) (destPos := dp) (n := c0) (by rw [hT]; exact hc0) (by rw [hT]; exact hc1)
    (fun _ h => by cases h) (fun _ h => by cases h) (fun h => by cases h) (fun h => by cases h) hk0 hk0 hkk0 hkk0 (by simp [tyA, refKind]) g2 g3 g4
    (by rw [nn sp g2, nn c0 g4]; show ¬ _ > ((arrV _ n0 (fun j => .long (L a j))).slots.size : Int); rw [arrV_size]; omega)
    (by rw [nn dp g3, nn c0 g4]; show ¬ _ > ((arrV _ n1 (fun j => .long (L b j))).slots.size : Int); rw [arrV_size]; omega)
    (fun vm₁ _ i hi => by
      have e : (vp_cell (G.2.2.1 2) (n0, .inr (.inl (L a)))).slots.getD (sp.toNatClampNeg + i) .null = .long (L a (sp.toNatClampNeg + i)) := by
        show (arrV _ n0 (fun j => .long (L a j))).slots.getD _ _ = _
        rw [Array.getD_eq_getD_getElem?, arrV_read _ _ (by omega)]
        rfl
      refine ⟨?_, ?_⟩
      · rw [e]
        rfl
      · rw [e]
        exact trivial)
    (g := F0 m pc LS (.int c0 :: .int dp :: .ref b :: .int sp :: .ref a :: st)) rfl (by rw [hml]; exact h5.1) (rest := st) rfl (by rw [hb]; exact hd) (by omega) (by show 2 * 0 + _ + _ ≤ _; omega)
  have e1 : copied (vp_cell (G.2.2.1 2) (n0, .inr (.inl (L a)))) (vp_cell (G.2.2.1 2) (n1, .inr (.inl (L b)))) sp dp c0 = vp_cell (G.2.2.1 2) (n1, .inr (.inl (va_cpy (L a) (L b) sp.toNatClampNeg dp.toNatClampNeg c0.toNatClampNeg))) := va_copied (fun z => .long z) _ _ (L a) (L b) g5
  rw [e1] at X' step
  have hl : b < H.size := (Array.getElem?_eq_some_iff.mp hc1).1
  have hheap : ((T.setVm vm').setCell b (vp_cell (G.2.2.1 2) (n1, .inr (.inl (va_cpy (L a) (L b) sp.toNatClampNeg dp.toNatClampNeg c0.toNatClampNeg))))).heap = H.setIfInBounds b (vp_cell (G.2.2.1 2) (n1, .inr (.inl (va_cpy (L a) (L b) sp.toNatClampNeg dp.toNatClampNeg c0.toNatClampNeg)))) := by rw [← hT]; rfl
  have oq : ∀ q : Nat, q ≠ b → (H.setIfInBounds b (vp_cell (G.2.2.1 2) (n1, .inr (.inl (va_cpy (L a) (L b) sp.toNatClampNeg dp.toNatClampNeg c0.toNatClampNeg)))))[q]? = H[q]? := fun q hq => by simp [Array.getElem?_setIfInBounds, Ne.symm hq]
  obtain ⟨t, a1, b1⟩ := kk _ _ cells slots LS h1 h2 (h3.putL (g := va_cpy (L a) (L b) sp.toNatClampNeg dp.toNatClampNeg c0.toNatClampNeg) g1 (by simp) oq (show (H.setIfInBounds b _)[b]? = some _ by rw [Array.getElem?_setIfInBounds, if_pos rfl, if_pos hl]; rfl)) ⟨by simp; exact h4.1, fun q k1 k2 => by
      rw [oq q (fun e => k2 (by rw [e]; exact hA))]
      exact h4.2.1 q k1 k2, fun q hq => by
      rcases List.mem_append.mp hq with h | h
      · exact h4.2.2 q h
      · obtain ⟨z, -, hz⟩ := List.mem_map.mp h
        rw [← hz]
        exact hA⟩ h5 _ hheap X'
  exact ⟨t, step t a1, b1⟩

/-! statics: the table ABOVE -/
theorem j_getAB (F : MF G X own cc nL d ret nm) {ix : Nat} (hw : Cond.fieldLink own ix "MeltHours" "ABOVE" "[I" ∈ lw_good) (hd : decode cc pc = .ok (.getstatic ix, 3)) (kk : J G X Q nL sh I L n e es (pc + 3) ls (.ref G.2.2.2.2.2.2.1 :: st)) : J G X Q nL sh I L n e es pc ls st := by
  obtain ⟨p, l, e', R, s, m, args, below, meth, c⟩ := X
  obtain ⟨hx, hb, hml, hown, hts, hr, hlocks, hnm, hK, hq0, hq1, hRf, hRl⟩ := F
  intro H locs cells slots LS h1 h2 h3 h4 h5
  have hZ := hK.2.2.2.2.2.2.1
  obtain ⟨cf, kf, fi, f, a, cell, z1, z2, z3, z4, z5, z6, z7, z8⟩ := hZ
  exact W.gets hx hb hown (hts _ hw) z1 z2 z3 z4 (by rw [h3.2.2.1 a (Array.getElem?_eq_some_iff.mp z5).1]; exact z5) (fun e => by rw [e] at z6; cases z6) z7 rfl hd (kk H locs cells slots LS h1 h2 h3 h4 h5)
theorem j_ldAB (F : MF G X own cc nL d ret nm) {i x : Int32} (hg : abv i = some x) (hd : decode cc pc = .ok (.iaload, 1)) (kk : J G X Q nL sh I L n e es (pc + 1) ls (.int x :: st)) : J G X Q nL sh I L n e es pc ls (.int i :: .ref G.2.2.2.2.2.2.1 :: st) := by
  obtain ⟨p, l, e', R, s, m, args, below, meth, c⟩ := X
  obtain ⟨hx, hb, hml, hown, hts, hr, hlocks, hnm, hK, hq0, hq1, hRf, hRl⟩ := F
  intro H locs cells slots LS h1 h2 h3 h4 h5
  obtain ⟨g1, g2⟩ := abv_obt hg
  obtain ⟨cell, z1, z2, z3, z4, z5, z6, z7⟩ := hK.2.2.2.2.2.2.2.1
  have hlt : i.toNatClampNeg < 7 := Nat.not_le.mp fun q => g1 (Or.inr q)
  have hin' : ¬ (i < 0 ∨ cell.slots.size ≤ i.toNatClampNeg) := by
    intro q
    rcases q with q | q
    · exact g1 (Or.inl q)
    · omega
  exact W.iald (v := .int x) hx hb (by rw [h3.2.2.1 _ (Array.getElem?_eq_some_iff.mp z1).1]; exact z1) z2 z3 hin' (by rw [z6 _ hlt, ← g2]) rfl rfl hd (kk H locs cells slots LS h1 h2 h3 h4 h5)
/-! calls -/
theorem j_callV (F : MF G X own cc nL d ret nm) {ix cnt d' nL' ci b e1 es1 e0 es0 : Nat} {y : MethodName} {cc' : ByteArray} {ret' : Option FieldType} {As st0 : List Value} {v : Option Value} {sh' : SH} {I' : IH} {L' : LH} {n' : Nat} (cl : CLV own ix y cnt) (hcode : Cond.code y cc' nL' ret' ∈ lw_good) (hC : (vwCl[ci]?).map (·.1) = some y.cls) (hrc : isO sh ci b) (hct : Ct G y cc' nL' ret' d' (.ref b :: As) sh I L n v sh' I' L' n' e0 es0) (hdk : dok d' nL' d = true) (hn : As.length = cnt) (hs0 : st0 = As.reverse ++ .ref b :: st) (hst : Nat.ble ((st.map fun v => v.category).sum) 8 = true) (he : e = e0 + e1) (hes : es = es0 + es1) (hd : decode cc pc = .ok (.invokevirtual ix, 3)) (kk : J G X Q nL sh' I' L' n' e1 es1 (pc + 3) ls (v.toList ++ st)) : J G X Q nL sh I L n e es pc ls st0 := by
  obtain ⟨p, l, e', R, s, m, args, below, meth, c⟩ := X
  obtain ⟨hx, hb, hml, hown, hts, hr, hlocks, hnm, hK, hq0, hq1, hRf, hRl⟩ := F
  intro H locs cells slots LS h1 h2 h3 h4 h5
  obtain ⟨w1, w2, w3, w4, w5⟩ := cl
  have hf := dok_fr hdk
  obtain ⟨fk, o1⟩ := hrc
  obtain ⟨r, o2, cell, o3, o4, o5, -⟩ := (h3.2.2.2 b _ o1).2
  rw [o2] at hC
  have hcl : r.1 = y.cls := Option.some.inj hC
  have hfc := (hK.1.1 ci r o2).2.1
  refine run_W (va_runV (C := y.cls) (As := As) (rest := st) ⟨hx, hb, hml, hown, hts⟩ (hct l) ⟨⟨rfl, rfl, by rw [hRf]; exact hf.1, by rw [hRl]; exact hf.2, pay_in hts (goodU hcode), List.mem_cons_self, hts _ hcode, hts _ w4, w5.1, cwd_len w5, hts _ w1⟩, hts _ w2, hts _ w3⟩ ⟨PcT.blind, ⟨cell, o3, by rw [o5]; rfl, by rw [o4, ← hcl]; exact hfc⟩, preT (As := .ref b :: As) h3 hK⟩ rfl hn h5.1 hs0 (lv_room (Nat.le_of_ble_eq_true hst)) hd ⟨by omega, by omega⟩) h4 (fun H1 locs1 k3 k4 => ?_)
  exact kk H1 locs1 (cells + e0) (slots + es0) LS (by omega) (by omega) k3 k4 h5
theorem j_callS (F : MF G X own cc nL d ret nm) {ix cnt d' nL' e1 es1 e0 es0 : Nat} {y : MethodName} {cc' : ByteArray} {ret' : Option FieldType} {As st0 : List Value} {v : Option Value} {sh' : SH} {I' : IH} {L' : LH} {n' : Nat} (cl : CLS own ix y cnt) (hcode : Cond.code y cc' nL' ret' ∈ lw_good) (hct : Ct G y cc' nL' ret' d' As sh I L n v sh' I' L' n' e0 es0) (hdk : dok d' nL' d = true) (hn : As.length = cnt) (hs0 : st0 = As.reverse ++ st) (hst : Nat.ble ((st.map fun v => v.category).sum) 8 = true) (he : e = e0 + e1) (hes : es = es0 + es1) (hd : decode cc pc = .ok (.invokestatic ix, 3)) (kk : J G X Q nL sh' I' L' n' e1 es1 (pc + 3) ls (v.toList ++ st)) : J G X Q nL sh I L n e es pc ls st0 := by
  obtain ⟨p, l, e', R, s, m, args, below, meth, c⟩ := X
  obtain ⟨hx, hb, hml, hown, hts, hr, hlocks, hnm, hK, hq0, hq1, hRf, hRl⟩ := F
  intro H locs cells slots LS h1 h2 h3 h4 h5
  obtain ⟨w1, w2, w4, w5⟩ := cl
  have hf := dok_fr hdk
  refine run_W (va_runS (As := As) (rest := st) ⟨hx, hb, hml, hown, hts⟩ (hct l) ⟨⟨rfl, rfl, by rw [hRf]; exact hf.1, by rw [hRl]; exact hf.2, pay_in hts (goodU hcode), List.mem_cons_self, hts _ hcode, hts _ w4, w5.1, cwd_len w5, hts _ w1⟩, hts _ w2⟩ ⟨PcT.blind, preT h3 hK⟩ rfl hn h5.1 hs0 (lv_room (Nat.le_of_ble_eq_true hst)) hd ⟨by omega, by omega⟩) h4 (fun H1 locs1 k3 k4 => ?_)
  exact kk H1 locs1 (cells + e0) (slots + es0) LS (by omega) (by omega) k3 k4 h5
theorem j_callSN (F : MF G X own cc nL d ret nm) {ix cnt d' nL' e1 es1 e0 es0 : Nat} {y : MethodName} {cc' : ByteArray} {ret' : Option FieldType} {As st0 : List Value} {v : Option Value} {sh' : SH} {I' : IH} {L' : LH} {n' : Nat} (cl : CLSN own ix y cnt) (hcode : Cond.code y cc' nL' ret' ∈ lw_good) (hct : Ct G y cc' nL' ret' d' As sh I L n v sh' I' L' n' e0 es0) (hdk : dok d' nL' d = true) (hn : As.length = cnt) (hs0 : st0 = As.reverse ++ st) (hst : Nat.ble ((st.map fun v => v.category).sum) 8 = true) (he : e = e0 + e1) (hes : es = es0 + es1) (hd : decode cc pc = .ok (.invokestatic ix, 3)) (kk : J G X Q nL sh' I' L' n' e1 es1 (pc + 3) ls (v.toList ++ st)) : J G X Q nL sh I L n e es pc ls st0 := by
  obtain ⟨p, l, e', R, s, m, args, below, meth, c⟩ := X
  obtain ⟨hx, hb, hml, hown, hts, hr, hlocks, hnm, hK, hq0, hq1, hRf, hRl⟩ := F
  intro H locs cells slots LS h1 h2 h3 h4 h5
  obtain ⟨w1, w2, w4, w5⟩ := cl
  have hf := dok_fr hdk
  refine run_W (va_runSN (host := RX6) (As := As) (rest := st) ⟨hx, hb, hml, hown, hts⟩ (hct l) ⟨⟨⟨rfl, rfl, by rw [hRf]; exact hf.1, by rw [hRl]; exact hf.2, pay_in hts (goodU hcode), List.mem_cons_self⟩, hts _ hcode, hts _ w4, w5.1, cwd_len w5, va_Nw.use rfl (hK.2.2.2.1 _ w1)⟩, hts _ w2, trivial⟩ ⟨PcT.blind, preT h3 hK⟩ rfl hn h5.1 hs0 (lv_room (Nat.le_of_ble_eq_true hst)) hd ⟨by omega, by omega⟩) h4 (fun H1 locs1 k3 k4 => ?_)
  exact kk H1 locs1 (cells + e0) (slots + es0) LS (by omega) (by omega) k3 k4 h5
theorem j_callI (F : MF G X own cc nL d ret nm) {ix cnt d' nL' b e1 es1 e0 es0 : Nat} {y : MethodName} {cc' : ByteArray} {As st0 : List Value} {sh' : SH} {I' : IH} {L' : LH} {n' : Nat} (cl : CLI own ix y cnt) (hcode : Cond.code y cc' nL' none ∈ lw_good) (hct : Ct G y cc' nL' none d' (.ref b :: As) sh I L n none sh' I' L' n' e0 es0) (hdk : dok d' nL' d = true) (hn : As.length = cnt) (hs0 : st0 = As.reverse ++ .ref b :: st) (hst : Nat.ble ((st.map fun v => v.category).sum) 8 = true) (he : e = e0 + e1) (hes : es = es0 + es1) (hd : decode cc pc = .ok (.invokespecial ix, 3)) (kk : J G X Q nL sh' I' L' n' e1 es1 (pc + 3) ls st) : J G X Q nL sh I L n e es pc ls st0 := by
  obtain ⟨p, l, e', R, s, m, args, below, meth, c⟩ := X
  obtain ⟨hx, hb, hml, hown, hts, hr, hlocks, hnm, hK, hq0, hq1, hRf, hRl⟩ := F
  intro H locs cells slots LS h1 h2 h3 h4 h5
  obtain ⟨w1, w2, w4, w5, w6⟩ := cl
  have hf := dok_fr hdk
  refine run_W (v := none) (va_runI (As := As) (rest := st) ⟨hx, hb, hml, hown, hts⟩ (hct l) ⟨⟨rfl, rfl, by rw [hRf]; exact hf.1, by rw [hRl]; exact hf.2, pay_in hts (goodU hcode), List.mem_cons_self, hts _ hcode, hts _ w4, w5.1, cwd_len w5, hts _ w1⟩, w6, hts _ w2⟩ ⟨PcT.blind, preT (As := .ref b :: As) h3 hK⟩ rfl hn h5.1 hs0 (lv_room (Nat.le_of_ble_eq_true hst)) hd ⟨by omega, by omega⟩) h4 (fun H1 locs1 k3 k4 => ?_)
  exact kk H1 locs1 (cells + e0) (slots + es0) LS (by omega) (by omega) k3 k4 h5
theorem j_callIN (F : MF G X own cc nL d ret nm) {ix cnt d' nL' b e1 es1 e0 es0 : Nat} {y : MethodName} {cc' : ByteArray} {As st0 : List Value} {sh' : SH} {I' : IH} {L' : LH} {n' : Nat} (cl : CLIN own ix y cnt) (hcode : Cond.code y cc' nL' none ∈ lw_good) (hct : Ct G y cc' nL' none d' (.ref b :: As) sh I L n none sh' I' L' n' e0 es0) (hdk : dok d' nL' d = true) (hn : As.length = cnt) (hs0 : st0 = As.reverse ++ .ref b :: st) (hst : Nat.ble ((st.map fun v => v.category).sum) 8 = true) (he : e = e0 + e1) (hes : es = es0 + es1) (hd : decode cc pc = .ok (.invokespecial ix, 3)) (kk : J G X Q nL sh' I' L' n' e1 es1 (pc + 3) ls st) : J G X Q nL sh I L n e es pc ls st0 := by
  obtain ⟨p, l, e', R, s, m, args, below, meth, c⟩ := X
  obtain ⟨hx, hb, hml, hown, hts, hr, hlocks, hnm, hK, hq0, hq1, hRf, hRl⟩ := F
  intro H locs cells slots LS h1 h2 h3 h4 h5
  obtain ⟨w1, w2, w4, w5, w6⟩ := cl
  have hf := dok_fr hdk
  refine run_W (v := none) (va_runIN (host := RX6) (As := As) (rest := st) ⟨hx, hb, hml, hown, hts⟩ (hct l) ⟨⟨⟨rfl, rfl, by rw [hRf]; exact hf.1, by rw [hRl]; exact hf.2, pay_in hts (goodU hcode), List.mem_cons_self⟩, hts _ hcode, hts _ w4, w5.1, cwd_len w5, va_Nw.use rfl (hK.2.2.2.1 _ w1)⟩, w6, hts _ w2⟩ ⟨PcT.blind, preT (As := .ref b :: As) h3 hK⟩ rfl hn h5.1 hs0 (lv_room (Nat.le_of_ble_eq_true hst)) hd ⟨by omega, by omega⟩) h4 (fun H1 locs1 k3 k4 => ?_)
  exact kk H1 locs1 (cells + e0) (slots + es0) LS (by omega) (by omega) k3 k4 h5
theorem j_objInit (F : MF G X own cc nL d ret nm) {ix a : Nat} (hw : Cond.methodLink own ix objectInit ∈ lw_good) (hst : Nat.ble ((st.map fun v => v.category).sum) 8 = true) (hdd : Nat.ble 1 d = true) (hd : decode cc pc = .ok (.invokespecial ix, 3)) (kk : J G X Q nL sh I L n e es (pc + 3) ls st) : J G X Q nL sh I L n e es pc ls (.ref a :: st) := by
  obtain ⟨p, l, e', R, s, m, args, below, meth, c⟩ := X
  obtain ⟨hx, hb, hml, hown, hts, hr, hlocks, hnm, hK, hq0, hq1, hRf, hRl⟩ := F
  intro H locs cells slots LS h1 h2 h3 h4 h5
  have hst' := Nat.le_of_ble_eq_true hst
  have hdd' := Nat.le_of_ble_eq_true hdd
  exact W.objInit hx hb hown (hts _ hw) (hts _ oiw1) (hts _ oiw2) rfl (by rw [hml]; exact h5.1) rfl hd (by omega) (by show 2 * 0 + _ + 12 ≤ _; omega) (kk H locs cells slots LS h1 h2 h3 h4 h5)
/-! returns -/
theorem j_iret (F : MF G X own cc nL d (some .int) nm) {v : Int32} (hd : decode cc pc = .ok (.ireturn, 1)) : J G X (QE G X (some (.int v)) sh I L n) nL sh I L n 0 0 pc ls [.int v] := by
  obtain ⟨p, l, e', R, s, m, args, below, meth, c⟩ := X
  obtain ⟨hx, hb, hml, hown, hts, hr, hlocks, hnm, hK, hq0, hq1, hRf, hRl⟩ := F
  intro H locs cells slots LS h1 h2 h3 h4 h5
  have e1 : cells = R.cells := by omega
  have e2 : slots = R.slots := by omega
  subst e1
  subst e2
  exact W.iret hx hb hr (fun t ht hW => ⟨rfl, by rw [ht]; exact h3, h4.F ht⟩) h4.2.2 hd hlocks
theorem j_zret (F : MF G X own cc nL d (some .boolean) nm) {v : Int32} (hz : v = 0 ∨ v = 1) (hd : decode cc pc = .ok (.ireturn, 1)) : J G X (QE G X (some (.int v)) sh I L n) nL sh I L n 0 0 pc ls [.int v] := by
  obtain ⟨p, l, e', R, s, m, args, below, meth, c⟩ := X
  obtain ⟨hx, hb, hml, hown, hts, hr, hlocks, hnm, hK, hq0, hq1, hRf, hRl⟩ := F
  intro H locs cells slots LS h1 h2 h3 h4 h5
  have e1 : cells = R.cells := by omega
  have e2 : slots = R.slots := by omega
  subst e1
  subst e2
  exact W.zret hx hb hr (narrow_z hz) (fun t ht hW => ⟨rfl, by rw [ht]; exact h3, h4.F ht⟩) h4.2.2 hd hlocks
theorem j_nret (F : MF G X own cc nL d ret nm) {v : Int32} {ty : FieldType} (hret : ret = some ty) (hz : narrow ty (.int v) = .int v) (hd : decode cc pc = .ok (.ireturn, 1)) : J G X (QE G X (some (.int v)) sh I L n) nL sh I L n 0 0 pc ls [.int v] := by
  obtain ⟨p, l, e', R, s, m, args, below, meth, c⟩ := X
  obtain ⟨hx, hb, hml, hown, hts, hr, hlocks, hnm, hK, hq0, hq1, hRf, hRl⟩ := F
  intro H locs cells slots LS h1 h2 h3 h4 h5
  have e1 : cells = R.cells := by omega
  have e2 : slots = R.slots := by omega
  subst e1
  subst e2
  subst hret
  exact W.zret hx hb hr hz (fun t ht hW => ⟨rfl, by rw [ht]; exact h3, h4.F ht⟩) h4.2.2 hd hlocks
theorem j_lret (F : MF G X own cc nL d (some .long) nm) {v : Int64} (hd : decode cc pc = .ok (.lreturn, 1)) : J G X (QE G X (some (.long v)) sh I L n) nL sh I L n 0 0 pc ls [.long v] := by
  obtain ⟨p, l, e', R, s, m, args, below, meth, c⟩ := X
  obtain ⟨hx, hb, hml, hown, hts, hr, hlocks, hnm, hK, hq0, hq1, hRf, hRl⟩ := F
  intro H locs cells slots LS h1 h2 h3 h4 h5
  have e1 : cells = R.cells := by omega
  have e2 : slots = R.slots := by omega
  subst e1
  subst e2
  exact W.lret hx hb hr (fun t ht hW => ⟨rfl, by rw [ht]; exact h3, h4.F ht⟩) h4.2.2 hd hlocks
theorem j_vret (F : MF G X own cc nL d none nm) (hd : decode cc pc = .ok (.return_, 1)) : J G X (QE G X none sh I L n) nL sh I L n 0 0 pc ls [] := by
  obtain ⟨p, l, e', R, s, m, args, below, meth, c⟩ := X
  obtain ⟨hx, hb, hml, hown, hts, hr, hlocks, hnm, hK, hq0, hq1, hRf, hRl⟩ := F
  intro H locs cells slots LS h1 h2 h3 h4 h5
  have e1 : cells = R.cells := by omega
  have e2 : slots = R.slots := by omega
  subst e1
  subst e2
  exact W.vret hx hb hr (fun t ht hW => ⟨rfl, by rw [ht]; exact h3, h4.F ht⟩) h4.2.2 hd hlocks
theorem j_aret (F : MF G X own cc nL d ret nm) {o : Option Nat} {v : Value} {rt : FieldType} (hret : ret = some rt) (hrt : (∃ n, rt = .object n) ∨ ∃ t, rt = .array t) (hv : v = va_rf o) (hd : decode cc pc = .ok (.areturn, 1)) : J G X (QE G X (some v) sh I L n) nL sh I L n 0 0 pc ls [v] := by
  obtain ⟨p, l, e', R, s, m, args, below, meth, c⟩ := X
  obtain ⟨hx, hb, hml, hown, hts, hr, hlocks, hnm, hK, hq0, hq1, hRf, hRl⟩ := F
  intro H locs cells slots LS h1 h2 h3 h4 h5
  have e1 : cells = R.cells := by omega
  have e2 : slots = R.slots := by omega
  subst e1
  subst e2
  subst hret
  exact W.aret hx hb hr hrt (by subst hv; cases o with | none => exact Or.inl rfl | some a => exact Or.inr ⟨a, rfl⟩) (fun t ht hW => ⟨rfl, by rw [ht]; exact h3, h4.F ht⟩) h4.2.2 hd hlocks
end JC
end
section
/-! ROW OF J: new int[a][c] -/
theorem mr_outer (c : ClassId) (N h0 : Nat) : ∀ i : Nat, Jvm.Free.Multi.outerC c N h0 i = arrV c N (fun j => va_rf (if j < i then some (h0 + 1 + j) else none))
  | 0 => by
    show ({ cls := c, slots := Array.replicate N .null, vm := .none } : Cell) = _
    rw [arrV_new]
    refine congrArg (arrV c N) (funext fun j => ?_)
    simp [va_rf]
  | i + 1 => by
    show (Jvm.Free.Multi.outerC c N h0 i).setSlot i (.ref (h0 + 1 + i)) = _
    rw [mr_outer c N h0 i, arrV_store]
    refine congrArg (arrV c N) (funext fun j => ?_)
    by_cases e : j = i
    · subst e
      simp [updV, va_rf]
    · by_cases h : j < i
      · simp [updV, e, h, Nat.lt_succ_of_lt h]
      · simp [updV, e, h, show ¬ j < i + 1 by omega]
section JM
variable {G : GT} {X : XT} {Q : State → Prop} {nL : Nat} {sh : SH} {I : IH} {L : LH} {n e es pc : Nat} {ls : List (Nat × Value)} {st : List Value}
variable {own : String} {cc : ByteArray} {d : Nat} {ret : Option FieldType} {nm : String}
theorem j_multi (F : MF G X own cc nL d ret nm) {ix e1 es1 : Nat} {a0 c0 : Int32} {sh' : SH} {I' : IH} (hw : Cond.classLink own ix ("[" ++ (FieldType.array .int).toString) ∈ lw_good) (hw2 : Cond.arrayClass .int ∈ lw_good) (hg : nM sh I n a0 c0 = some (sh', I')) (he : e = 1 + a0.toNatClampNeg + e1) (hes : es = a0.toNatClampNeg + a0.toNatClampNeg * c0.toNatClampNeg + es1) (hd : decode cc pc = .ok (.multianewarray ix 2, 4)) (kk : J G X Q nL sh' I' L (n + (1 + a0.toNatClampNeg)) e1 es1 (pc + 4) ls (.ref n :: st)) : J G X Q nL sh I L n e es pc ls (.int c0 :: .int a0 :: st) := by
  obtain ⟨p, l, e', R, s, m, args, below, meth, c⟩ := X
  obtain ⟨hx, hb, hml, hown, hts, hr, hlocks, hnm, hK, hq0, hq1, hRf, hRl⟩ := F
  intro H locs cells slots LS h1 h2 h3 h4 h5
  obtain ⟨⟨⟨g1, g2⟩, g3, g4⟩, g5⟩ := ite_obt hg
  cases g5
  intro T hT Xs
  obtain ⟨vm₁, cA, comp, -, fA, fC, hO, -, X', step⟩ := Xs.multianewarray2F hx hown (hts _ hw) (show (Cond.arrayOver (.array .int)).before args s = true from hK.2.2.1) (hts _ hw2) (g := F0 m pc LS (.int c0 :: .int a0 :: st)) rfl (by rw [hb]; exact hd) rfl g1 g3 (by omega) (by simp [componentBytes]; omega) (by omega) rfl rfl (by omega) (by omega)
  generalize hF : Jvm.Free.Multi.fill (T.setVm vm₁) cA comp a0.toNatClampNeg c0.toNatClampNeg (defaultValue .int) a0.toNatClampNeg = FF at X' step
  have hTh : (T.setVm vm₁).heap = H := hT
  have h9 : H.size = n := h3.1
  obtain ⟨f1, f2, -, -⟩ := Jvm.Free.Multi.fill_facts (T.setVm vm₁) cA comp a0.toNatClampNeg c0.toNatClampNeg (defaultValue .int) a0.toNatClampNeg
  rw [hF, hTh] at f1 f2
  have hold : ∀ x : Nat, x < H.size → FF.heap[x]? = H[x]? := fun x hx => by
    have := Jvm.Free.Multi.fill_old (T.setVm vm₁) cA comp a0.toNatClampNeg c0.toNatClampNeg (defaultValue .int) (a := x) (by rw [hTh]; exact hx) a0.toNatClampNeg
    rw [hF, hTh] at this
    exact this
  have hrow : ∀ j : Nat, j < a0.toNatClampNeg → FF.heap[H.size + 1 + j]? = some (arrV comp c0.toNatClampNeg (fun _ => .int 0)) := fun j hj => by
    have := Jvm.Free.Multi.fill_inner (T.setVm vm₁) cA comp a0.toNatClampNeg c0.toNatClampNeg (defaultValue .int) a0.toNatClampNeg j hj
    rw [hF, hTh] at this
    rw [this]
    exact congrArg some (arrV_new comp c0.toNatClampNeg (.int 0))
  rw [mr_outer] at f2
  have hcA : cA = G.2.2.1 4 := Option.some.inj (fA.symm.trans (hK.1.2 4 (by omega)).2)
  have hco : comp = G.2.2.1 0 := Option.some.inj (fC.symm.trans (hK.1.2 0 (by omega)).2)
  subst hcA
  subst hco
  have hH : HPh G (nMS sh n a0.toNatClampNeg c0.toNatClampNeg) (nMI I n a0.toNatClampNeg) L (n + (1 + a0.toNatClampNeg)) FF.heap := by
    have h8 := h3
    obtain ⟨k1, k2, k3, k4⟩ := h3
    refine ⟨by omega, by omega, fun q hq => by rw [hold q (by omega)]; exact k3 q hq, fun b c' hb => ?_⟩
    unfold nMS at hb
    by_cases e : b = n
    · subst e
      rw [if_pos rfl] at hb
      cases hb
      refine ⟨k2, ?_⟩
      show FF.heap[b]? = some _
      rw [h9] at f2
      rw [f2]
      rfl
    · rw [if_neg e] at hb
      by_cases e2 : n < b ∧ b ≤ n + a0.toNatClampNeg
      · rw [if_pos e2] at hb
        cases hb
        refine ⟨by omega, ?_⟩
        show FF.heap[b]? = some _
        have hr9 := hrow (b - (H.size + 1)) (by omega)
        rw [show H.size + 1 + (b - (H.size + 1)) = b by omega] at hr9
        rw [hr9]
        unfold nMI
        rw [if_pos e2]
        rfl
      · rw [if_neg e2] at hb
        have hI : nMI I n a0.toNatClampNeg b = I b := if_neg e2
        rw [hI]
        exact ⟨(k4 b c' hb).1, (k4 b c' hb).2.kept (hold b (by rw [h9]; exact h8.lt hb))⟩
  obtain ⟨t, a1, b1⟩ := kk FF.heap locs (cells + 1 + a0.toNatClampNeg) (slots + a0.toNatClampNeg + a0.toNatClampNeg * c0.toNatClampNeg) LS (by omega) (by omega) hH (h4.grow (by omega) hold) h5 FF rfl X'
  refine ⟨t, step t ?_, b1⟩
  have e : T.heap.size = n := by rw [hT, h9]
  rw [e]
  exact a1
end JM
end
