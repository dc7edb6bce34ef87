section
/-- a private method of a class that the tables say can be made, by its rows of tables_1 -/
def lw_okq (q : MethodName × Nat) : Prop := (q.1.cls ≠ "java/lang/invoke/MethodHandle" ∧ q.1.cls ≠ "java/lang/invoke/VarHandle") ∧ Cond.instantiable q.1.cls q.2 ∈ tables_1 ∧ Cond.privateMethod q.1 ∈ tables_1 ∧ Cond.instanceMethod q.1 ∈ tables_1
theorem lw_p0 : lw_okq (⟨"MeltHours$Reader", "clause", "()V"⟩, 5) := ⟨⟨by decide +kernel, by decide +kernel⟩, List.mem_of_getElem? (i := 236) (by decide +kernel), List.mem_of_getElem? (i := 269) (by decide +kernel), List.mem_of_getElem? (i := 270) (by decide +kernel)⟩
theorem lw_p1 : lw_okq (⟨"MeltHours$Reader", "word", "()I"⟩, 5) := ⟨⟨by decide +kernel, by decide +kernel⟩, List.mem_of_getElem? (i := 236) (by decide +kernel), List.mem_of_getElem? (i := 273) (by decide +kernel), List.mem_of_getElem? (i := 274) (by decide +kernel)⟩
theorem lw_p2 : lw_okq (⟨"MeltHours$Reader", "passes", "(I)Z"⟩, 5) := ⟨⟨by decide +kernel, by decide +kernel⟩, List.mem_of_getElem? (i := 236) (by decide +kernel), List.mem_of_getElem? (i := 277) (by decide +kernel), List.mem_of_getElem? (i := 278) (by decide +kernel)⟩
theorem lw_p3 : lw_okq (⟨"MeltHours$Reader", "next", "()I"⟩, 5) := ⟨⟨by decide +kernel, by decide +kernel⟩, List.mem_of_getElem? (i := 236) (by decide +kernel), List.mem_of_getElem? (i := 281) (by decide +kernel), List.mem_of_getElem? (i := 282) (by decide +kernel)⟩
theorem lw_p4 : lw_okq (⟨"MeltHours$Reader", "ending", "(Ljava/lang/String;I)I"⟩, 5) := ⟨⟨by decide +kernel, by decide +kernel⟩, List.mem_of_getElem? (i := 236) (by decide +kernel), List.mem_of_getElem? (i := 286) (by decide +kernel), List.mem_of_getElem? (i := 287) (by decide +kernel)⟩
theorem lw_p5 : lw_okq (⟨"MeltHours$Reader", "expect", "(I)V"⟩, 5) := ⟨⟨by decide +kernel, by decide +kernel⟩, List.mem_of_getElem? (i := 236) (by decide +kernel), List.mem_of_getElem? (i := 338) (by decide +kernel), List.mem_of_getElem? (i := 339) (by decide +kernel)⟩
theorem lw_p6 : lw_okq (⟨"MeltHours$Reader", "number", "()I"⟩, 5) := ⟨⟨by decide +kernel, by decide +kernel⟩, List.mem_of_getElem? (i := 236) (by decide +kernel), List.mem_of_getElem? (i := 346) (by decide +kernel), List.mem_of_getElem? (i := 347) (by decide +kernel)⟩
theorem lw_p7 : lw_okq (⟨"MeltHours$Reader", "either", "(I)[Z"⟩, 5) := ⟨⟨by decide +kernel, by decide +kernel⟩, List.mem_of_getElem? (i := 236) (by decide +kernel), List.mem_of_getElem? (i := 351) (by decide +kernel), List.mem_of_getElem? (i := 352) (by decide +kernel)⟩
theorem lw_p8 : lw_okq (⟨"MeltHours$Reader", "both", "(I)[Z"⟩, 5) := ⟨⟨by decide +kernel, by decide +kernel⟩, List.mem_of_getElem? (i := 236) (by decide +kernel), List.mem_of_getElem? (i := 355) (by decide +kernel), List.mem_of_getElem? (i := 356) (by decide +kernel)⟩
theorem lw_p9 : lw_okq (⟨"MeltHours$Reader", "factor", "(I)[Z"⟩, 5) := ⟨⟨by decide +kernel, by decide +kernel⟩, List.mem_of_getElem? (i := 236) (by decide +kernel), List.mem_of_getElem? (i := 359) (by decide +kernel), List.mem_of_getElem? (i := 360) (by decide +kernel)⟩
theorem lw_p10 : lw_okq (⟨"MeltHours$Reader", "oneOf", "(III)I"⟩, 5) := ⟨⟨by decide +kernel, by decide +kernel⟩, List.mem_of_getElem? (i := 236) (by decide +kernel), List.mem_of_getElem? (i := 363) (by decide +kernel), List.mem_of_getElem? (i := 364) (by decide +kernel)⟩
theorem lw_p11 : lw_okq (⟨"MeltHours$Reader", "figure", "(I)I"⟩, 5) := ⟨⟨by decide +kernel, by decide +kernel⟩, List.mem_of_getElem? (i := 236) (by decide +kernel), List.mem_of_getElem? (i := 374) (by decide +kernel), List.mem_of_getElem? (i := 375) (by decide +kernel)⟩
theorem lw_p12 : lw_okq (⟨"MeltHours$Water", "come", "(I[I)V"⟩, 10) := ⟨⟨by decide +kernel, by decide +kernel⟩, List.mem_of_getElem? (i := 97) (by decide +kernel), List.mem_of_getElem? (i := 445) (by decide +kernel), List.mem_of_getElem? (i := 446) (by decide +kernel)⟩
theorem lw_p13 : lw_okq (⟨"MeltHours$Water", "pass", "(I)V"⟩, 10) := ⟨⟨by decide +kernel, by decide +kernel⟩, List.mem_of_getElem? (i := 97) (by decide +kernel), List.mem_of_getElem? (i := 460) (by decide +kernel), List.mem_of_getElem? (i := 461) (by decide +kernel)⟩
theorem lw_p14 : lw_okq (⟨"MeltHours$Water", "takes", "([IIII)I"⟩, 10) := ⟨⟨by decide +kernel, by decide +kernel⟩, List.mem_of_getElem? (i := 97) (by decide +kernel), List.mem_of_getElem? (i := 464) (by decide +kernel), List.mem_of_getElem? (i := 465) (by decide +kernel)⟩
theorem lw_p15 : lw_okq (⟨"MeltHours$Water", "serve", "()I"⟩, 10) := ⟨⟨by decide +kernel, by decide +kernel⟩, List.mem_of_getElem? (i := 97) (by decide +kernel), List.mem_of_getElem? (i := 471) (by decide +kernel), List.mem_of_getElem? (i := 472) (by decide +kernel)⟩
def lw_privs_1 : List (MethodName × Nat) := [(⟨"MeltHours$Reader", "clause", "()V"⟩, 5), (⟨"MeltHours$Reader", "word", "()I"⟩, 5), (⟨"MeltHours$Reader", "passes", "(I)Z"⟩, 5), (⟨"MeltHours$Reader", "next", "()I"⟩, 5), (⟨"MeltHours$Reader", "ending", "(Ljava/lang/String;I)I"⟩, 5), (⟨"MeltHours$Reader", "expect", "(I)V"⟩, 5), (⟨"MeltHours$Reader", "number", "()I"⟩, 5), (⟨"MeltHours$Reader", "either", "(I)[Z"⟩, 5), (⟨"MeltHours$Reader", "both", "(I)[Z"⟩, 5), (⟨"MeltHours$Reader", "factor", "(I)[Z"⟩, 5), (⟨"MeltHours$Reader", "oneOf", "(III)I"⟩, 5), (⟨"MeltHours$Reader", "figure", "(I)I"⟩, 5), (⟨"MeltHours$Water", "come", "(I[I)V"⟩, 10), (⟨"MeltHours$Water", "pass", "(I)V"⟩, 10), (⟨"MeltHours$Water", "takes", "([IIII)I"⟩, 10), (⟨"MeltHours$Water", "serve", "()I"⟩, 10)]
theorem lw_r1 : ∀ q ∈ lw_privs_1, lw_okq q := List.forall_mem_cons.mpr ⟨lw_p0, List.forall_mem_cons.mpr ⟨lw_p1, List.forall_mem_cons.mpr ⟨lw_p2, List.forall_mem_cons.mpr ⟨lw_p3, List.forall_mem_cons.mpr ⟨lw_p4, List.forall_mem_cons.mpr ⟨lw_p5, List.forall_mem_cons.mpr ⟨lw_p6, List.forall_mem_cons.mpr ⟨lw_p7, List.forall_mem_cons.mpr ⟨lw_p8, List.forall_mem_cons.mpr ⟨lw_p9, List.forall_mem_cons.mpr ⟨lw_p10, List.forall_mem_cons.mpr ⟨lw_p11, List.forall_mem_cons.mpr ⟨lw_p12, List.forall_mem_cons.mpr ⟨lw_p13, List.forall_mem_cons.mpr ⟨lw_p14, List.forall_mem_cons.mpr ⟨lw_p15, fun _ h => absurd h List.not_mem_nil⟩⟩⟩⟩⟩⟩⟩⟩⟩⟩⟩⟩⟩⟩⟩⟩
theorem lw_p16 : lw_okq (⟨"MeltHours$Water", "servedBefore", "(I)I"⟩, 10) := ⟨⟨by decide +kernel, by decide +kernel⟩, List.mem_of_getElem? (i := 97) (by decide +kernel), List.mem_of_getElem? (i := 479) (by decide +kernel), List.mem_of_getElem? (i := 480) (by decide +kernel)⟩
theorem lw_p17 : lw_okq (⟨"MeltHours", "underSkies", "(III)I"⟩, 9) := ⟨⟨by decide +kernel, by decide +kernel⟩, List.mem_of_getElem? (i := 18) (by decide +kernel), List.mem_of_getElem? (i := 549) (by decide +kernel), List.mem_of_getElem? (i := 550) (by decide +kernel)⟩
theorem lw_p18 : lw_okq (⟨"MeltHours", "tapeAt", "(I)LMeltHours$Tape;"⟩, 9) := ⟨⟨by decide +kernel, by decide +kernel⟩, List.mem_of_getElem? (i := 18) (by decide +kernel), List.mem_of_getElem? (i := 587) (by decide +kernel), List.mem_of_getElem? (i := 588) (by decide +kernel)⟩
theorem lw_p19 : lw_okq (⟨"MeltHours$Acts", "began", "(I)V"⟩, 5) := ⟨⟨by decide +kernel, by decide +kernel⟩, List.mem_of_getElem? (i := 143) (by decide +kernel), List.mem_of_getElem? (i := 618) (by decide +kernel), List.mem_of_getElem? (i := 619) (by decide +kernel)⟩
theorem lw_p20 : lw_okq (⟨"MeltHoursModel", "in", "(III)Z"⟩, 67) := ⟨⟨by decide +kernel, by decide +kernel⟩, List.mem_of_getElem? (i := 678) (by decide +kernel), List.mem_of_getElem? (i := 890) (by decide +kernel), List.mem_of_getElem? (i := 891) (by decide +kernel)⟩
theorem lw_p21 : lw_okq (⟨"MeltHoursModel", "isGate", "(I)Z"⟩, 67) := ⟨⟨by decide +kernel, by decide +kernel⟩, List.mem_of_getElem? (i := 678) (by decide +kernel), List.mem_of_getElem? (i := 902) (by decide +kernel), List.mem_of_getElem? (i := 903) (by decide +kernel)⟩
theorem lw_p22 : lw_okq (⟨"MeltHoursModel", "goesText", "(I)Z"⟩, 67) := ⟨⟨by decide +kernel, by decide +kernel⟩, List.mem_of_getElem? (i := 678) (by decide +kernel), List.mem_of_getElem? (i := 919) (by decide +kernel), List.mem_of_getElem? (i := 920) (by decide +kernel)⟩
theorem lw_p23 : lw_okq (⟨"MeltHoursModel", "takesClause", "(I)Z"⟩, 67) := ⟨⟨by decide +kernel, by decide +kernel⟩, List.mem_of_getElem? (i := 678) (by decide +kernel), List.mem_of_getElem? (i := 923) (by decide +kernel), List.mem_of_getElem? (i := 924) (by decide +kernel)⟩
theorem lw_p24 : lw_okq (⟨"MeltHoursModel", "takesHead", "(I)Z"⟩, 67) := ⟨⟨by decide +kernel, by decide +kernel⟩, List.mem_of_getElem? (i := 678) (by decide +kernel), List.mem_of_getElem? (i := 927) (by decide +kernel), List.mem_of_getElem? (i := 928) (by decide +kernel)⟩
theorem lw_p25 : lw_okq (⟨"MeltHoursModel", "second", "()I"⟩, 67) := ⟨⟨by decide +kernel, by decide +kernel⟩, List.mem_of_getElem? (i := 678) (by decide +kernel), List.mem_of_getElem? (i := 931) (by decide +kernel), List.mem_of_getElem? (i := 932) (by decide +kernel)⟩
theorem lw_p26 : lw_okq (⟨"MeltHoursModel", "next", "()I"⟩, 67) := ⟨⟨by decide +kernel, by decide +kernel⟩, List.mem_of_getElem? (i := 678) (by decide +kernel), List.mem_of_getElem? (i := 935) (by decide +kernel), List.mem_of_getElem? (i := 936) (by decide +kernel)⟩
theorem lw_p27 : lw_okq (⟨"MeltHoursModel", "takesWord", "(II)Z"⟩, 67) := ⟨⟨by decide +kernel, by decide +kernel⟩, List.mem_of_getElem? (i := 678) (by decide +kernel), List.mem_of_getElem? (i := 940) (by decide +kernel), List.mem_of_getElem? (i := 941) (by decide +kernel)⟩
theorem lw_p28 : lw_okq (⟨"MeltHoursModel", "takesSign", "(I)Z"⟩, 67) := ⟨⟨by decide +kernel, by decide +kernel⟩, List.mem_of_getElem? (i := 678) (by decide +kernel), List.mem_of_getElem? (i := 944) (by decide +kernel), List.mem_of_getElem? (i := 945) (by decide +kernel)⟩
theorem lw_p29 : lw_okq (⟨"MeltHoursModel", "takesNumber", "()Z"⟩, 67) := ⟨⟨by decide +kernel, by decide +kernel⟩, List.mem_of_getElem? (i := 678) (by decide +kernel), List.mem_of_getElem? (i := 951) (by decide +kernel), List.mem_of_getElem? (i := 952) (by decide +kernel)⟩
theorem lw_p30 : lw_okq (⟨"MeltHoursModel", "isDigit", "()Z"⟩, 67) := ⟨⟨by decide +kernel, by decide +kernel⟩, List.mem_of_getElem? (i := 678) (by decide +kernel), List.mem_of_getElem? (i := 955) (by decide +kernel), List.mem_of_getElem? (i := 956) (by decide +kernel)⟩
theorem lw_p31 : lw_okq (⟨"MeltHoursModel", "takesE", "(I)Z"⟩, 67) := ⟨⟨by decide +kernel, by decide +kernel⟩, List.mem_of_getElem? (i := 678) (by decide +kernel), List.mem_of_getElem? (i := 959) (by decide +kernel), List.mem_of_getElem? (i := 960) (by decide +kernel)⟩
def lw_privs_2 : List (MethodName × Nat) := [(⟨"MeltHours$Water", "servedBefore", "(I)I"⟩, 10), (⟨"MeltHours", "underSkies", "(III)I"⟩, 9), (⟨"MeltHours", "tapeAt", "(I)LMeltHours$Tape;"⟩, 9), (⟨"MeltHours$Acts", "began", "(I)V"⟩, 5), (⟨"MeltHoursModel", "in", "(III)Z"⟩, 67), (⟨"MeltHoursModel", "isGate", "(I)Z"⟩, 67), (⟨"MeltHoursModel", "goesText", "(I)Z"⟩, 67), (⟨"MeltHoursModel", "takesClause", "(I)Z"⟩, 67), (⟨"MeltHoursModel", "takesHead", "(I)Z"⟩, 67), (⟨"MeltHoursModel", "second", "()I"⟩, 67), (⟨"MeltHoursModel", "next", "()I"⟩, 67), (⟨"MeltHoursModel", "takesWord", "(II)Z"⟩, 67), (⟨"MeltHoursModel", "takesSign", "(I)Z"⟩, 67), (⟨"MeltHoursModel", "takesNumber", "()Z"⟩, 67), (⟨"MeltHoursModel", "isDigit", "()Z"⟩, 67), (⟨"MeltHoursModel", "takesE", "(I)Z"⟩, 67)]
theorem lw_r2 : ∀ q ∈ lw_privs_2, lw_okq q := List.forall_mem_cons.mpr ⟨lw_p16, List.forall_mem_cons.mpr ⟨lw_p17, List.forall_mem_cons.mpr ⟨lw_p18, List.forall_mem_cons.mpr ⟨lw_p19, List.forall_mem_cons.mpr ⟨lw_p20, List.forall_mem_cons.mpr ⟨lw_p21, List.forall_mem_cons.mpr ⟨lw_p22, List.forall_mem_cons.mpr ⟨lw_p23, List.forall_mem_cons.mpr ⟨lw_p24, List.forall_mem_cons.mpr ⟨lw_p25, List.forall_mem_cons.mpr ⟨lw_p26, List.forall_mem_cons.mpr ⟨lw_p27, List.forall_mem_cons.mpr ⟨lw_p28, List.forall_mem_cons.mpr ⟨lw_p29, List.forall_mem_cons.mpr ⟨lw_p30, List.forall_mem_cons.mpr ⟨lw_p31, fun _ h => absurd h List.not_mem_nil⟩⟩⟩⟩⟩⟩⟩⟩⟩⟩⟩⟩⟩⟩⟩⟩
theorem lw_p32 : lw_okq (⟨"MeltHoursModel", "takesTest", "()Z"⟩, 67) := ⟨⟨by decide +kernel, by decide +kernel⟩, List.mem_of_getElem? (i := 678) (by decide +kernel), List.mem_of_getElem? (i := 963) (by decide +kernel), List.mem_of_getElem? (i := 964) (by decide +kernel)⟩
theorem lw_p33 : lw_okq (⟨"MeltHoursModel", "put", "(I)V"⟩, 67) := ⟨⟨by decide +kernel, by decide +kernel⟩, List.mem_of_getElem? (i := 678) (by decide +kernel), List.mem_of_getElem? (i := 967) (by decide +kernel), List.mem_of_getElem? (i := 968) (by decide +kernel)⟩
theorem lw_p34 : lw_okq (⟨"MeltHoursModel", "whole", "()V"⟩, 67) := ⟨⟨by decide +kernel, by decide +kernel⟩, List.mem_of_getElem? (i := 678) (by decide +kernel), List.mem_of_getElem? (i := 971) (by decide +kernel), List.mem_of_getElem? (i := 972) (by decide +kernel)⟩
theorem lw_p35 : lw_okq (⟨"MeltHoursModel", "settle", "(I)V"⟩, 67) := ⟨⟨by decide +kernel, by decide +kernel⟩, List.mem_of_getElem? (i := 678) (by decide +kernel), List.mem_of_getElem? (i := 975) (by decide +kernel), List.mem_of_getElem? (i := 976) (by decide +kernel)⟩
theorem lw_p36 : lw_okq (⟨"MeltHoursModel", "last", "(III)I"⟩, 67) := ⟨⟨by decide +kernel, by decide +kernel⟩, List.mem_of_getElem? (i := 678) (by decide +kernel), List.mem_of_getElem? (i := 983) (by decide +kernel), List.mem_of_getElem? (i := 984) (by decide +kernel)⟩
theorem lw_p37 : lw_okq (⟨"MeltHoursModel", "first", "()I"⟩, 67) := ⟨⟨by decide +kernel, by decide +kernel⟩, List.mem_of_getElem? (i := 678) (by decide +kernel), List.mem_of_getElem? (i := 987) (by decide +kernel), List.mem_of_getElem? (i := 988) (by decide +kernel)⟩
theorem lw_p38 : lw_okq (⟨"MeltHoursModel", "behind", "()I"⟩, 67) := ⟨⟨by decide +kernel, by decide +kernel⟩, List.mem_of_getElem? (i := 678) (by decide +kernel), List.mem_of_getElem? (i := 991) (by decide +kernel), List.mem_of_getElem? (i := 992) (by decide +kernel)⟩
theorem lw_p39 : lw_okq (⟨"MeltHoursModel", "min", "(II)I"⟩, 67) := ⟨⟨by decide +kernel, by decide +kernel⟩, List.mem_of_getElem? (i := 678) (by decide +kernel), List.mem_of_getElem? (i := 995) (by decide +kernel), List.mem_of_getElem? (i := 996) (by decide +kernel)⟩
theorem lw_p40 : lw_okq (⟨"MeltHoursModel", "isHour", "(I)Z"⟩, 67) := ⟨⟨by decide +kernel, by decide +kernel⟩, List.mem_of_getElem? (i := 678) (by decide +kernel), List.mem_of_getElem? (i := 1007) (by decide +kernel), List.mem_of_getElem? (i := 1008) (by decide +kernel)⟩
theorem lw_p41 : lw_okq (⟨"MeltHoursModel", "meltOf", "(II)I"⟩, 67) := ⟨⟨by decide +kernel, by decide +kernel⟩, List.mem_of_getElem? (i := 678) (by decide +kernel), List.mem_of_getElem? (i := 1011) (by decide +kernel), List.mem_of_getElem? (i := 1012) (by decide +kernel)⟩
theorem lw_p42 : lw_okq (⟨"MeltHoursModel", "holds", "(III)Z"⟩, 67) := ⟨⟨by decide +kernel, by decide +kernel⟩, List.mem_of_getElem? (i := 678) (by decide +kernel), List.mem_of_getElem? (i := 1015) (by decide +kernel), List.mem_of_getElem? (i := 1016) (by decide +kernel)⟩
theorem lw_p43 : lw_okq (⟨"MeltHoursModel", "isPlace", "(I)Z"⟩, 67) := ⟨⟨by decide +kernel, by decide +kernel⟩, List.mem_of_getElem? (i := 678) (by decide +kernel), List.mem_of_getElem? (i := 1023) (by decide +kernel), List.mem_of_getElem? (i := 1024) (by decide +kernel)⟩
theorem lw_p44 : lw_okq (⟨"MeltHoursModel", "asIs", "()V"⟩, 67) := ⟨⟨by decide +kernel, by decide +kernel⟩, List.mem_of_getElem? (i := 678) (by decide +kernel), List.mem_of_getElem? (i := 1027) (by decide +kernel), List.mem_of_getElem? (i := 1028) (by decide +kernel)⟩
theorem lw_p45 : lw_okq (⟨"MeltHoursModel", "go", "()V"⟩, 67) := ⟨⟨by decide +kernel, by decide +kernel⟩, List.mem_of_getElem? (i := 678) (by decide +kernel), List.mem_of_getElem? (i := 1032) (by decide +kernel), List.mem_of_getElem? (i := 1033) (by decide +kernel)⟩
theorem lw_p46 : lw_okq (⟨"MeltHoursModel", "sets", "(III)V"⟩, 67) := ⟨⟨by decide +kernel, by decide +kernel⟩, List.mem_of_getElem? (i := 678) (by decide +kernel), List.mem_of_getElem? (i := 1036) (by decide +kernel), List.mem_of_getElem? (i := 1037) (by decide +kernel)⟩
theorem lw_p47 : lw_okq (⟨"MeltHoursModel", "less", "(II)I"⟩, 67) := ⟨⟨by decide +kernel, by decide +kernel⟩, List.mem_of_getElem? (i := 678) (by decide +kernel), List.mem_of_getElem? (i := 1040) (by decide +kernel), List.mem_of_getElem? (i := 1041) (by decide +kernel)⟩
def lw_privs_3 : List (MethodName × Nat) := [(⟨"MeltHoursModel", "takesTest", "()Z"⟩, 67), (⟨"MeltHoursModel", "put", "(I)V"⟩, 67), (⟨"MeltHoursModel", "whole", "()V"⟩, 67), (⟨"MeltHoursModel", "settle", "(I)V"⟩, 67), (⟨"MeltHoursModel", "last", "(III)I"⟩, 67), (⟨"MeltHoursModel", "first", "()I"⟩, 67), (⟨"MeltHoursModel", "behind", "()I"⟩, 67), (⟨"MeltHoursModel", "min", "(II)I"⟩, 67), (⟨"MeltHoursModel", "isHour", "(I)Z"⟩, 67), (⟨"MeltHoursModel", "meltOf", "(II)I"⟩, 67), (⟨"MeltHoursModel", "holds", "(III)Z"⟩, 67), (⟨"MeltHoursModel", "isPlace", "(I)Z"⟩, 67), (⟨"MeltHoursModel", "asIs", "()V"⟩, 67), (⟨"MeltHoursModel", "go", "()V"⟩, 67), (⟨"MeltHoursModel", "sets", "(III)V"⟩, 67), (⟨"MeltHoursModel", "less", "(II)I"⟩, 67)]
theorem lw_r3 : ∀ q ∈ lw_privs_3, lw_okq q := List.forall_mem_cons.mpr ⟨lw_p32, List.forall_mem_cons.mpr ⟨lw_p33, List.forall_mem_cons.mpr ⟨lw_p34, List.forall_mem_cons.mpr ⟨lw_p35, List.forall_mem_cons.mpr ⟨lw_p36, List.forall_mem_cons.mpr ⟨lw_p37, List.forall_mem_cons.mpr ⟨lw_p38, List.forall_mem_cons.mpr ⟨lw_p39, List.forall_mem_cons.mpr ⟨lw_p40, List.forall_mem_cons.mpr ⟨lw_p41, List.forall_mem_cons.mpr ⟨lw_p42, List.forall_mem_cons.mpr ⟨lw_p43, List.forall_mem_cons.mpr ⟨lw_p44, List.forall_mem_cons.mpr ⟨lw_p45, List.forall_mem_cons.mpr ⟨lw_p46, List.forall_mem_cons.mpr ⟨lw_p47, fun _ h => absurd h List.not_mem_nil⟩⟩⟩⟩⟩⟩⟩⟩⟩⟩⟩⟩⟩⟩⟩⟩
theorem lw_p48 : lw_okq (⟨"MeltHoursModel", "takes", "(IIII)I"⟩, 67) := ⟨⟨by decide +kernel, by decide +kernel⟩, List.mem_of_getElem? (i := 678) (by decide +kernel), List.mem_of_getElem? (i := 1044) (by decide +kernel), List.mem_of_getElem? (i := 1045) (by decide +kernel)⟩
theorem lw_p49 : lw_okq (⟨"MeltHoursModel", "has", "(II)Z"⟩, 67) := ⟨⟨by decide +kernel, by decide +kernel⟩, List.mem_of_getElem? (i := 678) (by decide +kernel), List.mem_of_getElem? (i := 1048) (by decide +kernel), List.mem_of_getElem? (i := 1049) (by decide +kernel)⟩
theorem lw_p50 : lw_okq (⟨"MeltHoursModel", "floods", "()I"⟩, 67) := ⟨⟨by decide +kernel, by decide +kernel⟩, List.mem_of_getElem? (i := 678) (by decide +kernel), List.mem_of_getElem? (i := 1056) (by decide +kernel), List.mem_of_getElem? (i := 1057) (by decide +kernel)⟩
theorem lw_p51 : lw_okq (⟨"MeltHoursModel", "worthNow", "()I"⟩, 67) := ⟨⟨by decide +kernel, by decide +kernel⟩, List.mem_of_getElem? (i := 678) (by decide +kernel), List.mem_of_getElem? (i := 1068) (by decide +kernel), List.mem_of_getElem? (i := 1069) (by decide +kernel)⟩
theorem lw_p52 : lw_okq (⟨"MeltHoursModel", "serve", "()I"⟩, 67) := ⟨⟨by decide +kernel, by decide +kernel⟩, List.mem_of_getElem? (i := 678) (by decide +kernel), List.mem_of_getElem? (i := 1072) (by decide +kernel), List.mem_of_getElem? (i := 1073) (by decide +kernel)⟩
theorem lw_p53 : lw_okq (⟨"MeltHoursModel", "oddsOf", "(I)I"⟩, 67) := ⟨⟨by decide +kernel, by decide +kernel⟩, List.mem_of_getElem? (i := 678) (by decide +kernel), List.mem_of_getElem? (i := 1101) (by decide +kernel), List.mem_of_getElem? (i := 1102) (by decide +kernel)⟩
theorem lw_p54 : lw_okq (⟨"MeltHoursModel", "divisor", "(JJ)J"⟩, 67) := ⟨⟨by decide +kernel, by decide +kernel⟩, List.mem_of_getElem? (i := 678) (by decide +kernel), List.mem_of_getElem? (i := 1106) (by decide +kernel), List.mem_of_getElem? (i := 1107) (by decide +kernel)⟩
theorem lw_p55 : lw_okq (⟨"MeltHoursModel", "ones", "(I)I"⟩, 67) := ⟨⟨by decide +kernel, by decide +kernel⟩, List.mem_of_getElem? (i := 678) (by decide +kernel), List.mem_of_getElem? (i := 1122) (by decide +kernel), List.mem_of_getElem? (i := 1123) (by decide +kernel)⟩
theorem lw_p56 : lw_okq (⟨"MeltHoursModel", "isTape", "(I)Z"⟩, 67) := ⟨⟨by decide +kernel, by decide +kernel⟩, List.mem_of_getElem? (i := 678) (by decide +kernel), List.mem_of_getElem? (i := 1130) (by decide +kernel), List.mem_of_getElem? (i := 1131) (by decide +kernel)⟩
theorem lw_p57 : lw_okq (⟨"MeltHoursModel", "copy", "([I[I)V"⟩, 67) := ⟨⟨by decide +kernel, by decide +kernel⟩, List.mem_of_getElem? (i := 678) (by decide +kernel), List.mem_of_getElem? (i := 1138) (by decide +kernel), List.mem_of_getElem? (i := 1139) (by decide +kernel)⟩
theorem lw_p58 : lw_okq (⟨"MeltHoursModel", "letsAct", "(II)I"⟩, 67) := ⟨⟨by decide +kernel, by decide +kernel⟩, List.mem_of_getElem? (i := 678) (by decide +kernel), List.mem_of_getElem? (i := 1150) (by decide +kernel), List.mem_of_getElem? (i := 1151) (by decide +kernel)⟩
theorem lw_p59 : lw_okq (⟨"MeltHoursModel", "body", "(I)V"⟩, 67) := ⟨⟨by decide +kernel, by decide +kernel⟩, List.mem_of_getElem? (i := 678) (by decide +kernel), List.mem_of_getElem? (i := 1154) (by decide +kernel), List.mem_of_getElem? (i := 1155) (by decide +kernel)⟩
theorem lw_p60 : lw_okq (⟨"MeltHoursModel", "plainLets", "(II)I"⟩, 67) := ⟨⟨by decide +kernel, by decide +kernel⟩, List.mem_of_getElem? (i := 678) (by decide +kernel), List.mem_of_getElem? (i := 1158) (by decide +kernel), List.mem_of_getElem? (i := 1159) (by decide +kernel)⟩
theorem lw_p61 : lw_okq (⟨"MeltHoursModel", "takesAct", "(II)I"⟩, 67) := ⟨⟨by decide +kernel, by decide +kernel⟩, List.mem_of_getElem? (i := 678) (by decide +kernel), List.mem_of_getElem? (i := 1162) (by decide +kernel), List.mem_of_getElem? (i := 1163) (by decide +kernel)⟩
theorem lw_p62 : lw_okq (⟨"MeltHoursModel", "clockTakes", "(II)I"⟩, 67) := ⟨⟨by decide +kernel, by decide +kernel⟩, List.mem_of_getElem? (i := 678) (by decide +kernel), List.mem_of_getElem? (i := 1166) (by decide +kernel), List.mem_of_getElem? (i := 1167) (by decide +kernel)⟩
theorem lw_p63 : lw_okq (⟨"MeltHoursModel", "plainTakes", "(II)I"⟩, 67) := ⟨⟨by decide +kernel, by decide +kernel⟩, List.mem_of_getElem? (i := 678) (by decide +kernel), List.mem_of_getElem? (i := 1170) (by decide +kernel), List.mem_of_getElem? (i := 1171) (by decide +kernel)⟩
def lw_privs_4 : List (MethodName × Nat) := [(⟨"MeltHoursModel", "takes", "(IIII)I"⟩, 67), (⟨"MeltHoursModel", "has", "(II)Z"⟩, 67), (⟨"MeltHoursModel", "floods", "()I"⟩, 67), (⟨"MeltHoursModel", "worthNow", "()I"⟩, 67), (⟨"MeltHoursModel", "serve", "()I"⟩, 67), (⟨"MeltHoursModel", "oddsOf", "(I)I"⟩, 67), (⟨"MeltHoursModel", "divisor", "(JJ)J"⟩, 67), (⟨"MeltHoursModel", "ones", "(I)I"⟩, 67), (⟨"MeltHoursModel", "isTape", "(I)Z"⟩, 67), (⟨"MeltHoursModel", "copy", "([I[I)V"⟩, 67), (⟨"MeltHoursModel", "letsAct", "(II)I"⟩, 67), (⟨"MeltHoursModel", "body", "(I)V"⟩, 67), (⟨"MeltHoursModel", "plainLets", "(II)I"⟩, 67), (⟨"MeltHoursModel", "takesAct", "(II)I"⟩, 67), (⟨"MeltHoursModel", "clockTakes", "(II)I"⟩, 67), (⟨"MeltHoursModel", "plainTakes", "(II)I"⟩, 67)]
theorem lw_r4 : ∀ q ∈ lw_privs_4, lw_okq q := List.forall_mem_cons.mpr ⟨lw_p48, List.forall_mem_cons.mpr ⟨lw_p49, List.forall_mem_cons.mpr ⟨lw_p50, List.forall_mem_cons.mpr ⟨lw_p51, List.forall_mem_cons.mpr ⟨lw_p52, List.forall_mem_cons.mpr ⟨lw_p53, List.forall_mem_cons.mpr ⟨lw_p54, List.forall_mem_cons.mpr ⟨lw_p55, List.forall_mem_cons.mpr ⟨lw_p56, List.forall_mem_cons.mpr ⟨lw_p57, List.forall_mem_cons.mpr ⟨lw_p58, List.forall_mem_cons.mpr ⟨lw_p59, List.forall_mem_cons.mpr ⟨lw_p60, List.forall_mem_cons.mpr ⟨lw_p61, List.forall_mem_cons.mpr ⟨lw_p62, List.forall_mem_cons.mpr ⟨lw_p63, fun _ h => absurd h List.not_mem_nil⟩⟩⟩⟩⟩⟩⟩⟩⟩⟩⟩⟩⟩⟩⟩⟩
theorem lw_p64 : lw_okq (⟨"MeltHoursModel", "tellsAct", "(II)I"⟩, 67) := ⟨⟨by decide +kernel, by decide +kernel⟩, List.mem_of_getElem? (i := 678) (by decide +kernel), List.mem_of_getElem? (i := 1174) (by decide +kernel), List.mem_of_getElem? (i := 1175) (by decide +kernel)⟩
theorem lw_p65 : lw_okq (⟨"MeltHoursModel", "plainTells", "(II)I"⟩, 67) := ⟨⟨by decide +kernel, by decide +kernel⟩, List.mem_of_getElem? (i := 678) (by decide +kernel), List.mem_of_getElem? (i := 1178) (by decide +kernel), List.mem_of_getElem? (i := 1179) (by decide +kernel)⟩
theorem lw_p66 : lw_okq (⟨"MeltHoursModel", "narrow", "(IJ)J"⟩, 67) := ⟨⟨by decide +kernel, by decide +kernel⟩, List.mem_of_getElem? (i := 678) (by decide +kernel), List.mem_of_getElem? (i := 1202) (by decide +kernel), List.mem_of_getElem? (i := 1203) (by decide +kernel)⟩
def lw_privs_5 : List (MethodName × Nat) := [(⟨"MeltHoursModel", "tellsAct", "(II)I"⟩, 67), (⟨"MeltHoursModel", "plainTells", "(II)I"⟩, 67), (⟨"MeltHoursModel", "narrow", "(IJ)J"⟩, 67)]
theorem lw_r5 : ∀ q ∈ lw_privs_5, lw_okq q := List.forall_mem_cons.mpr ⟨lw_p64, List.forall_mem_cons.mpr ⟨lw_p65, List.forall_mem_cons.mpr ⟨lw_p66, fun _ h => absurd h List.not_mem_nil⟩⟩⟩
def lw_privs : List (MethodName × Nat) := lw_privs_1 ++ (lw_privs_2 ++ (lw_privs_3 ++ (lw_privs_4 ++ (lw_privs_5))))
def lw_tbl : List Cond := k2_sels lw_privs ++ tables_1
theorem lw_privs_ok : ∀ q ∈ lw_privs, lw_okq q := by
  show ∀ q ∈ lw_privs_1 ++ (lw_privs_2 ++ (lw_privs_3 ++ (lw_privs_4 ++ (lw_privs_5)))), lw_okq q
  exact List.forall_mem_append.mpr ⟨lw_r1, List.forall_mem_append.mpr ⟨lw_r2, List.forall_mem_append.mpr ⟨lw_r3, List.forall_mem_append.mpr ⟨lw_r4, lw_r5⟩⟩⟩⟩
def RX0 : String := "MeltHours$Acts"
def TX0 : u_T := fun k => match k with
  | 0 => ("MeltHours$Acts", "place", "I", false)
  | 1 => ("MeltHours$Acts", "might", "I", false)
  | 2 => ("MeltHours$Acts", "kind", "I", false)
  | 3 => ("MeltHours$Acts", "bodies", "[I", true)
  | _ => ("MeltHours$Acts", "ran", "I", false)
def tyX0 : Nat → FieldType := fun k => match k with
  | 0 => .int
  | 1 => .int
  | 2 => .int
  | 3 => .array .int
  | _ => .int
theorem nmX0 : ∀ a, a < 5 → ∀ b, b < 5 → a ≠ b → (TX0 a).2.1 ≠ (TX0 b).2.1 := by decide +kernel
theorem tyX0_ok : ∀ k, k < 5 → parseFieldDescriptor (TX0 k).2.2.1 = some (tyX0 k) := by decide +kernel
abbrev cX0_init : ByteArray := prog_2_method_1_code
def yX0_init : MethodName := ⟨RX0, "<init>", "()V"⟩
abbrev cX0_standAt : ByteArray := prog_2_method_2_code
def yX0_standAt : MethodName := ⟨RX0, "standAt", "(I[I)V"⟩
abbrev cX0_lets : ByteArray := prog_2_method_3_code
def yX0_lets : MethodName := ⟨RX0, "lets", "(II)I"⟩
abbrev cX0_takes : ByteArray := prog_2_method_4_code
def yX0_takes : MethodName := ⟨RX0, "takes", "(II)I"⟩
abbrev cX0_tells : ByteArray := prog_2_method_5_code
def yX0_tells : MethodName := ⟨RX0, "tells", "(II)I"⟩
abbrev cX0_began : ByteArray := prog_2_method_6_code
def yX0_began : MethodName := ⟨RX0, "began", "(I)V"⟩
def RX1 : String := "MeltHours$Reader"
def TX1 : u_T := fun k => match k with
  | 0 => ("MeltHours$Reader", "text", "[I", true)
  | 1 => ("MeltHours$Reader", "length", "I", true)
  | 2 => ("MeltHours$Reader", "sound", "Z", false)
  | 3 => ("MeltHours$Reader", "at", "I", false)
  | _ => ("MeltHours$Reader", "valley", "LMeltHours$Valley;", true)
def tyX1 : Nat → FieldType := fun k => match k with
  | 0 => .array .int
  | 1 => .int
  | 2 => .boolean
  | 3 => .int
  | _ => .object "MeltHours$Valley"
theorem nmX1 : ∀ a, a < 5 → ∀ b, b < 5 → a ≠ b → (TX1 a).2.1 ≠ (TX1 b).2.1 := by decide +kernel
theorem tyX1_ok : ∀ k, k < 5 → parseFieldDescriptor (TX1 k).2.2.1 = some (tyX1 k) := by decide +kernel
abbrev cX1_init : ByteArray := prog_3_method_1_code
def yX1_init : MethodName := ⟨RX1, "<init>", "([II)V"⟩
abbrev cX1_isValley : ByteArray := prog_3_method_2_code
def yX1_isValley : MethodName := ⟨RX1, "isValley", "()Z"⟩
abbrev cX1_clause : ByteArray := prog_3_method_3_code
def yX1_clause : MethodName := ⟨RX1, "clause", "()V"⟩
abbrev cX1_word : ByteArray := prog_3_method_4_code
def yX1_word : MethodName := ⟨RX1, "word", "()I"⟩
abbrev cX1_ending : ByteArray := prog_3_method_5_code
def yX1_ending : MethodName := ⟨RX1, "ending", "(Ljava/lang/String;I)I"⟩
abbrev cX1_either : ByteArray := prog_3_method_6_code
def yX1_either : MethodName := ⟨RX1, "either", "(I)[Z"⟩
abbrev cX1_both : ByteArray := prog_3_method_7_code
def yX1_both : MethodName := ⟨RX1, "both", "(I)[Z"⟩
abbrev cX1_factor : ByteArray := prog_3_method_8_code
def yX1_factor : MethodName := ⟨RX1, "factor", "(I)[Z"⟩
abbrev cX1_whereHolds : ByteArray := prog_3_method_9_code
def yX1_whereHolds : MethodName := ⟨RX1, "whereHolds", "(III)[Z"⟩
abbrev cX1_number : ByteArray := prog_3_method_10_code
def yX1_number : MethodName := ⟨RX1, "number", "()I"⟩
abbrev cX1_figure : ByteArray := prog_3_method_11_code
def yX1_figure : MethodName := ⟨RX1, "figure", "(I)I"⟩
abbrev cX1_oneOf : ByteArray := prog_3_method_12_code
def yX1_oneOf : MethodName := ⟨RX1, "oneOf", "(III)I"⟩
abbrev cX1_expect : ByteArray := prog_3_method_13_code
def yX1_expect : MethodName := ⟨RX1, "expect", "(I)V"⟩
abbrev cX1_passes : ByteArray := prog_3_method_14_code
def yX1_passes : MethodName := ⟨RX1, "passes", "(I)Z"⟩
abbrev cX1_next : ByteArray := prog_3_method_15_code
def yX1_next : MethodName := ⟨RX1, "next", "()I"⟩
def RX2 : String := "MeltHours$State"
def TX2 : u_T := fun k => match k with
  | 0 => ("MeltHours$State", "placeCount", "I", false)
  | 1 => ("MeltHours$State", "skies", "[I", true)
  | 2 => ("MeltHours$State", "odds", "[I", true)
  | 3 => ("MeltHours$State", "gates", "[[I", true)
  | 4 => ("MeltHours$State", "wants", "[[I", true)
  | 5 => ("MeltHours$State", "wantCount", "I", false)
  | 6 => ("MeltHours$State", "toldMelts", "[I", true)
  | 7 => ("MeltHours$State", "toldHours", "I", false)
  | _ => ("MeltHours$State", "valley", "LMeltHours$Valley;", false)
def tyX2 : Nat → FieldType := fun k => match k with
  | 0 => .int
  | 1 => .array .int
  | 2 => .array .int
  | 3 => .array (.array .int)
  | 4 => .array (.array .int)
  | 5 => .int
  | 6 => .array .int
  | 7 => .int
  | _ => .object "MeltHours$Valley"
theorem nmX2 : ∀ a, a < 9 → ∀ b, b < 9 → a ≠ b → (TX2 a).2.1 ≠ (TX2 b).2.1 := by decide +kernel
theorem tyX2_ok : ∀ k, k < 9 → parseFieldDescriptor (TX2 k).2.2.1 = some (tyX2 k) := by decide +kernel
abbrev cX2_init : ByteArray := prog_4_method_1_code
def yX2_init : MethodName := ⟨RX2, "<init>", "(LMeltHours$Valley;)V"⟩
abbrev cX2_become : ByteArray := prog_4_method_2_code
def yX2_become : MethodName := ⟨RX2, "become", "(LMeltHours$State;)V"⟩
abbrev cX2_isPlace : ByteArray := prog_4_method_3_code
def yX2_isPlace : MethodName := ⟨RX2, "isPlace", "(I)Z"⟩
abbrev cX2_isWant : ByteArray := prog_4_method_4_code
def yX2_isWant : MethodName := ⟨RX2, "isWant", "(I)Z"⟩
abbrev cX2_melting : ByteArray := prog_4_method_5_code
def yX2_melting : MethodName := ⟨RX2, "melting", "(II)I"⟩
def RX3 : String := "MeltHours$Tape"
def TX3 : u_T := fun k => match k with
  | 0 => ("MeltHours$Tape", "sort", "I", false)
  | 1 => ("MeltHours$Tape", "size", "I", false)
  | _ => ("MeltHours$Tape", "items", "[J", true)
def tyX3 : Nat → FieldType := fun k => match k with
  | 0 => .int
  | 1 => .int
  | _ => .array .long
theorem nmX3 : ∀ a, a < 3 → ∀ b, b < 3 → a ≠ b → (TX3 a).2.1 ≠ (TX3 b).2.1 := by decide +kernel
theorem tyX3_ok : ∀ k, k < 3 → parseFieldDescriptor (TX3 k).2.2.1 = some (tyX3 k) := by decide +kernel
abbrev cX3_init : ByteArray := prog_5_method_1_code
def yX3_init : MethodName := ⟨RX3, "<init>", "()V"⟩
abbrev cX3_become : ByteArray := prog_5_method_2_code
def yX3_become : MethodName := ⟨RX3, "become", "(II)V"⟩
abbrev cX3_asItem : ByteArray := prog_5_method_3_code
def yX3_asItem : MethodName := ⟨RX3, "asItem", "(J)J"⟩
def RX4 : String := "MeltHours$Valley"
def TX4 : u_T := fun k => match k with
  | 0 => ("MeltHours$Valley", "ways", "[[I", true)
  | _ => ("MeltHours$Valley", "melts", "[I", true)
def tyX4 : Nat → FieldType := fun k => match k with
  | 0 => .array (.array .int)
  | _ => .array .int
theorem nmX4 : ∀ a, a < 2 → ∀ b, b < 2 → a ≠ b → (TX4 a).2.1 ≠ (TX4 b).2.1 := by decide +kernel
theorem tyX4_ok : ∀ k, k < 2 → parseFieldDescriptor (TX4 k).2.2.1 = some (tyX4 k) := by decide +kernel
abbrev cX4_init : ByteArray := prog_6_method_1_code
def yX4_init : MethodName := ⟨RX4, "<init>", "()V"⟩
abbrev cX4_tell : ByteArray := prog_6_method_2_code
def yX4_tell : MethodName := ⟨RX4, "tell", "(III)V"⟩
abbrev cX4_melt : ByteArray := prog_6_method_3_code
def yX4_melt : MethodName := ⟨RX4, "melt", "(I[Z)V"⟩
def RX5 : String := "MeltHours$Water"
def TX5 : u_T := fun k => match k with
  | 0 => ("MeltHours$Water", "state", "LMeltHours$State;", true)
  | 1 => ("MeltHours$Water", "melts", "[I", true)
  | 2 => ("MeltHours$Water", "ways", "[[I", true)
  | 3 => ("MeltHours$Water", "gates", "[[I", true)
  | 4 => ("MeltHours$Water", "comes", "[[I", true)
  | 5 => ("MeltHours$Water", "taken", "[[I", true)
  | 6 => ("MeltHours$Water", "by", "[[I", true)
  | 7 => ("MeltHours$Water", "held", "[[I", true)
  | 8 => ("MeltHours$Water", "flood", "[[I", true)
  | _ => ("MeltHours$Water", "served", "[I", true)
def tyX5 : Nat → FieldType := fun k => match k with
  | 0 => .object "MeltHours$State"
  | 1 => .array .int
  | 2 => .array (.array .int)
  | 3 => .array (.array .int)
  | 4 => .array (.array .int)
  | 5 => .array (.array .int)
  | 6 => .array (.array .int)
  | 7 => .array (.array .int)
  | 8 => .array (.array .int)
  | _ => .array .int
theorem nmX5 : ∀ a, a < 10 → ∀ b, b < 10 → a ≠ b → (TX5 a).2.1 ≠ (TX5 b).2.1 := by decide +kernel
theorem tyX5_ok : ∀ k, k < 10 → parseFieldDescriptor (TX5 k).2.2.1 = some (tyX5 k) := by decide +kernel
abbrev cX5_init : ByteArray := prog_7_method_1_code
def yX5_init : MethodName := ⟨RX5, "<init>", "(LMeltHours$State;)V"⟩
abbrev cX5_load : ByteArray := prog_7_method_2_code
def yX5_load : MethodName := ⟨RX5, "load", "()V"⟩
abbrev cX5_meltUnder : ByteArray := prog_7_method_3_code
def yX5_meltUnder : MethodName := ⟨RX5, "meltUnder", "(II)V"⟩
abbrev cX5_settle : ByteArray := prog_7_method_4_code
def yX5_settle : MethodName := ⟨RX5, "settle", "()I"⟩
abbrev cX5_again : ByteArray := prog_7_method_5_code
def yX5_again : MethodName := ⟨RX5, "again", "(I)I"⟩
abbrev cX5_worthWithout : ByteArray := prog_7_method_6_code
def yX5_worthWithout : MethodName := ⟨RX5, "worthWithout", "(I)I"⟩
abbrev cX5_going : ByteArray := prog_7_method_7_code
def yX5_going : MethodName := ⟨RX5, "going", "(II)I"⟩
abbrev cX5_arriving : ByteArray := prog_7_method_8_code
def yX5_arriving : MethodName := ⟨RX5, "arriving", "(II)I"⟩
abbrev cX5_come : ByteArray := prog_7_method_9_code
def yX5_come : MethodName := ⟨RX5, "come", "(I[I)V"⟩
abbrev cX5_pass : ByteArray := prog_7_method_10_code
def yX5_pass : MethodName := ⟨RX5, "pass", "(I)V"⟩
abbrev cX5_takes : ByteArray := prog_7_method_11_code
def yX5_takes : MethodName := ⟨RX5, "takes", "([IIII)I"⟩
abbrev cX5_serve : ByteArray := prog_7_method_12_code
def yX5_serve : MethodName := ⟨RX5, "serve", "()I"⟩
abbrev cX5_servedBefore : ByteArray := prog_7_method_13_code
def yX5_servedBefore : MethodName := ⟨RX5, "servedBefore", "(I)I"⟩
abbrev cX5_utmost : ByteArray := prog_7_method_14_code
def yX5_utmost : MethodName := ⟨RX5, "utmost", "(I)I"⟩
abbrev cX5_rows : ByteArray := prog_7_method_15_code
def yX5_rows : MethodName := ⟨RX5, "rows", "(I)[[I"⟩
abbrev cX5_inAllPlaces : ByteArray := prog_7_method_16_code
def yX5_inAllPlaces : MethodName := ⟨RX5, "inAllPlaces", "([[I)I"⟩
abbrev cX5_inPlace : ByteArray := prog_7_method_17_code
def yX5_inPlace : MethodName := ⟨RX5, "inPlace", "([[II)I"⟩
def RX6 : String := "MeltHours"
def TX6 : u_T := fun k => match k with
  | 0 => ("MeltHours", "now", "LMeltHours$State;", true)
  | 1 => ("MeltHours", "kept", "LMeltHours$State;", true)
  | 2 => ("MeltHours", "isKept", "Z", false)
  | 3 => ("MeltHours", "flow", "LMeltHours$Water;", true)
  | 4 => ("MeltHours", "acts", "LMeltHours$Acts;", true)
  | 5 => ("MeltHours", "text", "[I", true)
  | 6 => ("MeltHours", "textLength", "I", false)
  | 7 => ("MeltHours", "valleyCount", "I", false)
  | _ => ("MeltHours", "tapes", "[LMeltHours$Tape;", true)
def tyX6 : Nat → FieldType := fun k => match k with
  | 0 => .object "MeltHours$State"
  | 1 => .object "MeltHours$State"
  | 2 => .boolean
  | 3 => .object "MeltHours$Water"
  | 4 => .object "MeltHours$Acts"
  | 5 => .array .int
  | 6 => .int
  | 7 => .int
  | _ => .array (.object "MeltHours$Tape")
theorem nmX6 : ∀ a, a < 9 → ∀ b, b < 9 → a ≠ b → (TX6 a).2.1 ≠ (TX6 b).2.1 := by decide +kernel
theorem tyX6_ok : ∀ k, k < 9 → parseFieldDescriptor (TX6 k).2.2.1 = some (tyX6 k) := by decide +kernel
abbrev cX6_init : ByteArray := prog_1_method_1_code
def yX6_init : MethodName := ⟨RX6, "<init>", "()V"⟩
abbrev cX6_places : ByteArray := prog_1_method_2_code
def yX6_places : MethodName := ⟨RX6, "places", "(I)I"⟩
abbrev cX6_sky : ByteArray := prog_1_method_3_code
def yX6_sky : MethodName := ⟨RX6, "sky", "(II)I"⟩
abbrev cX6_feed : ByteArray := prog_1_method_4_code
def yX6_feed : MethodName := ⟨RX6, "feed", "(II)I"⟩
abbrev cX6_valley : ByteArray := prog_1_method_5_code
def yX6_valley : MethodName := ⟨RX6, "valley", "()I"⟩
abbrev cX6_told : ByteArray := prog_1_method_6_code
def yX6_told : MethodName := ⟨RX6, "told", "(II)I"⟩
abbrev cX6_melts : ByteArray := prog_1_method_7_code
def yX6_melts : MethodName := ⟨RX6, "melts", "(I)I"⟩
abbrev cX6_gate : ByteArray := prog_1_method_8_code
def yX6_gate : MethodName := ⟨RX6, "gate", "(IIII)I"⟩
abbrev cX6_of : ByteArray := prog_1_method_9_code
def yX6_of : MethodName := ⟨RX6, "of", "(II)I"⟩
abbrev cX6_water : ByteArray := prog_1_method_10_code
def yX6_water : MethodName := ⟨RX6, "water", "(III)I"⟩
abbrev cX6_all : ByteArray := prog_1_method_11_code
def yX6_all : MethodName := ⟨RX6, "all", "(I)I"⟩
abbrev cX6_want : ByteArray := prog_1_method_12_code
def yX6_want : MethodName := ⟨RX6, "want", "(IIII)I"⟩
abbrev cX6_wants : ByteArray := prog_1_method_13_code
def yX6_wants : MethodName := ⟨RX6, "wants", "(II)I"⟩
abbrev cX6_worth : ByteArray := prog_1_method_14_code
def yX6_worth : MethodName := ⟨RX6, "worth", "()I"⟩
abbrev cX6_best : ByteArray := prog_1_method_15_code
def yX6_best : MethodName := ⟨RX6, "best", "(II)I"⟩
abbrev cX6_price : ByteArray := prog_1_method_16_code
def yX6_price : MethodName := ⟨RX6, "price", "(I)I"⟩
abbrev cX6_part : ByteArray := prog_1_method_17_code
def yX6_part : MethodName := ⟨RX6, "part", "(IIII)I"⟩
abbrev cX6_odds : ByteArray := prog_1_method_18_code
def yX6_odds : MethodName := ⟨RX6, "odds", "(II)I"⟩
abbrev cX6_mean : ByteArray := prog_1_method_19_code
def yX6_mean : MethodName := ⟨RX6, "mean", "(II)J"⟩
abbrev cX6_pond : ByteArray := prog_1_method_20_code
def yX6_pond : MethodName := ⟨RX6, "pond", "(I)I"⟩
abbrev cX6_wrong : ByteArray := prog_1_method_21_code
def yX6_wrong : MethodName := ⟨RX6, "wrong", "()I"⟩
abbrev cX6_spare : ByteArray := prog_1_method_22_code
def yX6_spare : MethodName := ⟨RX6, "spare", "()I"⟩
abbrev cX6_day : ByteArray := prog_1_method_23_code
def yX6_day : MethodName := ⟨RX6, "day", "(I)I"⟩
abbrev cX6_judge : ByteArray := prog_1_method_24_code
def yX6_judge : MethodName := ⟨RX6, "judge", "(III)I"⟩
abbrev cX6_image : ByteArray := prog_1_method_25_code
def yX6_image : MethodName := ⟨RX6, "image", "()I"⟩
abbrev cX6_undo : ByteArray := prog_1_method_26_code
def yX6_undo : MethodName := ⟨RX6, "undo", "()I"⟩
abbrev cX6_act : ByteArray := prog_1_method_27_code
def yX6_act : MethodName := ⟨RX6, "act", "(III)I"⟩
abbrev cX6_trace : ByteArray := prog_1_method_28_code
def yX6_trace : MethodName := ⟨RX6, "trace", "(I)I"⟩
abbrev cX6_taken : ByteArray := prog_1_method_29_code
def yX6_taken : MethodName := ⟨RX6, "taken", "(II)I"⟩
abbrev cX6_count : ByteArray := prog_1_method_30_code
def yX6_count : MethodName := ⟨RX6, "count", "(I)I"⟩
abbrev cX6_tape : ByteArray := prog_1_method_31_code
def yX6_tape : MethodName := ⟨RX6, "tape", "(III)I"⟩
abbrev cX6_item : ByteArray := prog_1_method_32_code
def yX6_item : MethodName := ⟨RX6, "item", "(IIJ)I"⟩
abbrev cX6_read : ByteArray := prog_1_method_33_code
def yX6_read : MethodName := ⟨RX6, "read", "(II)J"⟩
abbrev cX6_shift : ByteArray := prog_1_method_34_code
def yX6_shift : MethodName := ⟨RX6, "shift", "(IIIII)I"⟩
abbrev cX6_isUnder : ByteArray := prog_1_method_35_code
def yX6_isUnder : MethodName := ⟨RX6, "isUnder", "(II)Z"⟩
abbrev cX6_tapeAt : ByteArray := prog_1_method_36_code
def yX6_tapeAt : MethodName := ⟨RX6, "tapeAt", "(I)LMeltHours$Tape;"⟩
abbrev cX6_span : ByteArray := prog_1_method_37_code
def yX6_span : MethodName := ⟨RX6, "span", "(II)I"⟩
abbrev cX6_underSkies : ByteArray := prog_1_method_38_code
def yX6_underSkies : MethodName := ⟨RX6, "underSkies", "(III)I"⟩
abbrev cX6_divisorWithHundred : ByteArray := prog_1_method_39_code
def yX6_divisorWithHundred : MethodName := ⟨RX6, "divisorWithHundred", "(I)I"⟩
abbrev cX6_isOrUnder : ByteArray := prog_1_method_40_code
def yX6_isOrUnder : MethodName := ⟨RX6, "isOrUnder", "(II)Z"⟩
abbrev cX6_sum : ByteArray := prog_1_method_41_code
def yX6_sum : MethodName := ⟨RX6, "sum", "([I)I"⟩
abbrev cX6_copy : ByteArray := prog_1_method_42_code
def yX6_copy : MethodName := ⟨RX6, "copy", "([I[I)V"⟩
abbrev cX6_copyRows : ByteArray := prog_1_method_43_code
def yX6_copyRows : MethodName := ⟨RX6, "copyRows", "([[I[[I)V"⟩
def RX7 : String := "MeltHoursModel"
def TX7 : u_T := fun k => match k with
  | 0 => ("MeltHoursModel", "places", "I", false)
  | 1 => ("MeltHoursModel", "oddsA", "I", false)
  | 2 => ("MeltHoursModel", "oddsB", "I", false)
  | 3 => ("MeltHoursModel", "sky", "[I", true)
  | 4 => ("MeltHoursModel", "kind", "[I", true)
  | 5 => ("MeltHoursModel", "v", "[I", true)
  | 6 => ("MeltHoursModel", "hours", "[I", true)
  | 7 => ("MeltHoursModel", "valleys", "I", false)
  | 8 => ("MeltHoursModel", "the", "I", false)
  | 9 => ("MeltHoursModel", "fed", "I", false)
  | 10 => ("MeltHoursModel", "at", "I", false)
  | 11 => ("MeltHoursModel", "digits", "I", false)
  | 12 => ("MeltHoursModel", "text", "[I", true)
  | 13 => ("MeltHoursModel", "clauses", "[I", true)
  | 14 => ("MeltHoursModel", "word", "[I", true)
  | 15 => ("MeltHoursModel", "spot", "[I", true)
  | 16 => ("MeltHoursModel", "number", "[I", true)
  | 17 => ("MeltHoursModel", "from", "[I", true)
  | 18 => ("MeltHoursModel", "to", "[I", true)
  | 19 => ("MeltHoursModel", "sign", "[I", true)
  | 20 => ("MeltHoursModel", "waits", "[I", true)
  | 21 => ("MeltHoursModel", "signs", "I", false)
  | 22 => ("MeltHoursModel", "waiting", "I", false)
  | 23 => ("MeltHoursModel", "open", "I", false)
  | 24 => ("MeltHoursModel", "pile", "[Z", true)
  | 25 => ("MeltHoursModel", "days", "I", false)
  | 26 => ("MeltHoursModel", "day", "[I", true)
  | 27 => ("MeltHoursModel", "melt", "[I", true)
  | 28 => ("MeltHoursModel", "lag", "[I", true)
  | 29 => ("MeltHoursModel", "leak", "[I", true)
  | 30 => ("MeltHoursModel", "most", "[I", true)
  | 31 => ("MeltHoursModel", "hold", "[I", true)
  | 32 => ("MeltHoursModel", "tryKind", "[I", true)
  | 33 => ("MeltHoursModel", "tryHours", "[I", true)
  | 34 => ("MeltHoursModel", "comes", "[I", true)
  | 35 => ("MeltHoursModel", "taken", "[I", true)
  | 36 => ("MeltHoursModel", "by", "[I", true)
  | 37 => ("MeltHoursModel", "held", "[I", true)
  | 38 => ("MeltHoursModel", "flood", "[I", true)
  | 39 => ("MeltHoursModel", "wants", "I", false)
  | 40 => ("MeltHoursModel", "place", "[I", true)
  | 41 => ("MeltHoursModel", "hour", "[I", true)
  | 42 => ("MeltHoursModel", "cups", "[I", true)
  | 43 => ("MeltHoursModel", "worth", "[I", true)
  | 44 => ("MeltHoursModel", "served", "[I", true)
  | 45 => ("MeltHoursModel", "hasImage", "Z", false)
  | 46 => ("MeltHoursModel", "imagePlaces", "I", false)
  | 47 => ("MeltHoursModel", "imageA", "I", false)
  | 48 => ("MeltHoursModel", "imageB", "I", false)
  | 49 => ("MeltHoursModel", "imageThe", "I", false)
  | 50 => ("MeltHoursModel", "imageDays", "I", false)
  | 51 => ("MeltHoursModel", "imageWants", "I", false)
  | 52 => ("MeltHoursModel", "imageSky", "[I", true)
  | 53 => ("MeltHoursModel", "imageKind", "[I", true)
  | 54 => ("MeltHoursModel", "imageV", "[I", true)
  | 55 => ("MeltHoursModel", "imageHours", "[I", true)
  | 56 => ("MeltHoursModel", "imageDay", "[I", true)
  | 57 => ("MeltHoursModel", "imagePlace", "[I", true)
  | 58 => ("MeltHoursModel", "imageHour", "[I", true)
  | 59 => ("MeltHoursModel", "imageCups", "[I", true)
  | 60 => ("MeltHoursModel", "imageWorth", "[I", true)
  | 61 => ("MeltHoursModel", "ran", "I", false)
  | 62 => ("MeltHoursModel", "bodies", "[I", true)
  | 63 => ("MeltHoursModel", "sort", "[I", true)
  | 64 => ("MeltHoursModel", "length", "[I", true)
  | 65 => ("MeltHoursModel", "item", "[J", true)
  | _ => ("MeltHoursModel", "aside", "[J", true)
def tyX7 : Nat → FieldType := fun k => match k with
  | 0 => .int
  | 1 => .int
  | 2 => .int
  | 3 => .array .int
  | 4 => .array .int
  | 5 => .array .int
  | 6 => .array .int
  | 7 => .int
  | 8 => .int
  | 9 => .int
  | 10 => .int
  | 11 => .int
  | 12 => .array .int
  | 13 => .array .int
  | 14 => .array .int
  | 15 => .array .int
  | 16 => .array .int
  | 17 => .array .int
  | 18 => .array .int
  | 19 => .array .int
  | 20 => .array .int
  | 21 => .int
  | 22 => .int
  | 23 => .int
  | 24 => .array .boolean
  | 25 => .int
  | 26 => .array .int
  | 27 => .array .int
  | 28 => .array .int
  | 29 => .array .int
  | 30 => .array .int
  | 31 => .array .int
  | 32 => .array .int
  | 33 => .array .int
  | 34 => .array .int
  | 35 => .array .int
  | 36 => .array .int
  | 37 => .array .int
  | 38 => .array .int
  | 39 => .int
  | 40 => .array .int
  | 41 => .array .int
  | 42 => .array .int
  | 43 => .array .int
  | 44 => .array .int
  | 45 => .boolean
  | 46 => .int
  | 47 => .int
  | 48 => .int
  | 49 => .int
  | 50 => .int
  | 51 => .int
  | 52 => .array .int
  | 53 => .array .int
  | 54 => .array .int
  | 55 => .array .int
  | 56 => .array .int
  | 57 => .array .int
  | 58 => .array .int
  | 59 => .array .int
  | 60 => .array .int
  | 61 => .int
  | 62 => .array .int
  | 63 => .array .int
  | 64 => .array .int
  | 65 => .array .long
  | _ => .array .long
theorem nmX7 : ∀ a, a < 67 → ∀ b, b < 67 → a ≠ b → (TX7 a).2.1 ≠ (TX7 b).2.1 := by decide +kernel
theorem tyX7_ok : ∀ k, k < 67 → parseFieldDescriptor (TX7 k).2.2.1 = some (tyX7 k) := by decide +kernel
abbrev cX7_init : ByteArray := prog_9_method_1_code
def yX7_init : MethodName := ⟨RX7, "<init>", "()V"⟩
abbrev cX7_in : ByteArray := prog_9_method_2_code
def yX7_in : MethodName := ⟨RX7, "in", "(III)Z"⟩
abbrev cX7_min : ByteArray := prog_9_method_3_code
def yX7_min : MethodName := ⟨RX7, "min", "(II)I"⟩
abbrev cX7_has : ByteArray := prog_9_method_4_code
def yX7_has : MethodName := ⟨RX7, "has", "(II)Z"⟩
abbrev cX7_isPlace : ByteArray := prog_9_method_5_code
def yX7_isPlace : MethodName := ⟨RX7, "isPlace", "(I)Z"⟩
abbrev cX7_isGate : ByteArray := prog_9_method_6_code
def yX7_isGate : MethodName := ⟨RX7, "isGate", "(I)Z"⟩
abbrev cX7_isHour : ByteArray := prog_9_method_7_code
def yX7_isHour : MethodName := ⟨RX7, "isHour", "(I)Z"⟩
abbrev cX7_places : ByteArray := prog_9_method_8_code
def yX7_places : MethodName := ⟨RX7, "places", "(I)I"⟩
abbrev cX7_sky : ByteArray := prog_9_method_9_code
def yX7_sky : MethodName := ⟨RX7, "sky", "(II)I"⟩
abbrev cX7_gate : ByteArray := prog_9_method_10_code
def yX7_gate : MethodName := ⟨RX7, "gate", "(IIII)I"⟩
abbrev cX7_of : ByteArray := prog_9_method_11_code
def yX7_of : MethodName := ⟨RX7, "of", "(II)I"⟩
abbrev cX7_feed : ByteArray := prog_9_method_12_code
def yX7_feed : MethodName := ⟨RX7, "feed", "(II)I"⟩
abbrev cX7_next : ByteArray := prog_9_method_13_code
def yX7_next : MethodName := ⟨RX7, "next", "()I"⟩
abbrev cX7_second : ByteArray := prog_9_method_14_code
def yX7_second : MethodName := ⟨RX7, "second", "()I"⟩
abbrev cX7_takesSign : ByteArray := prog_9_method_15_code
def yX7_takesSign : MethodName := ⟨RX7, "takesSign", "(I)Z"⟩
abbrev cX7_takesWord : ByteArray := prog_9_method_16_code
def yX7_takesWord : MethodName := ⟨RX7, "takesWord", "(II)Z"⟩
abbrev cX7_isDigit : ByteArray := prog_9_method_17_code
def yX7_isDigit : MethodName := ⟨RX7, "isDigit", "()Z"⟩
abbrev cX7_takesNumber : ByteArray := prog_9_method_18_code
def yX7_takesNumber : MethodName := ⟨RX7, "takesNumber", "()Z"⟩
abbrev cX7_put : ByteArray := prog_9_method_19_code
def yX7_put : MethodName := ⟨RX7, "put", "(I)V"⟩
abbrev cX7_whole : ByteArray := prog_9_method_20_code
def yX7_whole : MethodName := ⟨RX7, "whole", "()V"⟩
abbrev cX7_settle : ByteArray := prog_9_method_21_code
def yX7_settle : MethodName := ⟨RX7, "settle", "(I)V"⟩
abbrev cX7_takesTest : ByteArray := prog_9_method_22_code
def yX7_takesTest : MethodName := ⟨RX7, "takesTest", "()Z"⟩
abbrev cX7_takesE : ByteArray := prog_9_method_23_code
def yX7_takesE : MethodName := ⟨RX7, "takesE", "(I)Z"⟩
abbrev cX7_takesHead : ByteArray := prog_9_method_24_code
def yX7_takesHead : MethodName := ⟨RX7, "takesHead", "(I)Z"⟩
abbrev cX7_takesClause : ByteArray := prog_9_method_25_code
def yX7_takesClause : MethodName := ⟨RX7, "takesClause", "(I)Z"⟩
abbrev cX7_goesText : ByteArray := prog_9_method_26_code
def yX7_goesText : MethodName := ⟨RX7, "goesText", "(I)Z"⟩
abbrev cX7_valley : ByteArray := prog_9_method_27_code
def yX7_valley : MethodName := ⟨RX7, "valley", "()I"⟩
abbrev cX7_first : ByteArray := prog_9_method_28_code
def yX7_first : MethodName := ⟨RX7, "first", "()I"⟩
abbrev cX7_behind : ByteArray := prog_9_method_29_code
def yX7_behind : MethodName := ⟨RX7, "behind", "()I"⟩
abbrev cX7_last : ByteArray := prog_9_method_30_code
def yX7_last : MethodName := ⟨RX7, "last", "(III)I"⟩
abbrev cX7_told : ByteArray := prog_9_method_31_code
def yX7_told : MethodName := ⟨RX7, "told", "(II)I"⟩
abbrev cX7_holds : ByteArray := prog_9_method_32_code
def yX7_holds : MethodName := ⟨RX7, "holds", "(III)Z"⟩
abbrev cX7_day : ByteArray := prog_9_method_33_code
def yX7_day : MethodName := ⟨RX7, "day", "(I)I"⟩
abbrev cX7_meltOf : ByteArray := prog_9_method_34_code
def yX7_meltOf : MethodName := ⟨RX7, "meltOf", "(II)I"⟩
abbrev cX7_melts : ByteArray := prog_9_method_35_code
def yX7_melts : MethodName := ⟨RX7, "melts", "(I)I"⟩
abbrev cX7_asIs : ByteArray := prog_9_method_36_code
def yX7_asIs : MethodName := ⟨RX7, "asIs", "()V"⟩
abbrev cX7_less : ByteArray := prog_9_method_37_code
def yX7_less : MethodName := ⟨RX7, "less", "(II)I"⟩
abbrev cX7_sets : ByteArray := prog_9_method_38_code
def yX7_sets : MethodName := ⟨RX7, "sets", "(III)V"⟩
abbrev cX7_takes : ByteArray := prog_9_method_39_code
def yX7_takes : MethodName := ⟨RX7, "takes", "(IIII)I"⟩
abbrev cX7_go : ByteArray := prog_9_method_40_code
def yX7_go : MethodName := ⟨RX7, "go", "()V"⟩
abbrev cX7_water : ByteArray := prog_9_method_41_code
def yX7_water : MethodName := ⟨RX7, "water", "(III)I"⟩
abbrev cX7_floods : ByteArray := prog_9_method_42_code
def yX7_floods : MethodName := ⟨RX7, "floods", "()I"⟩
abbrev cX7_all : ByteArray := prog_9_method_43_code
def yX7_all : MethodName := ⟨RX7, "all", "(I)I"⟩
abbrev cX7_want : ByteArray := prog_9_method_44_code
def yX7_want : MethodName := ⟨RX7, "want", "(IIII)I"⟩
abbrev cX7_serve : ByteArray := prog_9_method_45_code
def yX7_serve : MethodName := ⟨RX7, "serve", "()I"⟩
abbrev cX7_worthNow : ByteArray := prog_9_method_46_code
def yX7_worthNow : MethodName := ⟨RX7, "worthNow", "()I"⟩
abbrev cX7_wants : ByteArray := prog_9_method_47_code
def yX7_wants : MethodName := ⟨RX7, "wants", "(II)I"⟩
abbrev cX7_worth : ByteArray := prog_9_method_48_code
def yX7_worth : MethodName := ⟨RX7, "worth", "()I"⟩
abbrev cX7_best : ByteArray := prog_9_method_49_code
def yX7_best : MethodName := ⟨RX7, "best", "(II)I"⟩
abbrev cX7_price : ByteArray := prog_9_method_50_code
def yX7_price : MethodName := ⟨RX7, "price", "(I)I"⟩
abbrev cX7_part : ByteArray := prog_9_method_51_code
def yX7_part : MethodName := ⟨RX7, "part", "(IIII)I"⟩
abbrev cX7_odds : ByteArray := prog_9_method_52_code
def yX7_odds : MethodName := ⟨RX7, "odds", "(II)I"⟩
abbrev cX7_oddsOf : ByteArray := prog_9_method_53_code
def yX7_oddsOf : MethodName := ⟨RX7, "oddsOf", "(I)I"⟩
abbrev cX7_divisor : ByteArray := prog_9_method_54_code
def yX7_divisor : MethodName := ⟨RX7, "divisor", "(JJ)J"⟩
abbrev cX7_mean : ByteArray := prog_9_method_55_code
def yX7_mean : MethodName := ⟨RX7, "mean", "(II)J"⟩
abbrev cX7_pond : ByteArray := prog_9_method_56_code
def yX7_pond : MethodName := ⟨RX7, "pond", "(I)I"⟩
abbrev cX7_wrong : ByteArray := prog_9_method_57_code
def yX7_wrong : MethodName := ⟨RX7, "wrong", "()I"⟩
abbrev cX7_ones : ByteArray := prog_9_method_58_code
def yX7_ones : MethodName := ⟨RX7, "ones", "(I)I"⟩
abbrev cX7_spare : ByteArray := prog_9_method_59_code
def yX7_spare : MethodName := ⟨RX7, "spare", "()I"⟩
abbrev cX7_judge : ByteArray := prog_9_method_60_code
def yX7_judge : MethodName := ⟨RX7, "judge", "(III)I"⟩
abbrev cX7_copy : ByteArray := prog_9_method_61_code
def yX7_copy : MethodName := ⟨RX7, "copy", "([I[I)V"⟩
abbrev cX7_image : ByteArray := prog_9_method_62_code
def yX7_image : MethodName := ⟨RX7, "image", "()I"⟩
abbrev cX7_undo : ByteArray := prog_9_method_63_code
def yX7_undo : MethodName := ⟨RX7, "undo", "()I"⟩
abbrev cX7_body : ByteArray := prog_9_method_64_code
def yX7_body : MethodName := ⟨RX7, "body", "(I)V"⟩
abbrev cX7_plainLets : ByteArray := prog_9_method_65_code
def yX7_plainLets : MethodName := ⟨RX7, "plainLets", "(II)I"⟩
abbrev cX7_letsAct : ByteArray := prog_9_method_66_code
def yX7_letsAct : MethodName := ⟨RX7, "letsAct", "(II)I"⟩
abbrev cX7_plainTakes : ByteArray := prog_9_method_67_code
def yX7_plainTakes : MethodName := ⟨RX7, "plainTakes", "(II)I"⟩
abbrev cX7_clockTakes : ByteArray := prog_9_method_68_code
def yX7_clockTakes : MethodName := ⟨RX7, "clockTakes", "(II)I"⟩
abbrev cX7_takesAct : ByteArray := prog_9_method_69_code
def yX7_takesAct : MethodName := ⟨RX7, "takesAct", "(II)I"⟩
abbrev cX7_plainTells : ByteArray := prog_9_method_70_code
def yX7_plainTells : MethodName := ⟨RX7, "plainTells", "(II)I"⟩
abbrev cX7_tellsAct : ByteArray := prog_9_method_71_code
def yX7_tellsAct : MethodName := ⟨RX7, "tellsAct", "(II)I"⟩
abbrev cX7_act : ByteArray := prog_9_method_72_code
def yX7_act : MethodName := ⟨RX7, "act", "(III)I"⟩
abbrev cX7_trace : ByteArray := prog_9_method_73_code
def yX7_trace : MethodName := ⟨RX7, "trace", "(I)I"⟩
abbrev cX7_taken : ByteArray := prog_9_method_74_code
def yX7_taken : MethodName := ⟨RX7, "taken", "(II)I"⟩
abbrev cX7_count : ByteArray := prog_9_method_75_code
def yX7_count : MethodName := ⟨RX7, "count", "(I)I"⟩
abbrev cX7_isTape : ByteArray := prog_9_method_76_code
def yX7_isTape : MethodName := ⟨RX7, "isTape", "(I)Z"⟩
abbrev cX7_tape : ByteArray := prog_9_method_77_code
def yX7_tape : MethodName := ⟨RX7, "tape", "(III)I"⟩
abbrev cX7_narrow : ByteArray := prog_9_method_78_code
def yX7_narrow : MethodName := ⟨RX7, "narrow", "(IJ)J"⟩
abbrev cX7_item : ByteArray := prog_9_method_79_code
def yX7_item : MethodName := ⟨RX7, "item", "(IIJ)I"⟩
abbrev cX7_read : ByteArray := prog_9_method_80_code
def yX7_read : MethodName := ⟨RX7, "read", "(II)J"⟩
abbrev cX7_shift : ByteArray := prog_9_method_81_code
def yX7_shift : MethodName := ⟨RX7, "shift", "(IIIII)I"⟩
def RJ6 : String := "java/lang/Integer"
abbrev cJ6_bitCount_0f7a4 : ByteArray := prog_10_method_49_code
def yJ6_bitCount_0f7a4 : MethodName := ⟨RJ6, "bitCount", "(I)I"⟩
def RJ9 : String := "java/lang/Math"
abbrev cJ9_max_7cf53 : ByteArray := prog_11_method_65_code
def yJ9_max_7cf53 : MethodName := ⟨RJ9, "max", "(II)I"⟩
abbrev cJ9_min_7cf53 : ByteArray := prog_11_method_69_code
def yJ9_min_7cf53 : MethodName := ⟨RJ9, "min", "(II)I"⟩
def RJ0 : String := "java/lang/String"
abbrev cJ0_length_8abf5 : ByteArray := prog_12_method_54_code
def yJ0_length_8abf5 : MethodName := ⟨RJ0, "length", "()I"⟩
abbrev cJ0_charAt_5068e : ByteArray := prog_12_method_56_code
def yJ0_charAt_5068e : MethodName := ⟨RJ0, "charAt", "(I)C"⟩
abbrev cJ0_coder_7d493 : ByteArray := prog_12_method_152_code
def yJ0_coder_7d493 : MethodName := ⟨RJ0, "coder", "()B"⟩
abbrev cJ0_isLatin1_aae02 : ByteArray := prog_12_method_154_code
def yJ0_isLatin1_aae02 : MethodName := ⟨RJ0, "isLatin1", "()Z"⟩
abbrev cJ0_checkIndex_df160 : ByteArray := prog_12_method_155_code
def yJ0_checkIndex_df160 : MethodName := ⟨RJ0, "checkIndex", "(II)V"⟩
def RJ1 : String := "java/lang/StringLatin1"
abbrev cJ1_charAt_3b067 : ByteArray := prog_13_method_2_code
def yJ1_charAt_3b067 : MethodName := ⟨RJ1, "charAt", "([BI)C"⟩
def RJ2 : String := "java/lang/StringUTF16"
abbrev cJ2_getChar_3b067 : ByteArray := prog_14_method_5_code
def yJ2_getChar_3b067 : MethodName := ⟨RJ2, "getChar", "([BI)C"⟩
abbrev cJ2_length_9d52b : ByteArray := prog_14_method_6_code
def yJ2_length_9d52b : MethodName := ⟨RJ2, "length", "([B)I"⟩
abbrev cJ2_charAt_3b067 : ByteArray := prog_14_method_83_code
def yJ2_charAt_3b067 : MethodName := ⟨RJ2, "charAt", "([BI)C"⟩
abbrev cJ2_checkIndex_2214a : ByteArray := prog_14_method_91_code
def yJ2_checkIndex_2214a : MethodName := ⟨RJ2, "checkIndex", "(I[B)V"⟩
def RJ10 : String := "java/lang/System"
def RJ7 : String := "java/util/Arrays"
abbrev cJ7_fill_d0a16 : ByteArray := prog_16_method_101_code
def yJ7_fill_d0a16 : MethodName := ⟨RJ7, "fill", "([JJ)V"⟩
abbrev cJ7_fill_53178 : ByteArray := prog_16_method_103_code
def yJ7_fill_53178 : MethodName := ⟨RJ7, "fill", "([II)V"⟩
def RJ3 : String := "jdk/internal/util/Preconditions"
abbrev cJ3_checkIndex_8e157 : ByteArray := prog_17_method_11_code
def yJ3_checkIndex_8e157 : MethodName := ⟨RJ3, "checkIndex", "(IILjava/util/function/BiFunction;)I"⟩
def RL : String := "MeltHoursLaw"
abbrev cL_law : ByteArray := code
def yL_law : MethodName := ⟨RL, "law", "([I)Z"⟩
abbrev vwCl : List vw_C := [(RX0, TX0, 5), (RX1, TX1, 5), (RX2, TX2, 9), (RX3, TX3, 3), (RX4, TX4, 2), (RX5, TX5, 10), (RX6, TX6, 9), (RX7, TX7, 67)]
/-- the words that a call can hand on -/
def lw_good : List Cond := lw_tbl.filter goodWord
theorem good_of {w : Cond} (i : Nat) (h : lw_tbl[i]? = some w) (hg : goodWord w = true) : w ∈ lw_good := List.mem_filter.mpr ⟨List.mem_of_getElem? h, hg⟩
theorem good_in {w : Cond} (h : w ∈ lw_good) : w ∈ lw_tbl := (List.mem_filter.mp h).1
/-- the words of a method: its own code, then all good words of the tables -/
def wsU (y : MethodName) (cc : ByteArray) (maxL : Nat) (ret : Option FieldType) : List Cond := .code y cc maxL ret :: lw_good
theorem goodU {y : MethodName} {cc : ByteArray} {maxL : Nat} {ret : Option FieldType} (h : Cond.code y cc maxL ret ∈ lw_good) : GoodIn lw_good (wsU y cc maxL ret) := fun w hw => by
  rcases List.mem_cons.mp hw with e | e
  · subst e
    exact ⟨h, good_of_word (List.mem_filter.mp h).2⟩
  · exact ⟨e, good_of_word (List.mem_filter.mp e).2⟩
theorem htsU {y : MethodName} {cc : ByteArray} {maxL : Nat} {ret : Option FieldType} {args : Array Value} {s : State} (h : ∀ w ∈ wsU y cc maxL ret, w.before args s = true) : ∀ w ∈ lw_good, w.before args s = true := fun w hw => h w (List.mem_cons_of_mem _ hw)
theorem inX0 : ∀ w ∈ u_ws RX0 TX0 5, w ∈ lw_good := by decide +kernel
theorem inX1 : ∀ w ∈ u_ws RX1 TX1 5, w ∈ lw_good := by decide +kernel
theorem inX2 : ∀ w ∈ u_ws RX2 TX2 9, w ∈ lw_good := by decide +kernel
theorem inX3 : ∀ w ∈ u_ws RX3 TX3 3, w ∈ lw_good := by decide +kernel
theorem inX4 : ∀ w ∈ u_ws RX4 TX4 2, w ∈ lw_good := by decide +kernel
theorem inX5 : ∀ w ∈ u_ws RX5 TX5 10, w ∈ lw_good := by decide +kernel
theorem inX6 : ∀ w ∈ u_ws RX6 TX6 9, w ∈ lw_good := by decide +kernel
theorem inX7 : ∀ w ∈ u_ws RX7 TX7 67, w ∈ lw_good := by decide +kernel
end
section
/-! THE TYPED HEAP: shapes by address, ints by address and place, longs by address and place; J: a judgement over it -/
abbrev shC : Type := (Nat × (Nat → Option (Option Nat))) ⊕ (Nat × Nat × (Nat → Option Nat))
abbrev SH : Type := Nat → Option shC
abbrev IH : Type := Nat → Nat → Int32
abbrev LH : Type := Nat → Nat → Int64
/-- the kinds of arrays: 0 int, 1 boolean, 2 long, 3 of tapes, 4 of int rows -/
def tyA (t : Nat) : FieldType := match t with
  | 0 => .int
  | 1 => .boolean
  | 2 => .long
  | 3 => .object "MeltHours$Tape"
  | _ => .array .int
/-- what is fixed for the whole run: the classes, their slots, the arrays' classes, the heap at the start, the addresses of the texts and their bytes, of the table ABOVE, and of one cell more -/
abbrev GT : Type := (Nat → ClassId) × (Nat → Nat → Nat) × (Nat → ClassId) × Heap × (Nat → Nat) × (Nat → Nat) × Nat × Nat
abbrev gH0 (G : GT) : Heap := G.2.2.2.1
abbrev bA (G : GT) : Nat → Prop := fun q => (gH0 G).size ≤ q
def fv (fk : Nat → Option (Option Nat)) (f : Nat → Int32) (k : Nat) : Value := match fk k with
  | none => .int (f k)
  | some r => va_rf r
def av (t : Nat) (rf : Nat → Option Nat) (f : Nat → Int32) (g : Nat → Int64) (j : Nat) : Value := match t with
  | 0 => .int (f j)
  | 1 => .int (f j)
  | 2 => .long (g j)
  | _ => va_rf (rf j)
def cellAt (G : GT) (c : shC) (f : Nat → Int32) (g : Nat → Int64) (a : Nat) (H : Heap) : Prop := match c with
  | .inl (ci, fk) => ∃ r : vw_C, vwCl[ci]? = some r ∧ t_OB a (G.1 ci) r.2.2 (G.2.1 ci) H (fv fk f)
  | .inr (t, n, rf) => H[a]? = some (arrV (G.2.2.1 t) n (av t rf f g))
def HPh (G : GT) (sh : SH) (I : IH) (L : LH) (n : Nat) (H : Heap) : Prop := H.size = n ∧ (gH0 G).size ≤ n ∧ (∀ q : Nat, q < (gH0 G).size → H[q]? = (gH0 G)[q]?) ∧ ∀ (a : Nat) (c : shC), sh a = some c → (gH0 G).size ≤ a ∧ cellAt G c (I a) (L a) a H
/-- the nest mates' links -/
def nestWs : List Cond := [.methodLinkNest RX6 41 yX0_init RX6, .methodLinkNest RX6 56 yX3_init RX6, .methodLinkNest RX1 112 yX6_isUnder RX6, .methodLinkNest RX4 26 yX6_isUnder RX6, .methodLinkNest RX2 51 yX6_isUnder RX6, .methodLinkNest RX5 54 yX6_copyRows RX6, .methodLinkNest RX5 107 yX6_isUnder RX6, .methodLinkNest RX5 138 yX6_sum RX6, .methodLinkNest RX2 37 yX6_copy RX6, .methodLinkNest RX2 41 yX6_copyRows RX6]
def sLen : List Nat := [2, 3, 1, 3, 4]
def sByt : List (List Int32) := [[108, 116], [111, 115, 116], [103], [101, 97, 107], [112, 111, 110, 100]]
def sIx : List (Nat × String) := [(73, "lt"), (79, "ost"), (81, "g"), (83, "eak"), (85, "pond")]
def abvL : List Int32 := [-1, 0, 0, 0, 1, 2, 3]
def va_AOA (ty : FieldType) (U : State) : Prop := (Cond.arrayOver (.array ty)).before #[] U = true
theorem va_AOA.spec {t : FieldType} {s : State} (h : va_AOA t s) : ∃ comp c k, s.vm.findClass (FieldType.array t).toString = some comp ∧ (s.vm.classes.findIdx? fun x => match x.kind with | .array component _ => component == comp | _ => false) = some c ∧ s.vm.classes[c]? = some k ∧ k.kind = .array comp (.array t) ∧ s.vm.findClass ("[" ++ (FieldType.array t).toString) = some c := by
  unfold va_AOA Cond.before at h
  simp only [Cond.holds, Cond.value, beq_iff_eq] at h
  cases hc : s.vm.findClass (FieldType.array t).toString with
  | none => simp [hc] at h
  | some comp =>
    simp only [hc, Option.bind_some, Option.bind_eq_some_iff, Option.map_eq_some_iff] at h
    obtain ⟨c, hi, k, hk, hb⟩ := h
    obtain ⟨hlt, hp, -⟩ := Array.findIdx?_eq_some_iff_getElem.mp hi
    have hkk : s.vm.classes[c] = k := (Array.getElem?_eq_some_iff.mp hk).2
    rw [hkk] at hp
    cases hkind : k.kind with
    | array component ty =>
      simp only [hkind, Bool.and_eq_true, decide_eq_true_eq, beq_iff_eq] at hb hp
      obtain ⟨e1, e2⟩ := hb
      subst e1
      subst hp
      exact ⟨component, c, k, rfl, hi, hk, hkind, e2⟩
    | _ => simp [hkind] at hp
theorem va_AOA.moved {t : FieldType} {u U : State} (hvm : u.vm.Alike U.vm) (h : va_AOA t u) : va_AOA t U := by
  obtain ⟨comp, c, k, h1, h2, h3, h4, h5⟩ := h.spec
  obtain ⟨k', hk', he⟩ := hvm.2.2 _ _ h3
  have hi : (U.vm.classes.findIdx? fun (x : Class) => match x.kind with | .array component _ => component == comp | _ => false) = some c := by
    first
      | exact (va_idx_bare U.vm comp).symm.trans ((congrArg (fun v : Vm => v.classes.findIdx? fun (x : Class) => match x.kind with | .array component _ => comp == component | _ => false) hvm.bare_eq.symm).trans ((va_idx_bare u.vm comp).trans h2))
      | exact (va_idx_bare U.vm comp).symm.trans ((congrArg (fun v : Vm => v.classes.findIdx? fun (x : Class) => match x.kind with | .array component _ => component == comp | _ => false) hvm.bare_eq).trans ((va_idx_bare u.vm comp).trans h2))
      | exact (va_idx_bare U.vm comp).symm.trans ((congrArg (fun v : Vm => v.classes.findIdx? fun (x : Class) => match x.kind with | .array component _ => component == comp | _ => false) hvm.bare_eq.symm).trans ((va_idx_bare u.vm comp).trans h2))
  have hkind : k'.kind = .array comp (.array t) := by rw [he]; exact h4
  have f1 : U.vm.findClass (FieldType.array t).toString = some comp := by rw [hvm.findClass]; exact h1
  have f2 : U.vm.findClass ("[" ++ (FieldType.array t).toString) = some c := by rw [hvm.findClass]; exact h5
  unfold va_AOA Cond.before Cond.holds
  simp only [Cond.value]
  rw [f1, Option.bind_some]
  refine (congrArg (fun o : Option Nat => (o.bind (fun c => (U.vm.classes[c]?).map fun (k : Class) => match k.kind with | .array _ ty => decide (ty = FieldType.array t) && decide (U.vm.findClass ("[" ++ (FieldType.array t).toString) = some c) | _ => false) == some true)) hi).trans ?_
  simp [hk', hkind, f2]
/-- what the tables, the statics and the texts give, all along -/
def KF (G : GT) (U : State) : Prop :=
  ((∀ (c : Nat) (q : vw_C), vwCl[c]? = some q → u_Kn U q.1 q.2.1 q.2.2 (G.1 c) (G.2.1 c)) ∧ (∀ t, t < 5 → ArrOfT U (G.2.2.1 t) (tyA t) ∧ va_RA U (G.2.2.1 t) (tyA t))) ∧
  va_AO "MeltHours$Tape" U ∧ va_AOA .int U ∧ (∀ w ∈ nestWs, va_Nw w U) ∧
  (∀ i q, sIx[i]? = some q → vk_R RX1 q.1 q.2 (G.2.2.2.2.1 i) U) ∧ vk_S 5 sLen sByt G.2.2.2.2.1 G.2.2.2.2.2.1 (bA G) U (gH0 G) ∧
  va_Z "MeltHours" "ABOVE" "[I" (.ref G.2.2.2.2.2.2.1) (bA G) U (gH0 G) ∧ va_T .int G.2.2.2.2.2.2.1 7 (fun j => .int (abvL.getD j 0)) (bA G) U (gH0 G) ∧
  va_Z "java/lang/String" "COMPACT_STRINGS" "Z" (.int 1) (bA G) U (gH0 G) ∧ va_Z "jdk/internal/util/Preconditions" "SIOOBE_FORMATTER" "Ljava/util/function/BiFunction;" (.ref G.2.2.2.2.2.2.2) (bA G) U (gH0 G)
theorem KF.warm {G : GT} {s U : State} (hW : s.WarmedH U.vm) (h : KF G s) : KF G U := by
  have hv := hW.alike
  obtain ⟨⟨h1, h2⟩, h3, h4, h5, h6, h7, h8, h9, h10, h11⟩ := h
  refine ⟨⟨fun c q hq => u_Kn_moved hv (h1 c q hq), fun t ht => ⟨arrOfT_moved hv (h2 t ht).1, (h2 t ht).2.moved hv⟩⟩, h3.moved hv, h4.moved hv, fun w hw => ?_, fun i q hq => (h6 i q hq).warm hW, h7.moved hv, h8.moved hv, h9.moved hv, h10.moved hv, h11.moved hv⟩
  have h0 := h5 w hw
  simp only [nestWs, List.mem_cons, List.not_mem_nil, or_false] at hw
  rcases hw with rfl | rfl | rfl | rfl | rfl | rfl | rfl | rfl | rfl | rfl <;> exact va_Nw.warmM hW h0
theorem KF.same {G : GT} {s U : State} (hv : s.vm = U.vm) (h : KF G s) : KF G U := by
  have h9 : s.WarmedH U.vm := by rw [← hv]; exact State.WarmedH.refl s
  exact KF.warm h9 h
theorem HPh.lt {G : GT} {sh : SH} {I : IH} {L : LH} {n : Nat} {H : Heap} (h : HPh G sh I L n H) {a : Nat} {c : shC} (ha : sh a = some c) : a < n := by
  obtain ⟨h1, h2, h3, h4⟩ := h
  have h5 := (h4 a c ha).2
  rw [← h1]
  obtain ⟨ci, fk⟩ | ⟨t, m, rf⟩ := c
  · obtain ⟨r, -, cell, q1, -⟩ := h5
    exact (Array.getElem?_eq_some_iff.mp q1).1
  · exact (Array.getElem?_eq_some_iff.mp h5).1
abbrev XT : Type := Program × Launch × Env × Room × State × MethodId × Array Value × List Frame × Method × Code
def MF (G : GT) (X : XT) (own : String) (cc : ByteArray) (nL d : Nat) (ret : Option FieldType) (nm : String) : Prop := match X with
  | (p, _, _, R, s, m, args, _, meth, c) => p.tables.exec = Jvm.exec ∧ c.code = cc ∧ c.maxLocals = nL ∧ s.vm.findClass own = some m.cls ∧ (∀ w ∈ lw_good, w.before args s = true) ∧ meth.sig.returnType = ret ∧ meth.locks = false ∧ meth.name = nm ∧ KF G s ∧ (∀ q : Nat, q < (gH0 G).size → s.heap[q]? = (gH0 G)[q]?) ∧ (gH0 G).size ≤ s.heap.size ∧ R.frames = d ∧ R.locals = 120 * d
def J (G : GT) (X : XT) (Q : State → Prop) (nL : Nat) (sh : SH) (I : IH) (L : LH) (n e es pc : Nat) (ls : List (Nat × Value)) (st : List Value) : Prop := match X with
  | (p, l, e', R, s, m, args, below, meth, c) => ∀ (H : Heap) (locs : List Loc) (cells slots : Nat) (LS : Array Slot), cells + e = R.cells → slots + es = R.slots → HPh G sh I L n H → va_S (bA G) s.heap H locs → lv_has LS nL ls → W p l e' R s m args below meth c H locs cells slots Q (F0 m pc LS st)
def QcT (G : GT) (v : Option Value) (sh : SH) (I : IH) (L : LH) (n : Nat) : Array Value → State → Outcome → State → Prop := fun _ st o t => o = .returned v ∧ HPh G sh I L n t.heap ∧ va_F (bA G) st t
def PcT (G : GT) (av : List Value) (sh : SH) (I : IH) (L : LH) (n : Nat) : Array Value → State → Prop := fun a U => a = av.toArray ∧ HPh G sh I L n U.heap ∧ KF G U
def rmD (d e es : Nat) : Room := { frames := d, cells := e, slots := es, locals := 120 * d }
def Ct (G : GT) (y : MethodName) (cc : ByteArray) (nL : Nat) (ret : Option FieldType) (d : Nat) (av : List Value) (sh : SH) (I : IH) (L : LH) (n : Nat) (v : Option Value) (sh' : SH) (I' : IH) (L' : LH) (n' e es : Nat) : Prop := ∀ l : Launch, Met l y (wsU y cc nL ret) (rmD d e es) (PcT G av sh I L n) (QcT G v sh' I' L' n') e es (bA G)
def QE (G : GT) (X : XT) (v : Option Value) (sh : SH) (I : IH) (L : LH) (n : Nat) : State → Prop := match X with
  | (_, _, _, R, s, _, args, below, _, _) => MQ below (QcT G v sh I L n) args s R.cells R.slots (bA G)
theorem PcT.blind {G : GT} {av : List Value} {sh : SH} {I : IH} {L : LH} {n : Nat} : FrameBlind (PcT G av sh I L n) := fun a U g mk h => ⟨h.1, h.2.1, KF.same (s := U) (U := U.calling g mk a) rfl h.2.2⟩
set_option maxHeartbeats 1000000 in
theorem ct_of {G : GT} {y : MethodName} {cc : ByteArray} {nL : Nat} {ret : Option FieldType} {d : Nat} {av : List Value} {sh : SH} {I : IH} {L : LH} {n : Nat} {v : Option Value} {sh' : SH} {I' : IH} {L' : LH} {n' e es : Nat} (hy : plainName y.cls = true) (hn : Nat.ble (lg_sl av).length nL = true)
    (body : ∀ X : XT, MF G X y.cls cc nL d ret y.name → J G X (QE G X v sh' I' L' n') nL sh I L n e es 0 (lv_args 0 av) []) : Ct G y cc nL ret d av sh I L n v sh' I' L' n' e es := by
  intro l
  refine Met.ofW (cc := cc) (maxL := nL) (ret := ret) hy rfl ?_
  intro p e9 s m args below meth c s₁ B hml hv
  obtain ⟨rfl, hH, hK⟩ := hv
  have hts := atoms_spec (ws := wsU y cc nL ret) B.pre
  have hown : s.vm.findClass y.cls = some m.cls := findClass_of_methodNamed B.named
  have hl := lv_entry av (n := nL) (Nat.le_of_ble_eq_true hn)
  rw [lg_entry_eq]
  exact body (p, l, e9, rmD d e es, s, m, av.toArray, below, meth, c) ⟨B.exec, B.bytes, hml, hown, htsU hts, B.returns, B.notSynchronized, (name_of_methodNamed B.named B.method).1, hK, hH.2.2.1, by rw [hH.1]; exact hH.2.1, rfl, rfl⟩ s.heap [] 0 0 _ (Nat.zero_add e) (Nat.zero_add es) hH va_S.rf hl
section JR
variable {G : GT} {X : XT} {Q : State → Prop} {nL : Nat} {sh : SH} {I : IH} {L : LH} {n e es pc : Nat} {ls : List (Nat × Value)} {st : List Value}
variable {own : String} {cc : ByteArray} {d : Nat} {ret : Option FieldType} {nm : String}
/-- another list of the same locals -/
theorem j_sub (is : List Nat) {ls' : List (Nat × Value)} (hp : lv_pick ls is = ls') (k : J G X Q nL sh I L n e es pc ls' st) : J G X Q nL sh I L n e es pc ls st := by
  obtain ⟨p, l, e', R, s, m, args, below, meth, c⟩ := X
  intro H locs cells slots LS h1 h2 h3 h4 h5
  exact k H locs cells slots LS h1 h2 h3 h4 (lv_sub h5 is hp)
theorem j_e {e0 es0 : Nat} (h1 : e = e0) (h2 : es = es0) (k : J G X Q nL sh I L n e0 es0 pc ls st) : J G X Q nL sh I L n e es pc ls st := by
  subst h1
  subst h2
  exact k

theorem j_iconst (F : MF G X own cc nL d ret nm) {i : Int} (v : Int32) (hd : decode cc pc = .ok (.iconst i, 1)) (hv : Int32.ofInt i = v) (k : J G X Q nL sh I L n e es (pc + 1) ls (.int v :: st)) : J G X Q nL sh I L n e es pc ls (st) := by
  obtain ⟨p, l, e', R, s, m, args, below, meth, c⟩ := X
  obtain ⟨hx, hb, hml, hown, hts, hr, hlocks, hnm, hK, hq0, hq1, hRf, hRl⟩ := F
  intro H locs cells slots LS h1 h2 h3 h4 h5
  exact lv_iconst hx hb hd hv (k H locs cells slots LS h1 h2 h3 h4 h5)
theorem j_bipush (F : MF G X own cc nL d ret nm) {i : Int} (v : Int32) (hd : decode cc pc = .ok (.bipush i, 2)) (hv : (Int8.ofInt i).toInt32 = v) (k : J G X Q nL sh I L n e es (pc + 2) ls (.int v :: st)) : J G X Q nL sh I L n e es pc ls (st) := by
  obtain ⟨p, l, e', R, s, m, args, below, meth, c⟩ := X
  obtain ⟨hx, hb, hml, hown, hts, hr, hlocks, hnm, hK, hq0, hq1, hRf, hRl⟩ := F
  intro H locs cells slots LS h1 h2 h3 h4 h5
  exact lv_bipush hx hb hd hv (k H locs cells slots LS h1 h2 h3 h4 h5)
theorem j_sipush (F : MF G X own cc nL d ret nm) {i : Int} (v : Int32) (hd : decode cc pc = .ok (.sipush i, 3)) (hv : (Int16.ofInt i).toInt32 = v) (k : J G X Q nL sh I L n e es (pc + 3) ls (.int v :: st)) : J G X Q nL sh I L n e es pc ls (st) := by
  obtain ⟨p, l, e', R, s, m, args, below, meth, c⟩ := X
  obtain ⟨hx, hb, hml, hown, hts, hr, hlocks, hnm, hK, hq0, hq1, hRf, hRl⟩ := F
  intro H locs cells slots LS h1 h2 h3 h4 h5
  exact lv_sipush hx hb hd hv (k H locs cells slots LS h1 h2 h3 h4 h5)
theorem j_lconst (F : MF G X own cc nL d ret nm) {i : Fin 2} (v : Int64) (hd : decode cc pc = .ok (.lconst i, 1)) (hv : Int64.ofNat (i : Nat) = v) (k : J G X Q nL sh I L n e es (pc + 1) ls (.long v :: st)) : J G X Q nL sh I L n e es pc ls (st) := by
  obtain ⟨p, l, e', R, s, m, args, below, meth, c⟩ := X
  obtain ⟨hx, hb, hml, hown, hts, hr, hlocks, hnm, hK, hq0, hq1, hRf, hRl⟩ := F
  intro H locs cells slots LS h1 h2 h3 h4 h5
  exact lv_lconst hx hb hd hv (k H locs cells slots LS h1 h2 h3 h4 h5)
theorem j_ldc (F : MF G X own cc nL d ret nm) {ix : Nat} {v : Int32} (hw : Cond.constant own ix v ∈ lw_good) (hd : decode cc pc = .ok (.ldc ix, 2)) (k : J G X Q nL sh I L n e es (pc + 2) ls (.int v :: st)) : J G X Q nL sh I L n e es pc ls (st) := by
  obtain ⟨p, l, e', R, s, m, args, below, meth, c⟩ := X
  obtain ⟨hx, hb, hml, hown, hts, hr, hlocks, hnm, hK, hq0, hq1, hRf, hRl⟩ := F
  intro H locs cells slots LS h1 h2 h3 h4 h5
  exact lv_ldc hx hb hown (hts _ hw) hd (k H locs cells slots LS h1 h2 h3 h4 h5)
theorem j_ldcw (F : MF G X own cc nL d ret nm) {ix : Nat} {v : Int32} (hw : Cond.constant own ix v ∈ lw_good) (hd : decode cc pc = .ok (.ldc_w ix, 3)) (k : J G X Q nL sh I L n e es (pc + 3) ls (.int v :: st)) : J G X Q nL sh I L n e es pc ls (st) := by
  obtain ⟨p, l, e', R, s, m, args, below, meth, c⟩ := X
  obtain ⟨hx, hb, hml, hown, hts, hr, hlocks, hnm, hK, hq0, hq1, hRf, hRl⟩ := F
  intro H locs cells slots LS h1 h2 h3 h4 h5
  exact lv_ldcw hx hb hown (hts _ hw) hd (k H locs cells slots LS h1 h2 h3 h4 h5)
theorem j_ldc2 (F : MF G X own cc nL d ret nm) {ix : Nat} {v : Int64} (hw : Cond.constantLong own ix v ∈ lw_good) (hd : decode cc pc = .ok (.ldc2_w ix, 3)) (k : J G X Q nL sh I L n e es (pc + 3) ls (.long v :: st)) : J G X Q nL sh I L n e es pc ls (st) := by
  obtain ⟨p, l, e', R, s, m, args, below, meth, c⟩ := X
  obtain ⟨hx, hb, hml, hown, hts, hr, hlocks, hnm, hK, hq0, hq1, hRf, hRl⟩ := F
  intro H locs cells slots LS h1 h2 h3 h4 h5
  exact lv_ldc2 hx hb hown (hts _ hw) hd (k H locs cells slots LS h1 h2 h3 h4 h5)
theorem j_iload_n (F : MF G X own cc nL d ret nm) {k0 : Fin 4} {x : Int32} (i : Nat) (hl : ls[i]? = some ((k0 : Nat), .int x)) (hd : decode cc pc = .ok (.iload_n k0, 1)) (k : J G X Q nL sh I L n e es (pc + 1) ls (.int x :: st)) : J G X Q nL sh I L n e es pc ls (st) := by
  obtain ⟨p, l, e', R, s, m, args, below, meth, c⟩ := X
  obtain ⟨hx, hb, hml, hown, hts, hr, hlocks, hnm, hK, hq0, hq1, hRf, hRl⟩ := F
  intro H locs cells slots LS h1 h2 h3 h4 h5
  exact lv_iload_n hx hb hd rfl (lv_at h5 i hl) (k H locs cells slots LS h1 h2 h3 h4 h5)
theorem j_iload (F : MF G X own cc nL d ret nm) {k0 : Nat} {x : Int32} (i : Nat) (hl : ls[i]? = some (k0, .int x)) (hd : decode cc pc = .ok (.iload k0, 2)) (k : J G X Q nL sh I L n e es (pc + 2) ls (.int x :: st)) : J G X Q nL sh I L n e es pc ls (st) := by
  obtain ⟨p, l, e', R, s, m, args, below, meth, c⟩ := X
  obtain ⟨hx, hb, hml, hown, hts, hr, hlocks, hnm, hK, hq0, hq1, hRf, hRl⟩ := F
  intro H locs cells slots LS h1 h2 h3 h4 h5
  exact lv_iload hx hb hd (lv_at h5 i hl) (k H locs cells slots LS h1 h2 h3 h4 h5)
theorem j_lload_n (F : MF G X own cc nL d ret nm) {k0 : Fin 4} {x : Int64} (i : Nat) (hl : ls[i]? = some ((k0 : Nat), .long x)) (hd : decode cc pc = .ok (.lload_n k0, 1)) (k : J G X Q nL sh I L n e es (pc + 1) ls (.long x :: st)) : J G X Q nL sh I L n e es pc ls (st) := by
  obtain ⟨p, l, e', R, s, m, args, below, meth, c⟩ := X
  obtain ⟨hx, hb, hml, hown, hts, hr, hlocks, hnm, hK, hq0, hq1, hRf, hRl⟩ := F
  intro H locs cells slots LS h1 h2 h3 h4 h5
  exact lv_lload_n hx hb hd rfl (lv_at h5 i hl) (k H locs cells slots LS h1 h2 h3 h4 h5)
theorem j_lload (F : MF G X own cc nL d ret nm) {k0 : Nat} {x : Int64} (i : Nat) (hl : ls[i]? = some (k0, .long x)) (hd : decode cc pc = .ok (.lload k0, 2)) (k : J G X Q nL sh I L n e es (pc + 2) ls (.long x :: st)) : J G X Q nL sh I L n e es pc ls (st) := by
  obtain ⟨p, l, e', R, s, m, args, below, meth, c⟩ := X
  obtain ⟨hx, hb, hml, hown, hts, hr, hlocks, hnm, hK, hq0, hq1, hRf, hRl⟩ := F
  intro H locs cells slots LS h1 h2 h3 h4 h5
  exact lv_lload hx hb hd (lv_at h5 i hl) (k H locs cells slots LS h1 h2 h3 h4 h5)
theorem j_aload_n (F : MF G X own cc nL d ret nm) {k0 : Fin 4} {x : Nat} (i : Nat) (hl : ls[i]? = some ((k0 : Nat), .ref x)) (hd : decode cc pc = .ok (.aload_n k0, 1)) (k : J G X Q nL sh I L n e es (pc + 1) ls (.ref x :: st)) : J G X Q nL sh I L n e es pc ls (st) := by
  obtain ⟨p, l, e', R, s, m, args, below, meth, c⟩ := X
  obtain ⟨hx, hb, hml, hown, hts, hr, hlocks, hnm, hK, hq0, hq1, hRf, hRl⟩ := F
  intro H locs cells slots LS h1 h2 h3 h4 h5
  exact lv_aload_n hx hb hd rfl (lv_at h5 i hl) (k H locs cells slots LS h1 h2 h3 h4 h5)
theorem j_aload (F : MF G X own cc nL d ret nm) {k0 : Nat} {x : Nat} (i : Nat) (hl : ls[i]? = some (k0, .ref x)) (hd : decode cc pc = .ok (.aload k0, 2)) (k : J G X Q nL sh I L n e es (pc + 2) ls (.ref x :: st)) : J G X Q nL sh I L n e es pc ls (st) := by
  obtain ⟨p, l, e', R, s, m, args, below, meth, c⟩ := X
  obtain ⟨hx, hb, hml, hown, hts, hr, hlocks, hnm, hK, hq0, hq1, hRf, hRl⟩ := F
  intro H locs cells slots LS h1 h2 h3 h4 h5
  exact lv_aload hx hb hd (lv_at h5 i hl) (k H locs cells slots LS h1 h2 h3 h4 h5)
theorem j_aload_nN (F : MF G X own cc nL d ret nm) {k0 : Fin 4} (i : Nat) (hl : ls[i]? = some ((k0 : Nat), .null)) (hd : decode cc pc = .ok (.aload_n k0, 1)) (k : J G X Q nL sh I L n e es (pc + 1) ls (.null :: st)) : J G X Q nL sh I L n e es pc ls (st) := by
  obtain ⟨p, l, e', R, s, m, args, below, meth, c⟩ := X
  obtain ⟨hx, hb, hml, hown, hts, hr, hlocks, hnm, hK, hq0, hq1, hRf, hRl⟩ := F
  intro H locs cells slots LS h1 h2 h3 h4 h5
  exact lv_aload_nN hx hb hd rfl (lv_at h5 i hl) (k H locs cells slots LS h1 h2 h3 h4 h5)
theorem j_aloadN (F : MF G X own cc nL d ret nm) {k0 : Nat} (i : Nat) (hl : ls[i]? = some (k0, .null)) (hd : decode cc pc = .ok (.aload k0, 2)) (k : J G X Q nL sh I L n e es (pc + 2) ls (.null :: st)) : J G X Q nL sh I L n e es pc ls (st) := by
  obtain ⟨p, l, e', R, s, m, args, below, meth, c⟩ := X
  obtain ⟨hx, hb, hml, hown, hts, hr, hlocks, hnm, hK, hq0, hq1, hRf, hRl⟩ := F
  intro H locs cells slots LS h1 h2 h3 h4 h5
  exact lv_aloadN hx hb hd (lv_at h5 i hl) (k H locs cells slots LS h1 h2 h3 h4 h5)
theorem j_istore_n (F : MF G X own cc nL d ret nm) {k0 : Fin 4} {k1 : Nat} (hk : (k0 : Nat) = k1) {x : Int32} {ls' : List (Nat × Value)} (hn : Nat.ble (k1 + 1) nL = true) (hl : (k1, Value.int x) :: ls.filter (fun q => !(q.1 == k1) && !(q.1 + 1 == k1 && q.2.category == 2)) = ls') (hd : decode cc pc = .ok (.istore_n k0, 1)) (k : J G X Q nL sh I L n e es (pc + 1) ls' st) : J G X Q nL sh I L n e es pc ls (.int x :: st) := by
  obtain ⟨p, l, e', R, s, m, args, below, meth, c⟩ := X
  obtain ⟨hx, hb, hml, hown, hts, hr, hlocks, hnm, hK, hq0, hq1, hRf, hRl⟩ := F
  intro H locs cells slots LS h1 h2 h3 h4 h5
  exact lv_istore_n hx hb hd hk h5 (Nat.le_of_ble_eq_true hn) hl (fun LS h5 => k H locs cells slots LS h1 h2 h3 h4 h5)
theorem j_istore (F : MF G X own cc nL d ret nm) {k1 : Nat} {x : Int32} {ls' : List (Nat × Value)} (hn : Nat.ble (k1 + 1) nL = true) (hl : (k1, Value.int x) :: ls.filter (fun q => !(q.1 == k1) && !(q.1 + 1 == k1 && q.2.category == 2)) = ls') (hd : decode cc pc = .ok (.istore k1, 2)) (k : J G X Q nL sh I L n e es (pc + 2) ls' st) : J G X Q nL sh I L n e es pc ls (.int x :: st) := by
  obtain ⟨p, l, e', R, s, m, args, below, meth, c⟩ := X
  obtain ⟨hx, hb, hml, hown, hts, hr, hlocks, hnm, hK, hq0, hq1, hRf, hRl⟩ := F
  intro H locs cells slots LS h1 h2 h3 h4 h5
  exact lv_istore hx hb hd h5 (Nat.le_of_ble_eq_true hn) hl (fun LS h5 => k H locs cells slots LS h1 h2 h3 h4 h5)
theorem j_lstore_n (F : MF G X own cc nL d ret nm) {k0 : Fin 4} {k1 : Nat} (hk : (k0 : Nat) = k1) {x : Int64} {ls' : List (Nat × Value)} (hn : Nat.ble (k1 + 1 + 1) nL = true) (hl : (k1, Value.long x) :: ls.filter (fun q => !(q.1 == k1) && (!(q.1 == k1 + 1) && !(q.1 + 1 == k1 && q.2.category == 2))) = ls') (hd : decode cc pc = .ok (.lstore_n k0, 1)) (k : J G X Q nL sh I L n e es (pc + 1) ls' st) : J G X Q nL sh I L n e es pc ls (.long x :: st) := by
  obtain ⟨p, l, e', R, s, m, args, below, meth, c⟩ := X
  obtain ⟨hx, hb, hml, hown, hts, hr, hlocks, hnm, hK, hq0, hq1, hRf, hRl⟩ := F
  intro H locs cells slots LS h1 h2 h3 h4 h5
  exact lv_lstore_n hx hb hd hk h5 (Nat.le_of_ble_eq_true hn) hl (fun LS h5 => k H locs cells slots LS h1 h2 h3 h4 h5)
theorem j_lstore (F : MF G X own cc nL d ret nm) {k1 : Nat} {x : Int64} {ls' : List (Nat × Value)} (hn : Nat.ble (k1 + 1 + 1) nL = true) (hl : (k1, Value.long x) :: ls.filter (fun q => !(q.1 == k1) && (!(q.1 == k1 + 1) && !(q.1 + 1 == k1 && q.2.category == 2))) = ls') (hd : decode cc pc = .ok (.lstore k1, 2)) (k : J G X Q nL sh I L n e es (pc + 2) ls' st) : J G X Q nL sh I L n e es pc ls (.long x :: st) := by
  obtain ⟨p, l, e', R, s, m, args, below, meth, c⟩ := X
  obtain ⟨hx, hb, hml, hown, hts, hr, hlocks, hnm, hK, hq0, hq1, hRf, hRl⟩ := F
  intro H locs cells slots LS h1 h2 h3 h4 h5
  exact lv_lstore hx hb hd h5 (Nat.le_of_ble_eq_true hn) hl (fun LS h5 => k H locs cells slots LS h1 h2 h3 h4 h5)
theorem j_astore_n (F : MF G X own cc nL d ret nm) {k0 : Fin 4} {k1 : Nat} (hk : (k0 : Nat) = k1) {x : Nat} {ls' : List (Nat × Value)} (hn : Nat.ble (k1 + 1) nL = true) (hl : (k1, Value.ref x) :: ls.filter (fun q => !(q.1 == k1) && !(q.1 + 1 == k1 && q.2.category == 2)) = ls') (hd : decode cc pc = .ok (.astore_n k0, 1)) (k : J G X Q nL sh I L n e es (pc + 1) ls' st) : J G X Q nL sh I L n e es pc ls (.ref x :: st) := by
  obtain ⟨p, l, e', R, s, m, args, below, meth, c⟩ := X
  obtain ⟨hx, hb, hml, hown, hts, hr, hlocks, hnm, hK, hq0, hq1, hRf, hRl⟩ := F
  intro H locs cells slots LS h1 h2 h3 h4 h5
  exact lv_astore_n hx hb hd hk h5 (Nat.le_of_ble_eq_true hn) hl (fun LS h5 => k H locs cells slots LS h1 h2 h3 h4 h5)
theorem j_astore (F : MF G X own cc nL d ret nm) {k1 : Nat} {x : Nat} {ls' : List (Nat × Value)} (hn : Nat.ble (k1 + 1) nL = true) (hl : (k1, Value.ref x) :: ls.filter (fun q => !(q.1 == k1) && !(q.1 + 1 == k1 && q.2.category == 2)) = ls') (hd : decode cc pc = .ok (.astore k1, 2)) (k : J G X Q nL sh I L n e es (pc + 2) ls' st) : J G X Q nL sh I L n e es pc ls (.ref x :: st) := by
  obtain ⟨p, l, e', R, s, m, args, below, meth, c⟩ := X
  obtain ⟨hx, hb, hml, hown, hts, hr, hlocks, hnm, hK, hq0, hq1, hRf, hRl⟩ := F
  intro H locs cells slots LS h1 h2 h3 h4 h5
  exact lv_astore hx hb hd h5 (Nat.le_of_ble_eq_true hn) hl (fun LS h5 => k H locs cells slots LS h1 h2 h3 h4 h5)
theorem j_astore_nN (F : MF G X own cc nL d ret nm) {k0 : Fin 4} {k1 : Nat} (hk : (k0 : Nat) = k1) {ls' : List (Nat × Value)} (hn : Nat.ble (k1 + 1) nL = true) (hl : (k1, Value.null) :: ls.filter (fun q => !(q.1 == k1) && !(q.1 + 1 == k1 && q.2.category == 2)) = ls') (hd : decode cc pc = .ok (.astore_n k0, 1)) (k : J G X Q nL sh I L n e es (pc + 1) ls' st) : J G X Q nL sh I L n e es pc ls (.null :: st) := by
  obtain ⟨p, l, e', R, s, m, args, below, meth, c⟩ := X
  obtain ⟨hx, hb, hml, hown, hts, hr, hlocks, hnm, hK, hq0, hq1, hRf, hRl⟩ := F
  intro H locs cells slots LS h1 h2 h3 h4 h5
  exact lv_astore_nN hx hb hd hk h5 (Nat.le_of_ble_eq_true hn) hl (fun LS h5 => k H locs cells slots LS h1 h2 h3 h4 h5)
theorem j_astoreN (F : MF G X own cc nL d ret nm) {k1 : Nat} {ls' : List (Nat × Value)} (hn : Nat.ble (k1 + 1) nL = true) (hl : (k1, Value.null) :: ls.filter (fun q => !(q.1 == k1) && !(q.1 + 1 == k1 && q.2.category == 2)) = ls') (hd : decode cc pc = .ok (.astore k1, 2)) (k : J G X Q nL sh I L n e es (pc + 2) ls' st) : J G X Q nL sh I L n e es pc ls (.null :: st) := by
  obtain ⟨p, l, e', R, s, m, args, below, meth, c⟩ := X
  obtain ⟨hx, hb, hml, hown, hts, hr, hlocks, hnm, hK, hq0, hq1, hRf, hRl⟩ := F
  intro H locs cells slots LS h1 h2 h3 h4 h5
  exact lv_astoreN hx hb hd h5 (Nat.le_of_ble_eq_true hn) hl (fun LS h5 => k H locs cells slots LS h1 h2 h3 h4 h5)
theorem j_iinc (F : MF G X own cc nL d ret nm) {k1 : Nat} {i : Int} {x : Int32} (v : Int32) {ls' : List (Nat × Value)} (j : Nat) (hj : ls[j]? = some (k1, .int x)) (hv : x + Int32.ofInt i = v) (hn : Nat.ble (k1 + 1) nL = true) (hl : (k1, Value.int v) :: ls.filter (fun q => !(q.1 == k1) && !(q.1 + 1 == k1 && q.2.category == 2)) = ls') (hd : decode cc pc = .ok (.iinc k1 i, 3)) (k : J G X Q nL sh I L n e es (pc + 3) ls' st) : J G X Q nL sh I L n e es pc ls st := by
  obtain ⟨p, l, e', R, s, m, args, below, meth, c⟩ := X
  obtain ⟨hx, hb, hml, hown, hts, hr, hlocks, hnm, hK, hq0, hq1, hRf, hRl⟩ := F
  intro H locs cells slots LS h1 h2 h3 h4 h5
  exact lv_iinc hx hb hd h5 hj hv (Nat.le_of_ble_eq_true hn) hl (fun LS h5 => k H locs cells slots LS h1 h2 h3 h4 h5)
theorem j_iadd (F : MF G X own cc nL d ret nm) {x y : Int32} (hd : decode cc pc = .ok (.iadd, 1)) (k : J G X Q nL sh I L n e es (pc + 1) ls (.int (x + y) :: st)) : J G X Q nL sh I L n e es pc ls (.int y :: .int x :: st) := by
  obtain ⟨p, l, e', R, s, m, args, below, meth, c⟩ := X
  obtain ⟨hx, hb, hml, hown, hts, hr, hlocks, hnm, hK, hq0, hq1, hRf, hRl⟩ := F
  intro H locs cells slots LS h1 h2 h3 h4 h5
  exact lv_iadd hx hb hd (k H locs cells slots LS h1 h2 h3 h4 h5)
theorem j_isub (F : MF G X own cc nL d ret nm) {x y : Int32} (hd : decode cc pc = .ok (.isub, 1)) (k : J G X Q nL sh I L n e es (pc + 1) ls (.int (x - y) :: st)) : J G X Q nL sh I L n e es pc ls (.int y :: .int x :: st) := by
  obtain ⟨p, l, e', R, s, m, args, below, meth, c⟩ := X
  obtain ⟨hx, hb, hml, hown, hts, hr, hlocks, hnm, hK, hq0, hq1, hRf, hRl⟩ := F
  intro H locs cells slots LS h1 h2 h3 h4 h5
  exact lv_isub hx hb hd (k H locs cells slots LS h1 h2 h3 h4 h5)
theorem j_imul (F : MF G X own cc nL d ret nm) {x y : Int32} (hd : decode cc pc = .ok (.imul, 1)) (k : J G X Q nL sh I L n e es (pc + 1) ls (.int (x * y) :: st)) : J G X Q nL sh I L n e es pc ls (.int y :: .int x :: st) := by
  obtain ⟨p, l, e', R, s, m, args, below, meth, c⟩ := X
  obtain ⟨hx, hb, hml, hown, hts, hr, hlocks, hnm, hK, hq0, hq1, hRf, hRl⟩ := F
  intro H locs cells slots LS h1 h2 h3 h4 h5
  exact lv_imul hx hb hd (k H locs cells slots LS h1 h2 h3 h4 h5)
theorem j_iand (F : MF G X own cc nL d ret nm) {x y : Int32} (hd : decode cc pc = .ok (.iand, 1)) (k : J G X Q nL sh I L n e es (pc + 1) ls (.int (x &&& y) :: st)) : J G X Q nL sh I L n e es pc ls (.int y :: .int x :: st) := by
  obtain ⟨p, l, e', R, s, m, args, below, meth, c⟩ := X
  obtain ⟨hx, hb, hml, hown, hts, hr, hlocks, hnm, hK, hq0, hq1, hRf, hRl⟩ := F
  intro H locs cells slots LS h1 h2 h3 h4 h5
  exact lv_iand hx hb hd (k H locs cells slots LS h1 h2 h3 h4 h5)
theorem j_ior (F : MF G X own cc nL d ret nm) {x y : Int32} (hd : decode cc pc = .ok (.ior, 1)) (k : J G X Q nL sh I L n e es (pc + 1) ls (.int (x ||| y) :: st)) : J G X Q nL sh I L n e es pc ls (.int y :: .int x :: st) := by
  obtain ⟨p, l, e', R, s, m, args, below, meth, c⟩ := X
  obtain ⟨hx, hb, hml, hown, hts, hr, hlocks, hnm, hK, hq0, hq1, hRf, hRl⟩ := F
  intro H locs cells slots LS h1 h2 h3 h4 h5
  exact lv_ior hx hb hd (k H locs cells slots LS h1 h2 h3 h4 h5)
theorem j_ixor (F : MF G X own cc nL d ret nm) {x y : Int32} (hd : decode cc pc = .ok (.ixor, 1)) (k : J G X Q nL sh I L n e es (pc + 1) ls (.int (x ^^^ y) :: st)) : J G X Q nL sh I L n e es pc ls (.int y :: .int x :: st) := by
  obtain ⟨p, l, e', R, s, m, args, below, meth, c⟩ := X
  obtain ⟨hx, hb, hml, hown, hts, hr, hlocks, hnm, hK, hq0, hq1, hRf, hRl⟩ := F
  intro H locs cells slots LS h1 h2 h3 h4 h5
  exact lv_ixor hx hb hd (k H locs cells slots LS h1 h2 h3 h4 h5)
theorem j_ladd (F : MF G X own cc nL d ret nm) {x y : Int64} (hd : decode cc pc = .ok (.ladd, 1)) (k : J G X Q nL sh I L n e es (pc + 1) ls (.long (x + y) :: st)) : J G X Q nL sh I L n e es pc ls (.long y :: .long x :: st) := by
  obtain ⟨p, l, e', R, s, m, args, below, meth, c⟩ := X
  obtain ⟨hx, hb, hml, hown, hts, hr, hlocks, hnm, hK, hq0, hq1, hRf, hRl⟩ := F
  intro H locs cells slots LS h1 h2 h3 h4 h5
  exact lv_ladd hx hb hd (k H locs cells slots LS h1 h2 h3 h4 h5)
theorem j_lsub (F : MF G X own cc nL d ret nm) {x y : Int64} (hd : decode cc pc = .ok (.lsub, 1)) (k : J G X Q nL sh I L n e es (pc + 1) ls (.long (x - y) :: st)) : J G X Q nL sh I L n e es pc ls (.long y :: .long x :: st) := by
  obtain ⟨p, l, e', R, s, m, args, below, meth, c⟩ := X
  obtain ⟨hx, hb, hml, hown, hts, hr, hlocks, hnm, hK, hq0, hq1, hRf, hRl⟩ := F
  intro H locs cells slots LS h1 h2 h3 h4 h5
  exact lv_lsub hx hb hd (k H locs cells slots LS h1 h2 h3 h4 h5)
theorem j_lmul (F : MF G X own cc nL d ret nm) {x y : Int64} (hd : decode cc pc = .ok (.lmul, 1)) (k : J G X Q nL sh I L n e es (pc + 1) ls (.long (x * y) :: st)) : J G X Q nL sh I L n e es pc ls (.long y :: .long x :: st) := by
  obtain ⟨p, l, e', R, s, m, args, below, meth, c⟩ := X
  obtain ⟨hx, hb, hml, hown, hts, hr, hlocks, hnm, hK, hq0, hq1, hRf, hRl⟩ := F
  intro H locs cells slots LS h1 h2 h3 h4 h5
  exact lv_lmul hx hb hd (k H locs cells slots LS h1 h2 h3 h4 h5)
theorem j_land (F : MF G X own cc nL d ret nm) {x y : Int64} (hd : decode cc pc = .ok (.land, 1)) (k : J G X Q nL sh I L n e es (pc + 1) ls (.long (x &&& y) :: st)) : J G X Q nL sh I L n e es pc ls (.long y :: .long x :: st) := by
  obtain ⟨p, l, e', R, s, m, args, below, meth, c⟩ := X
  obtain ⟨hx, hb, hml, hown, hts, hr, hlocks, hnm, hK, hq0, hq1, hRf, hRl⟩ := F
  intro H locs cells slots LS h1 h2 h3 h4 h5
  exact lv_land hx hb hd (k H locs cells slots LS h1 h2 h3 h4 h5)
theorem j_lor (F : MF G X own cc nL d ret nm) {x y : Int64} (hd : decode cc pc = .ok (.lor, 1)) (k : J G X Q nL sh I L n e es (pc + 1) ls (.long (x ||| y) :: st)) : J G X Q nL sh I L n e es pc ls (.long y :: .long x :: st) := by
  obtain ⟨p, l, e', R, s, m, args, below, meth, c⟩ := X
  obtain ⟨hx, hb, hml, hown, hts, hr, hlocks, hnm, hK, hq0, hq1, hRf, hRl⟩ := F
  intro H locs cells slots LS h1 h2 h3 h4 h5
  exact lv_lor hx hb hd (k H locs cells slots LS h1 h2 h3 h4 h5)
theorem j_ishl (F : MF G X own cc nL d ret nm) {x y : Int32} (hd : decode cc pc = .ok (.ishl, 1)) (k : J G X Q nL sh I L n e es (pc + 1) ls (.int (x <<< (y &&& 31)) :: st)) : J G X Q nL sh I L n e es pc ls (.int y :: .int x :: st) := by
  obtain ⟨p, l, e', R, s, m, args, below, meth, c⟩ := X
  obtain ⟨hx, hb, hml, hown, hts, hr, hlocks, hnm, hK, hq0, hq1, hRf, hRl⟩ := F
  intro H locs cells slots LS h1 h2 h3 h4 h5
  exact lv_ishl hx hb hd (k H locs cells slots LS h1 h2 h3 h4 h5)
theorem j_ishr (F : MF G X own cc nL d ret nm) {x y : Int32} (hd : decode cc pc = .ok (.ishr, 1)) (k : J G X Q nL sh I L n e es (pc + 1) ls (.int (x >>> (y &&& 31)) :: st)) : J G X Q nL sh I L n e es pc ls (.int y :: .int x :: st) := by
  obtain ⟨p, l, e', R, s, m, args, below, meth, c⟩ := X
  obtain ⟨hx, hb, hml, hown, hts, hr, hlocks, hnm, hK, hq0, hq1, hRf, hRl⟩ := F
  intro H locs cells slots LS h1 h2 h3 h4 h5
  exact lv_ishr hx hb hd (k H locs cells slots LS h1 h2 h3 h4 h5)
theorem j_idiv (F : MF G X own cc nL d ret nm) {x y : Int32} (hne : ¬ y = 0) (hd : decode cc pc = .ok (.idiv, 1)) (k : J G X Q nL sh I L n e es (pc + 1) ls (.int (x / y) :: st)) : J G X Q nL sh I L n e es pc ls (.int y :: .int x :: st) := by
  obtain ⟨p, l, e', R, s, m, args, below, meth, c⟩ := X
  obtain ⟨hx, hb, hml, hown, hts, hr, hlocks, hnm, hK, hq0, hq1, hRf, hRl⟩ := F
  intro H locs cells slots LS h1 h2 h3 h4 h5
  exact lv_idiv hx hb hd hne (k H locs cells slots LS h1 h2 h3 h4 h5)
theorem j_irem (F : MF G X own cc nL d ret nm) {x y : Int32} (hne : ¬ y = 0) (hd : decode cc pc = .ok (.irem, 1)) (k : J G X Q nL sh I L n e es (pc + 1) ls (.int (x - x / y * y) :: st)) : J G X Q nL sh I L n e es pc ls (.int y :: .int x :: st) := by
  obtain ⟨p, l, e', R, s, m, args, below, meth, c⟩ := X
  obtain ⟨hx, hb, hml, hown, hts, hr, hlocks, hnm, hK, hq0, hq1, hRf, hRl⟩ := F
  intro H locs cells slots LS h1 h2 h3 h4 h5
  exact lv_irem hx hb hd hne (k H locs cells slots LS h1 h2 h3 h4 h5)
theorem j_ldiv (F : MF G X own cc nL d ret nm) {x y : Int64} (hne : ¬ y = 0) (hd : decode cc pc = .ok (.ldiv, 1)) (k : J G X Q nL sh I L n e es (pc + 1) ls (.long (x / y) :: st)) : J G X Q nL sh I L n e es pc ls (.long y :: .long x :: st) := by
  obtain ⟨p, l, e', R, s, m, args, below, meth, c⟩ := X
  obtain ⟨hx, hb, hml, hown, hts, hr, hlocks, hnm, hK, hq0, hq1, hRf, hRl⟩ := F
  intro H locs cells slots LS h1 h2 h3 h4 h5
  exact lv_ldiv hx hb hd hne (k H locs cells slots LS h1 h2 h3 h4 h5)
theorem j_lrem (F : MF G X own cc nL d ret nm) {x y : Int64} (hne : ¬ y = 0) (hd : decode cc pc = .ok (.lrem, 1)) (k : J G X Q nL sh I L n e es (pc + 1) ls (.long (x - x / y * y) :: st)) : J G X Q nL sh I L n e es pc ls (.long y :: .long x :: st) := by
  obtain ⟨p, l, e', R, s, m, args, below, meth, c⟩ := X
  obtain ⟨hx, hb, hml, hown, hts, hr, hlocks, hnm, hK, hq0, hq1, hRf, hRl⟩ := F
  intro H locs cells slots LS h1 h2 h3 h4 h5
  exact lv_lrem hx hb hd hne (k H locs cells slots LS h1 h2 h3 h4 h5)
theorem j_ineg (F : MF G X own cc nL d ret nm) {x : Int32} (hd : decode cc pc = .ok (.ineg, 1)) (k : J G X Q nL sh I L n e es (pc + 1) ls (.int (-x) :: st)) : J G X Q nL sh I L n e es pc ls (.int x :: st) := by
  obtain ⟨p, l, e', R, s, m, args, below, meth, c⟩ := X
  obtain ⟨hx, hb, hml, hown, hts, hr, hlocks, hnm, hK, hq0, hq1, hRf, hRl⟩ := F
  intro H locs cells slots LS h1 h2 h3 h4 h5
  exact lv_ineg hx hb hd (k H locs cells slots LS h1 h2 h3 h4 h5)
theorem j_i2l (F : MF G X own cc nL d ret nm) {x : Int32} (hd : decode cc pc = .ok (.i2l, 1)) (k : J G X Q nL sh I L n e es (pc + 1) ls (.long (x.toInt64) :: st)) : J G X Q nL sh I L n e es pc ls (.int x :: st) := by
  obtain ⟨p, l, e', R, s, m, args, below, meth, c⟩ := X
  obtain ⟨hx, hb, hml, hown, hts, hr, hlocks, hnm, hK, hq0, hq1, hRf, hRl⟩ := F
  intro H locs cells slots LS h1 h2 h3 h4 h5
  exact lv_i2l hx hb hd rfl (k H locs cells slots LS h1 h2 h3 h4 h5)
theorem j_l2i (F : MF G X own cc nL d ret nm) {x : Int64} (hd : decode cc pc = .ok (.l2i, 1)) (k : J G X Q nL sh I L n e es (pc + 1) ls (.int (x.toInt32) :: st)) : J G X Q nL sh I L n e es pc ls (.long x :: st) := by
  obtain ⟨p, l, e', R, s, m, args, below, meth, c⟩ := X
  obtain ⟨hx, hb, hml, hown, hts, hr, hlocks, hnm, hK, hq0, hq1, hRf, hRl⟩ := F
  intro H locs cells slots LS h1 h2 h3 h4 h5
  exact lv_l2i hx hb hd rfl (k H locs cells slots LS h1 h2 h3 h4 h5)
theorem j_i2b (F : MF G X own cc nL d ret nm) {x : Int32} (hd : decode cc pc = .ok (.i2b, 1)) (k : J G X Q nL sh I L n e es (pc + 1) ls (.int (x.toInt8.toInt32) :: st)) : J G X Q nL sh I L n e es pc ls (.int x :: st) := by
  obtain ⟨p, l, e', R, s, m, args, below, meth, c⟩ := X
  obtain ⟨hx, hb, hml, hown, hts, hr, hlocks, hnm, hK, hq0, hq1, hRf, hRl⟩ := F
  intro H locs cells slots LS h1 h2 h3 h4 h5
  exact lv_i2b hx hb hd rfl (k H locs cells slots LS h1 h2 h3 h4 h5)
theorem j_i2s (F : MF G X own cc nL d ret nm) {x : Int32} (hd : decode cc pc = .ok (.i2s, 1)) (k : J G X Q nL sh I L n e es (pc + 1) ls (.int (x.toInt16.toInt32) :: st)) : J G X Q nL sh I L n e es pc ls (.int x :: st) := by
  obtain ⟨p, l, e', R, s, m, args, below, meth, c⟩ := X
  obtain ⟨hx, hb, hml, hown, hts, hr, hlocks, hnm, hK, hq0, hq1, hRf, hRl⟩ := F
  intro H locs cells slots LS h1 h2 h3 h4 h5
  exact lv_i2s hx hb hd rfl (k H locs cells slots LS h1 h2 h3 h4 h5)
theorem j_i2c (F : MF G X own cc nL d ret nm) {x : Int32} (hd : decode cc pc = .ok (.i2c, 1)) (k : J G X Q nL sh I L n e es (pc + 1) ls (.int ((x.toUInt32 % 65536).toInt32) :: st)) : J G X Q nL sh I L n e es pc ls (.int x :: st) := by
  obtain ⟨p, l, e', R, s, m, args, below, meth, c⟩ := X
  obtain ⟨hx, hb, hml, hown, hts, hr, hlocks, hnm, hK, hq0, hq1, hRf, hRl⟩ := F
  intro H locs cells slots LS h1 h2 h3 h4 h5
  exact lv_i2c hx hb hd rfl (k H locs cells slots LS h1 h2 h3 h4 h5)
theorem j_iushr (F : MF G X own cc nL d ret nm) {x y : Int32} (hd : decode cc pc = .ok (.iushr, 1)) (k : J G X Q nL sh I L n e es (pc + 1) ls (.int ((x.toUInt32 >>> (y.toUInt32 &&& Int32.toUInt32 31)).toInt32) :: st)) : J G X Q nL sh I L n e es pc ls (.int y :: .int x :: st) := by
  obtain ⟨p, l, e', R, s, m, args, below, meth, c⟩ := X
  obtain ⟨hx, hb, hml, hown, hts, hr, hlocks, hnm, hK, hq0, hq1, hRf, hRl⟩ := F
  intro H locs cells slots LS h1 h2 h3 h4 h5
  exact lv_iushr hx hb hd rfl (k H locs cells slots LS h1 h2 h3 h4 h5)
theorem j_lshl (F : MF G X own cc nL d ret nm) {x : Int64} {y : Int32} (hd : decode cc pc = .ok (.lshl, 1)) (k : J G X Q nL sh I L n e es (pc + 1) ls (.long (x <<< (y.toInt64 &&& 63)) :: st)) : J G X Q nL sh I L n e es pc ls (.int y :: .long x :: st) := by
  obtain ⟨p, l, e', R, s, m, args, below, meth, c⟩ := X
  obtain ⟨hx, hb, hml, hown, hts, hr, hlocks, hnm, hK, hq0, hq1, hRf, hRl⟩ := F
  intro H locs cells slots LS h1 h2 h3 h4 h5
  exact lv_lshl hx hb hd rfl (k H locs cells slots LS h1 h2 h3 h4 h5)
theorem j_lshr (F : MF G X own cc nL d ret nm) {x : Int64} {y : Int32} (hd : decode cc pc = .ok (.lshr, 1)) (k : J G X Q nL sh I L n e es (pc + 1) ls (.long (x >>> (y.toInt64 &&& 63)) :: st)) : J G X Q nL sh I L n e es pc ls (.int y :: .long x :: st) := by
  obtain ⟨p, l, e', R, s, m, args, below, meth, c⟩ := X
  obtain ⟨hx, hb, hml, hown, hts, hr, hlocks, hnm, hK, hq0, hq1, hRf, hRl⟩ := F
  intro H locs cells slots LS h1 h2 h3 h4 h5
  exact lv_lshr hx hb hd rfl (k H locs cells slots LS h1 h2 h3 h4 h5)
theorem j_lcmp (F : MF G X own cc nL d ret nm) {x y : Int64} (hd : decode cc pc = .ok (.lcmp, 1)) (k : J G X Q nL sh I L n e es (pc + 1) ls (.int (lg_cmp x y) :: st)) : J G X Q nL sh I L n e es pc ls (.long y :: .long x :: st) := by
  obtain ⟨p, l, e', R, s, m, args, below, meth, c⟩ := X
  obtain ⟨hx, hb, hml, hown, hts, hr, hlocks, hnm, hK, hq0, hq1, hRf, hRl⟩ := F
  intro H locs cells slots LS h1 h2 h3 h4 h5
  exact W.lcmp hx hb hd (k H locs cells slots LS h1 h2 h3 h4 h5)
theorem j_dup (F : MF G X own cc nL d ret nm) {va : Value} (hd : decode cc pc = .ok (.dup, 1)) (hva : va.category = 1) (k : J G X Q nL sh I L n e es (pc + 1) ls (va :: va :: st)) : J G X Q nL sh I L n e es pc ls (va :: st) := by
  obtain ⟨p, l, e', R, s, m, args, below, meth, c⟩ := X
  obtain ⟨hx, hb, hml, hown, hts, hr, hlocks, hnm, hK, hq0, hq1, hRf, hRl⟩ := F
  intro H locs cells slots LS h1 h2 h3 h4 h5
  exact lv_dup hx hb hd hva (k H locs cells slots LS h1 h2 h3 h4 h5)
theorem j_dup2 (F : MF G X own cc nL d ret nm) {va vb : Value} (hd : decode cc pc = .ok (.dup2, 1)) (hva : va.category = 1) (hvb : vb.category = 1) (k : J G X Q nL sh I L n e es (pc + 1) ls (va :: vb :: va :: vb :: st)) : J G X Q nL sh I L n e es pc ls (va :: vb :: st) := by
  obtain ⟨p, l, e', R, s, m, args, below, meth, c⟩ := X
  obtain ⟨hx, hb, hml, hown, hts, hr, hlocks, hnm, hK, hq0, hq1, hRf, hRl⟩ := F
  intro H locs cells slots LS h1 h2 h3 h4 h5
  exact lv_dup2_11 hx hb hd hva hvb (k H locs cells slots LS h1 h2 h3 h4 h5)
theorem j_pop (F : MF G X own cc nL d ret nm) {va : Value} (hd : decode cc pc = .ok (.pop, 1)) (hva : va.category = 1) (k : J G X Q nL sh I L n e es (pc + 1) ls (st)) : J G X Q nL sh I L n e es pc ls (va :: st) := by
  obtain ⟨p, l, e', R, s, m, args, below, meth, c⟩ := X
  obtain ⟨hx, hb, hml, hown, hts, hr, hlocks, hnm, hK, hq0, hq1, hRf, hRl⟩ := F
  intro H locs cells slots LS h1 h2 h3 h4 h5
  exact lv_pop hx hb hd hva (k H locs cells slots LS h1 h2 h3 h4 h5)
theorem j_null (F : MF G X own cc nL d ret nm) (hd : decode cc pc = .ok (.aconst_null, 1)) (k : J G X Q nL sh I L n e es (pc + 1) ls (.null :: st)) : J G X Q nL sh I L n e es pc ls (st) := by
  obtain ⟨p, l, e', R, s, m, args, below, meth, c⟩ := X
  obtain ⟨hx, hb, hml, hown, hts, hr, hlocks, hnm, hK, hq0, hq1, hRf, hRl⟩ := F
  intro H locs cells slots LS h1 h2 h3 h4 h5
  exact lv_null hx hb hd (k H locs cells slots LS h1 h2 h3 h4 h5)
theorem j_goto (F : MF G X own cc nL d ret nm) {off : Int} (tgt : Nat) (hd : decode cc pc = .ok (.goto off, 3)) (ht : (pc : Int) + off = (tgt : Int)) (k : J G X Q nL sh I L n e es tgt ls st) : J G X Q nL sh I L n e es pc ls st := by
  obtain ⟨p, l, e', R, s, m, args, below, meth, c⟩ := X
  obtain ⟨hx, hb, hml, hown, hts, hr, hlocks, hnm, hK, hq0, hq1, hRf, hRl⟩ := F
  intro H locs cells slots LS h1 h2 h3 h4 h5
  exact lv_goto hx hb hd ht (k H locs cells slots LS h1 h2 h3 h4 h5)
theorem j_if_eq (F : MF G X own cc nL d ret nm) {x : Int32} {off : Int} (tgt : Nat) (hd : decode cc pc = .ok (.ifCond .eq off, 3)) (ht : (pc : Int) + off = (tgt : Int)) (kt : x = 0 → J G X Q nL sh I L n e es tgt ls st) (kf : ¬ (x = 0) → J G X Q nL sh I L n e es (pc + 3) ls st) : J G X Q nL sh I L n e es pc ls (.int x :: st) := by
  obtain ⟨p, l, e', R, s, m, args, below, meth, c⟩ := X
  obtain ⟨hx, hb, hml, hown, hts, hr, hlocks, hnm, hK, hq0, hq1, hRf, hRl⟩ := F
  intro H locs cells slots LS h1 h2 h3 h4 h5
  exact lv_if_eq hx hb hd ht (fun z => kt z H locs cells slots LS h1 h2 h3 h4 h5) (fun z => kf z H locs cells slots LS h1 h2 h3 h4 h5)
theorem j_icmp_eq (F : MF G X own cc nL d ret nm) {x y : Int32} {off : Int} (tgt : Nat) (hd : decode cc pc = .ok (.if_icmp .eq off, 3)) (ht : (pc : Int) + off = (tgt : Int)) (kt : x = y → J G X Q nL sh I L n e es tgt ls st) (kf : ¬ (x = y) → J G X Q nL sh I L n e es (pc + 3) ls st) : J G X Q nL sh I L n e es pc ls (.int y :: .int x :: st) := by
  obtain ⟨p, l, e', R, s, m, args, below, meth, c⟩ := X
  obtain ⟨hx, hb, hml, hown, hts, hr, hlocks, hnm, hK, hq0, hq1, hRf, hRl⟩ := F
  intro H locs cells slots LS h1 h2 h3 h4 h5
  exact lv_icmp_eq hx hb hd ht (fun z => kt z H locs cells slots LS h1 h2 h3 h4 h5) (fun z => kf z H locs cells slots LS h1 h2 h3 h4 h5)
theorem j_if_ne (F : MF G X own cc nL d ret nm) {x : Int32} {off : Int} (tgt : Nat) (hd : decode cc pc = .ok (.ifCond .ne off, 3)) (ht : (pc : Int) + off = (tgt : Int)) (kt : ¬ x = 0 → J G X Q nL sh I L n e es tgt ls st) (kf : x = 0 → J G X Q nL sh I L n e es (pc + 3) ls st) : J G X Q nL sh I L n e es pc ls (.int x :: st) := by
  obtain ⟨p, l, e', R, s, m, args, below, meth, c⟩ := X
  obtain ⟨hx, hb, hml, hown, hts, hr, hlocks, hnm, hK, hq0, hq1, hRf, hRl⟩ := F
  intro H locs cells slots LS h1 h2 h3 h4 h5
  exact lv_if_ne hx hb hd ht (fun z => kt z H locs cells slots LS h1 h2 h3 h4 h5) (fun z => kf z H locs cells slots LS h1 h2 h3 h4 h5)
theorem j_icmp_ne (F : MF G X own cc nL d ret nm) {x y : Int32} {off : Int} (tgt : Nat) (hd : decode cc pc = .ok (.if_icmp .ne off, 3)) (ht : (pc : Int) + off = (tgt : Int)) (kt : ¬ x = y → J G X Q nL sh I L n e es tgt ls st) (kf : x = y → J G X Q nL sh I L n e es (pc + 3) ls st) : J G X Q nL sh I L n e es pc ls (.int y :: .int x :: st) := by
  obtain ⟨p, l, e', R, s, m, args, below, meth, c⟩ := X
  obtain ⟨hx, hb, hml, hown, hts, hr, hlocks, hnm, hK, hq0, hq1, hRf, hRl⟩ := F
  intro H locs cells slots LS h1 h2 h3 h4 h5
  exact lv_icmp_ne hx hb hd ht (fun z => kt z H locs cells slots LS h1 h2 h3 h4 h5) (fun z => kf z H locs cells slots LS h1 h2 h3 h4 h5)
theorem j_if_lt (F : MF G X own cc nL d ret nm) {x : Int32} {off : Int} (tgt : Nat) (hd : decode cc pc = .ok (.ifCond .lt off, 3)) (ht : (pc : Int) + off = (tgt : Int)) (kt : x < 0 → J G X Q nL sh I L n e es tgt ls st) (kf : ¬ (x < 0) → J G X Q nL sh I L n e es (pc + 3) ls st) : J G X Q nL sh I L n e es pc ls (.int x :: st) := by
  obtain ⟨p, l, e', R, s, m, args, below, meth, c⟩ := X
  obtain ⟨hx, hb, hml, hown, hts, hr, hlocks, hnm, hK, hq0, hq1, hRf, hRl⟩ := F
  intro H locs cells slots LS h1 h2 h3 h4 h5
  exact lv_if_lt hx hb hd ht (fun z => kt z H locs cells slots LS h1 h2 h3 h4 h5) (fun z => kf z H locs cells slots LS h1 h2 h3 h4 h5)
theorem j_icmp_lt (F : MF G X own cc nL d ret nm) {x y : Int32} {off : Int} (tgt : Nat) (hd : decode cc pc = .ok (.if_icmp .lt off, 3)) (ht : (pc : Int) + off = (tgt : Int)) (kt : x < y → J G X Q nL sh I L n e es tgt ls st) (kf : ¬ (x < y) → J G X Q nL sh I L n e es (pc + 3) ls st) : J G X Q nL sh I L n e es pc ls (.int y :: .int x :: st) := by
  obtain ⟨p, l, e', R, s, m, args, below, meth, c⟩ := X
  obtain ⟨hx, hb, hml, hown, hts, hr, hlocks, hnm, hK, hq0, hq1, hRf, hRl⟩ := F
  intro H locs cells slots LS h1 h2 h3 h4 h5
  exact lv_icmp_lt hx hb hd ht (fun z => kt z H locs cells slots LS h1 h2 h3 h4 h5) (fun z => kf z H locs cells slots LS h1 h2 h3 h4 h5)
theorem j_if_ge (F : MF G X own cc nL d ret nm) {x : Int32} {off : Int} (tgt : Nat) (hd : decode cc pc = .ok (.ifCond .ge off, 3)) (ht : (pc : Int) + off = (tgt : Int)) (kt : 0 ≤ x → J G X Q nL sh I L n e es tgt ls st) (kf : ¬ (0 ≤ x) → J G X Q nL sh I L n e es (pc + 3) ls st) : J G X Q nL sh I L n e es pc ls (.int x :: st) := by
  obtain ⟨p, l, e', R, s, m, args, below, meth, c⟩ := X
  obtain ⟨hx, hb, hml, hown, hts, hr, hlocks, hnm, hK, hq0, hq1, hRf, hRl⟩ := F
  intro H locs cells slots LS h1 h2 h3 h4 h5
  exact lv_if_ge hx hb hd ht (fun z => kt z H locs cells slots LS h1 h2 h3 h4 h5) (fun z => kf z H locs cells slots LS h1 h2 h3 h4 h5)
theorem j_icmp_ge (F : MF G X own cc nL d ret nm) {x y : Int32} {off : Int} (tgt : Nat) (hd : decode cc pc = .ok (.if_icmp .ge off, 3)) (ht : (pc : Int) + off = (tgt : Int)) (kt : y ≤ x → J G X Q nL sh I L n e es tgt ls st) (kf : ¬ (y ≤ x) → J G X Q nL sh I L n e es (pc + 3) ls st) : J G X Q nL sh I L n e es pc ls (.int y :: .int x :: st) := by
  obtain ⟨p, l, e', R, s, m, args, below, meth, c⟩ := X
  obtain ⟨hx, hb, hml, hown, hts, hr, hlocks, hnm, hK, hq0, hq1, hRf, hRl⟩ := F
  intro H locs cells slots LS h1 h2 h3 h4 h5
  exact lv_icmp_ge hx hb hd ht (fun z => kt z H locs cells slots LS h1 h2 h3 h4 h5) (fun z => kf z H locs cells slots LS h1 h2 h3 h4 h5)
theorem j_if_gt (F : MF G X own cc nL d ret nm) {x : Int32} {off : Int} (tgt : Nat) (hd : decode cc pc = .ok (.ifCond .gt off, 3)) (ht : (pc : Int) + off = (tgt : Int)) (kt : 0 < x → J G X Q nL sh I L n e es tgt ls st) (kf : ¬ (0 < x) → J G X Q nL sh I L n e es (pc + 3) ls st) : J G X Q nL sh I L n e es pc ls (.int x :: st) := by
  obtain ⟨p, l, e', R, s, m, args, below, meth, c⟩ := X
  obtain ⟨hx, hb, hml, hown, hts, hr, hlocks, hnm, hK, hq0, hq1, hRf, hRl⟩ := F
  intro H locs cells slots LS h1 h2 h3 h4 h5
  exact lv_if_gt hx hb hd ht (fun z => kt z H locs cells slots LS h1 h2 h3 h4 h5) (fun z => kf z H locs cells slots LS h1 h2 h3 h4 h5)
theorem j_icmp_gt (F : MF G X own cc nL d ret nm) {x y : Int32} {off : Int} (tgt : Nat) (hd : decode cc pc = .ok (.if_icmp .gt off, 3)) (ht : (pc : Int) + off = (tgt : Int)) (kt : y < x → J G X Q nL sh I L n e es tgt ls st) (kf : ¬ (y < x) → J G X Q nL sh I L n e es (pc + 3) ls st) : J G X Q nL sh I L n e es pc ls (.int y :: .int x :: st) := by
  obtain ⟨p, l, e', R, s, m, args, below, meth, c⟩ := X
  obtain ⟨hx, hb, hml, hown, hts, hr, hlocks, hnm, hK, hq0, hq1, hRf, hRl⟩ := F
  intro H locs cells slots LS h1 h2 h3 h4 h5
  exact lv_icmp_gt hx hb hd ht (fun z => kt z H locs cells slots LS h1 h2 h3 h4 h5) (fun z => kf z H locs cells slots LS h1 h2 h3 h4 h5)
theorem j_if_le (F : MF G X own cc nL d ret nm) {x : Int32} {off : Int} (tgt : Nat) (hd : decode cc pc = .ok (.ifCond .le off, 3)) (ht : (pc : Int) + off = (tgt : Int)) (kt : x ≤ 0 → J G X Q nL sh I L n e es tgt ls st) (kf : ¬ (x ≤ 0) → J G X Q nL sh I L n e es (pc + 3) ls st) : J G X Q nL sh I L n e es pc ls (.int x :: st) := by
  obtain ⟨p, l, e', R, s, m, args, below, meth, c⟩ := X
  obtain ⟨hx, hb, hml, hown, hts, hr, hlocks, hnm, hK, hq0, hq1, hRf, hRl⟩ := F
  intro H locs cells slots LS h1 h2 h3 h4 h5
  exact lv_if_le hx hb hd ht (fun z => kt z H locs cells slots LS h1 h2 h3 h4 h5) (fun z => kf z H locs cells slots LS h1 h2 h3 h4 h5)
theorem j_icmp_le (F : MF G X own cc nL d ret nm) {x y : Int32} {off : Int} (tgt : Nat) (hd : decode cc pc = .ok (.if_icmp .le off, 3)) (ht : (pc : Int) + off = (tgt : Int)) (kt : x ≤ y → J G X Q nL sh I L n e es tgt ls st) (kf : ¬ (x ≤ y) → J G X Q nL sh I L n e es (pc + 3) ls st) : J G X Q nL sh I L n e es pc ls (.int y :: .int x :: st) := by
  obtain ⟨p, l, e', R, s, m, args, below, meth, c⟩ := X
  obtain ⟨hx, hb, hml, hown, hts, hr, hlocks, hnm, hK, hq0, hq1, hRf, hRl⟩ := F
  intro H locs cells slots LS h1 h2 h3 h4 h5
  exact lv_icmp_le hx hb hd ht (fun z => kt z H locs cells slots LS h1 h2 h3 h4 h5) (fun z => kf z H locs cells slots LS h1 h2 h3 h4 h5)
theorem j_ifnull (F : MF G X own cc nL d ret nm) {a : Nat} {off : Int} (hd : decode cc pc = .ok (.ifnull off, 3)) (k : J G X Q nL sh I L n e es (pc + 3) ls st) : J G X Q nL sh I L n e es pc ls (.ref a :: st) := by
  obtain ⟨p, l, e', R, s, m, args, below, meth, c⟩ := X
  obtain ⟨hx, hb, hml, hown, hts, hr, hlocks, hnm, hK, hq0, hq1, hRf, hRl⟩ := F
  intro H locs cells slots LS h1 h2 h3 h4 h5
  exact lv_ifnull hx hb hd (k H locs cells slots LS h1 h2 h3 h4 h5)
theorem j_ifnullN (F : MF G X own cc nL d ret nm) {off : Int} (tgt : Nat) (hd : decode cc pc = .ok (.ifnull off, 3)) (ht : (pc : Int) + off = (tgt : Int)) (k : J G X Q nL sh I L n e es tgt ls st) : J G X Q nL sh I L n e es pc ls (.null :: st) := by
  obtain ⟨p, l, e', R, s, m, args, below, meth, c⟩ := X
  obtain ⟨hx, hb, hml, hown, hts, hr, hlocks, hnm, hK, hq0, hq1, hRf, hRl⟩ := F
  intro H locs cells slots LS h1 h2 h3 h4 h5
  exact lv_ifnullN hx hb hd ht (k H locs cells slots LS h1 h2 h3 h4 h5)
theorem j_ifnonnull (F : MF G X own cc nL d ret nm) {a : Nat} {off : Int} (tgt : Nat) (hd : decode cc pc = .ok (.ifnonnull off, 3)) (ht : (pc : Int) + off = (tgt : Int)) (k : J G X Q nL sh I L n e es tgt ls st) : J G X Q nL sh I L n e es pc ls (.ref a :: st) := by
  obtain ⟨p, l, e', R, s, m, args, below, meth, c⟩ := X
  obtain ⟨hx, hb, hml, hown, hts, hr, hlocks, hnm, hK, hq0, hq1, hRf, hRl⟩ := F
  intro H locs cells slots LS h1 h2 h3 h4 h5
  exact lv_ifnonnull hx hb hd ht (k H locs cells slots LS h1 h2 h3 h4 h5)
theorem j_ifnonnullN (F : MF G X own cc nL d ret nm) {off : Int} (hd : decode cc pc = .ok (.ifnonnull off, 3)) (k : J G X Q nL sh I L n e es (pc + 3) ls st) : J G X Q nL sh I L n e es pc ls (.null :: st) := by
  obtain ⟨p, l, e', R, s, m, args, below, meth, c⟩ := X
  obtain ⟨hx, hb, hml, hown, hts, hr, hlocks, hnm, hK, hq0, hq1, hRf, hRl⟩ := F
  intro H locs cells slots LS h1 h2 h3 h4 h5
  exact lv_ifnonnullN hx hb hd (k H locs cells slots LS h1 h2 h3 h4 h5)
theorem j_tabIn (F : MF G X own cc nL d ret nm) {dflt lo hi : Int} {offs : Array Int} {len : Nat} {x k0 : Int32} {off : Int} (tgt : Nat) (hk : x = k0) (hd : decode cc pc = .ok (.tableswitch dflt lo hi offs, len)) (hc : (decide (¬ k0.toInt < lo) && decide (¬ hi < k0.toInt)) = true) (ho : offs[(k0.toInt - lo).toNat]? = some off) (ht : (pc : Int) + off = (tgt : Int)) (k : J G X Q nL sh I L n e es tgt ls st) : J G X Q nL sh I L n e es pc ls (.int x :: st) := by
  subst hk
  simp only [Bool.and_eq_true, decide_eq_true_eq] at hc
  obtain ⟨p, l, e', R, s, m, args, below, meth, c⟩ := X
  obtain ⟨hx, hb, hml, hown, hts, hr, hlocks, hnm, hK, hq0, hq1, hRf, hRl⟩ := F
  intro H locs cells slots LS h1 h2 h3 h4 h5
  exact lv_tableIn hx hb hd hc.1 hc.2 ho ht (k H locs cells slots LS h1 h2 h3 h4 h5)
theorem j_tabOut (F : MF G X own cc nL d ret nm) {dflt lo hi : Int} {offs : Array Int} {len : Nat} {x : Int32} (tgt : Nat) (hd : decode cc pc = .ok (.tableswitch dflt lo hi offs, len)) (h : x.toInt < lo ∨ hi < x.toInt) (ht : (pc : Int) + dflt = (tgt : Int)) (k : J G X Q nL sh I L n e es tgt ls st) : J G X Q nL sh I L n e es pc ls (.int x :: st) := by
  obtain ⟨p, l, e', R, s, m, args, below, meth, c⟩ := X
  obtain ⟨hx, hb, hml, hown, hts, hr, hlocks, hnm, hK, hq0, hq1, hRf, hRl⟩ := F
  intro H locs cells slots LS h1 h2 h3 h4 h5
  exact lv_tableOut hx hb hd h ht (k H locs cells slots LS h1 h2 h3 h4 h5)
theorem j_look (F : MF G X own cc nL d ret nm) {dflt : Int} {ps : Array (Int × Int)} {len : Nat} {x : Int32} {off : Int} (tgt : Nat) (hd : decode cc pc = .ok (.lookupswitch dflt ps, len)) (hp : (ps.toList.zip (ps.toList.drop 1)).all (fun (a, next) => a.1 < next.1) = true) (ho : Op.lookupswitch.offset ps.toList dflt x.toInt = off) (ht : (pc : Int) + off = (tgt : Int)) (k : J G X Q nL sh I L n e es tgt ls st) : J G X Q nL sh I L n e es pc ls (.int x :: st) := by
  obtain ⟨p, l, e', R, s, m, args, below, meth, c⟩ := X
  obtain ⟨hx, hb, hml, hown, hts, hr, hlocks, hnm, hK, hq0, hq1, hRf, hRl⟩ := F
  intro H locs cells slots LS h1 h2 h3 h4 h5
  exact lv_lookup hx hb hd hp ho ht (k H locs cells slots LS h1 h2 h3 h4 h5)
end JR
end
section
/-! ROWS OF J: fields, arrays, new cells, calls, returns -/
def upS (sh : SH) (a : Nat) (c : shC) : SH := fun b => if b = a then some c else sh b
def upR {α : Type} (I : Nat → Nat → α) (a : Nat) (f : Nat → α) : Nat → Nat → α := fun b => if b = a then f else I b
theorem upS_same {sh : SH} {a : Nat} {c : shC} : upS sh a c a = some c := if_pos rfl
theorem upR_same {α : Type} {I : Nat → Nat → α} {a : Nat} {f : Nat → α} : upR I a f a = f := if_pos rfl
theorem upS_ne {sh : SH} {a b : Nat} {c : shC} (h : b ≠ a) : upS sh a c b = sh b := if_neg h
theorem upR_ne {α : Type} {I : Nat → Nat → α} {a b : Nat} {f : Nat → α} (h : b ≠ a) : upR I a f b = I b := if_neg h
/-- an int field's value -/
def gI (sh : SH) (I : IH) (ci a k : Nat) : Option Int32 := match sh a with
  | some (.inl (c, fk)) => if c = ci ∧ fk k = none then some (I a k) else none
  | _ => none
/-- a field's reference, not null -/
def gR (sh : SH) (ci a k : Nat) : Option Nat := match sh a with
  | some (.inl (c, fk)) => if c = ci then (fk k).join else none
  | _ => none
def pI (sh : SH) (I : IH) (ci a k : Nat) (v : Int32) : Option IH := match sh a with
  | some (.inl (c, fk)) => if c = ci ∧ fk k = none then some (upR I a (upd (I a) k v)) else none
  | _ => none
def pR (sh : SH) (ci a k r : Nat) : Option SH := match sh a with
  | some (.inl (c, fk)) => if c = ci ∧ (fk k).isSome = true then some (upS sh a (.inl (ci, va_up fk k (some (some r))))) else none
  | _ => none
/-- an array's int -/
def aI (sh : SH) (I : IH) (t a : Nat) (i : Int32) : Option Int32 := match sh a with
  | some (.inr (t', n, _)) => if t' = t ∧ ¬ (i < 0 ∨ n ≤ i.toNatClampNeg) then some (I a i.toNatClampNeg) else none
  | _ => none
def aJ (sh : SH) (L : LH) (a : Nat) (i : Int32) : Option Int64 := match sh a with
  | some (.inr (t', n, _)) => if t' = 2 ∧ ¬ (i < 0 ∨ n ≤ i.toNatClampNeg) then some (L a i.toNatClampNeg) else none
  | _ => none
def aR (sh : SH) (t a : Nat) (i : Int32) : Option Nat := match sh a with
  | some (.inr (t', n, rf)) => if t' = t ∧ ¬ (i < 0 ∨ n ≤ i.toNatClampNeg) then rf i.toNatClampNeg else none
  | _ => none
def sI (sh : SH) (I : IH) (a : Nat) (i v : Int32) : Option IH := match sh a with
  | some (.inr (t', n, _)) => if t' = 0 ∧ ¬ (i < 0 ∨ n ≤ i.toNatClampNeg) then some (upR I a (upd (I a) i.toNatClampNeg v)) else none
  | _ => none
def sZ (sh : SH) (I : IH) (a : Nat) (i v : Int32) : Option IH := match sh a with
  | some (.inr (t', n, _)) => if t' = 1 ∧ ¬ (i < 0 ∨ n ≤ i.toNatClampNeg) then some (upR I a (upd (I a) i.toNatClampNeg (vp_nar .boolean v))) else none
  | _ => none
def sJ (sh : SH) (L : LH) (a : Nat) (i : Int32) (v : Int64) : Option LH := match sh a with
  | some (.inr (t', n, _)) => if t' = 2 ∧ ¬ (i < 0 ∨ n ≤ i.toNatClampNeg) then some (upR L a (vp_updL (L a) i.toNatClampNeg v)) else none
  | _ => none
def sR (sh : SH) (a : Nat) (i : Int32) (r : Nat) : Option SH := match sh a, sh r with
  | some (.inr (t', n, rf)), some (.inl (3, _)) => if t' = 3 ∧ ¬ (i < 0 ∨ n ≤ i.toNatClampNeg) then some (upS sh a (.inr (3, n, va_up rf i.toNatClampNeg (some r)))) else none
  | _, _ => none
def aL (sh : SH) (a : Nat) : Option Int32 := match sh a with
  | some (.inr (t', n, _)) => if t' < 5 then some (Int32.ofNat n) else none
  | _ => none
/-- the object is of a class -/
def isO (sh : SH) (ci a : Nat) : Prop := ∃ fk, sh a = some (.inl (ci, fk))
def ck (sh : SH) (ci a : Nat) : Option Unit := match sh a with
  | some (.inl (c, _)) => if c = ci then some () else none
  | _ => none
/-- a boolean that is one -/
def bz (v : Int32) : Option Int32 := if v = 0 ∨ v = 1 then some v else none
def dvI (x y : Int32) : Option Int32 := if y = 0 then none else some (x / y)
def rmI (x y : Int32) : Option Int32 := if y = 0 then none else some (x - x / y * y)
def dvL (x y : Int64) : Option Int64 := if y = 0 then none else some (x / y)
def rmL (x y : Int64) : Option Int64 := if y = 0 then none else some (x - x / y * y)
/-- a reference that may be null -/
def oc {β : Type} (r : Option Nat) (A : β) (B : Nat → β) : β := match r with
  | none => A
  | some a => B a
theorem oc_obt {β : Type} {r : Option Nat} {A : β} {B : Nat → β} {z : β} (h : oc r A B = z) : (r = none ∧ A = z) ∨ ∃ a, r = some a ∧ B a = z := by
  cases r with
  | none => exact Or.inl ⟨rfl, h⟩
  | some a => exact Or.inr ⟨a, rfl, h⟩
theorem ob {α β : Type} {o : Option α} {f : α → Option β} {r : β} (h : o.bind f = some r) : ∃ x, o = some x ∧ f x = some r := Option.bind_eq_some_iff.mp h
theorem iz_t {c : Prop} {inst : Decidable c} {α : Type} {a b z : α} (hc : c) (h : ite c a b = z) : a = z := by rw [if_pos hc] at h; exact h
theorem iz_f {c : Prop} {inst : Decidable c} {α : Type} {a b z : α} (hc : ¬ c) (h : ite c a b = z) : b = z := by rw [if_neg hc] at h; exact h
theorem gI_obt {sh : SH} {I : IH} {ci a k : Nat} {x : Int32} (h : gI sh I ci a k = some x) : ∃ fk, sh a = some (.inl (ci, fk)) ∧ fk k = none ∧ I a k = x := by
  unfold gI at h
  split at h
  · next c fk hs =>
    split at h
    · next hc =>
      obtain ⟨rfl, h2⟩ := hc
      exact ⟨fk, hs, h2, Option.some.inj h⟩
    · cases h
  · cases h
theorem gR_obt {sh : SH} {ci a k r : Nat} (h : gR sh ci a k = some r) : ∃ fk, sh a = some (.inl (ci, fk)) ∧ fk k = some (some r) := by
  unfold gR at h
  split at h
  · next c fk hs =>
    split at h
    · next hc =>
      subst hc
      refine ⟨fk, hs, ?_⟩
      cases hf : fk k with
      | none => rw [hf] at h; cases h
      | some z =>
        rw [hf] at h
        cases z with
        | none => cases h
        | some w => cases h; rfl
    · cases h
  · cases h
theorem pI_obt {sh : SH} {I I' : IH} {ci a k : Nat} {v : Int32} (h : pI sh I ci a k v = some I') : ∃ fk, sh a = some (.inl (ci, fk)) ∧ fk k = none ∧ I' = upR I a (upd (I a) k v) := by
  unfold pI at h
  split at h
  · next c fk hs =>
    split at h
    · next hc =>
      obtain ⟨rfl, h2⟩ := hc
      exact ⟨fk, hs, h2, (Option.some.inj h).symm⟩
    · cases h
  · cases h
theorem pR_obt {sh sh' : SH} {ci a k r : Nat} (h : pR sh ci a k r = some sh') : ∃ fk, sh a = some (.inl (ci, fk)) ∧ (fk k).isSome = true ∧ sh' = upS sh a (.inl (ci, va_up fk k (some (some r)))) := by
  unfold pR at h
  split at h
  · next c fk hs =>
    split at h
    · next hc =>
      obtain ⟨rfl, h2⟩ := hc
      exact ⟨fk, hs, h2, (Option.some.inj h).symm⟩
    · cases h
  · cases h
theorem aI_obt {sh : SH} {I : IH} {t a : Nat} {i x : Int32} (h : aI sh I t a i = some x) : ∃ n rf, sh a = some (.inr (t, n, rf)) ∧ vp_in i n ∧ I a i.toNatClampNeg = x := by
  unfold aI at h
  split at h
  · next t' n rf hs =>
    split at h
    · next hc =>
      obtain ⟨rfl, h2⟩ := hc
      exact ⟨n, rf, hs, h2, Option.some.inj h⟩
    · cases h
  · cases h
theorem aJ_obt {sh : SH} {L : LH} {a : Nat} {i : Int32} {x : Int64} (h : aJ sh L a i = some x) : ∃ n rf, sh a = some (.inr (2, n, rf)) ∧ vp_in i n ∧ L a i.toNatClampNeg = x := by
  unfold aJ at h
  split at h
  · next t' n rf hs =>
    split at h
    · next hc =>
      obtain ⟨rfl, h2⟩ := hc
      exact ⟨n, rf, hs, h2, Option.some.inj h⟩
    · cases h
  · cases h
theorem aR_obt {sh : SH} {t a : Nat} {i : Int32} {r : Nat} (h : aR sh t a i = some r) : ∃ n rf, sh a = some (.inr (t, n, rf)) ∧ vp_in i n ∧ rf i.toNatClampNeg = some r := by
  unfold aR at h
  split at h
  · next t' n rf hs =>
    split at h
    · next hc =>
      obtain ⟨rfl, h2⟩ := hc
      exact ⟨n, rf, hs, h2, h⟩
    · cases h
  · cases h
theorem sI_obt {sh : SH} {I I' : IH} {a : Nat} {i v : Int32} (h : sI sh I a i v = some I') : ∃ n rf, sh a = some (.inr (0, n, rf)) ∧ vp_in i n ∧ I' = upR I a (upd (I a) i.toNatClampNeg v) := by
  unfold sI at h
  split at h
  · next t' n rf hs =>
    split at h
    · next hc =>
      obtain ⟨rfl, h2⟩ := hc
      exact ⟨n, rf, hs, h2, (Option.some.inj h).symm⟩
    · cases h
  · cases h
theorem sZ_obt {sh : SH} {I I' : IH} {a : Nat} {i v : Int32} (h : sZ sh I a i v = some I') : ∃ n rf, sh a = some (.inr (1, n, rf)) ∧ vp_in i n ∧ I' = upR I a (upd (I a) i.toNatClampNeg (vp_nar .boolean v)) := by
  unfold sZ at h
  split at h
  · next t' n rf hs =>
    split at h
    · next hc =>
      obtain ⟨rfl, h2⟩ := hc
      exact ⟨n, rf, hs, h2, (Option.some.inj h).symm⟩
    · cases h
  · cases h
theorem sJ_obt {sh : SH} {L L' : LH} {a : Nat} {i : Int32} {v : Int64} (h : sJ sh L a i v = some L') : ∃ n rf, sh a = some (.inr (2, n, rf)) ∧ vp_in i n ∧ L' = upR L a (vp_updL (L a) i.toNatClampNeg v) := by
  unfold sJ at h
  split at h
  · next t' n rf hs =>
    split at h
    · next hc =>
      obtain ⟨rfl, h2⟩ := hc
      exact ⟨n, rf, hs, h2, (Option.some.inj h).symm⟩
    · cases h
  · cases h
theorem sR_obt {sh sh' : SH} {a : Nat} {i : Int32} {r : Nat} (h : sR sh a i r = some sh') : ∃ n rf fk, sh a = some (.inr (3, n, rf)) ∧ sh r = some (.inl (3, fk)) ∧ vp_in i n ∧ sh' = upS sh a (.inr (3, n, va_up rf i.toNatClampNeg (some r))) := by
  unfold sR at h
  split at h
  · next t' n rf fk hs hr =>
    split at h
    · next hc =>
      obtain ⟨rfl, h2⟩ := hc
      exact ⟨n, rf, fk, hs, hr, h2, (Option.some.inj h).symm⟩
    · cases h
  · cases h
theorem aL_obt {sh : SH} {a : Nat} {x : Int32} (h : aL sh a = some x) : ∃ t n rf, sh a = some (.inr (t, n, rf)) ∧ t < 5 ∧ x = Int32.ofNat n := by
  unfold aL at h
  split at h
  · next t' n rf hs =>
    split at h
    · next hc => exact ⟨t', n, rf, hs, hc, (Option.some.inj h).symm⟩
    · cases h
  · cases h
theorem ck_obt {sh : SH} {ci a : Nat} {u : Unit} (h : ck sh ci a = some u) : isO sh ci a := by
  unfold ck at h
  split at h
  · next c fk hs =>
    split at h
    · next hc =>
      subst hc
      exact ⟨fk, hs⟩
    · cases h
  · cases h
theorem bz_obt {v r : Int32} (h : bz v = some r) : r = v ∧ (v = 0 ∨ v = 1) := by
  unfold bz at h
  split at h
  · next hc => exact ⟨(Option.some.inj h).symm, hc⟩
  · cases h
theorem dvI_obt {x y r : Int32} (h : dvI x y = some r) : ¬ y = 0 ∧ r = x / y := by
  unfold dvI at h
  split at h
  · cases h
  · next hc => exact ⟨hc, (Option.some.inj h).symm⟩
theorem rmI_obt {x y r : Int32} (h : rmI x y = some r) : ¬ y = 0 ∧ r = x - x / y * y := by
  unfold rmI at h
  split at h
  · cases h
  · next hc => exact ⟨hc, (Option.some.inj h).symm⟩
theorem dvL_obt {x y r : Int64} (h : dvL x y = some r) : ¬ y = 0 ∧ r = x / y := by
  unfold dvL at h
  split at h
  · cases h
  · next hc => exact ⟨hc, (Option.some.inj h).symm⟩
theorem rmL_obt {x y r : Int64} (h : rmL x y = some r) : ¬ y = 0 ∧ r = x - x / y * y := by
  unfold rmL at h
  split at h
  · cases h
  · next hc => exact ⟨hc, (Option.some.inj h).symm⟩
/-! the picture under a change -/
theorem cellAt.kept {G : GT} {c : shC} {f : Nat → Int32} {g : Nat → Int64} {a : Nat} {H H1 : Heap} (h : cellAt G c f g a H) (hq : H1[a]? = H[a]?) : cellAt G c f g a H1 := by
  obtain ⟨ci, fk⟩ | ⟨t, m, rf⟩ := c
  · obtain ⟨r, h1, h2⟩ := h
    exact ⟨r, h1, h2.kept hq⟩
  · exact hq.trans h
theorem HPh.putI {G : GT} {sh : SH} {I : IH} {L : LH} {n : Nat} {H H1 : Heap} {a : Nat} {c : shC} {f : Nat → Int32} (h : HPh G sh I L n H) (ha : sh a = some c) (hz : H1.size = H.size) (ho : ∀ q : Nat, q ≠ a → H1[q]? = H[q]?) (hc : cellAt G c f (L a) a H1) : HPh G sh (upR I a f) L n H1 := by
  obtain ⟨h1, h2, h3, h4⟩ := h
  refine ⟨hz.trans h1, h2, fun q hq => ?_, fun b c' hb => ?_⟩
  · rw [ho q (fun e => by subst e; exact absurd (h4 q c ha).1 (by omega))]
    exact h3 q hq
  · by_cases e : b = a
    · subst e
      rw [ha] at hb
      cases hb
      exact ⟨(h4 b c ha).1, by rw [upR_same]; exact hc⟩
    · rw [upR_ne e]
      exact ⟨(h4 b c' hb).1, (h4 b c' hb).2.kept (ho b e)⟩
theorem HPh.putL {G : GT} {sh : SH} {I : IH} {L : LH} {n : Nat} {H H1 : Heap} {a : Nat} {c : shC} {g : Nat → Int64} (h : HPh G sh I L n H) (ha : sh a = some c) (hz : H1.size = H.size) (ho : ∀ q : Nat, q ≠ a → H1[q]? = H[q]?) (hc : cellAt G c (I a) g a H1) : HPh G sh I (upR L a g) n H1 := by
  obtain ⟨h1, h2, h3, h4⟩ := h
  refine ⟨hz.trans h1, h2, fun q hq => ?_, fun b c' hb => ?_⟩
  · rw [ho q (fun e => by subst e; exact absurd (h4 q c ha).1 (by omega))]
    exact h3 q hq
  · by_cases e : b = a
    · subst e
      rw [ha] at hb
      cases hb
      exact ⟨(h4 b c ha).1, by rw [upR_same]; exact hc⟩
    · rw [upR_ne e]
      exact ⟨(h4 b c' hb).1, (h4 b c' hb).2.kept (ho b e)⟩
theorem HPh.putS {G : GT} {sh : SH} {I : IH} {L : LH} {n : Nat} {H H1 : Heap} {a : Nat} {c c1 : shC} (h : HPh G sh I L n H) (ha : sh a = some c) (hz : H1.size = H.size) (ho : ∀ q : Nat, q ≠ a → H1[q]? = H[q]?) (hc : cellAt G c1 (I a) (L a) a H1) : HPh G (upS sh a c1) I L n H1 := by
  obtain ⟨h1, h2, h3, h4⟩ := h
  refine ⟨hz.trans h1, h2, fun q hq => ?_, fun b c' hb => ?_⟩
  · rw [ho q (fun e => by subst e; exact absurd (h4 q c ha).1 (by omega))]
    exact h3 q hq
  · by_cases e : b = a
    · subst e
      rw [upS_same] at hb
      cases hb
      exact ⟨(h4 b c ha).1, hc⟩
    · rw [upS_ne e] at hb
      exact ⟨(h4 b c' hb).1, (h4 b c' hb).2.kept (ho b e)⟩
theorem HPh.push {G : GT} {sh : SH} {I : IH} {L : LH} {n : Nat} {H H1 : Heap} {c : shC} {f : Nat → Int32} {g : Nat → Int64} (h : HPh G sh I L n H) (hz : H1.size = H.size + 1) (ho : ∀ q : Nat, q < H.size → H1[q]? = H[q]?) (hc : cellAt G c f g n H1) : HPh G (upS sh n c) (upR I n f) (upR L n g) (n + 1) H1 := by
  have h9 := h
  obtain ⟨h1, h2, h3, h4⟩ := h
  refine ⟨by rw [hz, h1], by omega, fun q hq => ?_, fun b c' hb => ?_⟩
  · rw [ho q (by omega)]
    exact h3 q hq
  · by_cases e : b = n
    · subst e
      rw [upS_same] at hb
      cases hb
      exact ⟨h2, by rw [upR_same, upR_same]; exact hc⟩
    · rw [upS_ne e] at hb
      rw [upR_ne e, upR_ne e]
      exact ⟨(h4 b c' hb).1, (h4 b c' hb).2.kept (ho b (by rw [h1]; exact h9.lt hb))⟩
theorem upR_id {α : Type} {I : Nat → Nat → α} {a : Nat} : upR I a (I a) = I := by
  funext b
  by_cases e : b = a
  · subst e
    exact upR_same
  · exact upR_ne e
/-! the words of a field, of a call -/
def FL (own : String) (ix ci k : Nat) : Prop := ∃ (C : String) (T : u_T) (N : Nat), vwCl[ci]? = some (C, T, N) ∧ k < N ∧ (∀ w ∈ u_ws C T N, w ∈ lw_good) ∧ Cond.fieldLink own ix C (T k).2.1 (T k).2.2.1 ∈ lw_good ∧ (T k).1 = C
def FP (ci k : Nat) (fin : Bool) (ty : FieldType) : Prop := ∃ (C : String) (T : u_T) (N : Nat) (tf : Nat → FieldType), vwCl[ci]? = some (C, T, N) ∧ (∀ k, k < N → parseFieldDescriptor (T k).2.2.1 = some (tf k)) ∧ (∀ a, a < N → ∀ b, b < N → a ≠ b → (T a).2.1 ≠ (T b).2.1) ∧ (T k).2.2.2 = fin ∧ parseFieldDescriptor (T k).2.2.1 = some ty
section PW
variable {p : Program} {l : Launch} {e : Env} {R : Room} {s : State} {m : MethodId} {args : Array Value} {below : List Frame} {meth : Method} {c : Code} {H : Heap} {locs : List Loc} {cells slots : Nat} {Q : State → Prop}
variable {cc : ByteArray} {pc : Nat} {ls : Array Slot} {rest : List Value} {G : GT} {own : String}
theorem getW (hexec : p.tables.exec = Jvm.exec) (hb : c.code = cc) (hown : s.vm.findClass own = some m.cls) (hts : ∀ w ∈ lw_good, w.before args s = true) (hK : KF G s) {ix ci k : Nat} (fl : FL own ix ci k) {a : Nat} {V : Nat → Value} {r : vw_C} (hr : vwCl[ci]? = some r) (ho : t_OB a (G.1 ci) r.2.2 (G.2.1 ci) H V) {v : Value} (hv : V k = v) (hdg : decode cc pc = .ok (.getfield ix, 3))
    (kk : W p l e R s m args below meth c H locs cells slots Q (F0 m (pc + 3) ls (v :: rest))) : W p l e R s m args below meth c H locs cells slots Q (F0 m pc ls (.ref a :: rest)) := by
  obtain ⟨C, T, N, hc, hk, hin, hlink, hTk⟩ := fl
  cases hr.symm.trans hc
  obtain ⟨cell, q1, q2, q3, q4⟩ := ho
  obtain ⟨hS, hfc, kC, hkC, hkind⟩ := hK.1.1 ci _ hc
  obtain ⟨cf, kf, fi, f, hi, hsl⟩ := hS k hk
  refine W.getf hexec hb hown (hts _ hlink) (by rw [← hTk]; exact hi) (u_facts hfc hkC (u_lays hts hin hk) hi).1 q1 (by rw [q3]; exact fun h => by cases h) (v := v) ?_ rfl rfl hdg kk
  rw [hsl, q4 k hk, hv]
theorem putW (hexec : p.tables.exec = Jvm.exec) (hb : c.code = cc) (hown : s.vm.findClass own = some m.cls) (hts : ∀ w ∈ lw_good, w.before args s = true) (hK : KF G s) {ix ci k : Nat} (fl : FL own ix ci k) {fin : Bool} {ty : FieldType} (fp : FP ci k fin ty) {a : Nat} {V : Nat → Value} {r : vw_C} (hr : vwCl[ci]? = some r) (hfin : fin = true → meth.name = "<init>" ∧ r.1 = own) (ho : t_OB a (G.1 ci) r.2.2 (G.2.1 ci) H V) {v : Value} (hn : narrow ty v = v) (hfit : fits ty v = true) (hdg : decode cc pc = .ok (.putfield ix, 3))
    (kk : ∀ (H1 : Heap) (i : Nat), t_OB a (G.1 ci) r.2.2 (G.2.1 ci) H1 (updV V k v) → H1.size = H.size → (∀ q : Nat, q ≠ a → H1[q]? = H[q]?) → W p l e R s m args below meth c H1 (locs ++ [⟨a, i⟩]) cells slots Q (F0 m (pc + 3) ls rest)) : W p l e R s m args below meth c H locs cells slots Q (F0 m pc ls (v :: .ref a :: rest)) := by
  obtain ⟨C, T, N, hc, hk, hin, hlink, hTk⟩ := fl
  cases hr.symm.trans hc
  obtain ⟨C', T', N', tf, hc', htf, hnm, hfl, hd⟩ := fp
  cases hc.symm.trans hc'
  have hap := va_apart (D := (G.1, G.2.1)) (cl := vwCl) (tys := []) (own := own) hts hin tf htf hnm ⟨hK.1.1, fun k q h => by simp at h⟩ hc
  obtain ⟨cell, q1, q2, q3, q4⟩ := ho
  obtain ⟨hS, hfc, kC, hkC, hkind⟩ := hK.1.1 ci _ hc
  obtain ⟨cf, kf, fi, f, hi, hsl⟩ := hS k hk
  have hlay := hts _ (hin _ (u_in_lay hk))
  have hst := (u_facts hfc hkC (u_lays hts hin hk) hi).1
  unfold u_lay at hlay
  cases fin with
  | false =>
    rw [if_neg (by rw [hfl]; decide)] at hlay
    have h6 := u_store hfc hkC hkind hlay hi hd hn hfit
    refine W.putK hexec hb (f := f) ⟨hown, hts _ hlink, ⟨_, _, _, by rw [← hTk]; exact hi⟩, hst⟩ (by rw [q2]; exact h6) q1 q3 (by rw [hsl]; exact k2_hasslot (q4 k hk)) rfl rfl hdg fun H' e1 e2 e3 => ?_
    rw [hsl] at e1 ⊢
    exact kk H' _ ⟨_, e1, q2, q3, t_set q4 hap hk v⟩ e2 e3
  | true =>
    rw [if_pos hfl] at hlay
    have hcf : m.cls = cf := by
      obtain ⟨_, _, c', _, _, _, -, -, hf', -, -, -, hown2, -⟩ := Cond.laysFinal_spec hlay
      have e1 : c' = cf := by have := hi.symm.trans hf'; simp at this; exact this.1.symm
      have hC : C = own := (hfin rfl).2
      rw [hTk, hC] at hown2
      rw [← e1]; exact Option.some.inj (hown.symm.trans hown2)
    have h6 := u_fits hfc hkC hkind (Or.inr hlay) hi hd hn hfit
    refine W.putFinK hexec hb hown (hts _ hlink) (by rw [← hTk]; exact hi) hst hcf (hfin rfl).1 (by rw [q2]; exact h6) q1 q3 (by rw [hsl]; exact k2_hasslot (q4 k hk)) rfl rfl hdg fun H' e1 e2 e3 => ?_
    rw [hsl] at e1 ⊢
    exact kk H' _ ⟨_, e1, q2, q3, t_set q4 hap hk v⟩ e2 e3
end PW
theorem fv_int {fk : Nat → Option (Option Nat)} {f : Nat → Int32} {k : Nat} (h : fk k = none) : fv fk f k = .int (f k) := by simp [fv, h]
theorem fv_ref {fk : Nat → Option (Option Nat)} {f : Nat → Int32} {k r : Nat} (h : fk k = some (some r)) : fv fk f k = .ref r := by simp [fv, h, va_rf]
theorem fv_putI {fk : Nat → Option (Option Nat)} {f : Nat → Int32} {k : Nat} {v : Int32} (h : fk k = none) (j : Nat) : updV (fv fk f) k (.int v) j = fv fk (upd f k v) j := by
  by_cases e : j = k
  · subst e
    simp [updV, fv, h, upd]
  · simp [updV, fv, upd, e]
theorem fv_putR {fk : Nat → Option (Option Nat)} {f : Nat → Int32} {k r : Nat} (j : Nat) : updV (fv fk f) k (.ref r) j = fv (va_up fk k (some (some r))) f j := by
  by_cases e : j = k
  · subst e
    simp [updV, fv, va_up, va_rf]
  · simp [updV, fv, va_up, e]
theorem narrow_z {v : Int32} (h : v = 0 ∨ v = 1) : narrow .boolean (.int v) = .int v := by rcases h with rfl | rfl <;> rfl
theorem fits_z {v : Int32} (h : v = 0 ∨ v = 1) : fits .boolean (.int v) = true := by rcases h with rfl | rfl <;> rfl
section JH
variable {G : GT} {X : XT} {Q : State → Prop} {nL : Nat} {sh : SH} {I : IH} {L : LH} {n e es pc : Nat} {ls : List (Nat × Value)} {st : List Value}
variable {own : String} {cc : ByteArray} {d : Nat} {ret : Option FieldType} {nm : String}
theorem j_getI (F : MF G X own cc nL d ret nm) {ix ci k a : Nat} {x : Int32} (fl : FL own ix ci k) (hg : gI sh I ci a k = some x) (hd : decode cc pc = .ok (.getfield ix, 3)) (kk : J G X Q nL sh I L n e es (pc + 3) ls (.int x :: st)) : J G X Q nL sh I L n e es pc ls (.ref a :: st) := by
  obtain ⟨p, l, e', R, s, m, args, below, meth, c⟩ := X
  obtain ⟨hx, hb, hml, hown, hts, hr, hlocks, hnm, hK, hq0, hq1, hRf, hRl⟩ := F
  intro H locs cells slots LS h1 h2 h3 h4 h5
  obtain ⟨fk, g1, g2, g3⟩ := gI_obt hg
  obtain ⟨r, r1, r2⟩ := (h3.2.2.2 a _ g1).2
  exact getW hx hb hown hts hK fl r1 r2 (by rw [fv_int g2, g3]) hd (kk H locs cells slots LS h1 h2 h3 h4 h5)
theorem j_getR (F : MF G X own cc nL d ret nm) {ix ci k a r0 : Nat} (fl : FL own ix ci k) (hg : gR sh ci a k = some r0) (hd : decode cc pc = .ok (.getfield ix, 3)) (kk : J G X Q nL sh I L n e es (pc + 3) ls (.ref r0 :: st)) : J G X Q nL sh I L n e es pc ls (.ref a :: st) := by
  obtain ⟨p, l, e', R, s, m, args, below, meth, c⟩ := X
  obtain ⟨hx, hb, hml, hown, hts, hr, hlocks, hnm, hK, hq0, hq1, hRf, hRl⟩ := F
  intro H locs cells slots LS h1 h2 h3 h4 h5
  obtain ⟨fk, g1, g2⟩ := gR_obt hg
  obtain ⟨r, r1, r2⟩ := (h3.2.2.2 a _ g1).2
  exact getW hx hb hown hts hK fl r1 r2 (fv_ref g2) hd (kk H locs cells slots LS h1 h2 h3 h4 h5)
theorem j_putI (F : MF G X own cc nL d ret nm) {ix ci k a : Nat} {v : Int32} {I' : IH} {fin : Bool} (fl : FL own ix ci k) (fp : FP ci k fin .int) (hfin : fin = true → nm = "<init>" ∧ (vwCl[ci]?).map (·.1) = some own) (hg : pI sh I ci a k v = some I') (hd : decode cc pc = .ok (.putfield ix, 3)) (kk : J G X Q nL sh I' L n e es (pc + 3) ls st) : J G X Q nL sh I L n e es pc ls (.int v :: .ref a :: st) := by
  obtain ⟨p, l, e', R, s, m, args, below, meth, c⟩ := X
  obtain ⟨hx, hb, hml, hown, hts, hr, hlocks, hnm, hK, hq0, hq1, hRf, hRl⟩ := F
  intro H locs cells slots LS h1 h2 h3 h4 h5
  obtain ⟨fk, g1, g2, rfl⟩ := pI_obt hg
  obtain ⟨r, r1, r2⟩ := (h3.2.2.2 a _ g1).2
  refine putW hx hb hown hts hK fl fp r1 (fun z => ⟨hnm.trans (hfin z).1, ?_⟩) r2 (vp_nar_int v) rfl hd (fun H1 i e1 e2 e3 => ?_)
  · have := (hfin z).2
    rw [r1] at this
    exact Option.some.inj this
  · exact kk H1 _ cells slots LS h1 h2 (h3.putI g1 e2 e3 ⟨r, r1, e1.to (fun j _ => fv_putI g2 j)⟩) (h4.put e2 e3 (h3.2.2.2 a _ g1).1) h5
theorem j_putZ (F : MF G X own cc nL d ret nm) {ix ci k a : Nat} {v : Int32} {I' : IH} {fin : Bool} (hz : v = 0 ∨ v = 1) (fl : FL own ix ci k) (fp : FP ci k fin .boolean) (hfin : fin = true → nm = "<init>" ∧ (vwCl[ci]?).map (·.1) = some own) (hg : pI sh I ci a k v = some I') (hd : decode cc pc = .ok (.putfield ix, 3)) (kk : J G X Q nL sh I' L n e es (pc + 3) ls st) : J G X Q nL sh I L n e es pc ls (.int v :: .ref a :: st) := by
  obtain ⟨p, l, e', R, s, m, args, below, meth, c⟩ := X
  obtain ⟨hx, hb, hml, hown, hts, hr, hlocks, hnm, hK, hq0, hq1, hRf, hRl⟩ := F
  intro H locs cells slots LS h1 h2 h3 h4 h5
  obtain ⟨fk, g1, g2, rfl⟩ := pI_obt hg
  obtain ⟨r, r1, r2⟩ := (h3.2.2.2 a _ g1).2
  refine putW hx hb hown hts hK fl fp r1 (fun z => ⟨hnm.trans (hfin z).1, ?_⟩) r2 (narrow_z hz) (fits_z hz) hd (fun H1 i e1 e2 e3 => ?_)
  · have := (hfin z).2
    rw [r1] at this
    exact Option.some.inj this
  · exact kk H1 _ cells slots LS h1 h2 (h3.putI g1 e2 e3 ⟨r, r1, e1.to (fun j _ => fv_putI g2 j)⟩) (h4.put e2 e3 (h3.2.2.2 a _ g1).1) h5
theorem j_putR (F : MF G X own cc nL d ret nm) {ix ci k a r0 : Nat} {sh' : SH} {fin : Bool} {ty : FieldType} (hty : narrow ty (.ref r0) = .ref r0 ∧ fits ty (.ref r0) = true) (fl : FL own ix ci k) (fp : FP ci k fin ty) (hfin : fin = true → nm = "<init>" ∧ (vwCl[ci]?).map (·.1) = some own) (hg : pR sh ci a k r0 = some sh') (hd : decode cc pc = .ok (.putfield ix, 3)) (kk : J G X Q nL sh' I L n e es (pc + 3) ls st) : J G X Q nL sh I L n e es pc ls (.ref r0 :: .ref a :: st) := by
  obtain ⟨p, l, e', R, s, m, args, below, meth, c⟩ := X
  obtain ⟨hx, hb, hml, hown, hts, hr, hlocks, hnm, hK, hq0, hq1, hRf, hRl⟩ := F
  intro H locs cells slots LS h1 h2 h3 h4 h5
  obtain ⟨fk, g1, g2, rfl⟩ := pR_obt hg
  obtain ⟨r, r1, r2⟩ := (h3.2.2.2 a _ g1).2
  refine putW hx hb hown hts hK fl fp r1 (fun z => ⟨hnm.trans (hfin z).1, ?_⟩) r2 hty.1 hty.2 hd (fun H1 i e1 e2 e3 => ?_)
  · have := (hfin z).2
    rw [r1] at this
    exact Option.some.inj this
  · exact kk H1 _ cells slots LS h1 h2 (h3.putS g1 e2 e3 ⟨r, r1, e1.to (fun j _ => fv_putR j)⟩) (h4.put e2 e3 (h3.2.2.2 a _ g1).1) h5
/-! arrays -/
theorem j_iald (F : MF G X own cc nL d ret nm) {a : Nat} {i x : Int32} (hg : aI sh I 0 a i = some x) (hd : decode cc pc = .ok (.iaload, 1)) (kk : J G X Q nL sh I L n e es (pc + 1) ls (.int x :: st)) : J G X Q nL sh I L n e es pc ls (.int i :: .ref a :: st) := by
  obtain ⟨p, l, e', R, s, m, args, below, meth, c⟩ := X
  obtain ⟨hx, hb, hml, hown, hts, hr, hlocks, hnm, hK, hq0, hq1, hRf, hRl⟩ := F
  intro H locs cells slots LS h1 h2 h3 h4 h5
  obtain ⟨N, rf, g1, g2, g3⟩ := aI_obt hg
  have hc := (h3.2.2.2 a _ g1).2
  have hlt : i.toNatClampNeg < N := Nat.not_le.mp fun q => g2 (Or.inr q)
  exact W.iald (v := .int x) hx hb hc ((hK.1.2 0 (by omega)).1 _ _) (fun q => by cases q) (by rw [arrV_size]; exact g2) (by rw [arrV_read _ _ hlt]; simp [av, g3]) rfl rfl hd (kk H locs cells slots LS h1 h2 h3 h4 h5)
theorem j_zald (F : MF G X own cc nL d ret nm) {a : Nat} {i x : Int32} (hg : aI sh I 1 a i = some x) (hd : decode cc pc = .ok (.baload, 1)) (kk : J G X Q nL sh I L n e es (pc + 1) ls (.int x :: st)) : J G X Q nL sh I L n e es pc ls (.int i :: .ref a :: st) := by
  obtain ⟨p, l, e', R, s, m, args, below, meth, c⟩ := X
  obtain ⟨hx, hb, hml, hown, hts, hr, hlocks, hnm, hK, hq0, hq1, hRf, hRl⟩ := F
  intro H locs cells slots LS h1 h2 h3 h4 h5
  obtain ⟨N, rf, g1, g2, g3⟩ := aI_obt hg
  have hc := (h3.2.2.2 a _ g1).2
  have hlt : i.toNatClampNeg < N := Nat.not_le.mp fun q => g2 (Or.inr q)
  exact W.zald (v := .int x) hx hb hc ((hK.1.2 1 (by omega)).1 _ _) (fun q => by cases q) (by rw [arrV_size]; exact g2) (by rw [arrV_read _ _ hlt]; simp [av, g3]) rfl rfl hd (kk H locs cells slots LS h1 h2 h3 h4 h5)
theorem j_lald (F : MF G X own cc nL d ret nm) {a : Nat} {i : Int32} {x : Int64} (hg : aJ sh L a i = some x) (hd : decode cc pc = .ok (.laload, 1)) (kk : J G X Q nL sh I L n e es (pc + 1) ls (.long x :: st)) : J G X Q nL sh I L n e es pc ls (.int i :: .ref a :: st) := by
  obtain ⟨p, l, e', R, s, m, args, below, meth, c⟩ := X
  obtain ⟨hx, hb, hml, hown, hts, hr, hlocks, hnm, hK, hq0, hq1, hRf, hRl⟩ := F
  intro H locs cells slots LS h1 h2 h3 h4 h5
  obtain ⟨N, rf, g1, g2, g3⟩ := aJ_obt hg
  have hc := (h3.2.2.2 a _ g1).2
  have hlt : i.toNatClampNeg < N := Nat.not_le.mp fun q => g2 (Or.inr q)
  exact W.lald (v := .long x) hx hb hc ((hK.1.2 2 (by omega)).1 _ _) (fun q => by cases q) (by rw [arrV_size]; exact g2) (by rw [arrV_read _ _ hlt]; simp [av, g3]) rfl rfl hd (kk H locs cells slots LS h1 h2 h3 h4 h5)
theorem j_aald (F : MF G X own cc nL d ret nm) {t a r0 : Nat} {i : Int32} (ht : t = 3 ∨ t = 4) (hg : aR sh t a i = some r0) (hd : decode cc pc = .ok (.aaload, 1)) (kk : J G X Q nL sh I L n e es (pc + 1) ls (.ref r0 :: st)) : J G X Q nL sh I L n e es pc ls (.int i :: .ref a :: st) := by
  obtain ⟨p, l, e', R, s, m, args, below, meth, c⟩ := X
  obtain ⟨hx, hb, hml, hown, hts, hr, hlocks, hnm, hK, hq0, hq1, hRf, hRl⟩ := F
  intro H locs cells slots LS h1 h2 h3 h4 h5
  obtain ⟨N, rf, g1, g2, g3⟩ := aR_obt hg
  have hc := (h3.2.2.2 a _ g1).2
  have hlt : i.toNatClampNeg < N := Nat.not_le.mp fun q => g2 (Or.inr q)
  rcases ht with rfl | rfl
  · exact W.aald (v := .ref r0) hx hb hc ((hK.1.2 3 (by omega)).1 _ _) rfl (fun q => by cases q) (by rw [arrV_size]; exact g2) (by rw [arrV_read _ _ hlt]; simp [av, g3, va_rf]) rfl rfl hd (kk H locs cells slots LS h1 h2 h3 h4 h5)
  · exact W.aald (v := .ref r0) hx hb hc ((hK.1.2 4 (by omega)).1 _ _) rfl (fun q => by cases q) (by rw [arrV_size]; exact g2) (by rw [arrV_read _ _ hlt]; simp [av, g3, va_rf]) rfl rfl hd (kk H locs cells slots LS h1 h2 h3 h4 h5)
theorem av_putI {t : Nat} {rf : Nat → Option Nat} {f : Nat → Int32} {g : Nat → Int64} {k : Nat} {v : Int32} (ht : t = 0 ∨ t = 1) : updV (av t rf f g) k (.int v) = av t rf (upd f k v) g := by
  funext j
  rcases ht with rfl | rfl <;> by_cases e : j = k <;> simp [updV, av, upd, e]
theorem av_putL {rf : Nat → Option Nat} {f : Nat → Int32} {g : Nat → Int64} {k : Nat} {v : Int64} : updV (av 2 rf f g) k (.long v) = av 2 rf f (vp_updL g k v) := by
  funext j
  by_cases e : j = k <;> simp [updV, av, vp_updL, e]
theorem av_putR {rf : Nat → Option Nat} {f : Nat → Int32} {g : Nat → Int64} {k r : Nat} : updV (av 3 rf f g) k (.ref r) = av 3 (va_up rf k (some r)) f g := by
  funext j
  by_cases e : j = k <;> simp [updV, av, va_up, va_rf, e]
theorem j_iast (F : MF G X own cc nL d ret nm) {a : Nat} {i v : Int32} {I' : IH} (hg : sI sh I a i v = some I') (hd : decode cc pc = .ok (.iastore, 1)) (kk : J G X Q nL sh I' L n e es (pc + 1) ls st) : J G X Q nL sh I L n e es pc ls (.int v :: .int i :: .ref a :: st) := by
  obtain ⟨p, l, e', R, s, m, args, below, meth, c⟩ := X
  obtain ⟨hx, hb, hml, hown, hts, hr, hlocks, hnm, hK, hq0, hq1, hRf, hRl⟩ := F
  intro H locs cells slots LS h1 h2 h3 h4 h5
  obtain ⟨N, rf, g1, g2, rfl⟩ := sI_obt hg
  have hc := (h3.2.2.2 a _ g1).2
  refine W.iast hx hb hc ((hK.1.2 0 (by omega)).1 _ _) (fun q => by cases q) (by rw [arrV_size]; exact g2) rfl rfl hd (fun H1 e1 e2 e3 => ?_)
  refine kk H1 _ cells slots LS h1 h2 (h3.putI g1 e2 e3 ?_) (h4.put e2 e3 (h3.2.2.2 a _ g1).1) h5
  show H1[a]? = some _
  rw [e1, arrV_store, av_putI (Or.inl rfl)]
theorem j_zast (F : MF G X own cc nL d ret nm) {a : Nat} {i v : Int32} {I' : IH} (hg : sZ sh I a i v = some I') (hd : decode cc pc = .ok (.bastore, 1)) (kk : J G X Q nL sh I' L n e es (pc + 1) ls st) : J G X Q nL sh I L n e es pc ls (.int v :: .int i :: .ref a :: st) := by
  obtain ⟨p, l, e', R, s, m, args, below, meth, c⟩ := X
  obtain ⟨hx, hb, hml, hown, hts, hr, hlocks, hnm, hK, hq0, hq1, hRf, hRl⟩ := F
  intro H locs cells slots LS h1 h2 h3 h4 h5
  obtain ⟨N, rf, g1, g2, rfl⟩ := sZ_obt hg
  have hc := (h3.2.2.2 a _ g1).2
  refine W.zast hx hb hc ((hK.1.2 1 (by omega)).1 _ _) (fun q => by cases q) (by rw [arrV_size]; exact g2) rfl rfl hd (fun H1 e1 e2 e3 => ?_)
  refine kk H1 _ cells slots LS h1 h2 (h3.putI g1 e2 e3 ?_) (h4.put e2 e3 (h3.2.2.2 a _ g1).1) h5
  show H1[a]? = some _
  have hnz : narrow .boolean (.int v) = .int (vp_nar .boolean v) := rfl
  rw [e1, hnz, arrV_store, av_putI (Or.inr rfl)]
theorem j_last (F : MF G X own cc nL d ret nm) {a : Nat} {i : Int32} {v : Int64} {L' : LH} (hg : sJ sh L a i v = some L') (hd : decode cc pc = .ok (.lastore, 1)) (kk : J G X Q nL sh I L' n e es (pc + 1) ls st) : J G X Q nL sh I L n e es pc ls (.long v :: .int i :: .ref a :: st) := by
  obtain ⟨p, l, e', R, s, m, args, below, meth, c⟩ := X
  obtain ⟨hx, hb, hml, hown, hts, hr, hlocks, hnm, hK, hq0, hq1, hRf, hRl⟩ := F
  intro H locs cells slots LS h1 h2 h3 h4 h5
  obtain ⟨N, rf, g1, g2, rfl⟩ := sJ_obt hg
  have hc := (h3.2.2.2 a _ g1).2
  refine W.last hx hb hc ((hK.1.2 2 (by omega)).1 _ _) (fun q => by cases q) (by rw [arrV_size]; exact g2) rfl rfl hd (fun H1 e1 e2 e3 => ?_)
  refine kk H1 _ cells slots LS h1 h2 (h3.putL g1 e2 e3 ?_) (h4.put e2 e3 (h3.2.2.2 a _ g1).1) h5
  show H1[a]? = some _
  rw [e1, arrV_store, av_putL]
theorem j_alen (F : MF G X own cc nL d ret nm) {a : Nat} {x : Int32} (hg : aL sh a = some x) (hd : decode cc pc = .ok (.arraylength, 1)) (kk : J G X Q nL sh I L n e es (pc + 1) ls (.int x :: st)) : J G X Q nL sh I L n e es pc ls (.ref a :: st) := by
  obtain ⟨p, l, e', R, s, m, args, below, meth, c⟩ := X
  obtain ⟨hx, hb, hml, hown, hts, hr, hlocks, hnm, hK, hq0, hq1, hRf, hRl⟩ := F
  intro H locs cells slots LS h1 h2 h3 h4 h5
  obtain ⟨t, N, rf, g1, g2, rfl⟩ := aL_obt hg
  have hc := (h3.2.2.2 a _ g1).2
  exact W.alen (n := Int32.ofNat N) hx hb hc ((hK.1.2 t g2).1 _ _) (by rw [arrV_size] <;> rfl) rfl rfl hd (kk H locs cells slots LS h1 h2 h3 h4 h5)
end JH
end
section
/-! ROWS OF J: new cells, arraycopy, statics, calls, returns -/
theorem ite_obt {α : Type} {c : Prop} {inst : Decidable c} {a z : α} (h : (if c then some a else none) = some z) : c ∧ a = z := by
  split at h
  · next hc => exact ⟨hc, Option.some.inj h⟩
  · cases h
/-- a new int or boolean array, a new array of longs, of references -/
def nAI (sh : SH) (I : IH) (n t : Nat) (c : Int32) : Option (SH × IH) := if ¬ c < 0 ∧ c.toNatClampNeg ≤ 100000 then some (upS sh n (.inr (t, c.toNatClampNeg, fun _ => none)), upR I n (fun _ => 0)) else none
def nAL (sh : SH) (L : LH) (n : Nat) (c : Int32) : Option (SH × LH) := if ¬ c < 0 ∧ c.toNatClampNeg ≤ 100000 then some (upS sh n (.inr (2, c.toNatClampNeg, fun _ => none)), upR L n (fun _ => 0)) else none
def nAR (sh : SH) (n : Nat) (c : Int32) : Option SH := if ¬ c < 0 ∧ c.toNatClampNeg ≤ 100000 then some (upS sh n (.inr (3, c.toNatClampNeg, fun _ => none))) else none
/-- rows of a new array of int rows -/
def nMS (sh : SH) (n N K : Nat) : SH := fun b => if b = n then some (.inr (4, N, fun j => if j < N then some (n + 1 + j) else none)) else if n < b ∧ b ≤ n + N then some (.inr (0, K, fun _ => none)) else sh b
def nMI (I : IH) (n N : Nat) : IH := fun b => if n < b ∧ b ≤ n + N then fun _ => 0 else I b
def nM (sh : SH) (I : IH) (n : Nat) (a c : Int32) : Option (SH × IH) := if (¬ a < 0 ∧ a.toNatClampNeg ≤ 100000) ∧ ¬ c < 0 ∧ c.toNatClampNeg ≤ 100000 then some (nMS sh n a.toNatClampNeg c.toNatClampNeg, nMI I n a.toNatClampNeg) else none
/-- which fields of a new object are references -/
def fkD (ci : Nat) : Nat → Option (Option Nat) := match ci with
  | 0 => fun k => if k = 3 then some none else none
  | 1 => fun k => if k = 0 ∨ k = 4 then some none else none
  | 2 => fun k => if k = 1 ∨ k = 2 ∨ k = 3 ∨ k = 4 ∨ k = 6 ∨ k = 8 then some none else none
  | 3 => fun k => if k = 2 then some none else none
  | 4 => fun _ => some none
  | 5 => fun _ => some none
  | 6 => fun k => if k = 2 ∨ k = 6 ∨ k = 7 then none else some none
  | _ => fun k => if k ∈ [0, 1, 2, 7, 8, 9, 10, 11, 21, 22, 23, 25, 39, 45, 46, 47, 48, 49, 50, 51, 61] then none else some none
def nO (sh : SH) (n ci : Nat) : SH := upS sh n (.inl (ci, fkD ci))
def nOI (I : IH) (n : Nat) : IH := upR I n (fun _ => 0)
def cpI (sh : SH) (I : IH) (a : Nat) (sp : Int32) (b : Nat) (dp c : Int32) : Option IH := match sh a, sh b with
  | some (.inr (0, n0, _)), some (.inr (0, n1, _)) => if (¬ sp < 0 ∧ ¬ dp < 0 ∧ ¬ c < 0) ∧ sp.toNatClampNeg + c.toNatClampNeg ≤ n0 ∧ dp.toNatClampNeg + c.toNatClampNeg ≤ n1 then some (upR I b (va_cpy (I a) (I b) sp.toNatClampNeg dp.toNatClampNeg c.toNatClampNeg)) else none
  | _, _ => none
def cpL (sh : SH) (L : LH) (a : Nat) (sp : Int32) (b : Nat) (dp c : Int32) : Option LH := match sh a, sh b with
  | some (.inr (2, n0, _)), some (.inr (2, n1, _)) => if (¬ sp < 0 ∧ ¬ dp < 0 ∧ ¬ c < 0) ∧ sp.toNatClampNeg + c.toNatClampNeg ≤ n0 ∧ dp.toNatClampNeg + c.toNatClampNeg ≤ n1 then some (upR L b (va_cpy (L a) (L b) sp.toNatClampNeg dp.toNatClampNeg c.toNatClampNeg)) else none
  | _, _ => none
/-- the table ABOVE -/
def abv (i : Int32) : Option Int32 := if ¬ (i < 0 ∨ 7 ≤ i.toNatClampNeg) then some (abvL.getD i.toNatClampNeg 0) else none
theorem cpI_obt {sh : SH} {I I' : IH} {a b : Nat} {sp dp c : Int32} (h : cpI sh I a sp b dp c = some I') : ∃ n0 n1 r0 r1, sh a = some (.inr (0, n0, r0)) ∧ sh b = some (.inr (0, n1, r1)) ∧ (¬ sp < 0 ∧ ¬ dp < 0 ∧ ¬ c < 0) ∧ sp.toNatClampNeg + c.toNatClampNeg ≤ n0 ∧ dp.toNatClampNeg + c.toNatClampNeg ≤ n1 ∧ I' = upR I b (va_cpy (I a) (I b) sp.toNatClampNeg dp.toNatClampNeg c.toNatClampNeg) := by
  unfold cpI at h
  split at h
  · next n0 r0 n1 r1 ha hb =>
    obtain ⟨⟨h1, h2, h3⟩, h4⟩ := ite_obt h
    exact ⟨n0, n1, r0, r1, ha, hb, h1, h2, h3, h4.symm⟩
  · cases h
theorem cpL_obt {sh : SH} {L L' : LH} {a b : Nat} {sp dp c : Int32} (h : cpL sh L a sp b dp c = some L') : ∃ n0 n1 r0 r1, sh a = some (.inr (2, n0, r0)) ∧ sh b = some (.inr (2, n1, r1)) ∧ (¬ sp < 0 ∧ ¬ dp < 0 ∧ ¬ c < 0) ∧ sp.toNatClampNeg + c.toNatClampNeg ≤ n0 ∧ dp.toNatClampNeg + c.toNatClampNeg ≤ n1 ∧ L' = upR L b (va_cpy (L a) (L b) sp.toNatClampNeg dp.toNatClampNeg c.toNatClampNeg) := by
  unfold cpL at h
  split at h
  · next n0 r0 n1 r1 ha hb =>
    obtain ⟨⟨h1, h2, h3⟩, h4⟩ := ite_obt h
    exact ⟨n0, n1, r0, r1, ha, hb, h1, h2, h3, h4.symm⟩
  · cases h
theorem abv_obt {i x : Int32} (h : abv i = some x) : vp_in i 7 ∧ abvL.getD i.toNatClampNeg 0 = x := ite_obt h
theorem cpw1 : Cond.native arraycopyName ∈ lw_good := good_of 500 (by decide +kernel) (by decide +kernel)
theorem cpw2 : Cond.static arraycopyName ∈ lw_good := good_of 499 (by decide +kernel) (by decide +kernel)
theorem cpw3 : Cond.initialized "java/lang/System" ∈ lw_good := good_of 82 (by decide +kernel) (by decide +kernel)
theorem oiw1 : Cond.instanceMethod objectInit ∈ lw_good := good_of 90 (by decide +kernel) (by decide +kernel)
theorem oiw2 : Cond.code objectInit ⟨#[0xb1]⟩ 1 none ∈ lw_good := good_of 91 (by decide +kernel) (by decide +kernel)
theorem HPh.pushI {G : GT} {sh : SH} {I : IH} {L : LH} {n : Nat} {H H1 : Heap} {c : shC} {f : Nat → Int32} (h : HPh G sh I L n H) (hz : H1.size = H.size + 1) (ho : ∀ q : Nat, q < H.size → H1[q]? = H[q]?) (hc : cellAt G c f (L n) n H1) : HPh G (upS sh n c) (upR I n f) L (n + 1) H1 := by
  have h9 := h.push (g := L n) hz ho hc
  rw [upR_id] at h9
  exact h9
theorem HPh.pushL {G : GT} {sh : SH} {I : IH} {L : LH} {n : Nat} {H H1 : Heap} {c : shC} {g : Nat → Int64} (h : HPh G sh I L n H) (hz : H1.size = H.size + 1) (ho : ∀ q : Nat, q < H.size → H1[q]? = H[q]?) (hc : cellAt G c (I n) g n H1) : HPh G (upS sh n c) I (upR L n g) (n + 1) H1 := by
  have h9 := h.push (f := I n) hz ho hc
  rw [upR_id] at h9
  exact h9
theorem HPh.pushS {G : GT} {sh : SH} {I : IH} {L : LH} {n : Nat} {H H1 : Heap} {c : shC} (h : HPh G sh I L n H) (hz : H1.size = H.size + 1) (ho : ∀ q : Nat, q < H.size → H1[q]? = H[q]?) (hc : cellAt G c (I n) (L n) n H1) : HPh G (upS sh n c) I L (n + 1) H1 := by
  have h9 := h.pushI (f := I n) hz ho hc
  rw [upR_id] at h9
  exact h9
theorem va_S.grow {A : Nat → Prop} {H0 H H1 : Heap} {locs : List Loc} (h : va_S A H0 H locs) (hz : H.size ≤ H1.size) (ho : ∀ q : Nat, q < H.size → H1[q]? = H[q]?) : va_S A H0 H1 locs := ⟨Nat.le_trans h.1 hz, fun q g1 g2 => (ho q (Nat.lt_of_lt_of_le g1 h.1)).trans (h.2.1 q g1 g2), h.2.2⟩
/-! words of new objects and calls -/
def CN (own : String) (ix ci N : Nat) : Prop := ∃ (C : String) (T : u_T) (tf : Nat → FieldType), vwCl[ci]? = some (C, T, N) ∧ Cond.classLink own ix C ∈ lw_good ∧ Cond.instantiable C N ∈ lw_good ∧ Cond.initialized C ∈ lw_good ∧ (∀ w ∈ u_ws C T N, w ∈ lw_good) ∧ (∀ k, k < N → parseFieldDescriptor (T k).2.2.1 = some (tf k)) ∧ ∀ j, j < N → defaultValue (tf j) = fv (fkD ci) (fun _ => 0) j
def cwd (y : MethodName) (cnt : Nat) : Prop := (y.cls ≠ "java/lang/invoke/MethodHandle" ∧ y.cls ≠ "java/lang/invoke/VarHandle") ∧ (parseMethodDescriptor y.desc).map (fun d => d.parameters.length) = some cnt
def CLV (own : String) (ix : Nat) (y : MethodName) (cnt : Nat) : Prop := Cond.methodLink own ix y ∈ lw_good ∧ Cond.instanceMethod y ∈ lw_good ∧ Cond.selects y.cls y y ∈ lw_good ∧ Cond.initialized y.cls ∈ lw_good ∧ cwd y cnt
def CLS (own : String) (ix : Nat) (y : MethodName) (cnt : Nat) : Prop := Cond.methodLink own ix y ∈ lw_good ∧ Cond.static y ∈ lw_good ∧ Cond.initialized y.cls ∈ lw_good ∧ cwd y cnt
def CLSN (own : String) (ix : Nat) (y : MethodName) (cnt : Nat) : Prop := Cond.methodLinkNest own ix y RX6 ∈ nestWs ∧ Cond.static y ∈ lw_good ∧ Cond.initialized y.cls ∈ lw_good ∧ cwd y cnt
def CLI (own : String) (ix : Nat) (y : MethodName) (cnt : Nat) : Prop := Cond.methodLink own ix y ∈ lw_good ∧ Cond.instanceMethod y ∈ lw_good ∧ Cond.initialized y.cls ∈ lw_good ∧ cwd y cnt ∧ y.name = "<init>"
def CLIN (own : String) (ix : Nat) (y : MethodName) (cnt : Nat) : Prop := Cond.methodLinkNest own ix y RX6 ∈ nestWs ∧ Cond.instanceMethod y ∈ lw_good ∧ Cond.initialized y.cls ∈ lw_good ∧ cwd y cnt ∧ y.name = "<init>"
theorem cwd_len {y : MethodName} {cnt : Nat} (h : cwd y cnt) : ∀ sig, parseMethodDescriptor y.desc = some sig → cnt = sig.parameters.length := fun sig hs => by
  have h2 := h.2
  rw [hs] at h2
  exact (Option.some.inj h2).symm
/-- the callee's depth and locals fit -/
def dok (d0 nL0 d : Nat) : Bool := Nat.ble (d0 + 1) d && Nat.ble (nL0 + 19) 120
theorem dok_fr {d0 nL0 d : Nat} (h : dok d0 nL0 d = true) : d0 + 1 ≤ d ∧ 8 + (nL0 + 11) + 120 * d0 ≤ 120 * d := by
  unfold dok at h
  rw [Bool.and_eq_true] at h
  have h1 := Nat.le_of_ble_eq_true h.1
  have h2 := Nat.le_of_ble_eq_true h.2
  omega
section RW
variable {p : Program} {l : Launch} {e : Env} {R : Room} {s : State} {m : MethodId} {args : Array Value} {below : List Frame} {meth : Method} {c : Code} {H : Heap} {locs : List Loc} {cells slots : Nat} {Q : State → Prop}
theorem run_W {G : GT} {v : Option Value} {sh' : SH} {I' : IH} {L' : LH} {n' mc ms pc : Nat} {LS : Array Slot} {st0 rest : List Value} {a : Array Value} (hr : va_Run p l e R s m args below meth c H locs cells slots mc ms (F0 m pc LS st0) rest (QcT G v sh' I' L' n' a) (bA G)) (h4 : va_S (bA G) s.heap H locs)
    (kk : ∀ (H1 : Heap) (locs1 : List Loc), HPh G sh' I' L' n' H1 → va_S (bA G) s.heap H1 locs1 → W p l e R s m args below meth c H1 locs1 (cells + mc) (slots + ms) Q (F0 m (pc + 3) LS (v.toList ++ rest))) : W p l e R s m args below meth c H locs cells slots Q (F0 m pc LS st0) := by
  intro T hT X
  obtain ⟨w, st₀, t, T', L, h0, X', hL, e1, e2, ⟨hv, hH, hz, hk⟩, st⟩ := hr T hT X
  cases hv
  rw [h0] at hz hk
  obtain ⟨t2, a1, b1⟩ := kk T'.heap (locs ++ L) (by rw [e1]; exact hH)
    ⟨Nat.le_trans h4.1 (by rw [e1]; exact hz), fun q g1 g2 => by rw [e1, hk q (Nat.lt_of_lt_of_le g1 h4.1) g2]; exact h4.2.1 q g1 g2, fun q hq => by
      rcases List.mem_append.mp hq with h | h
      · exact h4.2.2 q h
      · exact hL q h⟩ T' rfl X'
  exact ⟨t2, st t2 a1, b1⟩
end RW
theorem preT {G : GT} {sh : SH} {I : IH} {L : LH} {n : Nat} {s : State} {H : Heap} {As : List Value} (h3 : HPh G sh I L n H) (hK : KF G s) : ∀ U : State, U.heap = H → s.WarmedH U.vm → PcT G As sh I L n As.toArray U := fun U hU hW => ⟨rfl, by rw [hU]; exact h3, hK.warm hW⟩
section JC
variable {G : GT} {X : XT} {Q : State → Prop} {nL : Nat} {sh : SH} {I : IH} {L : LH} {n e es pc : Nat} {ls : List (Nat × Value)} {st : List Value}
variable {own : String} {cc : ByteArray} {d : Nat} {ret : Option FieldType} {nm : String}
theorem j_newI (F : MF G X own cc nL d ret nm) {at0 : ArrayType} {t e1 es1 : Nat} {c0 : Int32} {sh' : SH} {I' : IH} (ht : (t = 0 ∧ newarray.typeOf at0 = .int) ∨ (t = 1 ∧ newarray.typeOf at0 = .boolean)) (hw : Cond.arrayClass (newarray.typeOf at0) ∈ lw_good) (hg : nAI sh I n t c0 = some (sh', I')) (he : e = 1 + e1) (hes : es = c0.toNatClampNeg + es1) (hd : decode cc pc = .ok (.newarray at0, 2)) (kk : J G X Q nL sh' I' L (n + 1) e1 es1 (pc + 2) ls (.ref n :: st)) : J G X Q nL sh I L n e es pc ls (.int c0 :: st) := by
  obtain ⟨p, l, e', R, s, m, args, below, meth, c⟩ := X
  obtain ⟨hx, hb, hml, hown, hts, hr, hlocks, hnm, hK, hq0, hq1, hRf, hRl⟩ := F
  intro H locs cells slots LS h1 h2 h3 h4 h5
  obtain ⟨⟨g1, g2⟩, g3⟩ := ite_obt hg
  cases g3
  refine va_newaK hx hb (hts _ hw) rfl hd rfl g1 rfl (by rcases ht with ⟨-, h⟩ | ⟨-, h⟩ <;> rw [h] <;> simp [componentBytes] <;> omega) (by omega) (by omega) h3.1 (fun H1 cA a1 a2 a3 a4 a5 => ?_)
  have h9 : H.size = n := h3.1
  have hz : H1.size = H.size + 1 := by rw [a2, h9]
  have ho : ∀ q : Nat, q < H.size → H1[q]? = H[q]? := fun q hq => a3 q (by omega)
  refine kk H1 locs (cells + 1) (slots + c0.toNatClampNeg) LS (by omega) (by omega) (h3.pushI hz ho ?_) (h4.grow (by omega) ho) h5
  show H1[n]? = some _
  rcases ht with ⟨rfl, h⟩ | ⟨rfl, h⟩
  · rw [h] at a1 a5
    have hcA : cA = G.2.2.1 0 := Option.some.inj (a5.symm.trans (hK.1.2 0 (by omega)).2)
    rw [a1, hcA]
    rfl
  · rw [h] at a1 a5
    have hcA : cA = G.2.2.1 1 := Option.some.inj (a5.symm.trans (hK.1.2 1 (by omega)).2)
    rw [a1, hcA]
    rfl
theorem j_newL (F : MF G X own cc nL d ret nm) {at0 : ArrayType} {e1 es1 : Nat} {c0 : Int32} {sh' : SH} {L' : LH} (h : newarray.typeOf at0 = .long) (hw : Cond.arrayClass (newarray.typeOf at0) ∈ lw_good) (hg : nAL sh L n c0 = some (sh', L')) (he : e = 1 + e1) (hes : es = c0.toNatClampNeg + es1) (hd : decode cc pc = .ok (.newarray at0, 2)) (kk : J G X Q nL sh' I L' (n + 1) e1 es1 (pc + 2) ls (.ref n :: st)) : J G X Q nL sh I L n e es pc ls (.int c0 :: st) := by
  obtain ⟨p, l, e', R, s, m, args, below, meth, c⟩ := X
  obtain ⟨hx, hb, hml, hown, hts, hr, hlocks, hnm, hK, hq0, hq1, hRf, hRl⟩ := F
  intro H locs cells slots LS h1 h2 h3 h4 h5
  obtain ⟨⟨g1, g2⟩, g3⟩ := ite_obt hg
  cases g3
  refine va_newaK hx hb (hts _ hw) rfl hd rfl g1 rfl (by rw [h]; simp [componentBytes]; omega) (by omega) (by omega) h3.1 (fun H1 cA a1 a2 a3 a4 a5 => ?_)
  have h9 : H.size = n := h3.1
  have hz : H1.size = H.size + 1 := by rw [a2, h9]
  have ho : ∀ q : Nat, q < H.size → H1[q]? = H[q]? := fun q hq => a3 q (by omega)
  refine kk H1 locs (cells + 1) (slots + c0.toNatClampNeg) LS (by omega) (by omega) (h3.pushL hz ho ?_) (h4.grow (by omega) ho) h5
  show H1[n]? = some _
  rw [h] at a1 a5
  have hcA : cA = G.2.2.1 2 := Option.some.inj (a5.symm.trans (hK.1.2 2 (by omega)).2)
  rw [a1, hcA]
  rfl
theorem j_anew (F : MF G X own cc nL d ret nm) {ix e1 es1 : Nat} {c0 : Int32} {sh' : SH} (hw : Cond.classLink own ix "MeltHours$Tape" ∈ lw_good) (hg : nAR sh n c0 = some sh') (he : e = 1 + e1) (hes : es = c0.toNatClampNeg + es1) (hd : decode cc pc = .ok (.anewarray ix, 3)) (kk : J G X Q nL sh' I L (n + 1) e1 es1 (pc + 3) ls (.ref n :: st)) : J G X Q nL sh I L n e es pc ls (.int c0 :: st) := by
  obtain ⟨p, l, e', R, s, m, args, below, meth, c⟩ := X
  obtain ⟨hx, hb, hml, hown, hts, hr, hlocks, hnm, hK, hq0, hq1, hRf, hRl⟩ := F
  intro H locs cells slots LS h1 h2 h3 h4 h5
  obtain ⟨⟨g1, g2⟩, g3⟩ := ite_obt hg
  cases g3
  refine W.anew hx hb hown (hts _ hw) (va_AO.use hK.2.1) rfl hd rfl g1 (by omega) (by omega) (by omega) fun cA kA comp f1 f2 f3 f4 => ?_
  have h9 : H.size = n := h3.1
  generalize hH1 : H.push ({ cls := cA, slots := Array.replicate c0.toNatClampNeg .null, vm := .none } : Cell) = H1
  have hz : H1.size = H.size + 1 := by rw [← hH1, Array.size_push]
  have e1' : H1[H.size]? = some (arrV cA c0.toNatClampNeg (fun _ => .null)) := by rw [← hH1, Array.getElem?_push_size, ← arrV_new]
  have ho : ∀ q : Nat, q < H.size → H1[q]? = H[q]? := fun q hq => by rw [← hH1, Array.getElem?_push, if_neg (Nat.ne_of_lt hq)]
  rw [h9]
  refine kk H1 locs (cells + 1) (slots + c0.toNatClampNeg) LS (by omega) (by omega) (h3.pushS hz ho ?_) (h4.grow (by omega) ho) h5
  show H1[n]? = some _
  obtain ⟨kB, cB, -, -, -, k4⟩ := (hK.1.2 3 (by omega)).2
  have hcA : cA = G.2.2.1 3 := Option.some.inj (f1.symm.trans k4)
  rw [← h9, e1', hcA]
  rfl
theorem j_new (F : MF G X own cc nL d ret nm) {ix ci N e1 es1 : Nat} (cn : CN own ix ci N) (he : e = 1 + e1) (hes : es = N + es1) (hd : decode cc pc = .ok (.new ix, 3)) (kk : J G X Q nL (nO sh n ci) (nOI I n) L (n + 1) e1 es1 (pc + 3) ls (.ref n :: st)) : J G X Q nL sh I L n e es pc ls st := by
  obtain ⟨p, l, e', R, s, m, args, below, meth, c⟩ := X
  obtain ⟨hx, hb, hml, hown, hts, hr, hlocks, hnm, hK, hq0, hq1, hRf, hRl⟩ := F
  intro H locs cells slots LS h1 h2 h3 h4 h5
  obtain ⟨C, T, tf, hc, w1, w2, w3, hin, htf, hdf⟩ := cn
  have hKn := hK.1.1 ci _ hc
  have h9 : H.size = n := h3.1
  refine W.newcK hx hb hown (hts _ w1) (hts _ w2) (hts _ w3) rfl hd (by omega) (by omega) hKn.2.1 h9 fun H1 kC hkC a1 a2 a3 => ?_
  have hz : H1.size = H.size + 1 := by rw [a2, h9]
  have ho : ∀ q : Nat, q < H.size → H1[q]? = H[q]? := fun q hq => a3 q (by omega)
  refine kk H1 locs (cells + 1) (slots + N) LS (by omega) (by omega) (h3.pushI hz ho ?_) (h4.grow (by omega) ho) h5
  exact ⟨_, hc, (u_born tf (fun w hw => hts w hw) hin hKn hkC a1 htf).to hdf⟩
/-! arraycopy -/
theorem j_cpI (F : MF G X own cc nL d ret nm) {ix a b : Nat} {sp dp c0 : Int32} {I' : IH} (hw : Cond.methodLink own ix arraycopyName ∈ lw_good) (hg : cpI sh I a sp b dp c0 = some I') (hst : Nat.ble ((st.map fun v => v.category).sum) 8 = true) (hdd : Nat.ble 1 d = true) (hd : decode cc pc = .ok (.invokestatic ix, 3)) (kk : J G X Q nL sh I' L n e es (pc + 3) ls st) : J G X Q nL sh I L n e es pc ls (.int c0 :: .int dp :: .ref b :: .int sp :: .ref a :: st) := by
  obtain ⟨p, l, e', R, s, m, args, below, meth, c⟩ := X
  obtain ⟨hx, hb, hml, hown, hts, hr, hlocks, hnm, hK, hq0, hq1, hRf, hRl⟩ := F
  intro H locs cells slots LS h1 h2 h3 h4 h5
  obtain ⟨n0, n1, r0, r1, g0, g1, ⟨g2, g3, g4⟩, g5, g6, rfl⟩ := cpI_obt hg
  have nn : ∀ z : Int32, ¬ z < 0 → z.toInt = (z.toNatClampNeg : Int) := by
    intro z hz
    have hz0 : (0 : Int) ≤ z.toInt := by
      have := Int32.not_lt.mp hz
      simpa using Int32.le_iff_toInt_le.mp this
    show z.toInt = ((z.toInt.toNat : Nat) : Int)
    omega
  have hc0 := (h3.2.2.2 a _ g0).2
  have hc1 := (h3.2.2.2 b _ g1).2
  have hA := (h3.2.2.2 b _ g1).1
  obtain ⟨-, k0, hk0, cm0, hkk0⟩ := (hK.1.2 0 (by omega)).1 n0 (fun j => .int (I a j))
  have hst' := Nat.le_of_ble_eq_true hst
  have hdd' := Nat.le_of_ble_eq_true hdd
  have hnw : nativeFrameWords "java/lang/System" "arraycopy" 5 + 11 ≤ 100 := by decide +kernel
  have hc0 : H[a]? = some (vp_cell (G.2.2.1 0) (n0, .inl (I a))) := hc0
  have hc1 : H[b]? = some (vp_cell (G.2.2.1 0) (n1, .inl (I b))) := hc1
  intro T hT X
  obtain ⟨vm', X', step⟩ := X.arraycopy hx hown (hts _ hw) (hts _ cpw1) (hts _ cpw2) (hts _ cpw3) (src := a) (dst := b) (cs := vp_cell (G.2.2.1 0) (n0, .inl (I a))) (cd := vp_cell (G.2.2.1 0) (n1, .inl (I b))) (srcPos := sp) (destPos := dp) (n := c0) (by rw [hT]; exact hc0) (by rw [hT]; exact hc1)
    (fun _ h => by cases h) (fun _ h => by cases h) (fun h => by cases h) (fun h => by cases h) hk0 hk0 hkk0 hkk0 (by simp [tyA, refKind]) g2 g3 g4
    (by rw [nn sp g2, nn c0 g4]; show ¬ _ > ((arrV _ n0 (fun j => .int (I a j))).slots.size : Int); rw [arrV_size]; omega)
    (by rw [nn dp g3, nn c0 g4]; show ¬ _ > ((arrV _ n1 (fun j => .int (I b j))).slots.size : Int); rw [arrV_size]; omega)
    (fun vm₁ _ i hi => by
      have e : (vp_cell (G.2.2.1 0) (n0, .inl (I a))).slots.getD (sp.toNatClampNeg + i) .null = .int (I a (sp.toNatClampNeg + i)) := by
        show (arrV _ n0 (fun j => .int (I a j))).slots.getD _ _ = _
        rw [Array.getD_eq_getD_getElem?, arrV_read _ _ (by omega)]
        rfl
      refine ⟨?_, ?_⟩
      · rw [e]
        rfl
      · rw [e]
        exact trivial)
    (g := F0 m pc LS (.int c0 :: .int dp :: .ref b :: .int sp :: .ref a :: st)) rfl (by rw [hml]; exact h5.1) (rest := st) rfl (by rw [hb]; exact hd) (by omega) (by show 2 * 0 + _ + _ ≤ _; omega)
  have e1 : copied (vp_cell (G.2.2.1 0) (n0, .inl (I a))) (vp_cell (G.2.2.1 0) (n1, .inl (I b))) sp dp c0 = vp_cell (G.2.2.1 0) (n1, .inl (va_cpy (I a) (I b) sp.toNatClampNeg dp.toNatClampNeg c0.toNatClampNeg)) := va_copied (fun z => .int z) _ _ (I a) (I b) g5
  rw [e1] at X' step
  have hl : b < H.size := (Array.getElem?_eq_some_iff.mp hc1).1
  have hheap : ((T.setVm vm').setCell b (vp_cell (G.2.2.1 0) (n1, .inl (va_cpy (I a) (I b) sp.toNatClampNeg dp.toNatClampNeg c0.toNatClampNeg)))).heap = H.setIfInBounds b (vp_cell (G.2.2.1 0) (n1, .inl (va_cpy (I a) (I b) sp.toNatClampNeg dp.toNatClampNeg c0.toNatClampNeg))) := by rw [← hT]; rfl
  have oq : ∀ q : Nat, q ≠ b → (H.setIfInBounds b (vp_cell (G.2.2.1 0) (n1, .inl (va_cpy (I a) (I b) sp.toNatClampNeg dp.toNatClampNeg c0.toNatClampNeg))))[q]? = H[q]? := fun q hq => by simp [Array.getElem?_setIfInBounds, Ne.symm hq]
  obtain ⟨t, a1, b1⟩ := kk _ _ cells slots LS h1 h2 (h3.putI (f := va_cpy (I a) (I b) sp.toNatClampNeg dp.toNatClampNeg c0.toNatClampNeg) g1 (by simp) oq (show (H.setIfInBounds b _)[b]? = some _ by rw [Array.getElem?_setIfInBounds, if_pos rfl, if_pos hl]; rfl)) ⟨by simp; exact h4.1, fun q k1 k2 => by
      rw [oq q (fun e => k2 (by rw [e]; exact hA))]
      exact h4.2.1 q k1 k2, fun q hq => by
      rcases List.mem_append.mp hq with h | h
      · exact h4.2.2 q h
      · obtain ⟨z, -, hz⟩ := List.mem_map.mp h
        rw [← hz]
        exact hA⟩ h5 _ hheap X'
  exact ⟨t, step t a1, b1⟩
theorem j_cpL (F : MF G X own cc nL d ret nm) {ix a b : Nat} {sp dp c0 : Int32} {L' : LH} (hw : Cond.methodLink own ix arraycopyName ∈ lw_good) (hg : cpL sh L a sp b dp c0 = some L') (hst : Nat.ble ((st.map fun v => v.category).sum) 8 = true) (hdd : Nat.ble 1 d = true) (hd : decode cc pc = .ok (.invokestatic ix, 3)) (kk : J G X Q nL sh I L' n e es (pc + 3) ls st) : J G X Q nL sh I L n e es pc ls (.int c0 :: .int dp :: .ref b :: .int sp :: .ref a :: st) := by
  obtain ⟨p, l, e', R, s, m, args, below, meth, c⟩ := X
  obtain ⟨hx, hb, hml, hown, hts, hr, hlocks, hnm, hK, hq0, hq1, hRf, hRl⟩ := F
  intro H locs cells slots LS h1 h2 h3 h4 h5
  obtain ⟨n0, n1, r0, r1, g0, g1, ⟨g2, g3, g4⟩, g5, g6, rfl⟩ := cpL_obt hg
  have nn : ∀ z : Int32, ¬ z < 0 → z.toInt = (z.toNatClampNeg : Int) := by
    intro z hz
    have hz0 : (0 : Int) ≤ z.toInt := by
      have := Int32.not_lt.mp hz
      simpa using Int32.le_iff_toInt_le.mp this
    show z.toInt = ((z.toInt.toNat : Nat) : Int)
    omega
  have hc0 := (h3.2.2.2 a _ g0).2
  have hc1 := (h3.2.2.2 b _ g1).2
  have hA := (h3.2.2.2 b _ g1).1
  obtain ⟨-, k0, hk0, cm0, hkk0⟩ := (hK.1.2 2 (by omega)).1 n0 (fun j => .long (L a j))
  have hst' := Nat.le_of_ble_eq_true hst
  have hdd' := Nat.le_of_ble_eq_true hdd
  have hnw : nativeFrameWords "java/lang/System" "arraycopy" 5 + 11 ≤ 100 := by decide +kernel
  have hc0 : H[a]? = some (vp_cell (G.2.2.1 2) (n0, .inr (.inl (L a)))) := hc0
  have hc1 : H[b]? = some (vp_cell (G.2.2.1 2) (n1, .inr (.inl (L b)))) := hc1
  intro T hT X
  obtain ⟨vm', X', step⟩ := X.arraycopy hx hown (hts _ hw) (hts _ cpw1) (hts _ cpw2) (hts _ cpw3) (src := a) (dst := b) (cs := vp_cell (G.2.2.1 2) (n0, .inr (.inl (L a)))) (cd := vp_cell (G.2.2.1 2) (n1, .inr (.inl (L b)))) (srcPos := sp) (destPos := dp) (n := c0) (by rw [hT]; exact hc0) (by rw [hT]; exact hc1)
    (fun _ h => by cases h) (fun _ h => by cases h) (fun h => by cases h) (fun h => by cases h) hk0 hk0 hkk0 hkk0 (by simp [tyA, refKind]) g2 g3 g4
    (by rw [nn sp g2, nn c0 g4]; show ¬ _ > ((arrV _ n0 (fun j => .long (L a j))).slots.size : Int); rw [arrV_size]; omega)
    (by rw [nn dp g3, nn c0 g4]; show ¬ _ > ((arrV _ n1 (fun j => .long (L b j))).slots.size : Int); rw [arrV_size]; omega)
    (fun vm₁ _ i hi => by
      have e : (vp_cell (G.2.2.1 2) (n0, .inr (.inl (L a)))).slots.getD (sp.toNatClampNeg + i) .null = .long (L a (sp.toNatClampNeg + i)) := by
        show (arrV _ n0 (fun j => .long (L a j))).slots.getD _ _ = _
        rw [Array.getD_eq_getD_getElem?, arrV_read _ _ (by omega)]
        rfl
      refine ⟨?_, ?_⟩
      · rw [e]
        rfl
      · rw [e]
        exact trivial)
    (g := F0 m pc LS (.int c0 :: .int dp :: .ref b :: .int sp :: .ref a :: st)) rfl (by rw [hml]; exact h5.1) (rest := st) rfl (by rw [hb]; exact hd) (by omega) (by show 2 * 0 + _ + _ ≤ _; omega)
  have e1 : copied (vp_cell (G.2.2.1 2) (n0, .inr (.inl (L a)))) (vp_cell (G.2.2.1 2) (n1, .inr (.inl (L b)))) sp dp c0 = vp_cell (G.2.2.1 2) (n1, .inr (.inl (va_cpy (L a) (L b) sp.toNatClampNeg dp.toNatClampNeg c0.toNatClampNeg))) := va_copied (fun z => .long z) _ _ (L a) (L b) g5
  rw [e1] at X' step
  have hl : b < H.size := (Array.getElem?_eq_some_iff.mp hc1).1
  have hheap : ((T.setVm vm').setCell b (vp_cell (G.2.2.1 2) (n1, .inr (.inl (va_cpy (L a) (L b) sp.toNatClampNeg dp.toNatClampNeg c0.toNatClampNeg))))).heap = H.setIfInBounds b (vp_cell (G.2.2.1 2) (n1, .inr (.inl (va_cpy (L a) (L b) sp.toNatClampNeg dp.toNatClampNeg c0.toNatClampNeg)))) := by rw [← hT]; rfl
  have oq : ∀ q : Nat, q ≠ b → (H.setIfInBounds b (vp_cell (G.2.2.1 2) (n1, .inr (.inl (va_cpy (L a) (L b) sp.toNatClampNeg dp.toNatClampNeg c0.toNatClampNeg)))))[q]? = H[q]? := fun q hq => by simp [Array.getElem?_setIfInBounds, Ne.symm hq]
  obtain ⟨t, a1, b1⟩ := kk _ _ cells slots LS h1 h2 (h3.putL (g := va_cpy (L a) (L b) sp.toNatClampNeg dp.toNatClampNeg c0.toNatClampNeg) g1 (by simp) oq (show (H.setIfInBounds b _)[b]? = some _ by rw [Array.getElem?_setIfInBounds, if_pos rfl, if_pos hl]; rfl)) ⟨by simp; exact h4.1, fun q k1 k2 => by
      rw [oq q (fun e => k2 (by rw [e]; exact hA))]
      exact h4.2.1 q k1 k2, fun q hq => by
      rcases List.mem_append.mp hq with h | h
      · exact h4.2.2 q h
      · obtain ⟨z, -, hz⟩ := List.mem_map.mp h
        rw [← hz]
        exact hA⟩ h5 _ hheap X'
  exact ⟨t, step t a1, b1⟩

/-! statics: the table ABOVE -/
theorem j_getAB (F : MF G X own cc nL d ret nm) {ix : Nat} (hw : Cond.fieldLink own ix "MeltHours" "ABOVE" "[I" ∈ lw_good) (hd : decode cc pc = .ok (.getstatic ix, 3)) (kk : J G X Q nL sh I L n e es (pc + 3) ls (.ref G.2.2.2.2.2.2.1 :: st)) : J G X Q nL sh I L n e es pc ls st := by
  obtain ⟨p, l, e', R, s, m, args, below, meth, c⟩ := X
  obtain ⟨hx, hb, hml, hown, hts, hr, hlocks, hnm, hK, hq0, hq1, hRf, hRl⟩ := F
  intro H locs cells slots LS h1 h2 h3 h4 h5
  have hZ := hK.2.2.2.2.2.2.1
  obtain ⟨cf, kf, fi, f, a, cell, z1, z2, z3, z4, z5, z6, z7, z8⟩ := hZ
  exact W.gets hx hb hown (hts _ hw) z1 z2 z3 z4 (by rw [h3.2.2.1 a (Array.getElem?_eq_some_iff.mp z5).1]; exact z5) (fun e => by rw [e] at z6; cases z6) z7 rfl hd (kk H locs cells slots LS h1 h2 h3 h4 h5)
theorem j_ldAB (F : MF G X own cc nL d ret nm) {i x : Int32} (hg : abv i = some x) (hd : decode cc pc = .ok (.iaload, 1)) (kk : J G X Q nL sh I L n e es (pc + 1) ls (.int x :: st)) : J G X Q nL sh I L n e es pc ls (.int i :: .ref G.2.2.2.2.2.2.1 :: st) := by
  obtain ⟨p, l, e', R, s, m, args, below, meth, c⟩ := X
  obtain ⟨hx, hb, hml, hown, hts, hr, hlocks, hnm, hK, hq0, hq1, hRf, hRl⟩ := F
  intro H locs cells slots LS h1 h2 h3 h4 h5
  obtain ⟨g1, g2⟩ := abv_obt hg
  obtain ⟨cell, z1, z2, z3, z4, z5, z6, z7⟩ := hK.2.2.2.2.2.2.2.1
  have hlt : i.toNatClampNeg < 7 := Nat.not_le.mp fun q => g1 (Or.inr q)
  have hin' : ¬ (i < 0 ∨ cell.slots.size ≤ i.toNatClampNeg) := by
    intro q
    rcases q with q | q
    · exact g1 (Or.inl q)
    · omega
  exact W.iald (v := .int x) hx hb (by rw [h3.2.2.1 _ (Array.getElem?_eq_some_iff.mp z1).1]; exact z1) z2 z3 hin' (by rw [z6 _ hlt, ← g2]) rfl rfl hd (kk H locs cells slots LS h1 h2 h3 h4 h5)
/-! calls -/
theorem j_callV (F : MF G X own cc nL d ret nm) {ix cnt d' nL' ci b e1 es1 e0 es0 : Nat} {y : MethodName} {cc' : ByteArray} {ret' : Option FieldType} {As st0 : List Value} {v : Option Value} {sh' : SH} {I' : IH} {L' : LH} {n' : Nat} (cl : CLV own ix y cnt) (hcode : Cond.code y cc' nL' ret' ∈ lw_good) (hC : (vwCl[ci]?).map (·.1) = some y.cls) (hrc : isO sh ci b) (hct : Ct G y cc' nL' ret' d' (.ref b :: As) sh I L n v sh' I' L' n' e0 es0) (hdk : dok d' nL' d = true) (hn : As.length = cnt) (hs0 : st0 = As.reverse ++ .ref b :: st) (hst : Nat.ble ((st.map fun v => v.category).sum) 8 = true) (he : e = e0 + e1) (hes : es = es0 + es1) (hd : decode cc pc = .ok (.invokevirtual ix, 3)) (kk : J G X Q nL sh' I' L' n' e1 es1 (pc + 3) ls (v.toList ++ st)) : J G X Q nL sh I L n e es pc ls st0 := by
  obtain ⟨p, l, e', R, s, m, args, below, meth, c⟩ := X
  obtain ⟨hx, hb, hml, hown, hts, hr, hlocks, hnm, hK, hq0, hq1, hRf, hRl⟩ := F
  intro H locs cells slots LS h1 h2 h3 h4 h5
  obtain ⟨w1, w2, w3, w4, w5⟩ := cl
  have hf := dok_fr hdk
  obtain ⟨fk, o1⟩ := hrc
  obtain ⟨r, o2, cell, o3, o4, o5, -⟩ := (h3.2.2.2 b _ o1).2
  rw [o2] at hC
  have hcl : r.1 = y.cls := Option.some.inj hC
  have hfc := (hK.1.1 ci r o2).2.1
  refine run_W (va_runV (C := y.cls) (As := As) (rest := st) ⟨hx, hb, hml, hown, hts⟩ (hct l) ⟨⟨rfl, rfl, by rw [hRf]; exact hf.1, by rw [hRl]; exact hf.2, pay_in hts (goodU hcode), List.mem_cons_self, hts _ hcode, hts _ w4, w5.1, cwd_len w5, hts _ w1⟩, hts _ w2, hts _ w3⟩ ⟨PcT.blind, ⟨cell, o3, by rw [o5]; rfl, by rw [o4, ← hcl]; exact hfc⟩, preT (As := .ref b :: As) h3 hK⟩ rfl hn h5.1 hs0 (lv_room (Nat.le_of_ble_eq_true hst)) hd ⟨by omega, by omega⟩) h4 (fun H1 locs1 k3 k4 => ?_)
  exact kk H1 locs1 (cells + e0) (slots + es0) LS (by omega) (by omega) k3 k4 h5
theorem j_callS (F : MF G X own cc nL d ret nm) {ix cnt d' nL' e1 es1 e0 es0 : Nat} {y : MethodName} {cc' : ByteArray} {ret' : Option FieldType} {As st0 : List Value} {v : Option Value} {sh' : SH} {I' : IH} {L' : LH} {n' : Nat} (cl : CLS own ix y cnt) (hcode : Cond.code y cc' nL' ret' ∈ lw_good) (hct : Ct G y cc' nL' ret' d' As sh I L n v sh' I' L' n' e0 es0) (hdk : dok d' nL' d = true) (hn : As.length = cnt) (hs0 : st0 = As.reverse ++ st) (hst : Nat.ble ((st.map fun v => v.category).sum) 8 = true) (he : e = e0 + e1) (hes : es = es0 + es1) (hd : decode cc pc = .ok (.invokestatic ix, 3)) (kk : J G X Q nL sh' I' L' n' e1 es1 (pc + 3) ls (v.toList ++ st)) : J G X Q nL sh I L n e es pc ls st0 := by
  obtain ⟨p, l, e', R, s, m, args, below, meth, c⟩ := X
  obtain ⟨hx, hb, hml, hown, hts, hr, hlocks, hnm, hK, hq0, hq1, hRf, hRl⟩ := F
  intro H locs cells slots LS h1 h2 h3 h4 h5
  obtain ⟨w1, w2, w4, w5⟩ := cl
  have hf := dok_fr hdk
  refine run_W (va_runS (As := As) (rest := st) ⟨hx, hb, hml, hown, hts⟩ (hct l) ⟨⟨rfl, rfl, by rw [hRf]; exact hf.1, by rw [hRl]; exact hf.2, pay_in hts (goodU hcode), List.mem_cons_self, hts _ hcode, hts _ w4, w5.1, cwd_len w5, hts _ w1⟩, hts _ w2⟩ ⟨PcT.blind, preT h3 hK⟩ rfl hn h5.1 hs0 (lv_room (Nat.le_of_ble_eq_true hst)) hd ⟨by omega, by omega⟩) h4 (fun H1 locs1 k3 k4 => ?_)
  exact kk H1 locs1 (cells + e0) (slots + es0) LS (by omega) (by omega) k3 k4 h5
theorem j_callSN (F : MF G X own cc nL d ret nm) {ix cnt d' nL' e1 es1 e0 es0 : Nat} {y : MethodName} {cc' : ByteArray} {ret' : Option FieldType} {As st0 : List Value} {v : Option Value} {sh' : SH} {I' : IH} {L' : LH} {n' : Nat} (cl : CLSN own ix y cnt) (hcode : Cond.code y cc' nL' ret' ∈ lw_good) (hct : Ct G y cc' nL' ret' d' As sh I L n v sh' I' L' n' e0 es0) (hdk : dok d' nL' d = true) (hn : As.length = cnt) (hs0 : st0 = As.reverse ++ st) (hst : Nat.ble ((st.map fun v => v.category).sum) 8 = true) (he : e = e0 + e1) (hes : es = es0 + es1) (hd : decode cc pc = .ok (.invokestatic ix, 3)) (kk : J G X Q nL sh' I' L' n' e1 es1 (pc + 3) ls (v.toList ++ st)) : J G X Q nL sh I L n e es pc ls st0 := by
  obtain ⟨p, l, e', R, s, m, args, below, meth, c⟩ := X
  obtain ⟨hx, hb, hml, hown, hts, hr, hlocks, hnm, hK, hq0, hq1, hRf, hRl⟩ := F
  intro H locs cells slots LS h1 h2 h3 h4 h5
  obtain ⟨w1, w2, w4, w5⟩ := cl
  have hf := dok_fr hdk
  refine run_W (va_runSN (host := RX6) (As := As) (rest := st) ⟨hx, hb, hml, hown, hts⟩ (hct l) ⟨⟨⟨rfl, rfl, by rw [hRf]; exact hf.1, by rw [hRl]; exact hf.2, pay_in hts (goodU hcode), List.mem_cons_self⟩, hts _ hcode, hts _ w4, w5.1, cwd_len w5, va_Nw.use rfl (hK.2.2.2.1 _ w1)⟩, hts _ w2, trivial⟩ ⟨PcT.blind, preT h3 hK⟩ rfl hn h5.1 hs0 (lv_room (Nat.le_of_ble_eq_true hst)) hd ⟨by omega, by omega⟩) h4 (fun H1 locs1 k3 k4 => ?_)
  exact kk H1 locs1 (cells + e0) (slots + es0) LS (by omega) (by omega) k3 k4 h5
theorem j_callI (F : MF G X own cc nL d ret nm) {ix cnt d' nL' b e1 es1 e0 es0 : Nat} {y : MethodName} {cc' : ByteArray} {As st0 : List Value} {sh' : SH} {I' : IH} {L' : LH} {n' : Nat} (cl : CLI own ix y cnt) (hcode : Cond.code y cc' nL' none ∈ lw_good) (hct : Ct G y cc' nL' none d' (.ref b :: As) sh I L n none sh' I' L' n' e0 es0) (hdk : dok d' nL' d = true) (hn : As.length = cnt) (hs0 : st0 = As.reverse ++ .ref b :: st) (hst : Nat.ble ((st.map fun v => v.category).sum) 8 = true) (he : e = e0 + e1) (hes : es = es0 + es1) (hd : decode cc pc = .ok (.invokespecial ix, 3)) (kk : J G X Q nL sh' I' L' n' e1 es1 (pc + 3) ls st) : J G X Q nL sh I L n e es pc ls st0 := by
  obtain ⟨p, l, e', R, s, m, args, below, meth, c⟩ := X
  obtain ⟨hx, hb, hml, hown, hts, hr, hlocks, hnm, hK, hq0, hq1, hRf, hRl⟩ := F
  intro H locs cells slots LS h1 h2 h3 h4 h5
  obtain ⟨w1, w2, w4, w5, w6⟩ := cl
  have hf := dok_fr hdk
  refine run_W (v := none) (va_runI (As := As) (rest := st) ⟨hx, hb, hml, hown, hts⟩ (hct l) ⟨⟨rfl, rfl, by rw [hRf]; exact hf.1, by rw [hRl]; exact hf.2, pay_in hts (goodU hcode), List.mem_cons_self, hts _ hcode, hts _ w4, w5.1, cwd_len w5, hts _ w1⟩, w6, hts _ w2⟩ ⟨PcT.blind, preT (As := .ref b :: As) h3 hK⟩ rfl hn h5.1 hs0 (lv_room (Nat.le_of_ble_eq_true hst)) hd ⟨by omega, by omega⟩) h4 (fun H1 locs1 k3 k4 => ?_)
  exact kk H1 locs1 (cells + e0) (slots + es0) LS (by omega) (by omega) k3 k4 h5
theorem j_callIN (F : MF G X own cc nL d ret nm) {ix cnt d' nL' b e1 es1 e0 es0 : Nat} {y : MethodName} {cc' : ByteArray} {As st0 : List Value} {sh' : SH} {I' : IH} {L' : LH} {n' : Nat} (cl : CLIN own ix y cnt) (hcode : Cond.code y cc' nL' none ∈ lw_good) (hct : Ct G y cc' nL' none d' (.ref b :: As) sh I L n none sh' I' L' n' e0 es0) (hdk : dok d' nL' d = true) (hn : As.length = cnt) (hs0 : st0 = As.reverse ++ .ref b :: st) (hst : Nat.ble ((st.map fun v => v.category).sum) 8 = true) (he : e = e0 + e1) (hes : es = es0 + es1) (hd : decode cc pc = .ok (.invokespecial ix, 3)) (kk : J G X Q nL sh' I' L' n' e1 es1 (pc + 3) ls st) : J G X Q nL sh I L n e es pc ls st0 := by
  obtain ⟨p, l, e', R, s, m, args, below, meth, c⟩ := X
  obtain ⟨hx, hb, hml, hown, hts, hr, hlocks, hnm, hK, hq0, hq1, hRf, hRl⟩ := F
  intro H locs cells slots LS h1 h2 h3 h4 h5
  obtain ⟨w1, w2, w4, w5, w6⟩ := cl
  have hf := dok_fr hdk
  refine run_W (v := none) (va_runIN (host := RX6) (As := As) (rest := st) ⟨hx, hb, hml, hown, hts⟩ (hct l) ⟨⟨⟨rfl, rfl, by rw [hRf]; exact hf.1, by rw [hRl]; exact hf.2, pay_in hts (goodU hcode), List.mem_cons_self⟩, hts _ hcode, hts _ w4, w5.1, cwd_len w5, va_Nw.use rfl (hK.2.2.2.1 _ w1)⟩, w6, hts _ w2⟩ ⟨PcT.blind, preT (As := .ref b :: As) h3 hK⟩ rfl hn h5.1 hs0 (lv_room (Nat.le_of_ble_eq_true hst)) hd ⟨by omega, by omega⟩) h4 (fun H1 locs1 k3 k4 => ?_)
  exact kk H1 locs1 (cells + e0) (slots + es0) LS (by omega) (by omega) k3 k4 h5
theorem j_objInit (F : MF G X own cc nL d ret nm) {ix a : Nat} (hw : Cond.methodLink own ix objectInit ∈ lw_good) (hst : Nat.ble ((st.map fun v => v.category).sum) 8 = true) (hdd : Nat.ble 1 d = true) (hd : decode cc pc = .ok (.invokespecial ix, 3)) (kk : J G X Q nL sh I L n e es (pc + 3) ls st) : J G X Q nL sh I L n e es pc ls (.ref a :: st) := by
  obtain ⟨p, l, e', R, s, m, args, below, meth, c⟩ := X
  obtain ⟨hx, hb, hml, hown, hts, hr, hlocks, hnm, hK, hq0, hq1, hRf, hRl⟩ := F
  intro H locs cells slots LS h1 h2 h3 h4 h5
  have hst' := Nat.le_of_ble_eq_true hst
  have hdd' := Nat.le_of_ble_eq_true hdd
  exact W.objInit hx hb hown (hts _ hw) (hts _ oiw1) (hts _ oiw2) rfl (by rw [hml]; exact h5.1) rfl hd (by omega) (by show 2 * 0 + _ + 12 ≤ _; omega) (kk H locs cells slots LS h1 h2 h3 h4 h5)
/-! returns -/
theorem j_iret (F : MF G X own cc nL d (some .int) nm) {v : Int32} (hd : decode cc pc = .ok (.ireturn, 1)) : J G X (QE G X (some (.int v)) sh I L n) nL sh I L n 0 0 pc ls [.int v] := by
  obtain ⟨p, l, e', R, s, m, args, below, meth, c⟩ := X
  obtain ⟨hx, hb, hml, hown, hts, hr, hlocks, hnm, hK, hq0, hq1, hRf, hRl⟩ := F
  intro H locs cells slots LS h1 h2 h3 h4 h5
  have e1 : cells = R.cells := by omega
  have e2 : slots = R.slots := by omega
  subst e1
  subst e2
  exact W.iret hx hb hr (fun t ht hW => ⟨rfl, by rw [ht]; exact h3, h4.F ht⟩) h4.2.2 hd hlocks
theorem j_zret (F : MF G X own cc nL d (some .boolean) nm) {v : Int32} (hz : v = 0 ∨ v = 1) (hd : decode cc pc = .ok (.ireturn, 1)) : J G X (QE G X (some (.int v)) sh I L n) nL sh I L n 0 0 pc ls [.int v] := by
  obtain ⟨p, l, e', R, s, m, args, below, meth, c⟩ := X
  obtain ⟨hx, hb, hml, hown, hts, hr, hlocks, hnm, hK, hq0, hq1, hRf, hRl⟩ := F
  intro H locs cells slots LS h1 h2 h3 h4 h5
  have e1 : cells = R.cells := by omega
  have e2 : slots = R.slots := by omega
  subst e1
  subst e2
  exact W.zret hx hb hr (narrow_z hz) (fun t ht hW => ⟨rfl, by rw [ht]; exact h3, h4.F ht⟩) h4.2.2 hd hlocks
theorem j_nret (F : MF G X own cc nL d ret nm) {v : Int32} {ty : FieldType} (hret : ret = some ty) (hz : narrow ty (.int v) = .int v) (hd : decode cc pc = .ok (.ireturn, 1)) : J G X (QE G X (some (.int v)) sh I L n) nL sh I L n 0 0 pc ls [.int v] := by
  obtain ⟨p, l, e', R, s, m, args, below, meth, c⟩ := X
  obtain ⟨hx, hb, hml, hown, hts, hr, hlocks, hnm, hK, hq0, hq1, hRf, hRl⟩ := F
  intro H locs cells slots LS h1 h2 h3 h4 h5
  have e1 : cells = R.cells := by omega
  have e2 : slots = R.slots := by omega
  subst e1
  subst e2
  subst hret
  exact W.zret hx hb hr hz (fun t ht hW => ⟨rfl, by rw [ht]; exact h3, h4.F ht⟩) h4.2.2 hd hlocks
theorem j_lret (F : MF G X own cc nL d (some .long) nm) {v : Int64} (hd : decode cc pc = .ok (.lreturn, 1)) : J G X (QE G X (some (.long v)) sh I L n) nL sh I L n 0 0 pc ls [.long v] := by
  obtain ⟨p, l, e', R, s, m, args, below, meth, c⟩ := X
  obtain ⟨hx, hb, hml, hown, hts, hr, hlocks, hnm, hK, hq0, hq1, hRf, hRl⟩ := F
  intro H locs cells slots LS h1 h2 h3 h4 h5
  have e1 : cells = R.cells := by omega
  have e2 : slots = R.slots := by omega
  subst e1
  subst e2
  exact W.lret hx hb hr (fun t ht hW => ⟨rfl, by rw [ht]; exact h3, h4.F ht⟩) h4.2.2 hd hlocks
theorem j_vret (F : MF G X own cc nL d none nm) (hd : decode cc pc = .ok (.return_, 1)) : J G X (QE G X none sh I L n) nL sh I L n 0 0 pc ls [] := by
  obtain ⟨p, l, e', R, s, m, args, below, meth, c⟩ := X
  obtain ⟨hx, hb, hml, hown, hts, hr, hlocks, hnm, hK, hq0, hq1, hRf, hRl⟩ := F
  intro H locs cells slots LS h1 h2 h3 h4 h5
  have e1 : cells = R.cells := by omega
  have e2 : slots = R.slots := by omega
  subst e1
  subst e2
  exact W.vret hx hb hr (fun t ht hW => ⟨rfl, by rw [ht]; exact h3, h4.F ht⟩) h4.2.2 hd hlocks
theorem j_aret (F : MF G X own cc nL d ret nm) {o : Option Nat} {v : Value} {rt : FieldType} (hret : ret = some rt) (hrt : (∃ n, rt = .object n) ∨ ∃ t, rt = .array t) (hv : v = va_rf o) (hd : decode cc pc = .ok (.areturn, 1)) : J G X (QE G X (some v) sh I L n) nL sh I L n 0 0 pc ls [v] := by
  obtain ⟨p, l, e', R, s, m, args, below, meth, c⟩ := X
  obtain ⟨hx, hb, hml, hown, hts, hr, hlocks, hnm, hK, hq0, hq1, hRf, hRl⟩ := F
  intro H locs cells slots LS h1 h2 h3 h4 h5
  have e1 : cells = R.cells := by omega
  have e2 : slots = R.slots := by omega
  subst e1
  subst e2
  subst hret
  exact W.aret hx hb hr hrt (by subst hv; cases o with | none => exact Or.inl rfl | some a => exact Or.inr ⟨a, rfl⟩) (fun t ht hW => ⟨rfl, by rw [ht]; exact h3, h4.F ht⟩) h4.2.2 hd hlocks
end JC
end
section
/-! ROW OF J: new int[a][c] -/
theorem mr_outer (c : ClassId) (N h0 : Nat) : ∀ i : Nat, Jvm.Free.Multi.outerC c N h0 i = arrV c N (fun j => va_rf (if j < i then some (h0 + 1 + j) else none))
  | 0 => by
    show ({ cls := c, slots := Array.replicate N .null, vm := .none } : Cell) = _
    rw [arrV_new]
    refine congrArg (arrV c N) (funext fun j => ?_)
    simp [va_rf]
  | i + 1 => by
    show (Jvm.Free.Multi.outerC c N h0 i).setSlot i (.ref (h0 + 1 + i)) = _
    rw [mr_outer c N h0 i, arrV_store]
    refine congrArg (arrV c N) (funext fun j => ?_)
    by_cases e : j = i
    · subst e
      simp [updV, va_rf]
    · by_cases h : j < i
      · simp [updV, e, h, Nat.lt_succ_of_lt h]
      · simp [updV, e, h, show ¬ j < i + 1 by omega]
section JM
variable {G : GT} {X : XT} {Q : State → Prop} {nL : Nat} {sh : SH} {I : IH} {L : LH} {n e es pc : Nat} {ls : List (Nat × Value)} {st : List Value}
variable {own : String} {cc : ByteArray} {d : Nat} {ret : Option FieldType} {nm : String}
theorem j_multi (F : MF G X own cc nL d ret nm) {ix e1 es1 : Nat} {a0 c0 : Int32} {sh' : SH} {I' : IH} (hw : Cond.classLink own ix ("[" ++ (FieldType.array .int).toString) ∈ lw_good) (hw2 : Cond.arrayClass .int ∈ lw_good) (hg : nM sh I n a0 c0 = some (sh', I')) (he : e = 1 + a0.toNatClampNeg + e1) (hes : es = a0.toNatClampNeg + a0.toNatClampNeg * c0.toNatClampNeg + es1) (hd : decode cc pc = .ok (.multianewarray ix 2, 4)) (kk : J G X Q nL sh' I' L (n + (1 + a0.toNatClampNeg)) e1 es1 (pc + 4) ls (.ref n :: st)) : J G X Q nL sh I L n e es pc ls (.int c0 :: .int a0 :: st) := by
  obtain ⟨p, l, e', R, s, m, args, below, meth, c⟩ := X
  obtain ⟨hx, hb, hml, hown, hts, hr, hlocks, hnm, hK, hq0, hq1, hRf, hRl⟩ := F
  intro H locs cells slots LS h1 h2 h3 h4 h5
  obtain ⟨⟨⟨g1, g2⟩, g3, g4⟩, g5⟩ := ite_obt hg
  cases g5
  intro T hT Xs
  obtain ⟨vm₁, cA, comp, -, fA, fC, hO, -, X', step⟩ := Xs.multianewarray2F hx hown (hts _ hw) (show (Cond.arrayOver (.array .int)).before args s = true from hK.2.2.1) (hts _ hw2) (g := F0 m pc LS (.int c0 :: .int a0 :: st)) rfl (by rw [hb]; exact hd) rfl g1 g3 (by omega) (by simp [componentBytes]; omega) (by omega) rfl rfl (by omega) (by omega)
  generalize hF : Jvm.Free.Multi.fill (T.setVm vm₁) cA comp a0.toNatClampNeg c0.toNatClampNeg (defaultValue .int) a0.toNatClampNeg = FF at X' step
  have hTh : (T.setVm vm₁).heap = H := hT
  have h9 : H.size = n := h3.1
  obtain ⟨f1, f2, -, -⟩ := Jvm.Free.Multi.fill_facts (T.setVm vm₁) cA comp a0.toNatClampNeg c0.toNatClampNeg (defaultValue .int) a0.toNatClampNeg
  rw [hF, hTh] at f1 f2
  have hold : ∀ x : Nat, x < H.size → FF.heap[x]? = H[x]? := fun x hx => by
    have := Jvm.Free.Multi.fill_old (T.setVm vm₁) cA comp a0.toNatClampNeg c0.toNatClampNeg (defaultValue .int) (a := x) (by rw [hTh]; exact hx) a0.toNatClampNeg
    rw [hF, hTh] at this
    exact this
  have hrow : ∀ j : Nat, j < a0.toNatClampNeg → FF.heap[H.size + 1 + j]? = some (arrV comp c0.toNatClampNeg (fun _ => .int 0)) := fun j hj => by
    have := Jvm.Free.Multi.fill_inner (T.setVm vm₁) cA comp a0.toNatClampNeg c0.toNatClampNeg (defaultValue .int) a0.toNatClampNeg j hj
    rw [hF, hTh] at this
    rw [this]
    exact congrArg some (arrV_new comp c0.toNatClampNeg (.int 0))
  rw [mr_outer] at f2
  have hcA : cA = G.2.2.1 4 := Option.some.inj (fA.symm.trans (hK.1.2 4 (by omega)).2)
  have hco : comp = G.2.2.1 0 := Option.some.inj (fC.symm.trans (hK.1.2 0 (by omega)).2)
  subst hcA
  subst hco
  have hH : HPh G (nMS sh n a0.toNatClampNeg c0.toNatClampNeg) (nMI I n a0.toNatClampNeg) L (n + (1 + a0.toNatClampNeg)) FF.heap := by
    have h8 := h3
    obtain ⟨k1, k2, k3, k4⟩ := h3
    refine ⟨by omega, by omega, fun q hq => by rw [hold q (by omega)]; exact k3 q hq, fun b c' hb => ?_⟩
    unfold nMS at hb
    by_cases e : b = n
    · subst e
      rw [if_pos rfl] at hb
      cases hb
      refine ⟨k2, ?_⟩
      show FF.heap[b]? = some _
      rw [h9] at f2
      rw [f2]
      rfl
    · rw [if_neg e] at hb
      by_cases e2 : n < b ∧ b ≤ n + a0.toNatClampNeg
      · rw [if_pos e2] at hb
        cases hb
        refine ⟨by omega, ?_⟩
        show FF.heap[b]? = some _
        have hr9 := hrow (b - (H.size + 1)) (by omega)
        rw [show H.size + 1 + (b - (H.size + 1)) = b by omega] at hr9
        rw [hr9]
        unfold nMI
        rw [if_pos e2]
        rfl
      · rw [if_neg e2] at hb
        have hI : nMI I n a0.toNatClampNeg b = I b := if_neg e2
        rw [hI]
        exact ⟨(k4 b c' hb).1, (k4 b c' hb).2.kept (hold b (by rw [h9]; exact h8.lt hb))⟩
  obtain ⟨t, a1, b1⟩ := kk FF.heap locs (cells + 1 + a0.toNatClampNeg) (slots + a0.toNatClampNeg + a0.toNatClampNeg * c0.toNatClampNeg) LS (by omega) (by omega) hH (h4.grow (by omega) hold) h5 FF rfl X'
  refine ⟨t, step t ?_, b1⟩
  have e : T.heap.size = n := by rw [hT, h9]
  rw [e]
  exact a1
end JM
end
section
/-! words of fields and calls, by program; small combinators of the decompiled functions -/
def addE {ρ : Type} (c s : Nat) (o : Option ((Nat × Nat) × ρ)) : Option ((Nat × Nat) × ρ) := o.map (fun q => ((c + q.1.1, s + q.1.2), q.2))
theorem addE_obt {ρ : Type} {c s : Nat} {o : Option ((Nat × Nat) × ρ)} {e es : Nat} {x : ρ} (h : addE c s o = some ((e, es), x)) : ∃ e1 es1, o = some ((e1, es1), x) ∧ e = c + e1 ∧ es = s + es1 := by
  unfold addE at h
  obtain ⟨⟨⟨a, b⟩, y⟩, h1, h2⟩ := Option.map_eq_some_iff.mp h
  cases h2
  exact ⟨a, b, h1, rfl, rfl⟩
def b2 {α β γ : Type} (o : Option (α × β)) (f : α → β → Option γ) : Option γ := match o with
  | none => none
  | some x => f x.1 x.2
theorem b2_obt {α β γ : Type} {o : Option (α × β)} {f : α → β → Option γ} {r : γ} (h : b2 o f = some r) : ∃ a b, o = some (a, b) ∧ f a b = some r := by
  cases o with
  | none => cases h
  | some x => exact ⟨x.1, x.2, rfl, h⟩
def b3 {α β γ δ : Type} (o : Option (α × β × γ)) (f : α → β → γ → Option δ) : Option δ := match o with
  | none => none
  | some x => f x.1 x.2.1 x.2.2
theorem b3_obt {α β γ δ : Type} {o : Option (α × β × γ)} {f : α → β → γ → Option δ} {r : δ} (h : b3 o f = some r) : ∃ a b c, o = some (a, b, c) ∧ f a b c = some r := by
  cases o with
  | none => cases h
  | some x => exact ⟨x.1, x.2.1, x.2.2, rfl, h⟩
def bE1 {α0 γ : Type} (o : Option ((Nat × Nat) × (α0))) (f : α0 → Option ((Nat × Nat) × γ)) : Option ((Nat × Nat) × γ) := match o with
  | none => none
  | some q => addE q.1.1 q.1.2 (f q.2)
theorem bE1_obt {α0 γ : Type} {o : Option ((Nat × Nat) × (α0))} {f : α0 → Option ((Nat × Nat) × γ)} {e es : Nat} {r : γ} (h : bE1 o f = some ((e, es), r)) : ∃ d ds a0 e1 es1, o = some ((d, ds), a0) ∧ f a0 = some ((e1, es1), r) ∧ e = d + e1 ∧ es = ds + es1 := by
  cases o with
  | none => cases h
  | some q =>
    obtain ⟨e1, es1, h1, h2, h3⟩ := addE_obt h
    exact ⟨q.1.1, q.1.2, q.2, e1, es1, rfl, h1, h2, h3⟩
def bE2 {α0 α1 γ : Type} (o : Option ((Nat × Nat) × (α0 × α1))) (f : α0 → α1 → Option ((Nat × Nat) × γ)) : Option ((Nat × Nat) × γ) := match o with
  | none => none
  | some q => addE q.1.1 q.1.2 (f q.2.1 q.2.2)
theorem bE2_obt {α0 α1 γ : Type} {o : Option ((Nat × Nat) × (α0 × α1))} {f : α0 → α1 → Option ((Nat × Nat) × γ)} {e es : Nat} {r : γ} (h : bE2 o f = some ((e, es), r)) : ∃ d ds a0 a1 e1 es1, o = some ((d, ds), (a0, a1)) ∧ f a0 a1 = some ((e1, es1), r) ∧ e = d + e1 ∧ es = ds + es1 := by
  cases o with
  | none => cases h
  | some q =>
    obtain ⟨e1, es1, h1, h2, h3⟩ := addE_obt h
    exact ⟨q.1.1, q.1.2, q.2.1, q.2.2, e1, es1, rfl, h1, h2, h3⟩
def bE3 {α0 α1 α2 γ : Type} (o : Option ((Nat × Nat) × (α0 × α1 × α2))) (f : α0 → α1 → α2 → Option ((Nat × Nat) × γ)) : Option ((Nat × Nat) × γ) := match o with
  | none => none
  | some q => addE q.1.1 q.1.2 (f q.2.1 q.2.2.1 q.2.2.2)
theorem bE3_obt {α0 α1 α2 γ : Type} {o : Option ((Nat × Nat) × (α0 × α1 × α2))} {f : α0 → α1 → α2 → Option ((Nat × Nat) × γ)} {e es : Nat} {r : γ} (h : bE3 o f = some ((e, es), r)) : ∃ d ds a0 a1 a2 e1 es1, o = some ((d, ds), (a0, a1, a2)) ∧ f a0 a1 a2 = some ((e1, es1), r) ∧ e = d + e1 ∧ es = ds + es1 := by
  cases o with
  | none => cases h
  | some q =>
    obtain ⟨e1, es1, h1, h2, h3⟩ := addE_obt h
    exact ⟨q.1.1, q.1.2, q.2.1, q.2.2.1, q.2.2.2, e1, es1, rfl, h1, h2, h3⟩
def bE4 {α0 α1 α2 α3 γ : Type} (o : Option ((Nat × Nat) × (α0 × α1 × α2 × α3))) (f : α0 → α1 → α2 → α3 → Option ((Nat × Nat) × γ)) : Option ((Nat × Nat) × γ) := match o with
  | none => none
  | some q => addE q.1.1 q.1.2 (f q.2.1 q.2.2.1 q.2.2.2.1 q.2.2.2.2)
theorem bE4_obt {α0 α1 α2 α3 γ : Type} {o : Option ((Nat × Nat) × (α0 × α1 × α2 × α3))} {f : α0 → α1 → α2 → α3 → Option ((Nat × Nat) × γ)} {e es : Nat} {r : γ} (h : bE4 o f = some ((e, es), r)) : ∃ d ds a0 a1 a2 a3 e1 es1, o = some ((d, ds), (a0, a1, a2, a3)) ∧ f a0 a1 a2 a3 = some ((e1, es1), r) ∧ e = d + e1 ∧ es = ds + es1 := by
  cases o with
  | none => cases h
  | some q =>
    obtain ⟨e1, es1, h1, h2, h3⟩ := addE_obt h
    exact ⟨q.1.1, q.1.2, q.2.1, q.2.2.1, q.2.2.2.1, q.2.2.2.2, e1, es1, rfl, h1, h2, h3⟩
def bE5 {α0 α1 α2 α3 α4 γ : Type} (o : Option ((Nat × Nat) × (α0 × α1 × α2 × α3 × α4))) (f : α0 → α1 → α2 → α3 → α4 → Option ((Nat × Nat) × γ)) : Option ((Nat × Nat) × γ) := match o with
  | none => none
  | some q => addE q.1.1 q.1.2 (f q.2.1 q.2.2.1 q.2.2.2.1 q.2.2.2.2.1 q.2.2.2.2.2)
theorem bE5_obt {α0 α1 α2 α3 α4 γ : Type} {o : Option ((Nat × Nat) × (α0 × α1 × α2 × α3 × α4))} {f : α0 → α1 → α2 → α3 → α4 → Option ((Nat × Nat) × γ)} {e es : Nat} {r : γ} (h : bE5 o f = some ((e, es), r)) : ∃ d ds a0 a1 a2 a3 a4 e1 es1, o = some ((d, ds), (a0, a1, a2, a3, a4)) ∧ f a0 a1 a2 a3 a4 = some ((e1, es1), r) ∧ e = d + e1 ∧ es = ds + es1 := by
  cases o with
  | none => cases h
  | some q =>
    obtain ⟨e1, es1, h1, h2, h3⟩ := addE_obt h
    exact ⟨q.1.1, q.1.2, q.2.1, q.2.2.1, q.2.2.2.1, q.2.2.2.2.1, q.2.2.2.2.2, e1, es1, rfl, h1, h2, h3⟩
theorem gw_0 : Cond.selects RX1 yX1_clause yX1_clause ∈ lw_good := good_of 0 (by decide +kernel) rfl
theorem gw_1 : Cond.selects RX1 yX1_word yX1_word ∈ lw_good := good_of 1 (by decide +kernel) rfl
theorem gw_2 : Cond.selects RX1 yX1_passes yX1_passes ∈ lw_good := good_of 2 (by decide +kernel) rfl
theorem gw_3 : Cond.selects RX1 yX1_next yX1_next ∈ lw_good := good_of 3 (by decide +kernel) rfl
theorem gw_4 : Cond.selects RX1 yX1_ending yX1_ending ∈ lw_good := good_of 4 (by decide +kernel) rfl
theorem gw_5 : Cond.selects RX1 yX1_expect yX1_expect ∈ lw_good := good_of 5 (by decide +kernel) rfl
theorem gw_6 : Cond.selects RX1 yX1_number yX1_number ∈ lw_good := good_of 6 (by decide +kernel) rfl
theorem gw_7 : Cond.selects RX1 yX1_either yX1_either ∈ lw_good := good_of 7 (by decide +kernel) rfl
theorem gw_8 : Cond.selects RX1 yX1_both yX1_both ∈ lw_good := good_of 8 (by decide +kernel) rfl
theorem gw_9 : Cond.selects RX1 yX1_factor yX1_factor ∈ lw_good := good_of 9 (by decide +kernel) rfl
theorem gw_10 : Cond.selects RX1 yX1_oneOf yX1_oneOf ∈ lw_good := good_of 10 (by decide +kernel) rfl
theorem gw_11 : Cond.selects RX1 yX1_figure yX1_figure ∈ lw_good := good_of 11 (by decide +kernel) rfl
theorem gw_12 : Cond.selects RX5 yX5_come yX5_come ∈ lw_good := good_of 12 (by decide +kernel) rfl
theorem gw_13 : Cond.selects RX5 yX5_pass yX5_pass ∈ lw_good := good_of 13 (by decide +kernel) rfl
theorem gw_14 : Cond.selects RX5 yX5_takes yX5_takes ∈ lw_good := good_of 14 (by decide +kernel) rfl
theorem gw_15 : Cond.selects RX5 yX5_serve yX5_serve ∈ lw_good := good_of 15 (by decide +kernel) rfl
theorem gw_16 : Cond.selects RX5 yX5_servedBefore yX5_servedBefore ∈ lw_good := good_of 16 (by decide +kernel) rfl
theorem gw_17 : Cond.selects RX6 yX6_underSkies yX6_underSkies ∈ lw_good := good_of 17 (by decide +kernel) rfl
theorem gw_18 : Cond.selects RX6 yX6_tapeAt yX6_tapeAt ∈ lw_good := good_of 18 (by decide +kernel) rfl
theorem gw_19 : Cond.selects RX0 yX0_began yX0_began ∈ lw_good := good_of 19 (by decide +kernel) rfl
theorem gw_20 : Cond.selects RX7 yX7_in yX7_in ∈ lw_good := good_of 20 (by decide +kernel) rfl
theorem gw_21 : Cond.selects RX7 yX7_isGate yX7_isGate ∈ lw_good := good_of 21 (by decide +kernel) rfl
theorem gw_22 : Cond.selects RX7 yX7_goesText yX7_goesText ∈ lw_good := good_of 22 (by decide +kernel) rfl
theorem gw_23 : Cond.selects RX7 yX7_takesClause yX7_takesClause ∈ lw_good := good_of 23 (by decide +kernel) rfl
theorem gw_24 : Cond.selects RX7 yX7_takesHead yX7_takesHead ∈ lw_good := good_of 24 (by decide +kernel) rfl
theorem gw_25 : Cond.selects RX7 yX7_second yX7_second ∈ lw_good := good_of 25 (by decide +kernel) rfl
theorem gw_26 : Cond.selects RX7 yX7_next yX7_next ∈ lw_good := good_of 26 (by decide +kernel) rfl
theorem gw_27 : Cond.selects RX7 yX7_takesWord yX7_takesWord ∈ lw_good := good_of 27 (by decide +kernel) rfl
theorem gw_28 : Cond.selects RX7 yX7_takesSign yX7_takesSign ∈ lw_good := good_of 28 (by decide +kernel) rfl
theorem gw_29 : Cond.selects RX7 yX7_takesNumber yX7_takesNumber ∈ lw_good := good_of 29 (by decide +kernel) rfl
theorem gw_30 : Cond.selects RX7 yX7_isDigit yX7_isDigit ∈ lw_good := good_of 30 (by decide +kernel) rfl
theorem gw_31 : Cond.selects RX7 yX7_takesE yX7_takesE ∈ lw_good := good_of 31 (by decide +kernel) rfl
theorem gw_32 : Cond.selects RX7 yX7_takesTest yX7_takesTest ∈ lw_good := good_of 32 (by decide +kernel) rfl
theorem gw_33 : Cond.selects RX7 yX7_put yX7_put ∈ lw_good := good_of 33 (by decide +kernel) rfl
theorem gw_34 : Cond.selects RX7 yX7_whole yX7_whole ∈ lw_good := good_of 34 (by decide +kernel) rfl
theorem gw_35 : Cond.selects RX7 yX7_settle yX7_settle ∈ lw_good := good_of 35 (by decide +kernel) rfl
theorem gw_36 : Cond.selects RX7 yX7_last yX7_last ∈ lw_good := good_of 36 (by decide +kernel) rfl
theorem gw_37 : Cond.selects RX7 yX7_first yX7_first ∈ lw_good := good_of 37 (by decide +kernel) rfl
theorem gw_38 : Cond.selects RX7 yX7_behind yX7_behind ∈ lw_good := good_of 38 (by decide +kernel) rfl
theorem gw_39 : Cond.selects RX7 yX7_min yX7_min ∈ lw_good := good_of 39 (by decide +kernel) rfl
theorem gw_40 : Cond.selects RX7 yX7_isHour yX7_isHour ∈ lw_good := good_of 40 (by decide +kernel) rfl
theorem gw_41 : Cond.selects RX7 yX7_meltOf yX7_meltOf ∈ lw_good := good_of 41 (by decide +kernel) rfl
theorem gw_42 : Cond.selects RX7 yX7_holds yX7_holds ∈ lw_good := good_of 42 (by decide +kernel) rfl
theorem gw_43 : Cond.selects RX7 yX7_isPlace yX7_isPlace ∈ lw_good := good_of 43 (by decide +kernel) rfl
theorem gw_44 : Cond.selects RX7 yX7_asIs yX7_asIs ∈ lw_good := good_of 44 (by decide +kernel) rfl
theorem gw_45 : Cond.selects RX7 yX7_go yX7_go ∈ lw_good := good_of 45 (by decide +kernel) rfl
theorem gw_46 : Cond.selects RX7 yX7_sets yX7_sets ∈ lw_good := good_of 46 (by decide +kernel) rfl
theorem gw_47 : Cond.selects RX7 yX7_less yX7_less ∈ lw_good := good_of 47 (by decide +kernel) rfl
theorem gw_48 : Cond.selects RX7 yX7_takes yX7_takes ∈ lw_good := good_of 48 (by decide +kernel) rfl
theorem gw_49 : Cond.selects RX7 yX7_has yX7_has ∈ lw_good := good_of 49 (by decide +kernel) rfl
theorem gw_50 : Cond.selects RX7 yX7_floods yX7_floods ∈ lw_good := good_of 50 (by decide +kernel) rfl
theorem gw_51 : Cond.selects RX7 yX7_worthNow yX7_worthNow ∈ lw_good := good_of 51 (by decide +kernel) rfl
theorem gw_52 : Cond.selects RX7 yX7_serve yX7_serve ∈ lw_good := good_of 52 (by decide +kernel) rfl
theorem gw_53 : Cond.selects RX7 yX7_oddsOf yX7_oddsOf ∈ lw_good := good_of 53 (by decide +kernel) rfl
theorem gw_54 : Cond.selects RX7 yX7_divisor yX7_divisor ∈ lw_good := good_of 54 (by decide +kernel) rfl
theorem gw_55 : Cond.selects RX7 yX7_ones yX7_ones ∈ lw_good := good_of 55 (by decide +kernel) rfl
theorem gw_56 : Cond.selects RX7 yX7_isTape yX7_isTape ∈ lw_good := good_of 56 (by decide +kernel) rfl
theorem gw_57 : Cond.selects RX7 yX7_copy yX7_copy ∈ lw_good := good_of 57 (by decide +kernel) rfl
theorem gw_58 : Cond.selects RX7 yX7_letsAct yX7_letsAct ∈ lw_good := good_of 58 (by decide +kernel) rfl
theorem gw_59 : Cond.selects RX7 yX7_body yX7_body ∈ lw_good := good_of 59 (by decide +kernel) rfl
theorem gw_60 : Cond.selects RX7 yX7_plainLets yX7_plainLets ∈ lw_good := good_of 60 (by decide +kernel) rfl
theorem gw_61 : Cond.selects RX7 yX7_takesAct yX7_takesAct ∈ lw_good := good_of 61 (by decide +kernel) rfl
theorem gw_62 : Cond.selects RX7 yX7_clockTakes yX7_clockTakes ∈ lw_good := good_of 62 (by decide +kernel) rfl
theorem gw_63 : Cond.selects RX7 yX7_plainTakes yX7_plainTakes ∈ lw_good := good_of 63 (by decide +kernel) rfl
theorem gw_64 : Cond.selects RX7 yX7_tellsAct yX7_tellsAct ∈ lw_good := good_of 64 (by decide +kernel) rfl
theorem gw_65 : Cond.selects RX7 yX7_plainTells yX7_plainTells ∈ lw_good := good_of 65 (by decide +kernel) rfl
theorem gw_66 : Cond.selects RX7 yX7_narrow yX7_narrow ∈ lw_good := good_of 66 (by decide +kernel) rfl
theorem gw_68 : Cond.initialized "MeltHours" ∈ lw_good := good_of 68 (by decide +kernel) rfl
theorem gw_69 : Cond.initialized "MeltHours$State" ∈ lw_good := good_of 69 (by decide +kernel) rfl
theorem gw_70 : Cond.initialized "MeltHours$Valley" ∈ lw_good := good_of 70 (by decide +kernel) rfl
theorem gw_71 : Cond.initialized "java/util/Arrays" ∈ lw_good := good_of 71 (by decide +kernel) rfl
theorem gw_72 : Cond.initialized "MeltHours$Water" ∈ lw_good := good_of 72 (by decide +kernel) rfl
theorem gw_73 : Cond.initialized "MeltHours$Acts" ∈ lw_good := good_of 73 (by decide +kernel) rfl
theorem gw_74 : Cond.initialized "MeltHours$Tape" ∈ lw_good := good_of 74 (by decide +kernel) rfl
theorem gw_75 : Cond.initialized "MeltHoursModel" ∈ lw_good := good_of 75 (by decide +kernel) rfl
theorem gw_76 : Cond.initialized "MeltHours$Reader" ∈ lw_good := good_of 76 (by decide +kernel) rfl
theorem gw_77 : Cond.initialized "java/lang/Math" ∈ lw_good := good_of 77 (by decide +kernel) rfl
theorem gw_78 : Cond.initialized "java/lang/String" ∈ lw_good := good_of 78 (by decide +kernel) rfl
theorem gw_83 : Cond.initialized "java/lang/Integer" ∈ lw_good := good_of 83 (by decide +kernel) rfl
theorem gw_84 : Cond.classLink "MeltHoursLaw" 7 "MeltHours" ∈ lw_good := good_of 84 (by decide +kernel) rfl
theorem gw_85 : Cond.instantiable "MeltHours" 9 ∈ lw_good := good_of 85 (by decide +kernel) rfl
theorem gw_86 : Cond.methodLink "MeltHoursLaw" 9 yX6_init ∈ lw_good := good_of 86 (by decide +kernel) rfl
theorem gw_87 : Cond.instanceMethod yX6_init ∈ lw_good := good_of 87 (by decide +kernel) rfl
set_option maxRecDepth 100000 in
theorem gw_88 : Cond.code yX6_init cX6_init 2 none ∈ lw_good := good_of 88 rfl rfl
theorem gw_92 : Cond.classLink "MeltHours" 11 "MeltHours$State" ∈ lw_good := good_of 92 (by decide +kernel) rfl
theorem gw_93 : Cond.instantiable "MeltHours$State" 9 ∈ lw_good := good_of 93 (by decide +kernel) rfl
theorem gw_94 : Cond.classLink "MeltHours" 13 "MeltHours$Valley" ∈ lw_good := good_of 94 (by decide +kernel) rfl
theorem gw_95 : Cond.instantiable "MeltHours$Valley" 2 ∈ lw_good := good_of 95 (by decide +kernel) rfl
theorem gw_96 : Cond.methodLink "MeltHours" 15 yX4_init ∈ lw_good := good_of 96 (by decide +kernel) rfl
theorem gw_97 : Cond.instanceMethod yX4_init ∈ lw_good := good_of 97 (by decide +kernel) rfl
set_option maxRecDepth 100000 in
theorem gw_98 : Cond.code yX4_init cX4_init 1 none ∈ lw_good := good_of 98 rfl rfl
theorem gw_102 : Cond.methodLink "MeltHours$Valley" 20 yJ7_fill_53178 ∈ lw_good := good_of 102 (by decide +kernel) rfl
theorem gw_103 : Cond.static yJ7_fill_53178 ∈ lw_good := good_of 103 (by decide +kernel) rfl
set_option maxRecDepth 100000 in
theorem gw_104 : Cond.code yJ7_fill_53178 cJ7_fill_53178 4 none ∈ lw_good := good_of 104 rfl rfl
theorem gw_105 : Cond.fieldLink "MeltHours$Valley" 11 "MeltHours$Valley" "ways" "[[I" ∈ lw_good := good_of 105 (by decide +kernel) rfl
theorem gw_106 : Cond.fieldLink "MeltHours$Water" 51 "MeltHours$Valley" "ways" "[[I" ∈ lw_good := good_of 106 (by decide +kernel) rfl
theorem gw_107 : Cond.fieldLink "MeltHours" 87 "MeltHours$Valley" "ways" "[[I" ∈ lw_good := good_of 107 (by decide +kernel) rfl
theorem gw_108 : Cond.fieldLink "MeltHours$Valley" 16 "MeltHours$Valley" "melts" "[I" ∈ lw_good := good_of 108 (by decide +kernel) rfl
theorem gw_109 : Cond.fieldLink "MeltHours$State" 61 "MeltHours$Valley" "melts" "[I" ∈ lw_good := good_of 109 (by decide +kernel) rfl
theorem gw_116 : Cond.methodLink "MeltHours" 16 yX2_init ∈ lw_good := good_of 116 (by decide +kernel) rfl
theorem gw_117 : Cond.instanceMethod yX2_init ∈ lw_good := good_of 117 (by decide +kernel) rfl
set_option maxRecDepth 100000 in
theorem gw_118 : Cond.code yX2_init cX2_init 2 none ∈ lw_good := good_of 118 rfl rfl
theorem gw_121 : Cond.fieldLink "MeltHours$State" 9 "MeltHours$State" "placeCount" "I" ∈ lw_good := good_of 121 (by decide +kernel) rfl
theorem gw_122 : Cond.fieldLink "MeltHours" 57 "MeltHours$State" "placeCount" "I" ∈ lw_good := good_of 122 (by decide +kernel) rfl
theorem gw_123 : Cond.fieldLink "MeltHours$Water" 121 "MeltHours$State" "placeCount" "I" ∈ lw_good := good_of 123 (by decide +kernel) rfl
theorem gw_124 : Cond.fieldLink "MeltHours$State" 15 "MeltHours$State" "skies" "[I" ∈ lw_good := good_of 124 (by decide +kernel) rfl
theorem gw_125 : Cond.fieldLink "MeltHours" 65 "MeltHours$State" "skies" "[I" ∈ lw_good := good_of 125 (by decide +kernel) rfl
theorem gw_126 : Cond.fieldLink "MeltHours$Water" 66 "MeltHours$State" "skies" "[I" ∈ lw_good := good_of 126 (by decide +kernel) rfl
theorem gw_127 : Cond.fieldLink "MeltHours$State" 19 "MeltHours$State" "odds" "[I" ∈ lw_good := good_of 127 (by decide +kernel) rfl
theorem gw_128 : Cond.fieldLink "MeltHours" 168 "MeltHours$State" "odds" "[I" ∈ lw_good := good_of 128 (by decide +kernel) rfl
theorem gw_129 : Cond.fieldLink "MeltHours$State" 24 "MeltHours$State" "gates" "[[I" ∈ lw_good := good_of 129 (by decide +kernel) rfl
theorem gw_130 : Cond.fieldLink "MeltHours$Water" 58 "MeltHours$State" "gates" "[[I" ∈ lw_good := good_of 130 (by decide +kernel) rfl
theorem gw_131 : Cond.fieldLink "MeltHours" 96 "MeltHours$State" "gates" "[[I" ∈ lw_good := good_of 131 (by decide +kernel) rfl
theorem gw_132 : Cond.fieldLink "MeltHours$State" 27 "MeltHours$State" "wants" "[[I" ∈ lw_good := good_of 132 (by decide +kernel) rfl
theorem gw_133 : Cond.fieldLink "MeltHours$Water" 128 "MeltHours$State" "wants" "[[I" ∈ lw_good := good_of 133 (by decide +kernel) rfl
theorem gw_134 : Cond.fieldLink "MeltHours" 138 "MeltHours$State" "wants" "[[I" ∈ lw_good := good_of 134 (by decide +kernel) rfl
theorem gw_135 : Cond.fieldLink "MeltHours$State" 45 "MeltHours$State" "wantCount" "I" ∈ lw_good := good_of 135 (by decide +kernel) rfl
theorem gw_136 : Cond.fieldLink "MeltHours" 135 "MeltHours$State" "wantCount" "I" ∈ lw_good := good_of 136 (by decide +kernel) rfl
theorem gw_137 : Cond.fieldLink "MeltHours$State" 30 "MeltHours$State" "toldMelts" "[I" ∈ lw_good := good_of 137 (by decide +kernel) rfl
theorem gw_138 : Cond.fieldLink "MeltHours" 191 "MeltHours$State" "toldMelts" "[I" ∈ lw_good := good_of 138 (by decide +kernel) rfl
theorem gw_139 : Cond.fieldLink "MeltHours$State" 48 "MeltHours$State" "toldHours" "I" ∈ lw_good := good_of 139 (by decide +kernel) rfl
theorem gw_140 : Cond.fieldLink "MeltHours" 188 "MeltHours$State" "toldHours" "I" ∈ lw_good := good_of 140 (by decide +kernel) rfl
theorem gw_141 : Cond.fieldLink "MeltHours" 23 "MeltHours$State" "valley" "LMeltHours$Valley;" ∈ lw_good := good_of 141 (by decide +kernel) rfl
theorem gw_142 : Cond.fieldLink "MeltHours$State" 33 "MeltHours$State" "valley" "LMeltHours$Valley;" ∈ lw_good := good_of 142 (by decide +kernel) rfl
theorem gw_143 : Cond.fieldLink "MeltHours$Water" 45 "MeltHours$State" "valley" "LMeltHours$Valley;" ∈ lw_good := good_of 143 (by decide +kernel) rfl
theorem gw_163 : Cond.classLink "MeltHours" 30 "MeltHours$Water" ∈ lw_good := good_of 163 (by decide +kernel) rfl
theorem gw_164 : Cond.instantiable "MeltHours$Water" 10 ∈ lw_good := good_of 164 (by decide +kernel) rfl
theorem gw_165 : Cond.methodLink "MeltHours" 32 yX5_init ∈ lw_good := good_of 165 (by decide +kernel) rfl
theorem gw_166 : Cond.instanceMethod yX5_init ∈ lw_good := good_of 166 (by decide +kernel) rfl
set_option maxRecDepth 100000 in
theorem gw_167 : Cond.code yX5_init cX5_init 2 none ∈ lw_good := good_of 167 rfl rfl
theorem gw_170 : Cond.fieldLink "MeltHours$Water" 41 "MeltHours$Water" "state" "LMeltHours$State;" ∈ lw_good := good_of 170 (by decide +kernel) rfl
theorem gw_171 : Cond.fieldLink "MeltHours$Water" 9 "MeltHours$Water" "melts" "[I" ∈ lw_good := good_of 171 (by decide +kernel) rfl
theorem gw_172 : Cond.fieldLink "MeltHours" 111 "MeltHours$Water" "melts" "[I" ∈ lw_good := good_of 172 (by decide +kernel) rfl
theorem gw_173 : Cond.fieldLink "MeltHours$Water" 17 "MeltHours$Water" "ways" "[[I" ∈ lw_good := good_of 173 (by decide +kernel) rfl
theorem gw_174 : Cond.fieldLink "MeltHours" 167 "MeltHours$Water" "ways" "[[I" ∈ lw_good := good_of 174 (by decide +kernel) rfl
theorem gw_175 : Cond.fieldLink "MeltHours$Water" 20 "MeltHours$Water" "gates" "[[I" ∈ lw_good := good_of 175 (by decide +kernel) rfl
theorem gw_176 : Cond.fieldLink "MeltHours" 151 "MeltHours$Water" "gates" "[[I" ∈ lw_good := good_of 176 (by decide +kernel) rfl
theorem gw_177 : Cond.fieldLink "MeltHours$Water" 23 "MeltHours$Water" "comes" "[[I" ∈ lw_good := good_of 177 (by decide +kernel) rfl
theorem gw_178 : Cond.fieldLink "MeltHours" 201 "MeltHours$Water" "comes" "[[I" ∈ lw_good := good_of 178 (by decide +kernel) rfl
theorem gw_179 : Cond.fieldLink "MeltHours$Water" 26 "MeltHours$Water" "taken" "[[I" ∈ lw_good := good_of 179 (by decide +kernel) rfl
theorem gw_180 : Cond.fieldLink "MeltHours" 118 "MeltHours$Water" "taken" "[[I" ∈ lw_good := good_of 180 (by decide +kernel) rfl
theorem gw_181 : Cond.fieldLink "MeltHours$Water" 29 "MeltHours$Water" "by" "[[I" ∈ lw_good := good_of 181 (by decide +kernel) rfl
theorem gw_182 : Cond.fieldLink "MeltHours" 128 "MeltHours$Water" "by" "[[I" ∈ lw_good := good_of 182 (by decide +kernel) rfl
theorem gw_183 : Cond.fieldLink "MeltHours$Water" 32 "MeltHours$Water" "held" "[[I" ∈ lw_good := good_of 183 (by decide +kernel) rfl
theorem gw_184 : Cond.fieldLink "MeltHours$Water" 35 "MeltHours$Water" "flood" "[[I" ∈ lw_good := good_of 184 (by decide +kernel) rfl
theorem gw_185 : Cond.fieldLink "MeltHours" 125 "MeltHours$Water" "flood" "[[I" ∈ lw_good := good_of 185 (by decide +kernel) rfl
theorem gw_186 : Cond.fieldLink "MeltHours$Water" 38 "MeltHours$Water" "served" "[I" ∈ lw_good := good_of 186 (by decide +kernel) rfl
theorem gw_187 : Cond.fieldLink "MeltHours" 144 "MeltHours$Water" "served" "[I" ∈ lw_good := good_of 187 (by decide +kernel) rfl
theorem gw_209 : Cond.classLink "MeltHours" 39 "MeltHours$Acts" ∈ lw_good := good_of 209 (by decide +kernel) rfl
theorem gw_210 : Cond.instantiable "MeltHours$Acts" 5 ∈ lw_good := good_of 210 (by decide +kernel) rfl
theorem gw_212 : Cond.instanceMethod yX0_init ∈ lw_good := good_of 212 (by decide +kernel) rfl
set_option maxRecDepth 100000 in
theorem gw_213 : Cond.code yX0_init cX0_init 1 none ∈ lw_good := good_of 213 rfl rfl
theorem gw_215 : Cond.fieldLink "MeltHours$Acts" 15 "MeltHours$Acts" "place" "I" ∈ lw_good := good_of 215 (by decide +kernel) rfl
theorem gw_216 : Cond.fieldLink "MeltHours$Acts" 22 "MeltHours$Acts" "might" "I" ∈ lw_good := good_of 216 (by decide +kernel) rfl
theorem gw_217 : Cond.fieldLink "MeltHours$Acts" 19 "MeltHours$Acts" "kind" "I" ∈ lw_good := good_of 217 (by decide +kernel) rfl
theorem gw_218 : Cond.fieldLink "MeltHours" 233 "MeltHours$Acts" "kind" "I" ∈ lw_good := good_of 218 (by decide +kernel) rfl
theorem gw_219 : Cond.fieldLink "MeltHours$Acts" 9 "MeltHours$Acts" "bodies" "[I" ∈ lw_good := good_of 219 (by decide +kernel) rfl
theorem gw_220 : Cond.fieldLink "MeltHours" 245 "MeltHours$Acts" "bodies" "[I" ∈ lw_good := good_of 220 (by decide +kernel) rfl
theorem gw_221 : Cond.fieldLink "MeltHours$Acts" 39 "MeltHours$Acts" "ran" "I" ∈ lw_good := good_of 221 (by decide +kernel) rfl
theorem gw_222 : Cond.fieldLink "MeltHours" 226 "MeltHours$Acts" "ran" "I" ∈ lw_good := good_of 222 (by decide +kernel) rfl
theorem gw_234 : Cond.classLink "MeltHours" 50 "MeltHours$Tape" ∈ lw_good := good_of 234 (by decide +kernel) rfl
theorem gw_236 : Cond.instantiable "MeltHours$Tape" 3 ∈ lw_good := good_of 236 (by decide +kernel) rfl
theorem gw_238 : Cond.instanceMethod yX3_init ∈ lw_good := good_of 238 (by decide +kernel) rfl
set_option maxRecDepth 100000 in
theorem gw_239 : Cond.code yX3_init cX3_init 1 none ∈ lw_good := good_of 239 rfl rfl
theorem gw_241 : Cond.fieldLink "MeltHours$Tape" 9 "MeltHours$Tape" "sort" "I" ∈ lw_good := good_of 241 (by decide +kernel) rfl
theorem gw_242 : Cond.fieldLink "MeltHours" 198 "MeltHours$Tape" "sort" "I" ∈ lw_good := good_of 242 (by decide +kernel) rfl
theorem gw_243 : Cond.fieldLink "MeltHours$Tape" 25 "MeltHours$Tape" "size" "I" ∈ lw_good := good_of 243 (by decide +kernel) rfl
theorem gw_244 : Cond.fieldLink "MeltHours" 204 "MeltHours$Tape" "size" "I" ∈ lw_good := good_of 244 (by decide +kernel) rfl
theorem gw_245 : Cond.fieldLink "MeltHours$Tape" 15 "MeltHours$Tape" "items" "[J" ∈ lw_good := good_of 245 (by decide +kernel) rfl
theorem gw_246 : Cond.fieldLink "MeltHours" 212 "MeltHours$Tape" "items" "[J" ∈ lw_good := good_of 246 (by decide +kernel) rfl
theorem gw_255 : Cond.fieldLink "MeltHours" 19 "MeltHours" "now" "LMeltHours$State;" ∈ lw_good := good_of 255 (by decide +kernel) rfl
theorem gw_256 : Cond.fieldLink "MeltHours" 27 "MeltHours" "kept" "LMeltHours$State;" ∈ lw_good := good_of 256 (by decide +kernel) rfl
theorem gw_257 : Cond.fieldLink "MeltHours" 222 "MeltHours" "isKept" "Z" ∈ lw_good := good_of 257 (by decide +kernel) rfl
theorem gw_258 : Cond.fieldLink "MeltHours" 35 "MeltHours" "flow" "LMeltHours$Water;" ∈ lw_good := good_of 258 (by decide +kernel) rfl
theorem gw_259 : Cond.fieldLink "MeltHours" 42 "MeltHours" "acts" "LMeltHours$Acts;" ∈ lw_good := good_of 259 (by decide +kernel) rfl
theorem gw_260 : Cond.fieldLink "MeltHours" 46 "MeltHours" "text" "[I" ∈ lw_good := good_of 260 (by decide +kernel) rfl
theorem gw_261 : Cond.fieldLink "MeltHours" 68 "MeltHours" "textLength" "I" ∈ lw_good := good_of 261 (by decide +kernel) rfl
theorem gw_262 : Cond.fieldLink "MeltHours" 71 "MeltHours" "valleyCount" "I" ∈ lw_good := good_of 262 (by decide +kernel) rfl
theorem gw_263 : Cond.fieldLink "MeltHours" 52 "MeltHours" "tapes" "[LMeltHours$Tape;" ∈ lw_good := good_of 263 (by decide +kernel) rfl
theorem gw_283 : Cond.methodLink "MeltHoursLaw" 13 yX6_places ∈ lw_good := good_of 283 (by decide +kernel) rfl
theorem gw_284 : Cond.instanceMethod yX6_places ∈ lw_good := good_of 284 (by decide +kernel) rfl
theorem gw_285 : Cond.selects RX6 yX6_places yX6_places ∈ lw_good := good_of 285 (by decide +kernel) rfl
set_option maxRecDepth 100000 in
theorem gw_286 : Cond.code yX6_places cX6_places 3 (some .int) ∈ lw_good := good_of 286 rfl rfl
theorem gw_287 : Cond.methodLink "MeltHoursLaw" 18 yX6_sky ∈ lw_good := good_of 287 (by decide +kernel) rfl
theorem gw_288 : Cond.instanceMethod yX6_sky ∈ lw_good := good_of 288 (by decide +kernel) rfl
theorem gw_289 : Cond.selects RX6 yX6_sky yX6_sky ∈ lw_good := good_of 289 (by decide +kernel) rfl
set_option maxRecDepth 100000 in
theorem gw_290 : Cond.code yX6_sky cX6_sky 4 (some .int) ∈ lw_good := good_of 290 rfl rfl
theorem gw_291 : Cond.methodLink "MeltHours" 61 yX6_isUnder ∈ lw_good := good_of 291 (by decide +kernel) rfl
theorem gw_292 : Cond.static yX6_isUnder ∈ lw_good := good_of 292 (by decide +kernel) rfl
set_option maxRecDepth 100000 in
theorem gw_293 : Cond.code yX6_isUnder cX6_isUnder 2 (some .boolean) ∈ lw_good := good_of 293 rfl rfl
theorem gw_294 : Cond.methodLink "MeltHoursLaw" 23 yX6_feed ∈ lw_good := good_of 294 (by decide +kernel) rfl
theorem gw_295 : Cond.instanceMethod yX6_feed ∈ lw_good := good_of 295 (by decide +kernel) rfl
theorem gw_296 : Cond.selects RX6 yX6_feed yX6_feed ∈ lw_good := good_of 296 (by decide +kernel) rfl
set_option maxRecDepth 100000 in
theorem gw_297 : Cond.code yX6_feed cX6_feed 4 (some .int) ∈ lw_good := good_of 297 rfl rfl
theorem gw_298 : Cond.methodLink "MeltHoursLaw" 27 yX6_valley ∈ lw_good := good_of 298 (by decide +kernel) rfl
theorem gw_299 : Cond.instanceMethod yX6_valley ∈ lw_good := good_of 299 (by decide +kernel) rfl
theorem gw_300 : Cond.selects RX6 yX6_valley yX6_valley ∈ lw_good := good_of 300 (by decide +kernel) rfl
set_option maxRecDepth 100000 in
theorem gw_301 : Cond.code yX6_valley cX6_valley 2 (some .int) ∈ lw_good := good_of 301 rfl rfl
theorem gw_302 : Cond.classLink "MeltHours" 74 "MeltHours$Reader" ∈ lw_good := good_of 302 (by decide +kernel) rfl
theorem gw_303 : Cond.instantiable "MeltHours$Reader" 5 ∈ lw_good := good_of 303 (by decide +kernel) rfl
theorem gw_304 : Cond.methodLink "MeltHours" 76 yX1_init ∈ lw_good := good_of 304 (by decide +kernel) rfl
theorem gw_305 : Cond.instanceMethod yX1_init ∈ lw_good := good_of 305 (by decide +kernel) rfl
set_option maxRecDepth 100000 in
theorem gw_306 : Cond.code yX1_init cX1_init 3 none ∈ lw_good := good_of 306 rfl rfl
theorem gw_308 : Cond.classLink "MeltHours$Reader" 15 "MeltHours$Valley" ∈ lw_good := good_of 308 (by decide +kernel) rfl
theorem gw_309 : Cond.methodLink "MeltHours$Reader" 17 yX4_init ∈ lw_good := good_of 309 (by decide +kernel) rfl
theorem gw_310 : Cond.methodLink "MeltHours$Reader" 26 yJ9_min_7cf53 ∈ lw_good := good_of 310 (by decide +kernel) rfl
theorem gw_311 : Cond.static yJ9_min_7cf53 ∈ lw_good := good_of 311 (by decide +kernel) rfl
set_option maxRecDepth 100000 in
theorem gw_312 : Cond.code yJ9_min_7cf53 cJ9_min_7cf53 2 (some .int) ∈ lw_good := good_of 312 rfl rfl
theorem gw_313 : Cond.fieldLink "MeltHours$Reader" 22 "MeltHours$Reader" "text" "[I" ∈ lw_good := good_of 313 (by decide +kernel) rfl
theorem gw_314 : Cond.fieldLink "MeltHours$Reader" 32 "MeltHours$Reader" "length" "I" ∈ lw_good := good_of 314 (by decide +kernel) rfl
theorem gw_315 : Cond.fieldLink "MeltHours$Reader" 9 "MeltHours$Reader" "sound" "Z" ∈ lw_good := good_of 315 (by decide +kernel) rfl
theorem gw_316 : Cond.fieldLink "MeltHours$Reader" 43 "MeltHours$Reader" "at" "I" ∈ lw_good := good_of 316 (by decide +kernel) rfl
theorem gw_317 : Cond.fieldLink "MeltHours" 83 "MeltHours$Reader" "at" "I" ∈ lw_good := good_of 317 (by decide +kernel) rfl
theorem gw_318 : Cond.fieldLink "MeltHours$Reader" 18 "MeltHours$Reader" "valley" "LMeltHours$Valley;" ∈ lw_good := good_of 318 (by decide +kernel) rfl
theorem gw_319 : Cond.fieldLink "MeltHours" 86 "MeltHours$Reader" "valley" "LMeltHours$Valley;" ∈ lw_good := good_of 319 (by decide +kernel) rfl
theorem gw_331 : Cond.methodLink "MeltHours" 79 yX1_isValley ∈ lw_good := good_of 331 (by decide +kernel) rfl
theorem gw_332 : Cond.instanceMethod yX1_isValley ∈ lw_good := good_of 332 (by decide +kernel) rfl
theorem gw_333 : Cond.selects RX1 yX1_isValley yX1_isValley ∈ lw_good := good_of 333 (by decide +kernel) rfl
set_option maxRecDepth 100000 in
theorem gw_334 : Cond.code yX1_isValley cX1_isValley 2 (some .boolean) ∈ lw_good := good_of 334 rfl rfl
theorem gw_335 : Cond.methodLink "MeltHours$Reader" 36 yX1_clause ∈ lw_good := good_of 335 (by decide +kernel) rfl
theorem gw_337 : Cond.instanceMethod yX1_clause ∈ lw_good := good_of 337 (by decide +kernel) rfl
set_option maxRecDepth 100000 in
theorem gw_338 : Cond.code yX1_clause cX1_clause 4 none ∈ lw_good := good_of 338 rfl rfl
theorem gw_339 : Cond.methodLink "MeltHours$Reader" 46 yX1_word ∈ lw_good := good_of 339 (by decide +kernel) rfl
theorem gw_341 : Cond.instanceMethod yX1_word ∈ lw_good := good_of 341 (by decide +kernel) rfl
set_option maxRecDepth 100000 in
theorem gw_342 : Cond.code yX1_word cX1_word 1 (some .int) ∈ lw_good := good_of 342 rfl rfl
theorem gw_343 : Cond.methodLink "MeltHours$Reader" 39 yX1_passes ∈ lw_good := good_of 343 (by decide +kernel) rfl
theorem gw_345 : Cond.instanceMethod yX1_passes ∈ lw_good := good_of 345 (by decide +kernel) rfl
set_option maxRecDepth 100000 in
theorem gw_346 : Cond.code yX1_passes cX1_passes 2 (some .boolean) ∈ lw_good := good_of 346 rfl rfl
theorem gw_347 : Cond.methodLink "MeltHours$Reader" 109 yX1_next ∈ lw_good := good_of 347 (by decide +kernel) rfl
theorem gw_349 : Cond.instanceMethod yX1_next ∈ lw_good := good_of 349 (by decide +kernel) rfl
set_option maxRecDepth 100000 in
theorem gw_350 : Cond.code yX1_next cX1_next 1 (some .int) ∈ lw_good := good_of 350 rfl rfl
theorem gw_352 : Cond.methodLink "MeltHours$Reader" 75 yX1_ending ∈ lw_good := good_of 352 (by decide +kernel) rfl
theorem gw_354 : Cond.instanceMethod yX1_ending ∈ lw_good := good_of 354 (by decide +kernel) rfl
set_option maxRecDepth 100000 in
theorem gw_355 : Cond.code yX1_ending cX1_ending 4 (some .int) ∈ lw_good := good_of 355 rfl rfl
theorem gw_356 : Cond.methodLink "MeltHours$Reader" 87 yJ0_length_8abf5 ∈ lw_good := good_of 356 (by decide +kernel) rfl
theorem gw_357 : Cond.instanceMethod yJ0_length_8abf5 ∈ lw_good := good_of 357 (by decide +kernel) rfl
theorem gw_358 : Cond.selects RJ0 yJ0_length_8abf5 yJ0_length_8abf5 ∈ lw_good := good_of 358 (by decide +kernel) rfl
theorem gw_366 : Cond.methodLink "MeltHours$Reader" 91 yJ0_charAt_5068e ∈ lw_good := good_of 366 (by decide +kernel) rfl
theorem gw_367 : Cond.instanceMethod yJ0_charAt_5068e ∈ lw_good := good_of 367 (by decide +kernel) rfl
theorem gw_368 : Cond.selects RJ0 yJ0_charAt_5068e yJ0_charAt_5068e ∈ lw_good := good_of 368 (by decide +kernel) rfl
theorem gw_404 : Cond.methodLink "MeltHours$Reader" 50 yX1_expect ∈ lw_good := good_of 404 (by decide +kernel) rfl
theorem gw_406 : Cond.instanceMethod yX1_expect ∈ lw_good := good_of 406 (by decide +kernel) rfl
set_option maxRecDepth 100000 in
theorem gw_407 : Cond.code yX1_expect cX1_expect 2 none ∈ lw_good := good_of 407 rfl rfl
theorem gw_412 : Cond.methodLink "MeltHours$Reader" 54 yX1_number ∈ lw_good := good_of 412 (by decide +kernel) rfl
theorem gw_414 : Cond.instanceMethod yX1_number ∈ lw_good := good_of 414 (by decide +kernel) rfl
set_option maxRecDepth 100000 in
theorem gw_415 : Cond.code yX1_number cX1_number 3 (some .int) ∈ lw_good := good_of 415 rfl rfl
theorem gw_417 : Cond.methodLink "MeltHours$Reader" 57 yX1_either ∈ lw_good := good_of 417 (by decide +kernel) rfl
theorem gw_419 : Cond.instanceMethod yX1_either ∈ lw_good := good_of 419 (by decide +kernel) rfl
set_option maxRecDepth 100000 in
theorem gw_420 : Cond.code yX1_either cX1_either 6 (some (.array .boolean)) ∈ lw_good := good_of 420 rfl rfl
theorem gw_421 : Cond.methodLink "MeltHours$Reader" 95 yX1_both ∈ lw_good := good_of 421 (by decide +kernel) rfl
theorem gw_423 : Cond.instanceMethod yX1_both ∈ lw_good := good_of 423 (by decide +kernel) rfl
set_option maxRecDepth 100000 in
theorem gw_424 : Cond.code yX1_both cX1_both 6 (some (.array .boolean)) ∈ lw_good := good_of 424 rfl rfl
theorem gw_425 : Cond.methodLink "MeltHours$Reader" 98 yX1_factor ∈ lw_good := good_of 425 (by decide +kernel) rfl
theorem gw_427 : Cond.instanceMethod yX1_factor ∈ lw_good := good_of 427 (by decide +kernel) rfl
set_option maxRecDepth 100000 in
theorem gw_428 : Cond.code yX1_factor cX1_factor 4 (some (.array .boolean)) ∈ lw_good := good_of 428 rfl rfl
theorem gw_429 : Cond.methodLink "MeltHours$Reader" 101 yX1_oneOf ∈ lw_good := good_of 429 (by decide +kernel) rfl
theorem gw_431 : Cond.instanceMethod yX1_oneOf ∈ lw_good := good_of 431 (by decide +kernel) rfl
set_option maxRecDepth 100000 in
theorem gw_432 : Cond.code yX1_oneOf cX1_oneOf 5 (some .int) ∈ lw_good := good_of 432 rfl rfl
theorem gw_433 : Cond.methodLink "MeltHours$Reader" 105 yX1_whereHolds ∈ lw_good := good_of 433 (by decide +kernel) rfl
theorem gw_434 : Cond.static yX1_whereHolds ∈ lw_good := good_of 434 (by decide +kernel) rfl
set_option maxRecDepth 100000 in
theorem gw_435 : Cond.code yX1_whereHolds cX1_whereHolds 6 (some (.array .boolean)) ∈ lw_good := good_of 435 rfl rfl
theorem gw_436 : Cond.methodLink "MeltHours$Reader" 61 yX4_melt ∈ lw_good := good_of 436 (by decide +kernel) rfl
theorem gw_437 : Cond.instanceMethod yX4_melt ∈ lw_good := good_of 437 (by decide +kernel) rfl
theorem gw_438 : Cond.selects RX4 yX4_melt yX4_melt ∈ lw_good := good_of 438 (by decide +kernel) rfl
set_option maxRecDepth 100000 in
theorem gw_439 : Cond.code yX4_melt cX4_melt 4 none ∈ lw_good := good_of 439 rfl rfl
theorem gw_440 : Cond.methodLink "MeltHours$Reader" 65 yX1_figure ∈ lw_good := good_of 440 (by decide +kernel) rfl
theorem gw_442 : Cond.instanceMethod yX1_figure ∈ lw_good := good_of 442 (by decide +kernel) rfl
set_option maxRecDepth 100000 in
theorem gw_443 : Cond.code yX1_figure cX1_figure 3 (some .int) ∈ lw_good := good_of 443 rfl rfl
theorem gw_444 : Cond.methodLink "MeltHours$Reader" 69 yX4_tell ∈ lw_good := good_of 444 (by decide +kernel) rfl
theorem gw_445 : Cond.instanceMethod yX4_tell ∈ lw_good := good_of 445 (by decide +kernel) rfl
theorem gw_446 : Cond.selects RX4 yX4_tell yX4_tell ∈ lw_good := good_of 446 (by decide +kernel) rfl
set_option maxRecDepth 100000 in
theorem gw_447 : Cond.code yX4_tell cX4_tell 4 none ∈ lw_good := good_of 447 rfl rfl
theorem gw_449 : Cond.methodLink "MeltHours$Valley" 30 yJ9_min_7cf53 ∈ lw_good := good_of 449 (by decide +kernel) rfl
theorem gw_452 : Cond.methodLink "MeltHoursLaw" 32 yX6_told ∈ lw_good := good_of 452 (by decide +kernel) rfl
theorem gw_453 : Cond.instanceMethod yX6_told ∈ lw_good := good_of 453 (by decide +kernel) rfl
theorem gw_454 : Cond.selects RX6 yX6_told yX6_told ∈ lw_good := good_of 454 (by decide +kernel) rfl
set_option maxRecDepth 100000 in
theorem gw_455 : Cond.code yX6_told cX6_told 3 (some .int) ∈ lw_good := good_of 455 rfl rfl
theorem gw_456 : Cond.methodLink "MeltHoursLaw" 36 yX6_melts ∈ lw_good := good_of 456 (by decide +kernel) rfl
theorem gw_457 : Cond.instanceMethod yX6_melts ∈ lw_good := good_of 457 (by decide +kernel) rfl
theorem gw_458 : Cond.selects RX6 yX6_melts yX6_melts ∈ lw_good := good_of 458 (by decide +kernel) rfl
set_option maxRecDepth 100000 in
theorem gw_459 : Cond.code yX6_melts cX6_melts 2 (some .int) ∈ lw_good := good_of 459 rfl rfl
theorem gw_460 : Cond.methodLink "MeltHours" 91 yX2_melting ∈ lw_good := good_of 460 (by decide +kernel) rfl
theorem gw_461 : Cond.instanceMethod yX2_melting ∈ lw_good := good_of 461 (by decide +kernel) rfl
theorem gw_462 : Cond.selects RX2 yX2_melting yX2_melting ∈ lw_good := good_of 462 (by decide +kernel) rfl
set_option maxRecDepth 100000 in
theorem gw_463 : Cond.code yX2_melting cX2_melting 4 (some .int) ∈ lw_good := good_of 463 rfl rfl
theorem gw_464 : Cond.methodLink "MeltHours$State" 55 yJ9_min_7cf53 ∈ lw_good := good_of 464 (by decide +kernel) rfl
theorem gw_466 : Cond.methodLink "MeltHoursLaw" 40 yX6_gate ∈ lw_good := good_of 466 (by decide +kernel) rfl
theorem gw_467 : Cond.instanceMethod yX6_gate ∈ lw_good := good_of 467 (by decide +kernel) rfl
theorem gw_468 : Cond.selects RX6 yX6_gate yX6_gate ∈ lw_good := good_of 468 (by decide +kernel) rfl
set_option maxRecDepth 100000 in
theorem gw_469 : Cond.code yX6_gate cX6_gate 7 (some .int) ∈ lw_good := good_of 469 rfl rfl
theorem gw_471 : Cond.methodLink "MeltHoursLaw" 45 yX6_of ∈ lw_good := good_of 471 (by decide +kernel) rfl
theorem gw_472 : Cond.instanceMethod yX6_of ∈ lw_good := good_of 472 (by decide +kernel) rfl
theorem gw_473 : Cond.selects RX6 yX6_of yX6_of ∈ lw_good := good_of 473 (by decide +kernel) rfl
set_option maxRecDepth 100000 in
theorem gw_474 : Cond.code yX6_of cX6_of 3 (some .int) ∈ lw_good := good_of 474 rfl rfl
theorem gw_475 : Cond.methodLink "MeltHoursLaw" 49 yX6_water ∈ lw_good := good_of 475 (by decide +kernel) rfl
theorem gw_476 : Cond.instanceMethod yX6_water ∈ lw_good := good_of 476 (by decide +kernel) rfl
theorem gw_477 : Cond.selects RX6 yX6_water yX6_water ∈ lw_good := good_of 477 (by decide +kernel) rfl
set_option maxRecDepth 100000 in
theorem gw_478 : Cond.code yX6_water cX6_water 4 (some .int) ∈ lw_good := good_of 478 rfl rfl
theorem gw_479 : Cond.methodLink "MeltHours" 99 yX2_isPlace ∈ lw_good := good_of 479 (by decide +kernel) rfl
theorem gw_480 : Cond.instanceMethod yX2_isPlace ∈ lw_good := good_of 480 (by decide +kernel) rfl
theorem gw_481 : Cond.selects RX2 yX2_isPlace yX2_isPlace ∈ lw_good := good_of 481 (by decide +kernel) rfl
set_option maxRecDepth 100000 in
theorem gw_482 : Cond.code yX2_isPlace cX2_isPlace 2 (some .boolean) ∈ lw_good := good_of 482 rfl rfl
theorem gw_483 : Cond.methodLink "MeltHours" 103 yX5_settle ∈ lw_good := good_of 483 (by decide +kernel) rfl
theorem gw_484 : Cond.instanceMethod yX5_settle ∈ lw_good := good_of 484 (by decide +kernel) rfl
theorem gw_485 : Cond.selects RX5 yX5_settle yX5_settle ∈ lw_good := good_of 485 (by decide +kernel) rfl
set_option maxRecDepth 100000 in
theorem gw_486 : Cond.code yX5_settle cX5_settle 1 (some .int) ∈ lw_good := good_of 486 rfl rfl
theorem gw_487 : Cond.methodLink "MeltHours$Water" 63 yX5_load ∈ lw_good := good_of 487 (by decide +kernel) rfl
theorem gw_488 : Cond.instanceMethod yX5_load ∈ lw_good := good_of 488 (by decide +kernel) rfl
theorem gw_489 : Cond.selects RX5 yX5_load yX5_load ∈ lw_good := good_of 489 (by decide +kernel) rfl
set_option maxRecDepth 100000 in
theorem gw_490 : Cond.code yX5_load cX5_load 1 none ∈ lw_good := good_of 490 rfl rfl
theorem gw_492 : Cond.static yX6_copyRows ∈ lw_good := good_of 492 (by decide +kernel) rfl
set_option maxRecDepth 100000 in
theorem gw_493 : Cond.code yX6_copyRows cX6_copyRows 3 none ∈ lw_good := good_of 493 rfl rfl
theorem gw_494 : Cond.methodLink "MeltHours" 270 yX6_copy ∈ lw_good := good_of 494 (by decide +kernel) rfl
theorem gw_495 : Cond.static yX6_copy ∈ lw_good := good_of 495 (by decide +kernel) rfl
set_option maxRecDepth 100000 in
theorem gw_496 : Cond.code yX6_copy cX6_copy 2 none ∈ lw_good := good_of 496 rfl rfl
theorem gw_497 : Cond.methodLink "MeltHours" 207 yJ9_min_7cf53 ∈ lw_good := good_of 497 (by decide +kernel) rfl
theorem gw_501 : Cond.methodLink "MeltHours$Water" 69 yX5_meltUnder ∈ lw_good := good_of 501 (by decide +kernel) rfl
theorem gw_502 : Cond.instanceMethod yX5_meltUnder ∈ lw_good := good_of 502 (by decide +kernel) rfl
theorem gw_503 : Cond.selects RX5 yX5_meltUnder yX5_meltUnder ∈ lw_good := good_of 503 (by decide +kernel) rfl
set_option maxRecDepth 100000 in
theorem gw_504 : Cond.code yX5_meltUnder cX5_meltUnder 4 none ∈ lw_good := good_of 504 rfl rfl
theorem gw_505 : Cond.methodLink "MeltHours$Water" 59 yX2_melting ∈ lw_good := good_of 505 (by decide +kernel) rfl
theorem gw_506 : Cond.methodLink "MeltHours$Water" 73 yX5_again ∈ lw_good := good_of 506 (by decide +kernel) rfl
theorem gw_507 : Cond.instanceMethod yX5_again ∈ lw_good := good_of 507 (by decide +kernel) rfl
theorem gw_508 : Cond.selects RX5 yX5_again yX5_again ∈ lw_good := good_of 508 (by decide +kernel) rfl
set_option maxRecDepth 100000 in
theorem gw_509 : Cond.code yX5_again cX5_again 3 (some .int) ∈ lw_good := good_of 509 rfl rfl
theorem gw_510 : Cond.methodLink "MeltHours$Water" 77 yX2_isPlace ∈ lw_good := good_of 510 (by decide +kernel) rfl
theorem gw_511 : Cond.methodLink "MeltHours$Water" 81 yX5_come ∈ lw_good := good_of 511 (by decide +kernel) rfl
theorem gw_513 : Cond.instanceMethod yX5_come ∈ lw_good := good_of 513 (by decide +kernel) rfl
set_option maxRecDepth 100000 in
theorem gw_514 : Cond.code yX5_come cX5_come 7 none ∈ lw_good := good_of 514 rfl rfl
theorem gw_515 : Cond.methodLink "MeltHours$Water" 98 yJ7_fill_53178 ∈ lw_good := good_of 515 (by decide +kernel) rfl
theorem gw_516 : Cond.methodLink "MeltHours$Water" 104 yX5_going ∈ lw_good := good_of 516 (by decide +kernel) rfl
theorem gw_517 : Cond.instanceMethod yX5_going ∈ lw_good := good_of 517 (by decide +kernel) rfl
theorem gw_518 : Cond.selects RX5 yX5_going yX5_going ∈ lw_good := good_of 518 (by decide +kernel) rfl
set_option maxRecDepth 100000 in
theorem gw_519 : Cond.code yX5_going cX5_going 3 (some .int) ∈ lw_good := good_of 519 rfl rfl
theorem gw_520 : Cond.methodLink "MeltHours$Water" 93 yJ9_min_7cf53 ∈ lw_good := good_of 520 (by decide +kernel) rfl
theorem gw_522 : Cond.methodLink "MeltHours$Water" 111 yX5_arriving ∈ lw_good := good_of 522 (by decide +kernel) rfl
theorem gw_523 : Cond.instanceMethod yX5_arriving ∈ lw_good := good_of 523 (by decide +kernel) rfl
theorem gw_524 : Cond.selects RX5 yX5_arriving yX5_arriving ∈ lw_good := good_of 524 (by decide +kernel) rfl
set_option maxRecDepth 100000 in
theorem gw_525 : Cond.code yX5_arriving cX5_arriving 3 (some .int) ∈ lw_good := good_of 525 rfl rfl
theorem gw_526 : Cond.methodLink "MeltHours$Water" 85 yX5_pass ∈ lw_good := good_of 526 (by decide +kernel) rfl
theorem gw_528 : Cond.instanceMethod yX5_pass ∈ lw_good := good_of 528 (by decide +kernel) rfl
set_option maxRecDepth 100000 in
theorem gw_529 : Cond.code yX5_pass cX5_pass 8 none ∈ lw_good := good_of 529 rfl rfl
theorem gw_530 : Cond.methodLink "MeltHours$Water" 114 yX5_takes ∈ lw_good := good_of 530 (by decide +kernel) rfl
theorem gw_532 : Cond.instanceMethod yX5_takes ∈ lw_good := good_of 532 (by decide +kernel) rfl
set_option maxRecDepth 100000 in
theorem gw_533 : Cond.code yX5_takes cX5_takes 8 (some .int) ∈ lw_good := good_of 533 rfl rfl
theorem gw_534 : Cond.methodLink "MeltHours$Water" 118 yJ9_max_7cf53 ∈ lw_good := good_of 534 (by decide +kernel) rfl
theorem gw_535 : Cond.static yJ9_max_7cf53 ∈ lw_good := good_of 535 (by decide +kernel) rfl
set_option maxRecDepth 100000 in
theorem gw_536 : Cond.code yJ9_max_7cf53 cJ9_max_7cf53 2 (some .int) ∈ lw_good := good_of 536 rfl rfl
theorem gw_537 : Cond.methodLink "MeltHours$Water" 89 yX5_serve ∈ lw_good := good_of 537 (by decide +kernel) rfl
theorem gw_539 : Cond.instanceMethod yX5_serve ∈ lw_good := good_of 539 (by decide +kernel) rfl
set_option maxRecDepth 100000 in
theorem gw_540 : Cond.code yX5_serve cX5_serve 7 (some .int) ∈ lw_good := good_of 540 rfl rfl
theorem gw_541 : Cond.methodLink "MeltHours$Water" 125 yX2_isWant ∈ lw_good := good_of 541 (by decide +kernel) rfl
theorem gw_542 : Cond.instanceMethod yX2_isWant ∈ lw_good := good_of 542 (by decide +kernel) rfl
theorem gw_543 : Cond.selects RX2 yX2_isWant yX2_isWant ∈ lw_good := good_of 543 (by decide +kernel) rfl
set_option maxRecDepth 100000 in
theorem gw_544 : Cond.code yX2_isWant cX2_isWant 2 (some .boolean) ∈ lw_good := good_of 544 rfl rfl
theorem gw_545 : Cond.methodLink "MeltHours$Water" 131 yX5_servedBefore ∈ lw_good := good_of 545 (by decide +kernel) rfl
theorem gw_547 : Cond.instanceMethod yX5_servedBefore ∈ lw_good := good_of 547 (by decide +kernel) rfl
set_option maxRecDepth 100000 in
theorem gw_548 : Cond.code yX5_servedBefore cX5_servedBefore 4 (some .int) ∈ lw_good := good_of 548 rfl rfl
theorem gw_549 : Cond.methodLink "MeltHours" 107 yX5_rows ∈ lw_good := good_of 549 (by decide +kernel) rfl
theorem gw_550 : Cond.instanceMethod yX5_rows ∈ lw_good := good_of 550 (by decide +kernel) rfl
theorem gw_551 : Cond.selects RX5 yX5_rows yX5_rows ∈ lw_good := good_of 551 (by decide +kernel) rfl
set_option maxRecDepth 100000 in
theorem gw_552 : Cond.code yX5_rows cX5_rows 2 (some (.array (.array .int))) ∈ lw_good := good_of 552 rfl rfl
theorem gw_553 : Cond.methodLink "MeltHoursLaw" 54 yX6_all ∈ lw_good := good_of 553 (by decide +kernel) rfl
theorem gw_554 : Cond.instanceMethod yX6_all ∈ lw_good := good_of 554 (by decide +kernel) rfl
theorem gw_555 : Cond.selects RX6 yX6_all yX6_all ∈ lw_good := good_of 555 (by decide +kernel) rfl
set_option maxRecDepth 100000 in
theorem gw_556 : Cond.code yX6_all cX6_all 2 (some .int) ∈ lw_good := good_of 556 rfl rfl
theorem gw_557 : Cond.methodLink "MeltHours" 114 yX6_sum ∈ lw_good := good_of 557 (by decide +kernel) rfl
theorem gw_558 : Cond.static yX6_sum ∈ lw_good := good_of 558 (by decide +kernel) rfl
set_option maxRecDepth 100000 in
theorem gw_559 : Cond.code yX6_sum cX6_sum 6 (some .int) ∈ lw_good := good_of 559 rfl rfl
theorem gw_560 : Cond.methodLink "MeltHours" 121 yX5_inAllPlaces ∈ lw_good := good_of 560 (by decide +kernel) rfl
theorem gw_561 : Cond.instanceMethod yX5_inAllPlaces ∈ lw_good := good_of 561 (by decide +kernel) rfl
theorem gw_562 : Cond.selects RX5 yX5_inAllPlaces yX5_inAllPlaces ∈ lw_good := good_of 562 (by decide +kernel) rfl
set_option maxRecDepth 100000 in
theorem gw_563 : Cond.code yX5_inAllPlaces cX5_inAllPlaces 4 (some .int) ∈ lw_good := good_of 563 rfl rfl
theorem gw_564 : Cond.methodLink "MeltHours$Water" 134 yX5_inPlace ∈ lw_good := good_of 564 (by decide +kernel) rfl
theorem gw_565 : Cond.instanceMethod yX5_inPlace ∈ lw_good := good_of 565 (by decide +kernel) rfl
theorem gw_566 : Cond.selects RX5 yX5_inPlace yX5_inPlace ∈ lw_good := good_of 566 (by decide +kernel) rfl
set_option maxRecDepth 100000 in
theorem gw_567 : Cond.code yX5_inPlace cX5_inPlace 3 (some .int) ∈ lw_good := good_of 567 rfl rfl
theorem gw_569 : Cond.methodLink "MeltHours" 131 yX5_inPlace ∈ lw_good := good_of 569 (by decide +kernel) rfl
theorem gw_570 : Cond.methodLink "MeltHoursLaw" 58 yX6_want ∈ lw_good := good_of 570 (by decide +kernel) rfl
theorem gw_571 : Cond.instanceMethod yX6_want ∈ lw_good := good_of 571 (by decide +kernel) rfl
theorem gw_572 : Cond.selects RX6 yX6_want yX6_want ∈ lw_good := good_of 572 (by decide +kernel) rfl
set_option maxRecDepth 100000 in
theorem gw_573 : Cond.code yX6_want cX6_want 6 (some .int) ∈ lw_good := good_of 573 rfl rfl
theorem gw_574 : Cond.methodLink "MeltHoursLaw" 62 yX6_wants ∈ lw_good := good_of 574 (by decide +kernel) rfl
theorem gw_575 : Cond.instanceMethod yX6_wants ∈ lw_good := good_of 575 (by decide +kernel) rfl
theorem gw_576 : Cond.selects RX6 yX6_wants yX6_wants ∈ lw_good := good_of 576 (by decide +kernel) rfl
set_option maxRecDepth 100000 in
theorem gw_577 : Cond.code yX6_wants cX6_wants 3 (some .int) ∈ lw_good := good_of 577 rfl rfl
theorem gw_578 : Cond.methodLink "MeltHours" 141 yX2_isWant ∈ lw_good := good_of 578 (by decide +kernel) rfl
theorem gw_579 : Cond.methodLink "MeltHoursLaw" 66 yX6_worth ∈ lw_good := good_of 579 (by decide +kernel) rfl
theorem gw_580 : Cond.instanceMethod yX6_worth ∈ lw_good := good_of 580 (by decide +kernel) rfl
theorem gw_581 : Cond.selects RX6 yX6_worth yX6_worth ∈ lw_good := good_of 581 (by decide +kernel) rfl
set_option maxRecDepth 100000 in
theorem gw_582 : Cond.code yX6_worth cX6_worth 1 (some .int) ∈ lw_good := good_of 582 rfl rfl
theorem gw_583 : Cond.methodLink "MeltHoursLaw" 70 yX6_best ∈ lw_good := good_of 583 (by decide +kernel) rfl
theorem gw_584 : Cond.instanceMethod yX6_best ∈ lw_good := good_of 584 (by decide +kernel) rfl
theorem gw_585 : Cond.selects RX6 yX6_best yX6_best ∈ lw_good := good_of 585 (by decide +kernel) rfl
set_option maxRecDepth 100000 in
theorem gw_586 : Cond.code yX6_best cX6_best 11 (some .int) ∈ lw_good := good_of 586 rfl rfl
theorem gw_587 : Cond.methodLink "MeltHours" 147 yX5_utmost ∈ lw_good := good_of 587 (by decide +kernel) rfl
theorem gw_588 : Cond.instanceMethod yX5_utmost ∈ lw_good := good_of 588 (by decide +kernel) rfl
theorem gw_589 : Cond.selects RX5 yX5_utmost yX5_utmost ∈ lw_good := good_of 589 (by decide +kernel) rfl
set_option maxRecDepth 100000 in
theorem gw_590 : Cond.code yX5_utmost cX5_utmost 6 (some .int) ∈ lw_good := good_of 590 rfl rfl
theorem gw_591 : Cond.methodLink "MeltHours" 152 yX6_span ∈ lw_good := good_of 591 (by decide +kernel) rfl
theorem gw_592 : Cond.static yX6_span ∈ lw_good := good_of 592 (by decide +kernel) rfl
set_option maxRecDepth 100000 in
theorem gw_593 : Cond.code yX6_span cX6_span 4 (some .int) ∈ lw_good := good_of 593 rfl rfl
theorem gw_594 : Cond.methodLink "MeltHours" 155 yX5_again ∈ lw_good := good_of 594 (by decide +kernel) rfl
theorem gw_595 : Cond.methodLink "MeltHoursLaw" 74 yX6_price ∈ lw_good := good_of 595 (by decide +kernel) rfl
theorem gw_596 : Cond.instanceMethod yX6_price ∈ lw_good := good_of 596 (by decide +kernel) rfl
theorem gw_597 : Cond.selects RX6 yX6_price yX6_price ∈ lw_good := good_of 597 (by decide +kernel) rfl
set_option maxRecDepth 100000 in
theorem gw_598 : Cond.code yX6_price cX6_price 3 (some .int) ∈ lw_good := good_of 598 rfl rfl
theorem gw_599 : Cond.methodLink "MeltHoursLaw" 78 yX6_part ∈ lw_good := good_of 599 (by decide +kernel) rfl
theorem gw_600 : Cond.instanceMethod yX6_part ∈ lw_good := good_of 600 (by decide +kernel) rfl
theorem gw_601 : Cond.selects RX6 yX6_part yX6_part ∈ lw_good := good_of 601 (by decide +kernel) rfl
set_option maxRecDepth 100000 in
theorem gw_602 : Cond.code yX6_part cX6_part 8 (some .int) ∈ lw_good := good_of 602 rfl rfl
theorem gw_603 : Cond.methodLink "MeltHours" 158 yX5_load ∈ lw_good := good_of 603 (by decide +kernel) rfl
theorem gw_604 : Cond.methodLink "MeltHours" 161 yX5_going ∈ lw_good := good_of 604 (by decide +kernel) rfl
theorem gw_605 : Cond.methodLink "MeltHours" 164 yX5_arriving ∈ lw_good := good_of 605 (by decide +kernel) rfl
theorem gw_606 : Cond.methodLink "MeltHoursLaw" 82 yX6_odds ∈ lw_good := good_of 606 (by decide +kernel) rfl
theorem gw_607 : Cond.instanceMethod yX6_odds ∈ lw_good := good_of 607 (by decide +kernel) rfl
theorem gw_608 : Cond.selects RX6 yX6_odds yX6_odds ∈ lw_good := good_of 608 (by decide +kernel) rfl
set_option maxRecDepth 100000 in
theorem gw_609 : Cond.code yX6_odds cX6_odds 3 (some .int) ∈ lw_good := good_of 609 rfl rfl
theorem gw_610 : Cond.methodLink "MeltHoursLaw" 86 yX6_mean ∈ lw_good := good_of 610 (by decide +kernel) rfl
theorem gw_611 : Cond.instanceMethod yX6_mean ∈ lw_good := good_of 611 (by decide +kernel) rfl
theorem gw_612 : Cond.selects RX6 yX6_mean yX6_mean ∈ lw_good := good_of 612 (by decide +kernel) rfl
set_option maxRecDepth 100000 in
theorem gw_613 : Cond.code yX6_mean cX6_mean 7 (some .long) ∈ lw_good := good_of 613 rfl rfl
theorem gw_615 : Cond.methodLink "MeltHours" 173 yX6_underSkies ∈ lw_good := good_of 615 (by decide +kernel) rfl
theorem gw_617 : Cond.instanceMethod yX6_underSkies ∈ lw_good := good_of 617 (by decide +kernel) rfl
set_option maxRecDepth 100000 in
theorem gw_618 : Cond.code yX6_underSkies cX6_underSkies 5 (some .int) ∈ lw_good := good_of 618 rfl rfl
theorem gw_619 : Cond.methodLink "MeltHours" 264 yX5_meltUnder ∈ lw_good := good_of 619 (by decide +kernel) rfl
theorem gw_620 : Cond.methodLink "MeltHours" 177 yX6_divisorWithHundred ∈ lw_good := good_of 620 (by decide +kernel) rfl
theorem gw_621 : Cond.static yX6_divisorWithHundred ∈ lw_good := good_of 621 (by decide +kernel) rfl
set_option maxRecDepth 100000 in
theorem gw_622 : Cond.code yX6_divisorWithHundred cX6_divisorWithHundred 2 (some .int) ∈ lw_good := good_of 622 rfl rfl
theorem gw_623 : Cond.methodLink "MeltHoursLaw" 91 yX6_pond ∈ lw_good := good_of 623 (by decide +kernel) rfl
theorem gw_624 : Cond.instanceMethod yX6_pond ∈ lw_good := good_of 624 (by decide +kernel) rfl
theorem gw_625 : Cond.selects RX6 yX6_pond yX6_pond ∈ lw_good := good_of 625 (by decide +kernel) rfl
set_option maxRecDepth 100000 in
theorem gw_626 : Cond.code yX6_pond cX6_pond 6 (some .int) ∈ lw_good := good_of 626 rfl rfl
theorem gw_627 : Cond.methodLink "MeltHoursLaw" 95 yX6_wrong ∈ lw_good := good_of 627 (by decide +kernel) rfl
theorem gw_628 : Cond.instanceMethod yX6_wrong ∈ lw_good := good_of 628 (by decide +kernel) rfl
theorem gw_629 : Cond.selects RX6 yX6_wrong yX6_wrong ∈ lw_good := good_of 629 (by decide +kernel) rfl
set_option maxRecDepth 100000 in
theorem gw_630 : Cond.code yX6_wrong cX6_wrong 4 (some .int) ∈ lw_good := good_of 630 rfl rfl
theorem gw_631 : Cond.methodLink "MeltHoursLaw" 99 yX6_spare ∈ lw_good := good_of 631 (by decide +kernel) rfl
theorem gw_632 : Cond.instanceMethod yX6_spare ∈ lw_good := good_of 632 (by decide +kernel) rfl
theorem gw_633 : Cond.selects RX6 yX6_spare yX6_spare ∈ lw_good := good_of 633 (by decide +kernel) rfl
set_option maxRecDepth 100000 in
theorem gw_634 : Cond.code yX6_spare cX6_spare 4 (some .int) ∈ lw_good := good_of 634 rfl rfl
theorem gw_635 : Cond.methodLink "MeltHours" 180 yJ6_bitCount_0f7a4 ∈ lw_good := good_of 635 (by decide +kernel) rfl
theorem gw_636 : Cond.static yJ6_bitCount_0f7a4 ∈ lw_good := good_of 636 (by decide +kernel) rfl
set_option maxRecDepth 100000 in
theorem gw_637 : Cond.code yJ6_bitCount_0f7a4 cJ6_bitCount_0f7a4 1 (some .int) ∈ lw_good := good_of 637 rfl rfl
theorem gw_641 : Cond.methodLink "MeltHours" 185 yX5_worthWithout ∈ lw_good := good_of 641 (by decide +kernel) rfl
theorem gw_642 : Cond.instanceMethod yX5_worthWithout ∈ lw_good := good_of 642 (by decide +kernel) rfl
theorem gw_643 : Cond.selects RX5 yX5_worthWithout yX5_worthWithout ∈ lw_good := good_of 643 (by decide +kernel) rfl
set_option maxRecDepth 100000 in
theorem gw_644 : Cond.code yX5_worthWithout cX5_worthWithout 3 (some .int) ∈ lw_good := good_of 644 rfl rfl
theorem gw_645 : Cond.methodLink "MeltHoursLaw" 103 yX6_day ∈ lw_good := good_of 645 (by decide +kernel) rfl
theorem gw_646 : Cond.instanceMethod yX6_day ∈ lw_good := good_of 646 (by decide +kernel) rfl
theorem gw_647 : Cond.selects RX6 yX6_day yX6_day ∈ lw_good := good_of 647 (by decide +kernel) rfl
set_option maxRecDepth 100000 in
theorem gw_648 : Cond.code yX6_day cX6_day 2 (some .int) ∈ lw_good := good_of 648 rfl rfl
theorem gw_649 : Cond.methodLink "MeltHoursLaw" 107 yX6_judge ∈ lw_good := good_of 649 (by decide +kernel) rfl
theorem gw_650 : Cond.instanceMethod yX6_judge ∈ lw_good := good_of 650 (by decide +kernel) rfl
theorem gw_651 : Cond.selects RX6 yX6_judge yX6_judge ∈ lw_good := good_of 651 (by decide +kernel) rfl
set_option maxRecDepth 100000 in
theorem gw_652 : Cond.code yX6_judge cX6_judge 8 (some .int) ∈ lw_good := good_of 652 rfl rfl
theorem gw_653 : Cond.methodLink "MeltHours" 194 yX6_tapeAt ∈ lw_good := good_of 653 (by decide +kernel) rfl
theorem gw_655 : Cond.instanceMethod yX6_tapeAt ∈ lw_good := good_of 655 (by decide +kernel) rfl
set_option maxRecDepth 100000 in
theorem gw_656 : Cond.code yX6_tapeAt cX6_tapeAt 2 (some (.object "MeltHours$Tape")) ∈ lw_good := good_of 656 rfl rfl
theorem gw_657 : Cond.methodLink "MeltHours" 216 yJ9_max_7cf53 ∈ lw_good := good_of 657 (by decide +kernel) rfl
theorem gw_658 : Cond.methodLink "MeltHoursLaw" 111 yX6_image ∈ lw_good := good_of 658 (by decide +kernel) rfl
theorem gw_659 : Cond.instanceMethod yX6_image ∈ lw_good := good_of 659 (by decide +kernel) rfl
theorem gw_660 : Cond.selects RX6 yX6_image yX6_image ∈ lw_good := good_of 660 (by decide +kernel) rfl
set_option maxRecDepth 100000 in
theorem gw_661 : Cond.code yX6_image cX6_image 1 (some .int) ∈ lw_good := good_of 661 rfl rfl
theorem gw_662 : Cond.methodLink "MeltHours" 219 yX2_become ∈ lw_good := good_of 662 (by decide +kernel) rfl
theorem gw_663 : Cond.instanceMethod yX2_become ∈ lw_good := good_of 663 (by decide +kernel) rfl
theorem gw_664 : Cond.selects RX2 yX2_become yX2_become ∈ lw_good := good_of 664 (by decide +kernel) rfl
set_option maxRecDepth 100000 in
theorem gw_665 : Cond.code yX2_become cX2_become 2 none ∈ lw_good := good_of 665 rfl rfl
theorem gw_668 : Cond.methodLink "MeltHoursLaw" 115 yX6_undo ∈ lw_good := good_of 668 (by decide +kernel) rfl
theorem gw_669 : Cond.instanceMethod yX6_undo ∈ lw_good := good_of 669 (by decide +kernel) rfl
theorem gw_670 : Cond.selects RX6 yX6_undo yX6_undo ∈ lw_good := good_of 670 (by decide +kernel) rfl
set_option maxRecDepth 100000 in
theorem gw_671 : Cond.code yX6_undo cX6_undo 1 (some .int) ∈ lw_good := good_of 671 rfl rfl
theorem gw_672 : Cond.methodLink "MeltHoursLaw" 119 yX6_act ∈ lw_good := good_of 672 (by decide +kernel) rfl
theorem gw_673 : Cond.instanceMethod yX6_act ∈ lw_good := good_of 673 (by decide +kernel) rfl
theorem gw_674 : Cond.selects RX6 yX6_act yX6_act ∈ lw_good := good_of 674 (by decide +kernel) rfl
set_option maxRecDepth 100000 in
theorem gw_675 : Cond.code yX6_act cX6_act 4 (some .int) ∈ lw_good := good_of 675 rfl rfl
theorem gw_676 : Cond.methodLink "MeltHours" 229 yX0_standAt ∈ lw_good := good_of 676 (by decide +kernel) rfl
theorem gw_677 : Cond.instanceMethod yX0_standAt ∈ lw_good := good_of 677 (by decide +kernel) rfl
theorem gw_678 : Cond.selects RX0 yX0_standAt yX0_standAt ∈ lw_good := good_of 678 (by decide +kernel) rfl
set_option maxRecDepth 100000 in
theorem gw_679 : Cond.code yX0_standAt cX0_standAt 3 none ∈ lw_good := good_of 679 rfl rfl
theorem gw_680 : Cond.methodLink "MeltHours" 236 yX0_lets ∈ lw_good := good_of 680 (by decide +kernel) rfl
theorem gw_681 : Cond.instanceMethod yX0_lets ∈ lw_good := good_of 681 (by decide +kernel) rfl
theorem gw_682 : Cond.selects RX0 yX0_lets yX0_lets ∈ lw_good := good_of 682 (by decide +kernel) rfl
set_option maxRecDepth 100000 in
theorem gw_683 : Cond.code yX0_lets cX0_lets 3 (some .int) ∈ lw_good := good_of 683 rfl rfl
theorem gw_684 : Cond.methodLink "MeltHours$Acts" 25 yX0_began ∈ lw_good := good_of 684 (by decide +kernel) rfl
theorem gw_686 : Cond.instanceMethod yX0_began ∈ lw_good := good_of 686 (by decide +kernel) rfl
set_option maxRecDepth 100000 in
theorem gw_687 : Cond.code yX0_began cX0_began 2 none ∈ lw_good := good_of 687 rfl rfl
theorem gw_688 : Cond.methodLink "MeltHours$Acts" 29 yX0_lets ∈ lw_good := good_of 688 (by decide +kernel) rfl
theorem gw_689 : Cond.methodLink "MeltHours" 239 yX0_takes ∈ lw_good := good_of 689 (by decide +kernel) rfl
theorem gw_690 : Cond.instanceMethod yX0_takes ∈ lw_good := good_of 690 (by decide +kernel) rfl
theorem gw_691 : Cond.selects RX0 yX0_takes yX0_takes ∈ lw_good := good_of 691 (by decide +kernel) rfl
set_option maxRecDepth 100000 in
theorem gw_692 : Cond.code yX0_takes cX0_takes 3 (some .int) ∈ lw_good := good_of 692 rfl rfl
theorem gw_693 : Cond.methodLink "MeltHours$Acts" 33 yX0_takes ∈ lw_good := good_of 693 (by decide +kernel) rfl
theorem gw_694 : Cond.methodLink "MeltHours" 242 yX0_tells ∈ lw_good := good_of 694 (by decide +kernel) rfl
theorem gw_695 : Cond.instanceMethod yX0_tells ∈ lw_good := good_of 695 (by decide +kernel) rfl
theorem gw_696 : Cond.selects RX0 yX0_tells yX0_tells ∈ lw_good := good_of 696 (by decide +kernel) rfl
set_option maxRecDepth 100000 in
theorem gw_697 : Cond.code yX0_tells cX0_tells 3 (some .int) ∈ lw_good := good_of 697 rfl rfl
theorem gw_698 : Cond.methodLink "MeltHours$Acts" 36 yX0_tells ∈ lw_good := good_of 698 (by decide +kernel) rfl
theorem gw_699 : Cond.methodLink "MeltHoursLaw" 123 yX6_trace ∈ lw_good := good_of 699 (by decide +kernel) rfl
theorem gw_700 : Cond.instanceMethod yX6_trace ∈ lw_good := good_of 700 (by decide +kernel) rfl
theorem gw_701 : Cond.selects RX6 yX6_trace yX6_trace ∈ lw_good := good_of 701 (by decide +kernel) rfl
set_option maxRecDepth 100000 in
theorem gw_702 : Cond.code yX6_trace cX6_trace 2 (some .int) ∈ lw_good := good_of 702 rfl rfl
theorem gw_703 : Cond.methodLink "MeltHoursLaw" 127 yX6_taken ∈ lw_good := good_of 703 (by decide +kernel) rfl
theorem gw_704 : Cond.instanceMethod yX6_taken ∈ lw_good := good_of 704 (by decide +kernel) rfl
theorem gw_705 : Cond.selects RX6 yX6_taken yX6_taken ∈ lw_good := good_of 705 (by decide +kernel) rfl
set_option maxRecDepth 100000 in
theorem gw_706 : Cond.code yX6_taken cX6_taken 4 (some .int) ∈ lw_good := good_of 706 rfl rfl
theorem gw_707 : Cond.methodLink "MeltHours" 248 yX6_isOrUnder ∈ lw_good := good_of 707 (by decide +kernel) rfl
theorem gw_708 : Cond.static yX6_isOrUnder ∈ lw_good := good_of 708 (by decide +kernel) rfl
set_option maxRecDepth 100000 in
theorem gw_709 : Cond.code yX6_isOrUnder cX6_isOrUnder 4 (some .boolean) ∈ lw_good := good_of 709 rfl rfl
theorem gw_712 : Cond.methodLink "MeltHoursLaw" 131 yX6_count ∈ lw_good := good_of 712 (by decide +kernel) rfl
theorem gw_713 : Cond.instanceMethod yX6_count ∈ lw_good := good_of 713 (by decide +kernel) rfl
theorem gw_714 : Cond.selects RX6 yX6_count yX6_count ∈ lw_good := good_of 714 (by decide +kernel) rfl
set_option maxRecDepth 100000 in
theorem gw_715 : Cond.code yX6_count cX6_count 2 (some .int) ∈ lw_good := good_of 715 rfl rfl
theorem gw_716 : Cond.methodLink "MeltHoursLaw" 135 yX6_tape ∈ lw_good := good_of 716 (by decide +kernel) rfl
theorem gw_717 : Cond.instanceMethod yX6_tape ∈ lw_good := good_of 717 (by decide +kernel) rfl
theorem gw_718 : Cond.selects RX6 yX6_tape yX6_tape ∈ lw_good := good_of 718 (by decide +kernel) rfl
set_option maxRecDepth 100000 in
theorem gw_719 : Cond.code yX6_tape cX6_tape 5 (some .int) ∈ lw_good := good_of 719 rfl rfl
theorem gw_720 : Cond.methodLink "MeltHours" 251 yX3_become ∈ lw_good := good_of 720 (by decide +kernel) rfl
theorem gw_721 : Cond.instanceMethod yX3_become ∈ lw_good := good_of 721 (by decide +kernel) rfl
theorem gw_722 : Cond.selects RX3 yX3_become yX3_become ∈ lw_good := good_of 722 (by decide +kernel) rfl
set_option maxRecDepth 100000 in
theorem gw_723 : Cond.code yX3_become cX3_become 3 none ∈ lw_good := good_of 723 rfl rfl
theorem gw_724 : Cond.methodLink "MeltHours$Tape" 19 yJ9_min_7cf53 ∈ lw_good := good_of 724 (by decide +kernel) rfl
theorem gw_725 : Cond.methodLink "MeltHours$Tape" 28 yJ7_fill_d0a16 ∈ lw_good := good_of 725 (by decide +kernel) rfl
theorem gw_726 : Cond.static yJ7_fill_d0a16 ∈ lw_good := good_of 726 (by decide +kernel) rfl
set_option maxRecDepth 100000 in
theorem gw_727 : Cond.code yJ7_fill_d0a16 cJ7_fill_d0a16 5 none ∈ lw_good := good_of 727 rfl rfl
theorem gw_728 : Cond.methodLink "MeltHoursLaw" 141 yX6_item ∈ lw_good := good_of 728 (by decide +kernel) rfl
theorem gw_729 : Cond.instanceMethod yX6_item ∈ lw_good := good_of 729 (by decide +kernel) rfl
theorem gw_730 : Cond.selects RX6 yX6_item yX6_item ∈ lw_good := good_of 730 (by decide +kernel) rfl
set_option maxRecDepth 100000 in
theorem gw_731 : Cond.code yX6_item cX6_item 6 (some .int) ∈ lw_good := good_of 731 rfl rfl
theorem gw_732 : Cond.methodLink "MeltHours" 254 yX3_asItem ∈ lw_good := good_of 732 (by decide +kernel) rfl
theorem gw_733 : Cond.instanceMethod yX3_asItem ∈ lw_good := good_of 733 (by decide +kernel) rfl
theorem gw_734 : Cond.selects RX3 yX3_asItem yX3_asItem ∈ lw_good := good_of 734 (by decide +kernel) rfl
set_option maxRecDepth 100000 in
theorem gw_735 : Cond.code yX3_asItem cX3_asItem 3 (some .long) ∈ lw_good := good_of 735 rfl rfl
theorem gw_736 : Cond.methodLink "MeltHoursLaw" 146 yX6_read ∈ lw_good := good_of 736 (by decide +kernel) rfl
theorem gw_737 : Cond.instanceMethod yX6_read ∈ lw_good := good_of 737 (by decide +kernel) rfl
theorem gw_738 : Cond.selects RX6 yX6_read yX6_read ∈ lw_good := good_of 738 (by decide +kernel) rfl
set_option maxRecDepth 100000 in
theorem gw_739 : Cond.code yX6_read cX6_read 4 (some .long) ∈ lw_good := good_of 739 rfl rfl
theorem gw_740 : Cond.methodLink "MeltHoursLaw" 150 yX6_shift ∈ lw_good := good_of 740 (by decide +kernel) rfl
theorem gw_741 : Cond.instanceMethod yX6_shift ∈ lw_good := good_of 741 (by decide +kernel) rfl
theorem gw_742 : Cond.selects RX6 yX6_shift yX6_shift ∈ lw_good := good_of 742 (by decide +kernel) rfl
set_option maxRecDepth 100000 in
theorem gw_743 : Cond.code yX6_shift cX6_shift 8 (some .int) ∈ lw_good := good_of 743 rfl rfl
theorem gw_744 : Cond.classLink "MeltHoursLaw" 10 "MeltHoursModel" ∈ lw_good := good_of 744 (by decide +kernel) rfl
theorem gw_745 : Cond.instantiable "MeltHoursModel" 67 ∈ lw_good := good_of 745 (by decide +kernel) rfl
theorem gw_746 : Cond.methodLink "MeltHoursLaw" 12 yX7_init ∈ lw_good := good_of 746 (by decide +kernel) rfl
theorem gw_747 : Cond.instanceMethod yX7_init ∈ lw_good := good_of 747 (by decide +kernel) rfl
set_option maxRecDepth 100000 in
theorem gw_748 : Cond.code yX7_init cX7_init 1 none ∈ lw_good := good_of 748 rfl rfl
theorem gw_750 : Cond.fieldLink "MeltHoursModel" 7 "MeltHoursModel" "places" "I" ∈ lw_good := good_of 750 (by decide +kernel) rfl
theorem gw_751 : Cond.fieldLink "MeltHoursModel" 13 "MeltHoursModel" "oddsA" "I" ∈ lw_good := good_of 751 (by decide +kernel) rfl
theorem gw_752 : Cond.fieldLink "MeltHoursModel" 16 "MeltHoursModel" "oddsB" "I" ∈ lw_good := good_of 752 (by decide +kernel) rfl
theorem gw_753 : Cond.fieldLink "MeltHoursModel" 19 "MeltHoursModel" "sky" "[I" ∈ lw_good := good_of 753 (by decide +kernel) rfl
theorem gw_754 : Cond.fieldLink "MeltHoursModel" 23 "MeltHoursModel" "kind" "[I" ∈ lw_good := good_of 754 (by decide +kernel) rfl
theorem gw_755 : Cond.fieldLink "MeltHoursModel" 26 "MeltHoursModel" "v" "[I" ∈ lw_good := good_of 755 (by decide +kernel) rfl
theorem gw_756 : Cond.fieldLink "MeltHoursModel" 29 "MeltHoursModel" "hours" "[I" ∈ lw_good := good_of 756 (by decide +kernel) rfl
theorem gw_757 : Cond.fieldLink "MeltHoursModel" 32 "MeltHoursModel" "valleys" "I" ∈ lw_good := good_of 757 (by decide +kernel) rfl
theorem gw_758 : Cond.fieldLink "MeltHoursModel" 35 "MeltHoursModel" "the" "I" ∈ lw_good := good_of 758 (by decide +kernel) rfl
theorem gw_759 : Cond.fieldLink "MeltHoursModel" 38 "MeltHoursModel" "fed" "I" ∈ lw_good := good_of 759 (by decide +kernel) rfl
theorem gw_760 : Cond.fieldLink "MeltHoursModel" 41 "MeltHoursModel" "at" "I" ∈ lw_good := good_of 760 (by decide +kernel) rfl
theorem gw_761 : Cond.fieldLink "MeltHoursModel" 44 "MeltHoursModel" "digits" "I" ∈ lw_good := good_of 761 (by decide +kernel) rfl
theorem gw_762 : Cond.fieldLink "MeltHoursModel" 47 "MeltHoursModel" "text" "[I" ∈ lw_good := good_of 762 (by decide +kernel) rfl
theorem gw_763 : Cond.fieldLink "MeltHoursModel" 50 "MeltHoursModel" "clauses" "[I" ∈ lw_good := good_of 763 (by decide +kernel) rfl
theorem gw_764 : Cond.fieldLink "MeltHoursModel" 53 "MeltHoursModel" "word" "[I" ∈ lw_good := good_of 764 (by decide +kernel) rfl
theorem gw_765 : Cond.fieldLink "MeltHoursModel" 56 "MeltHoursModel" "spot" "[I" ∈ lw_good := good_of 765 (by decide +kernel) rfl
theorem gw_766 : Cond.fieldLink "MeltHoursModel" 59 "MeltHoursModel" "number" "[I" ∈ lw_good := good_of 766 (by decide +kernel) rfl
theorem gw_767 : Cond.fieldLink "MeltHoursModel" 62 "MeltHoursModel" "from" "[I" ∈ lw_good := good_of 767 (by decide +kernel) rfl
theorem gw_768 : Cond.fieldLink "MeltHoursModel" 65 "MeltHoursModel" "to" "[I" ∈ lw_good := good_of 768 (by decide +kernel) rfl
theorem gw_769 : Cond.fieldLink "MeltHoursModel" 68 "MeltHoursModel" "sign" "[I" ∈ lw_good := good_of 769 (by decide +kernel) rfl
theorem gw_770 : Cond.fieldLink "MeltHoursModel" 71 "MeltHoursModel" "waits" "[I" ∈ lw_good := good_of 770 (by decide +kernel) rfl
theorem gw_771 : Cond.fieldLink "MeltHoursModel" 74 "MeltHoursModel" "signs" "I" ∈ lw_good := good_of 771 (by decide +kernel) rfl
theorem gw_772 : Cond.fieldLink "MeltHoursModel" 77 "MeltHoursModel" "waiting" "I" ∈ lw_good := good_of 772 (by decide +kernel) rfl
theorem gw_773 : Cond.fieldLink "MeltHoursModel" 80 "MeltHoursModel" "open" "I" ∈ lw_good := good_of 773 (by decide +kernel) rfl
theorem gw_774 : Cond.fieldLink "MeltHoursModel" 83 "MeltHoursModel" "pile" "[Z" ∈ lw_good := good_of 774 (by decide +kernel) rfl
theorem gw_775 : Cond.fieldLink "MeltHoursModel" 87 "MeltHoursModel" "days" "I" ∈ lw_good := good_of 775 (by decide +kernel) rfl
theorem gw_776 : Cond.fieldLink "MeltHoursModel" 90 "MeltHoursModel" "day" "[I" ∈ lw_good := good_of 776 (by decide +kernel) rfl
theorem gw_777 : Cond.fieldLink "MeltHoursModel" 93 "MeltHoursModel" "melt" "[I" ∈ lw_good := good_of 777 (by decide +kernel) rfl
theorem gw_778 : Cond.fieldLink "MeltHoursModel" 96 "MeltHoursModel" "lag" "[I" ∈ lw_good := good_of 778 (by decide +kernel) rfl
theorem gw_779 : Cond.fieldLink "MeltHoursModel" 99 "MeltHoursModel" "leak" "[I" ∈ lw_good := good_of 779 (by decide +kernel) rfl
theorem gw_780 : Cond.fieldLink "MeltHoursModel" 102 "MeltHoursModel" "most" "[I" ∈ lw_good := good_of 780 (by decide +kernel) rfl
theorem gw_781 : Cond.fieldLink "MeltHoursModel" 105 "MeltHoursModel" "hold" "[I" ∈ lw_good := good_of 781 (by decide +kernel) rfl
theorem gw_782 : Cond.fieldLink "MeltHoursModel" 108 "MeltHoursModel" "tryKind" "[I" ∈ lw_good := good_of 782 (by decide +kernel) rfl
theorem gw_783 : Cond.fieldLink "MeltHoursModel" 111 "MeltHoursModel" "tryHours" "[I" ∈ lw_good := good_of 783 (by decide +kernel) rfl
theorem gw_784 : Cond.fieldLink "MeltHoursModel" 114 "MeltHoursModel" "comes" "[I" ∈ lw_good := good_of 784 (by decide +kernel) rfl
theorem gw_785 : Cond.fieldLink "MeltHoursModel" 117 "MeltHoursModel" "taken" "[I" ∈ lw_good := good_of 785 (by decide +kernel) rfl
theorem gw_786 : Cond.fieldLink "MeltHoursModel" 120 "MeltHoursModel" "by" "[I" ∈ lw_good := good_of 786 (by decide +kernel) rfl
theorem gw_787 : Cond.fieldLink "MeltHoursModel" 123 "MeltHoursModel" "held" "[I" ∈ lw_good := good_of 787 (by decide +kernel) rfl
theorem gw_788 : Cond.fieldLink "MeltHoursModel" 126 "MeltHoursModel" "flood" "[I" ∈ lw_good := good_of 788 (by decide +kernel) rfl
theorem gw_789 : Cond.fieldLink "MeltHoursModel" 129 "MeltHoursModel" "wants" "I" ∈ lw_good := good_of 789 (by decide +kernel) rfl
theorem gw_790 : Cond.fieldLink "MeltHoursModel" 132 "MeltHoursModel" "place" "[I" ∈ lw_good := good_of 790 (by decide +kernel) rfl
theorem gw_791 : Cond.fieldLink "MeltHoursModel" 135 "MeltHoursModel" "hour" "[I" ∈ lw_good := good_of 791 (by decide +kernel) rfl
theorem gw_792 : Cond.fieldLink "MeltHoursModel" 138 "MeltHoursModel" "cups" "[I" ∈ lw_good := good_of 792 (by decide +kernel) rfl
theorem gw_793 : Cond.fieldLink "MeltHoursModel" 141 "MeltHoursModel" "worth" "[I" ∈ lw_good := good_of 793 (by decide +kernel) rfl
theorem gw_794 : Cond.fieldLink "MeltHoursModel" 144 "MeltHoursModel" "served" "[I" ∈ lw_good := good_of 794 (by decide +kernel) rfl
theorem gw_795 : Cond.fieldLink "MeltHoursModel" 147 "MeltHoursModel" "hasImage" "Z" ∈ lw_good := good_of 795 (by decide +kernel) rfl
theorem gw_796 : Cond.fieldLink "MeltHoursModel" 151 "MeltHoursModel" "imagePlaces" "I" ∈ lw_good := good_of 796 (by decide +kernel) rfl
theorem gw_797 : Cond.fieldLink "MeltHoursModel" 154 "MeltHoursModel" "imageA" "I" ∈ lw_good := good_of 797 (by decide +kernel) rfl
theorem gw_798 : Cond.fieldLink "MeltHoursModel" 157 "MeltHoursModel" "imageB" "I" ∈ lw_good := good_of 798 (by decide +kernel) rfl
theorem gw_799 : Cond.fieldLink "MeltHoursModel" 160 "MeltHoursModel" "imageThe" "I" ∈ lw_good := good_of 799 (by decide +kernel) rfl
theorem gw_800 : Cond.fieldLink "MeltHoursModel" 163 "MeltHoursModel" "imageDays" "I" ∈ lw_good := good_of 800 (by decide +kernel) rfl
theorem gw_801 : Cond.fieldLink "MeltHoursModel" 166 "MeltHoursModel" "imageWants" "I" ∈ lw_good := good_of 801 (by decide +kernel) rfl
theorem gw_802 : Cond.fieldLink "MeltHoursModel" 169 "MeltHoursModel" "imageSky" "[I" ∈ lw_good := good_of 802 (by decide +kernel) rfl
theorem gw_803 : Cond.fieldLink "MeltHoursModel" 172 "MeltHoursModel" "imageKind" "[I" ∈ lw_good := good_of 803 (by decide +kernel) rfl
theorem gw_804 : Cond.fieldLink "MeltHoursModel" 175 "MeltHoursModel" "imageV" "[I" ∈ lw_good := good_of 804 (by decide +kernel) rfl
theorem gw_805 : Cond.fieldLink "MeltHoursModel" 178 "MeltHoursModel" "imageHours" "[I" ∈ lw_good := good_of 805 (by decide +kernel) rfl
theorem gw_806 : Cond.fieldLink "MeltHoursModel" 181 "MeltHoursModel" "imageDay" "[I" ∈ lw_good := good_of 806 (by decide +kernel) rfl
theorem gw_807 : Cond.fieldLink "MeltHoursModel" 184 "MeltHoursModel" "imagePlace" "[I" ∈ lw_good := good_of 807 (by decide +kernel) rfl
theorem gw_808 : Cond.fieldLink "MeltHoursModel" 187 "MeltHoursModel" "imageHour" "[I" ∈ lw_good := good_of 808 (by decide +kernel) rfl
theorem gw_809 : Cond.fieldLink "MeltHoursModel" 190 "MeltHoursModel" "imageCups" "[I" ∈ lw_good := good_of 809 (by decide +kernel) rfl
theorem gw_810 : Cond.fieldLink "MeltHoursModel" 193 "MeltHoursModel" "imageWorth" "[I" ∈ lw_good := good_of 810 (by decide +kernel) rfl
theorem gw_811 : Cond.fieldLink "MeltHoursModel" 196 "MeltHoursModel" "ran" "I" ∈ lw_good := good_of 811 (by decide +kernel) rfl
theorem gw_812 : Cond.fieldLink "MeltHoursModel" 199 "MeltHoursModel" "bodies" "[I" ∈ lw_good := good_of 812 (by decide +kernel) rfl
theorem gw_813 : Cond.fieldLink "MeltHoursModel" 202 "MeltHoursModel" "sort" "[I" ∈ lw_good := good_of 813 (by decide +kernel) rfl
theorem gw_814 : Cond.fieldLink "MeltHoursModel" 205 "MeltHoursModel" "length" "[I" ∈ lw_good := good_of 814 (by decide +kernel) rfl
theorem gw_815 : Cond.fieldLink "MeltHoursModel" 208 "MeltHoursModel" "item" "[J" ∈ lw_good := good_of 815 (by decide +kernel) rfl
theorem gw_816 : Cond.fieldLink "MeltHoursModel" 212 "MeltHoursModel" "aside" "[J" ∈ lw_good := good_of 816 (by decide +kernel) rfl
theorem gw_952 : Cond.methodLink "MeltHoursLaw" 17 yX7_places ∈ lw_good := good_of 952 (by decide +kernel) rfl
theorem gw_953 : Cond.instanceMethod yX7_places ∈ lw_good := good_of 953 (by decide +kernel) rfl
theorem gw_954 : Cond.selects RX7 yX7_places yX7_places ∈ lw_good := good_of 954 (by decide +kernel) rfl
set_option maxRecDepth 100000 in
theorem gw_955 : Cond.code yX7_places cX7_places 3 (some .int) ∈ lw_good := good_of 955 rfl rfl
theorem gw_956 : Cond.methodLink "MeltHoursModel" 215 yX7_in ∈ lw_good := good_of 956 (by decide +kernel) rfl
theorem gw_958 : Cond.instanceMethod yX7_in ∈ lw_good := good_of 958 (by decide +kernel) rfl
set_option maxRecDepth 100000 in
theorem gw_959 : Cond.code yX7_in cX7_in 4 (some .boolean) ∈ lw_good := good_of 959 rfl rfl
theorem gw_960 : Cond.methodLink "MeltHoursLaw" 22 yX7_sky ∈ lw_good := good_of 960 (by decide +kernel) rfl
theorem gw_961 : Cond.instanceMethod yX7_sky ∈ lw_good := good_of 961 (by decide +kernel) rfl
theorem gw_962 : Cond.selects RX7 yX7_sky yX7_sky ∈ lw_good := good_of 962 (by decide +kernel) rfl
set_option maxRecDepth 100000 in
theorem gw_963 : Cond.code yX7_sky cX7_sky 4 (some .int) ∈ lw_good := good_of 963 rfl rfl
theorem gw_964 : Cond.methodLink "MeltHoursLaw" 44 yX7_gate ∈ lw_good := good_of 964 (by decide +kernel) rfl
theorem gw_965 : Cond.instanceMethod yX7_gate ∈ lw_good := good_of 965 (by decide +kernel) rfl
theorem gw_966 : Cond.selects RX7 yX7_gate yX7_gate ∈ lw_good := good_of 966 (by decide +kernel) rfl
set_option maxRecDepth 100000 in
theorem gw_967 : Cond.code yX7_gate cX7_gate 6 (some .int) ∈ lw_good := good_of 967 rfl rfl
theorem gw_968 : Cond.methodLink "MeltHoursModel" 219 yX7_isGate ∈ lw_good := good_of 968 (by decide +kernel) rfl
theorem gw_970 : Cond.instanceMethod yX7_isGate ∈ lw_good := good_of 970 (by decide +kernel) rfl
set_option maxRecDepth 100000 in
theorem gw_971 : Cond.code yX7_isGate cX7_isGate 2 (some .boolean) ∈ lw_good := good_of 971 rfl rfl
theorem gw_973 : Cond.methodLink "MeltHoursLaw" 48 yX7_of ∈ lw_good := good_of 973 (by decide +kernel) rfl
theorem gw_974 : Cond.instanceMethod yX7_of ∈ lw_good := good_of 974 (by decide +kernel) rfl
theorem gw_975 : Cond.selects RX7 yX7_of yX7_of ∈ lw_good := good_of 975 (by decide +kernel) rfl
set_option maxRecDepth 100000 in
theorem gw_976 : Cond.code yX7_of cX7_of 3 (some .int) ∈ lw_good := good_of 976 rfl rfl
theorem gw_977 : Cond.methodLink "MeltHoursLaw" 26 yX7_feed ∈ lw_good := good_of 977 (by decide +kernel) rfl
theorem gw_978 : Cond.instanceMethod yX7_feed ∈ lw_good := good_of 978 (by decide +kernel) rfl
theorem gw_979 : Cond.selects RX7 yX7_feed yX7_feed ∈ lw_good := good_of 979 (by decide +kernel) rfl
set_option maxRecDepth 100000 in
theorem gw_980 : Cond.code yX7_feed cX7_feed 4 (some .int) ∈ lw_good := good_of 980 rfl rfl
theorem gw_981 : Cond.methodLink "MeltHoursLaw" 31 yX7_valley ∈ lw_good := good_of 981 (by decide +kernel) rfl
theorem gw_982 : Cond.instanceMethod yX7_valley ∈ lw_good := good_of 982 (by decide +kernel) rfl
theorem gw_983 : Cond.selects RX7 yX7_valley yX7_valley ∈ lw_good := good_of 983 (by decide +kernel) rfl
set_option maxRecDepth 100000 in
theorem gw_984 : Cond.code yX7_valley cX7_valley 2 (some .int) ∈ lw_good := good_of 984 rfl rfl
theorem gw_985 : Cond.methodLink "MeltHoursModel" 271 yX7_goesText ∈ lw_good := good_of 985 (by decide +kernel) rfl
theorem gw_987 : Cond.instanceMethod yX7_goesText ∈ lw_good := good_of 987 (by decide +kernel) rfl
set_option maxRecDepth 100000 in
theorem gw_988 : Cond.code yX7_goesText cX7_goesText 3 (some .boolean) ∈ lw_good := good_of 988 rfl rfl
theorem gw_989 : Cond.methodLink "MeltHoursModel" 268 yX7_takesClause ∈ lw_good := good_of 989 (by decide +kernel) rfl
theorem gw_991 : Cond.instanceMethod yX7_takesClause ∈ lw_good := good_of 991 (by decide +kernel) rfl
set_option maxRecDepth 100000 in
theorem gw_992 : Cond.code yX7_takesClause cX7_takesClause 2 (some .boolean) ∈ lw_good := good_of 992 rfl rfl
theorem gw_993 : Cond.methodLink "MeltHoursModel" 262 yX7_takesHead ∈ lw_good := good_of 993 (by decide +kernel) rfl
theorem gw_995 : Cond.instanceMethod yX7_takesHead ∈ lw_good := good_of 995 (by decide +kernel) rfl
set_option maxRecDepth 100000 in
theorem gw_996 : Cond.code yX7_takesHead cX7_takesHead 3 (some .boolean) ∈ lw_good := good_of 996 rfl rfl
theorem gw_997 : Cond.methodLink "MeltHoursModel" 251 yX7_second ∈ lw_good := good_of 997 (by decide +kernel) rfl
theorem gw_999 : Cond.instanceMethod yX7_second ∈ lw_good := good_of 999 (by decide +kernel) rfl
set_option maxRecDepth 100000 in
theorem gw_1000 : Cond.code yX7_second cX7_second 1 (some .int) ∈ lw_good := good_of 1000 rfl rfl
theorem gw_1001 : Cond.methodLink "MeltHoursModel" 224 yX7_next ∈ lw_good := good_of 1001 (by decide +kernel) rfl
theorem gw_1003 : Cond.instanceMethod yX7_next ∈ lw_good := good_of 1003 (by decide +kernel) rfl
set_option maxRecDepth 100000 in
theorem gw_1004 : Cond.code yX7_next cX7_next 1 (some .int) ∈ lw_good := good_of 1004 rfl rfl
theorem gw_1006 : Cond.methodLink "MeltHoursModel" 255 yX7_takesWord ∈ lw_good := good_of 1006 (by decide +kernel) rfl
theorem gw_1008 : Cond.instanceMethod yX7_takesWord ∈ lw_good := good_of 1008 (by decide +kernel) rfl
set_option maxRecDepth 100000 in
theorem gw_1009 : Cond.code yX7_takesWord cX7_takesWord 4 (some .boolean) ∈ lw_good := good_of 1009 rfl rfl
theorem gw_1010 : Cond.methodLink "MeltHoursModel" 228 yX7_takesSign ∈ lw_good := good_of 1010 (by decide +kernel) rfl
theorem gw_1012 : Cond.instanceMethod yX7_takesSign ∈ lw_good := good_of 1012 (by decide +kernel) rfl
set_option maxRecDepth 100000 in
theorem gw_1013 : Cond.code yX7_takesSign cX7_takesSign 2 (some .boolean) ∈ lw_good := good_of 1013 rfl rfl
theorem gw_1017 : Cond.methodLink "MeltHoursModel" 239 yX7_takesNumber ∈ lw_good := good_of 1017 (by decide +kernel) rfl
theorem gw_1019 : Cond.instanceMethod yX7_takesNumber ∈ lw_good := good_of 1019 (by decide +kernel) rfl
set_option maxRecDepth 100000 in
theorem gw_1020 : Cond.code yX7_takesNumber cX7_takesNumber 2 (some .boolean) ∈ lw_good := good_of 1020 rfl rfl
theorem gw_1021 : Cond.methodLink "MeltHoursModel" 231 yX7_isDigit ∈ lw_good := good_of 1021 (by decide +kernel) rfl
theorem gw_1023 : Cond.instanceMethod yX7_isDigit ∈ lw_good := good_of 1023 (by decide +kernel) rfl
set_option maxRecDepth 100000 in
theorem gw_1024 : Cond.code yX7_isDigit cX7_isDigit 1 (some .boolean) ∈ lw_good := good_of 1024 rfl rfl
theorem gw_1025 : Cond.methodLink "MeltHoursModel" 265 yX7_takesE ∈ lw_good := good_of 1025 (by decide +kernel) rfl
theorem gw_1027 : Cond.instanceMethod yX7_takesE ∈ lw_good := good_of 1027 (by decide +kernel) rfl
set_option maxRecDepth 100000 in
theorem gw_1028 : Cond.code yX7_takesE cX7_takesE 4 (some .boolean) ∈ lw_good := good_of 1028 rfl rfl
theorem gw_1029 : Cond.methodLink "MeltHoursModel" 245 yX7_takesTest ∈ lw_good := good_of 1029 (by decide +kernel) rfl
theorem gw_1031 : Cond.instanceMethod yX7_takesTest ∈ lw_good := good_of 1031 (by decide +kernel) rfl
set_option maxRecDepth 100000 in
theorem gw_1032 : Cond.code yX7_takesTest cX7_takesTest 3 (some .boolean) ∈ lw_good := good_of 1032 rfl rfl
theorem gw_1033 : Cond.methodLink "MeltHoursModel" 235 yX7_put ∈ lw_good := good_of 1033 (by decide +kernel) rfl
theorem gw_1035 : Cond.instanceMethod yX7_put ∈ lw_good := good_of 1035 (by decide +kernel) rfl
set_option maxRecDepth 100000 in
theorem gw_1036 : Cond.code yX7_put cX7_put 2 none ∈ lw_good := good_of 1036 rfl rfl
theorem gw_1037 : Cond.methodLink "MeltHoursModel" 242 yX7_whole ∈ lw_good := good_of 1037 (by decide +kernel) rfl
theorem gw_1039 : Cond.instanceMethod yX7_whole ∈ lw_good := good_of 1039 (by decide +kernel) rfl
set_option maxRecDepth 100000 in
theorem gw_1040 : Cond.code yX7_whole cX7_whole 1 none ∈ lw_good := good_of 1040 rfl rfl
theorem gw_1041 : Cond.methodLink "MeltHoursModel" 248 yX7_settle ∈ lw_good := good_of 1041 (by decide +kernel) rfl
theorem gw_1043 : Cond.instanceMethod yX7_settle ∈ lw_good := good_of 1043 (by decide +kernel) rfl
set_option maxRecDepth 100000 in
theorem gw_1044 : Cond.code yX7_settle cX7_settle 2 none ∈ lw_good := good_of 1044 rfl rfl
theorem gw_1045 : Cond.methodLink "MeltHoursLaw" 35 yX7_told ∈ lw_good := good_of 1045 (by decide +kernel) rfl
theorem gw_1046 : Cond.instanceMethod yX7_told ∈ lw_good := good_of 1046 (by decide +kernel) rfl
theorem gw_1047 : Cond.selects RX7 yX7_told yX7_told ∈ lw_good := good_of 1047 (by decide +kernel) rfl
set_option maxRecDepth 100000 in
theorem gw_1048 : Cond.code yX7_told cX7_told 3 (some .int) ∈ lw_good := good_of 1048 rfl rfl
theorem gw_1049 : Cond.methodLink "MeltHoursModel" 280 yX7_last ∈ lw_good := good_of 1049 (by decide +kernel) rfl
theorem gw_1051 : Cond.instanceMethod yX7_last ∈ lw_good := good_of 1051 (by decide +kernel) rfl
set_option maxRecDepth 100000 in
theorem gw_1052 : Cond.code yX7_last cX7_last 6 (some .int) ∈ lw_good := good_of 1052 rfl rfl
theorem gw_1053 : Cond.methodLink "MeltHoursModel" 274 yX7_first ∈ lw_good := good_of 1053 (by decide +kernel) rfl
theorem gw_1055 : Cond.instanceMethod yX7_first ∈ lw_good := good_of 1055 (by decide +kernel) rfl
set_option maxRecDepth 100000 in
theorem gw_1056 : Cond.code yX7_first cX7_first 1 (some .int) ∈ lw_good := good_of 1056 rfl rfl
theorem gw_1057 : Cond.methodLink "MeltHoursModel" 277 yX7_behind ∈ lw_good := good_of 1057 (by decide +kernel) rfl
theorem gw_1059 : Cond.instanceMethod yX7_behind ∈ lw_good := good_of 1059 (by decide +kernel) rfl
set_option maxRecDepth 100000 in
theorem gw_1060 : Cond.code yX7_behind cX7_behind 1 (some .int) ∈ lw_good := good_of 1060 rfl rfl
theorem gw_1061 : Cond.methodLink "MeltHoursModel" 284 yX7_min ∈ lw_good := good_of 1061 (by decide +kernel) rfl
theorem gw_1063 : Cond.instanceMethod yX7_min ∈ lw_good := good_of 1063 (by decide +kernel) rfl
set_option maxRecDepth 100000 in
theorem gw_1064 : Cond.code yX7_min cX7_min 3 (some .int) ∈ lw_good := good_of 1064 rfl rfl
theorem gw_1065 : Cond.methodLink "MeltHoursLaw" 106 yX7_day ∈ lw_good := good_of 1065 (by decide +kernel) rfl
theorem gw_1066 : Cond.instanceMethod yX7_day ∈ lw_good := good_of 1066 (by decide +kernel) rfl
theorem gw_1067 : Cond.selects RX7 yX7_day yX7_day ∈ lw_good := good_of 1067 (by decide +kernel) rfl
set_option maxRecDepth 100000 in
theorem gw_1068 : Cond.code yX7_day cX7_day 2 (some .int) ∈ lw_good := good_of 1068 rfl rfl
theorem gw_1069 : Cond.methodLink "MeltHoursLaw" 39 yX7_melts ∈ lw_good := good_of 1069 (by decide +kernel) rfl
theorem gw_1070 : Cond.instanceMethod yX7_melts ∈ lw_good := good_of 1070 (by decide +kernel) rfl
theorem gw_1071 : Cond.selects RX7 yX7_melts yX7_melts ∈ lw_good := good_of 1071 (by decide +kernel) rfl
set_option maxRecDepth 100000 in
theorem gw_1072 : Cond.code yX7_melts cX7_melts 2 (some .int) ∈ lw_good := good_of 1072 rfl rfl
theorem gw_1073 : Cond.methodLink "MeltHoursModel" 291 yX7_isHour ∈ lw_good := good_of 1073 (by decide +kernel) rfl
theorem gw_1075 : Cond.instanceMethod yX7_isHour ∈ lw_good := good_of 1075 (by decide +kernel) rfl
set_option maxRecDepth 100000 in
theorem gw_1076 : Cond.code yX7_isHour cX7_isHour 2 (some .boolean) ∈ lw_good := good_of 1076 rfl rfl
theorem gw_1077 : Cond.methodLink "MeltHoursModel" 294 yX7_meltOf ∈ lw_good := good_of 1077 (by decide +kernel) rfl
theorem gw_1079 : Cond.instanceMethod yX7_meltOf ∈ lw_good := good_of 1079 (by decide +kernel) rfl
set_option maxRecDepth 100000 in
theorem gw_1080 : Cond.code yX7_meltOf cX7_meltOf 5 (some .int) ∈ lw_good := good_of 1080 rfl rfl
theorem gw_1081 : Cond.methodLink "MeltHoursModel" 288 yX7_holds ∈ lw_good := good_of 1081 (by decide +kernel) rfl
theorem gw_1083 : Cond.instanceMethod yX7_holds ∈ lw_good := good_of 1083 (by decide +kernel) rfl
set_option maxRecDepth 100000 in
theorem gw_1084 : Cond.code yX7_holds cX7_holds 9 (some .boolean) ∈ lw_good := good_of 1084 rfl rfl
theorem gw_1085 : Cond.methodLink "MeltHoursLaw" 53 yX7_water ∈ lw_good := good_of 1085 (by decide +kernel) rfl
theorem gw_1086 : Cond.instanceMethod yX7_water ∈ lw_good := good_of 1086 (by decide +kernel) rfl
theorem gw_1087 : Cond.selects RX7 yX7_water yX7_water ∈ lw_good := good_of 1087 (by decide +kernel) rfl
set_option maxRecDepth 100000 in
theorem gw_1088 : Cond.code yX7_water cX7_water 5 (some .int) ∈ lw_good := good_of 1088 rfl rfl
theorem gw_1089 : Cond.methodLink "MeltHoursModel" 314 yX7_isPlace ∈ lw_good := good_of 1089 (by decide +kernel) rfl
theorem gw_1091 : Cond.instanceMethod yX7_isPlace ∈ lw_good := good_of 1091 (by decide +kernel) rfl
set_option maxRecDepth 100000 in
theorem gw_1092 : Cond.code yX7_isPlace cX7_isPlace 2 (some .boolean) ∈ lw_good := good_of 1092 rfl rfl
theorem gw_1093 : Cond.methodLink "MeltHoursModel" 317 yX7_asIs ∈ lw_good := good_of 1093 (by decide +kernel) rfl
theorem gw_1095 : Cond.instanceMethod yX7_asIs ∈ lw_good := good_of 1095 (by decide +kernel) rfl
set_option maxRecDepth 100000 in
theorem gw_1096 : Cond.code yX7_asIs cX7_asIs 2 none ∈ lw_good := good_of 1096 rfl rfl
theorem gw_1097 : Cond.methodLink "MeltHoursModel" 297 yX7_told ∈ lw_good := good_of 1097 (by decide +kernel) rfl
theorem gw_1098 : Cond.methodLink "MeltHoursModel" 320 yX7_go ∈ lw_good := good_of 1098 (by decide +kernel) rfl
theorem gw_1100 : Cond.instanceMethod yX7_go ∈ lw_good := good_of 1100 (by decide +kernel) rfl
set_option maxRecDepth 100000 in
theorem gw_1101 : Cond.code yX7_go cX7_go 8 none ∈ lw_good := good_of 1101 rfl rfl
theorem gw_1102 : Cond.methodLink "MeltHoursModel" 306 yX7_sets ∈ lw_good := good_of 1102 (by decide +kernel) rfl
theorem gw_1104 : Cond.instanceMethod yX7_sets ∈ lw_good := good_of 1104 (by decide +kernel) rfl
set_option maxRecDepth 100000 in
theorem gw_1105 : Cond.code yX7_sets cX7_sets 5 none ∈ lw_good := good_of 1105 rfl rfl
theorem gw_1106 : Cond.methodLink "MeltHoursModel" 300 yX7_less ∈ lw_good := good_of 1106 (by decide +kernel) rfl
theorem gw_1108 : Cond.instanceMethod yX7_less ∈ lw_good := good_of 1108 (by decide +kernel) rfl
set_option maxRecDepth 100000 in
theorem gw_1109 : Cond.code yX7_less cX7_less 3 (some .int) ∈ lw_good := good_of 1109 rfl rfl
theorem gw_1110 : Cond.methodLink "MeltHoursModel" 310 yX7_takes ∈ lw_good := good_of 1110 (by decide +kernel) rfl
theorem gw_1112 : Cond.instanceMethod yX7_takes ∈ lw_good := good_of 1112 (by decide +kernel) rfl
set_option maxRecDepth 100000 in
theorem gw_1113 : Cond.code yX7_takes cX7_takes 7 (some .int) ∈ lw_good := good_of 1113 rfl rfl
theorem gw_1114 : Cond.methodLink "MeltHoursModel" 303 yX7_has ∈ lw_good := good_of 1114 (by decide +kernel) rfl
theorem gw_1116 : Cond.instanceMethod yX7_has ∈ lw_good := good_of 1116 (by decide +kernel) rfl
set_option maxRecDepth 100000 in
theorem gw_1117 : Cond.code yX7_has cX7_has 3 (some .boolean) ∈ lw_good := good_of 1117 rfl rfl
theorem gw_1118 : Cond.methodLink "MeltHoursLaw" 57 yX7_all ∈ lw_good := good_of 1118 (by decide +kernel) rfl
theorem gw_1119 : Cond.instanceMethod yX7_all ∈ lw_good := good_of 1119 (by decide +kernel) rfl
theorem gw_1120 : Cond.selects RX7 yX7_all yX7_all ∈ lw_good := good_of 1120 (by decide +kernel) rfl
set_option maxRecDepth 100000 in
theorem gw_1121 : Cond.code yX7_all cX7_all 4 (some .int) ∈ lw_good := good_of 1121 rfl rfl
theorem gw_1122 : Cond.methodLink "MeltHoursModel" 323 yX7_floods ∈ lw_good := good_of 1122 (by decide +kernel) rfl
theorem gw_1124 : Cond.instanceMethod yX7_floods ∈ lw_good := good_of 1124 (by decide +kernel) rfl
set_option maxRecDepth 100000 in
theorem gw_1125 : Cond.code yX7_floods cX7_floods 3 (some .int) ∈ lw_good := good_of 1125 rfl rfl
theorem gw_1126 : Cond.methodLink "MeltHoursLaw" 61 yX7_want ∈ lw_good := good_of 1126 (by decide +kernel) rfl
theorem gw_1127 : Cond.instanceMethod yX7_want ∈ lw_good := good_of 1127 (by decide +kernel) rfl
theorem gw_1128 : Cond.selects RX7 yX7_want yX7_want ∈ lw_good := good_of 1128 (by decide +kernel) rfl
set_option maxRecDepth 100000 in
theorem gw_1129 : Cond.code yX7_want cX7_want 5 (some .int) ∈ lw_good := good_of 1129 rfl rfl
theorem gw_1130 : Cond.methodLink "MeltHoursLaw" 65 yX7_wants ∈ lw_good := good_of 1130 (by decide +kernel) rfl
theorem gw_1131 : Cond.instanceMethod yX7_wants ∈ lw_good := good_of 1131 (by decide +kernel) rfl
theorem gw_1132 : Cond.selects RX7 yX7_wants yX7_wants ∈ lw_good := good_of 1132 (by decide +kernel) rfl
set_option maxRecDepth 100000 in
theorem gw_1133 : Cond.code yX7_wants cX7_wants 3 (some .int) ∈ lw_good := good_of 1133 rfl rfl
theorem gw_1134 : Cond.methodLink "MeltHoursModel" 329 yX7_worthNow ∈ lw_good := good_of 1134 (by decide +kernel) rfl
theorem gw_1136 : Cond.instanceMethod yX7_worthNow ∈ lw_good := good_of 1136 (by decide +kernel) rfl
set_option maxRecDepth 100000 in
theorem gw_1137 : Cond.code yX7_worthNow cX7_worthNow 1 (some .int) ∈ lw_good := good_of 1137 rfl rfl
theorem gw_1138 : Cond.methodLink "MeltHoursModel" 326 yX7_serve ∈ lw_good := good_of 1138 (by decide +kernel) rfl
theorem gw_1140 : Cond.instanceMethod yX7_serve ∈ lw_good := good_of 1140 (by decide +kernel) rfl
set_option maxRecDepth 100000 in
theorem gw_1141 : Cond.code yX7_serve cX7_serve 5 (some .int) ∈ lw_good := good_of 1141 rfl rfl
theorem gw_1142 : Cond.methodLink "MeltHoursLaw" 69 yX7_worth ∈ lw_good := good_of 1142 (by decide +kernel) rfl
theorem gw_1143 : Cond.instanceMethod yX7_worth ∈ lw_good := good_of 1143 (by decide +kernel) rfl
theorem gw_1144 : Cond.selects RX7 yX7_worth yX7_worth ∈ lw_good := good_of 1144 (by decide +kernel) rfl
set_option maxRecDepth 100000 in
theorem gw_1145 : Cond.code yX7_worth cX7_worth 1 (some .int) ∈ lw_good := good_of 1145 rfl rfl
theorem gw_1146 : Cond.methodLink "MeltHoursLaw" 73 yX7_best ∈ lw_good := good_of 1146 (by decide +kernel) rfl
theorem gw_1147 : Cond.instanceMethod yX7_best ∈ lw_good := good_of 1147 (by decide +kernel) rfl
theorem gw_1148 : Cond.selects RX7 yX7_best yX7_best ∈ lw_good := good_of 1148 (by decide +kernel) rfl
set_option maxRecDepth 100000 in
theorem gw_1149 : Cond.code yX7_best cX7_best 10 (some .int) ∈ lw_good := good_of 1149 rfl rfl
theorem gw_1150 : Cond.methodLink "MeltHoursLaw" 77 yX7_price ∈ lw_good := good_of 1150 (by decide +kernel) rfl
theorem gw_1151 : Cond.instanceMethod yX7_price ∈ lw_good := good_of 1151 (by decide +kernel) rfl
theorem gw_1152 : Cond.selects RX7 yX7_price yX7_price ∈ lw_good := good_of 1152 (by decide +kernel) rfl
set_option maxRecDepth 100000 in
theorem gw_1153 : Cond.code yX7_price cX7_price 3 (some .int) ∈ lw_good := good_of 1153 rfl rfl
theorem gw_1154 : Cond.methodLink "MeltHoursLaw" 81 yX7_part ∈ lw_good := good_of 1154 (by decide +kernel) rfl
theorem gw_1155 : Cond.instanceMethod yX7_part ∈ lw_good := good_of 1155 (by decide +kernel) rfl
theorem gw_1156 : Cond.selects RX7 yX7_part yX7_part ∈ lw_good := good_of 1156 (by decide +kernel) rfl
set_option maxRecDepth 100000 in
theorem gw_1157 : Cond.code yX7_part cX7_part 8 (some .int) ∈ lw_good := good_of 1157 rfl rfl
theorem gw_1158 : Cond.methodLink "MeltHoursLaw" 85 yX7_odds ∈ lw_good := good_of 1158 (by decide +kernel) rfl
theorem gw_1159 : Cond.instanceMethod yX7_odds ∈ lw_good := good_of 1159 (by decide +kernel) rfl
theorem gw_1160 : Cond.selects RX7 yX7_odds yX7_odds ∈ lw_good := good_of 1160 (by decide +kernel) rfl
set_option maxRecDepth 100000 in
theorem gw_1161 : Cond.code yX7_odds cX7_odds 3 (some .int) ∈ lw_good := good_of 1161 rfl rfl
theorem gw_1162 : Cond.methodLink "MeltHoursLaw" 90 yX7_mean ∈ lw_good := good_of 1162 (by decide +kernel) rfl
theorem gw_1163 : Cond.instanceMethod yX7_mean ∈ lw_good := good_of 1163 (by decide +kernel) rfl
theorem gw_1164 : Cond.selects RX7 yX7_mean yX7_mean ∈ lw_good := good_of 1164 (by decide +kernel) rfl
set_option maxRecDepth 100000 in
theorem gw_1165 : Cond.code yX7_mean cX7_mean 10 (some .long) ∈ lw_good := good_of 1165 rfl rfl
theorem gw_1167 : Cond.methodLink "MeltHoursModel" 334 yX7_oddsOf ∈ lw_good := good_of 1167 (by decide +kernel) rfl
theorem gw_1169 : Cond.instanceMethod yX7_oddsOf ∈ lw_good := good_of 1169 (by decide +kernel) rfl
set_option maxRecDepth 100000 in
theorem gw_1170 : Cond.code yX7_oddsOf cX7_oddsOf 2 (some .int) ∈ lw_good := good_of 1170 rfl rfl
theorem gw_1172 : Cond.methodLink "MeltHoursModel" 340 yX7_divisor ∈ lw_good := good_of 1172 (by decide +kernel) rfl
theorem gw_1174 : Cond.instanceMethod yX7_divisor ∈ lw_good := good_of 1174 (by decide +kernel) rfl
set_option maxRecDepth 100000 in
theorem gw_1175 : Cond.code yX7_divisor cX7_divisor 11 (some .long) ∈ lw_good := good_of 1175 rfl rfl
theorem gw_1176 : Cond.methodLink "MeltHoursLaw" 94 yX7_pond ∈ lw_good := good_of 1176 (by decide +kernel) rfl
theorem gw_1177 : Cond.instanceMethod yX7_pond ∈ lw_good := good_of 1177 (by decide +kernel) rfl
theorem gw_1178 : Cond.selects RX7 yX7_pond yX7_pond ∈ lw_good := good_of 1178 (by decide +kernel) rfl
set_option maxRecDepth 100000 in
theorem gw_1179 : Cond.code yX7_pond cX7_pond 6 (some .int) ∈ lw_good := good_of 1179 rfl rfl
theorem gw_1180 : Cond.methodLink "MeltHoursLaw" 98 yX7_wrong ∈ lw_good := good_of 1180 (by decide +kernel) rfl
theorem gw_1181 : Cond.instanceMethod yX7_wrong ∈ lw_good := good_of 1181 (by decide +kernel) rfl
theorem gw_1182 : Cond.selects RX7 yX7_wrong yX7_wrong ∈ lw_good := good_of 1182 (by decide +kernel) rfl
set_option maxRecDepth 100000 in
theorem gw_1183 : Cond.code yX7_wrong cX7_wrong 3 (some .int) ∈ lw_good := good_of 1183 rfl rfl
theorem gw_1184 : Cond.methodLink "MeltHoursLaw" 102 yX7_spare ∈ lw_good := good_of 1184 (by decide +kernel) rfl
theorem gw_1185 : Cond.instanceMethod yX7_spare ∈ lw_good := good_of 1185 (by decide +kernel) rfl
theorem gw_1186 : Cond.selects RX7 yX7_spare yX7_spare ∈ lw_good := good_of 1186 (by decide +kernel) rfl
set_option maxRecDepth 100000 in
theorem gw_1187 : Cond.code yX7_spare cX7_spare 5 (some .int) ∈ lw_good := good_of 1187 rfl rfl
theorem gw_1188 : Cond.methodLink "MeltHoursModel" 344 yX7_ones ∈ lw_good := good_of 1188 (by decide +kernel) rfl
theorem gw_1190 : Cond.instanceMethod yX7_ones ∈ lw_good := good_of 1190 (by decide +kernel) rfl
set_option maxRecDepth 100000 in
theorem gw_1191 : Cond.code yX7_ones cX7_ones 4 (some .int) ∈ lw_good := good_of 1191 rfl rfl
theorem gw_1192 : Cond.methodLink "MeltHoursLaw" 110 yX7_judge ∈ lw_good := good_of 1192 (by decide +kernel) rfl
theorem gw_1193 : Cond.instanceMethod yX7_judge ∈ lw_good := good_of 1193 (by decide +kernel) rfl
theorem gw_1194 : Cond.selects RX7 yX7_judge yX7_judge ∈ lw_good := good_of 1194 (by decide +kernel) rfl
set_option maxRecDepth 100000 in
theorem gw_1195 : Cond.code yX7_judge cX7_judge 5 (some .int) ∈ lw_good := good_of 1195 rfl rfl
theorem gw_1196 : Cond.methodLink "MeltHoursModel" 347 yX7_isTape ∈ lw_good := good_of 1196 (by decide +kernel) rfl
theorem gw_1198 : Cond.instanceMethod yX7_isTape ∈ lw_good := good_of 1198 (by decide +kernel) rfl
set_option maxRecDepth 100000 in
theorem gw_1199 : Cond.code yX7_isTape cX7_isTape 2 (some .boolean) ∈ lw_good := good_of 1199 rfl rfl
theorem gw_1200 : Cond.methodLink "MeltHoursLaw" 114 yX7_image ∈ lw_good := good_of 1200 (by decide +kernel) rfl
theorem gw_1201 : Cond.instanceMethod yX7_image ∈ lw_good := good_of 1201 (by decide +kernel) rfl
theorem gw_1202 : Cond.selects RX7 yX7_image yX7_image ∈ lw_good := good_of 1202 (by decide +kernel) rfl
set_option maxRecDepth 100000 in
theorem gw_1203 : Cond.code yX7_image cX7_image 1 (some .int) ∈ lw_good := good_of 1203 rfl rfl
theorem gw_1204 : Cond.methodLink "MeltHoursModel" 350 yX7_copy ∈ lw_good := good_of 1204 (by decide +kernel) rfl
theorem gw_1206 : Cond.instanceMethod yX7_copy ∈ lw_good := good_of 1206 (by decide +kernel) rfl
set_option maxRecDepth 100000 in
theorem gw_1207 : Cond.code yX7_copy cX7_copy 4 none ∈ lw_good := good_of 1207 rfl rfl
theorem gw_1208 : Cond.methodLink "MeltHoursLaw" 118 yX7_undo ∈ lw_good := good_of 1208 (by decide +kernel) rfl
theorem gw_1209 : Cond.instanceMethod yX7_undo ∈ lw_good := good_of 1209 (by decide +kernel) rfl
theorem gw_1210 : Cond.selects RX7 yX7_undo yX7_undo ∈ lw_good := good_of 1210 (by decide +kernel) rfl
set_option maxRecDepth 100000 in
theorem gw_1211 : Cond.code yX7_undo cX7_undo 1 (some .int) ∈ lw_good := good_of 1211 rfl rfl
theorem gw_1212 : Cond.methodLink "MeltHoursLaw" 122 yX7_act ∈ lw_good := good_of 1212 (by decide +kernel) rfl
theorem gw_1213 : Cond.instanceMethod yX7_act ∈ lw_good := good_of 1213 (by decide +kernel) rfl
theorem gw_1214 : Cond.selects RX7 yX7_act yX7_act ∈ lw_good := good_of 1214 (by decide +kernel) rfl
set_option maxRecDepth 100000 in
theorem gw_1215 : Cond.code yX7_act cX7_act 4 (some .int) ∈ lw_good := good_of 1215 rfl rfl
theorem gw_1216 : Cond.methodLink "MeltHoursModel" 360 yX7_letsAct ∈ lw_good := good_of 1216 (by decide +kernel) rfl
theorem gw_1218 : Cond.instanceMethod yX7_letsAct ∈ lw_good := good_of 1218 (by decide +kernel) rfl
set_option maxRecDepth 100000 in
theorem gw_1219 : Cond.code yX7_letsAct cX7_letsAct 3 (some .int) ∈ lw_good := good_of 1219 rfl rfl
theorem gw_1220 : Cond.methodLink "MeltHoursModel" 354 yX7_body ∈ lw_good := good_of 1220 (by decide +kernel) rfl
theorem gw_1222 : Cond.instanceMethod yX7_body ∈ lw_good := good_of 1222 (by decide +kernel) rfl
set_option maxRecDepth 100000 in
theorem gw_1223 : Cond.code yX7_body cX7_body 2 none ∈ lw_good := good_of 1223 rfl rfl
theorem gw_1224 : Cond.methodLink "MeltHoursModel" 357 yX7_plainLets ∈ lw_good := good_of 1224 (by decide +kernel) rfl
theorem gw_1226 : Cond.instanceMethod yX7_plainLets ∈ lw_good := good_of 1226 (by decide +kernel) rfl
set_option maxRecDepth 100000 in
theorem gw_1227 : Cond.code yX7_plainLets cX7_plainLets 3 (some .int) ∈ lw_good := good_of 1227 rfl rfl
theorem gw_1228 : Cond.methodLink "MeltHoursModel" 369 yX7_takesAct ∈ lw_good := good_of 1228 (by decide +kernel) rfl
theorem gw_1230 : Cond.instanceMethod yX7_takesAct ∈ lw_good := good_of 1230 (by decide +kernel) rfl
set_option maxRecDepth 100000 in
theorem gw_1231 : Cond.code yX7_takesAct cX7_takesAct 4 (some .int) ∈ lw_good := good_of 1231 rfl rfl
theorem gw_1232 : Cond.methodLink "MeltHoursModel" 366 yX7_clockTakes ∈ lw_good := good_of 1232 (by decide +kernel) rfl
theorem gw_1234 : Cond.instanceMethod yX7_clockTakes ∈ lw_good := good_of 1234 (by decide +kernel) rfl
set_option maxRecDepth 100000 in
theorem gw_1235 : Cond.code yX7_clockTakes cX7_clockTakes 3 (some .int) ∈ lw_good := good_of 1235 rfl rfl
theorem gw_1236 : Cond.methodLink "MeltHoursModel" 363 yX7_plainTakes ∈ lw_good := good_of 1236 (by decide +kernel) rfl
theorem gw_1238 : Cond.instanceMethod yX7_plainTakes ∈ lw_good := good_of 1238 (by decide +kernel) rfl
set_option maxRecDepth 100000 in
theorem gw_1239 : Cond.code yX7_plainTakes cX7_plainTakes 3 (some .int) ∈ lw_good := good_of 1239 rfl rfl
theorem gw_1240 : Cond.methodLink "MeltHoursModel" 375 yX7_tellsAct ∈ lw_good := good_of 1240 (by decide +kernel) rfl
theorem gw_1242 : Cond.instanceMethod yX7_tellsAct ∈ lw_good := good_of 1242 (by decide +kernel) rfl
set_option maxRecDepth 100000 in
theorem gw_1243 : Cond.code yX7_tellsAct cX7_tellsAct 4 (some .int) ∈ lw_good := good_of 1243 rfl rfl
theorem gw_1244 : Cond.methodLink "MeltHoursModel" 372 yX7_plainTells ∈ lw_good := good_of 1244 (by decide +kernel) rfl
theorem gw_1246 : Cond.instanceMethod yX7_plainTells ∈ lw_good := good_of 1246 (by decide +kernel) rfl
set_option maxRecDepth 100000 in
theorem gw_1247 : Cond.code yX7_plainTells cX7_plainTells 3 (some .int) ∈ lw_good := good_of 1247 rfl rfl
theorem gw_1248 : Cond.methodLink "MeltHoursLaw" 126 yX7_trace ∈ lw_good := good_of 1248 (by decide +kernel) rfl
theorem gw_1249 : Cond.instanceMethod yX7_trace ∈ lw_good := good_of 1249 (by decide +kernel) rfl
theorem gw_1250 : Cond.selects RX7 yX7_trace yX7_trace ∈ lw_good := good_of 1250 (by decide +kernel) rfl
set_option maxRecDepth 100000 in
theorem gw_1251 : Cond.code yX7_trace cX7_trace 2 (some .int) ∈ lw_good := good_of 1251 rfl rfl
theorem gw_1252 : Cond.methodLink "MeltHoursLaw" 130 yX7_taken ∈ lw_good := good_of 1252 (by decide +kernel) rfl
theorem gw_1253 : Cond.instanceMethod yX7_taken ∈ lw_good := good_of 1253 (by decide +kernel) rfl
theorem gw_1254 : Cond.selects RX7 yX7_taken yX7_taken ∈ lw_good := good_of 1254 (by decide +kernel) rfl
set_option maxRecDepth 100000 in
theorem gw_1255 : Cond.code yX7_taken cX7_taken 4 (some .int) ∈ lw_good := good_of 1255 rfl rfl
theorem gw_1256 : Cond.methodLink "MeltHoursLaw" 134 yX7_count ∈ lw_good := good_of 1256 (by decide +kernel) rfl
theorem gw_1257 : Cond.instanceMethod yX7_count ∈ lw_good := good_of 1257 (by decide +kernel) rfl
theorem gw_1258 : Cond.selects RX7 yX7_count yX7_count ∈ lw_good := good_of 1258 (by decide +kernel) rfl
set_option maxRecDepth 100000 in
theorem gw_1259 : Cond.code yX7_count cX7_count 2 (some .int) ∈ lw_good := good_of 1259 rfl rfl
theorem gw_1260 : Cond.methodLink "MeltHoursLaw" 138 yX7_tape ∈ lw_good := good_of 1260 (by decide +kernel) rfl
theorem gw_1261 : Cond.instanceMethod yX7_tape ∈ lw_good := good_of 1261 (by decide +kernel) rfl
theorem gw_1262 : Cond.selects RX7 yX7_tape yX7_tape ∈ lw_good := good_of 1262 (by decide +kernel) rfl
set_option maxRecDepth 100000 in
theorem gw_1263 : Cond.code yX7_tape cX7_tape 5 (some .int) ∈ lw_good := good_of 1263 rfl rfl
theorem gw_1264 : Cond.methodLink "MeltHoursLaw" 145 yX7_item ∈ lw_good := good_of 1264 (by decide +kernel) rfl
theorem gw_1265 : Cond.instanceMethod yX7_item ∈ lw_good := good_of 1265 (by decide +kernel) rfl
theorem gw_1266 : Cond.selects RX7 yX7_item yX7_item ∈ lw_good := good_of 1266 (by decide +kernel) rfl
set_option maxRecDepth 100000 in
theorem gw_1267 : Cond.code yX7_item cX7_item 5 (some .int) ∈ lw_good := good_of 1267 rfl rfl
theorem gw_1268 : Cond.methodLink "MeltHoursModel" 378 yX7_narrow ∈ lw_good := good_of 1268 (by decide +kernel) rfl
theorem gw_1270 : Cond.instanceMethod yX7_narrow ∈ lw_good := good_of 1270 (by decide +kernel) rfl
set_option maxRecDepth 100000 in
theorem gw_1271 : Cond.code yX7_narrow cX7_narrow 4 (some .long) ∈ lw_good := good_of 1271 rfl rfl
theorem gw_1272 : Cond.methodLink "MeltHoursLaw" 149 yX7_read ∈ lw_good := good_of 1272 (by decide +kernel) rfl
theorem gw_1273 : Cond.instanceMethod yX7_read ∈ lw_good := good_of 1273 (by decide +kernel) rfl
theorem gw_1274 : Cond.selects RX7 yX7_read yX7_read ∈ lw_good := good_of 1274 (by decide +kernel) rfl
set_option maxRecDepth 100000 in
theorem gw_1275 : Cond.code yX7_read cX7_read 3 (some .long) ∈ lw_good := good_of 1275 rfl rfl
theorem gw_1276 : Cond.methodLink "MeltHoursLaw" 154 yX7_shift ∈ lw_good := good_of 1276 (by decide +kernel) rfl
theorem gw_1277 : Cond.instanceMethod yX7_shift ∈ lw_good := good_of 1277 (by decide +kernel) rfl
theorem gw_1278 : Cond.selects RX7 yX7_shift yX7_shift ∈ lw_good := good_of 1278 (by decide +kernel) rfl
set_option maxRecDepth 100000 in
theorem gw_1279 : Cond.code yX7_shift cX7_shift 7 (some .int) ∈ lw_good := good_of 1279 rfl rfl
theorem dok_of {d0 nL0 d : Nat} (h : d0 + 1 ≤ d) (h2 : nL0 + 19 ≤ 120) : dok d0 nL0 d = true := by
  unfold dok
  rw [Bool.and_eq_true]
  exact ⟨Nat.ble_eq_true_of_le h, Nat.ble_eq_true_of_le h2⟩
theorem aw_int : Cond.arrayClass (newarray.typeOf .int) ∈ lw_good := good_of 115 (by decide +kernel) (by decide +kernel)
theorem aw_boolean : Cond.arrayClass (newarray.typeOf .boolean) ∈ lw_good := good_of 451 (by decide +kernel) (by decide +kernel)
theorem aw_long : Cond.arrayClass (newarray.typeOf .long) ∈ lw_good := good_of 254 (by decide +kernel) (by decide +kernel)
section JW
variable {G : GT} {X : XT} {Q : State → Prop} {nL : Nat} {sh : SH} {I : IH} {L : LH} {n e es pc : Nat} {ls : List (Nat × Value)} {st : List Value}
variable {own : String} {cc : ByteArray} {d : Nat} {ret : Option FieldType} {nm : String}
theorem j_callV1 (F : MF G X own cc nL d ret nm) {ix cnt d' nL' ci b e1 es1 e0 es0 : Nat} {y : MethodName} {cc' : ByteArray} {ret' : Option FieldType} {As st0 : List Value} {v : Value} {sh' : SH} {I' : IH} {L' : LH} {n' : Nat} (cl : CLV own ix y cnt) (hcode : Cond.code y cc' nL' ret' ∈ lw_good) (hC : (vwCl[ci]?).map (·.1) = some y.cls) (hrc : isO sh ci b) (hct : Ct G y cc' nL' ret' d' (.ref b :: As) sh I L n (some v) sh' I' L' n' e0 es0) (hdk : dok d' nL' d = true) (hn : As.length = cnt) (hs0 : st0 = As.reverse ++ .ref b :: st) (hst : Nat.ble ((st.map fun v => v.category).sum) 8 = true) (he : e = e0 + e1) (hes : es = es0 + es1) (hd : decode cc pc = .ok (.invokevirtual ix, 3)) (kk : J G X Q nL sh' I' L' n' e1 es1 (pc + 3) ls (v :: st)) : J G X Q nL sh I L n e es pc ls st0 := j_callV F cl hcode hC hrc hct hdk hn hs0 hst he hes hd kk
theorem j_callV0 (F : MF G X own cc nL d ret nm) {ix cnt d' nL' ci b e1 es1 e0 es0 : Nat} {y : MethodName} {cc' : ByteArray} {ret' : Option FieldType} {As st0 : List Value} {sh' : SH} {I' : IH} {L' : LH} {n' : Nat} (cl : CLV own ix y cnt) (hcode : Cond.code y cc' nL' ret' ∈ lw_good) (hC : (vwCl[ci]?).map (·.1) = some y.cls) (hrc : isO sh ci b) (hct : Ct G y cc' nL' ret' d' (.ref b :: As) sh I L n none sh' I' L' n' e0 es0) (hdk : dok d' nL' d = true) (hn : As.length = cnt) (hs0 : st0 = As.reverse ++ .ref b :: st) (hst : Nat.ble ((st.map fun v => v.category).sum) 8 = true) (he : e = e0 + e1) (hes : es = es0 + es1) (hd : decode cc pc = .ok (.invokevirtual ix, 3)) (kk : J G X Q nL sh' I' L' n' e1 es1 (pc + 3) ls st) : J G X Q nL sh I L n e es pc ls st0 := j_callV F cl hcode hC hrc hct hdk hn hs0 hst he hes hd kk
theorem j_callS1 (F : MF G X own cc nL d ret nm) {ix cnt d' nL' e1 es1 e0 es0 : Nat} {y : MethodName} {cc' : ByteArray} {ret' : Option FieldType} {As st0 : List Value} {v : Value} {sh' : SH} {I' : IH} {L' : LH} {n' : Nat} (cl : CLS own ix y cnt) (hcode : Cond.code y cc' nL' ret' ∈ lw_good) (hct : Ct G y cc' nL' ret' d' As sh I L n (some v) sh' I' L' n' e0 es0) (hdk : dok d' nL' d = true) (hn : As.length = cnt) (hs0 : st0 = As.reverse ++ st) (hst : Nat.ble ((st.map fun v => v.category).sum) 8 = true) (he : e = e0 + e1) (hes : es = es0 + es1) (hd : decode cc pc = .ok (.invokestatic ix, 3)) (kk : J G X Q nL sh' I' L' n' e1 es1 (pc + 3) ls (v :: st)) : J G X Q nL sh I L n e es pc ls st0 := j_callS F cl hcode hct hdk hn hs0 hst he hes hd kk
theorem j_callS0 (F : MF G X own cc nL d ret nm) {ix cnt d' nL' e1 es1 e0 es0 : Nat} {y : MethodName} {cc' : ByteArray} {ret' : Option FieldType} {As st0 : List Value} {sh' : SH} {I' : IH} {L' : LH} {n' : Nat} (cl : CLS own ix y cnt) (hcode : Cond.code y cc' nL' ret' ∈ lw_good) (hct : Ct G y cc' nL' ret' d' As sh I L n none sh' I' L' n' e0 es0) (hdk : dok d' nL' d = true) (hn : As.length = cnt) (hs0 : st0 = As.reverse ++ st) (hst : Nat.ble ((st.map fun v => v.category).sum) 8 = true) (he : e = e0 + e1) (hes : es = es0 + es1) (hd : decode cc pc = .ok (.invokestatic ix, 3)) (kk : J G X Q nL sh' I' L' n' e1 es1 (pc + 3) ls st) : J G X Q nL sh I L n e es pc ls st0 := j_callS F cl hcode hct hdk hn hs0 hst he hes hd kk
theorem j_callSN1 (F : MF G X own cc nL d ret nm) {ix cnt d' nL' e1 es1 e0 es0 : Nat} {y : MethodName} {cc' : ByteArray} {ret' : Option FieldType} {As st0 : List Value} {v : Value} {sh' : SH} {I' : IH} {L' : LH} {n' : Nat} (cl : CLSN own ix y cnt) (hcode : Cond.code y cc' nL' ret' ∈ lw_good) (hct : Ct G y cc' nL' ret' d' As sh I L n (some v) sh' I' L' n' e0 es0) (hdk : dok d' nL' d = true) (hn : As.length = cnt) (hs0 : st0 = As.reverse ++ st) (hst : Nat.ble ((st.map fun v => v.category).sum) 8 = true) (he : e = e0 + e1) (hes : es = es0 + es1) (hd : decode cc pc = .ok (.invokestatic ix, 3)) (kk : J G X Q nL sh' I' L' n' e1 es1 (pc + 3) ls (v :: st)) : J G X Q nL sh I L n e es pc ls st0 := j_callSN F cl hcode hct hdk hn hs0 hst he hes hd kk
theorem j_callSN0 (F : MF G X own cc nL d ret nm) {ix cnt d' nL' e1 es1 e0 es0 : Nat} {y : MethodName} {cc' : ByteArray} {ret' : Option FieldType} {As st0 : List Value} {sh' : SH} {I' : IH} {L' : LH} {n' : Nat} (cl : CLSN own ix y cnt) (hcode : Cond.code y cc' nL' ret' ∈ lw_good) (hct : Ct G y cc' nL' ret' d' As sh I L n none sh' I' L' n' e0 es0) (hdk : dok d' nL' d = true) (hn : As.length = cnt) (hs0 : st0 = As.reverse ++ st) (hst : Nat.ble ((st.map fun v => v.category).sum) 8 = true) (he : e = e0 + e1) (hes : es = es0 + es1) (hd : decode cc pc = .ok (.invokestatic ix, 3)) (kk : J G X Q nL sh' I' L' n' e1 es1 (pc + 3) ls st) : J G X Q nL sh I L n e es pc ls st0 := j_callSN F cl hcode hct hdk hn hs0 hst he hes hd kk
theorem j_aretR (F : MF G X own cc nL d ret nm) {a : Nat} {rt : FieldType} (hret : ret = some rt) (hrt : (∃ n, rt = .object n) ∨ ∃ t, rt = .array t) (hd : decode cc pc = .ok (.areturn, 1)) : J G X (QE G X (some (.ref a)) sh I L n) nL sh I L n 0 0 pc ls [.ref a] := j_aret (o := some a) F hret hrt rfl hd
theorem j_aretN (F : MF G X own cc nL d ret nm) {rt : FieldType} (hret : ret = some rt) (hrt : (∃ n, rt = .object n) ∨ ∃ t, rt = .array t) (hd : decode cc pc = .ok (.areturn, 1)) : J G X (QE G X (some .null) sh I L n) nL sh I L n 0 0 pc ls [.null] := j_aret (o := none) F hret hrt rfl hd
end JW
set_option maxHeartbeats 1000000 in
theorem ct_ofJ {G : GT} {y : MethodName} {cc : ByteArray} {nL : Nat} {ret : Option FieldType} {d : Nat} {av : List Value} {sh : SH} {I : IH} {L : LH} {n : Nat} {v : Option Value} {sh' : SH} {I' : IH} {L' : LH} {n' e es : Nat} (hy : plainFor y = true) (hn : Nat.ble (lg_sl av).length nL = true)
    (body : ∀ X : XT, MF G X y.cls cc nL d ret y.name → J G X (QE G X v sh' I' L' n') nL sh I L n e es 0 (lv_args 0 av) []) : Ct G y cc nL ret d av sh I L n v sh' I' L' n' e es := by
  intro l
  refine va_MetF (cc := cc) (maxL := nL) (ret := ret) hy rfl ?_
  intro p e9 s m args below meth c s₁ B hml hv
  obtain ⟨rfl, hH, hK⟩ := hv
  have hts := atoms_spec (ws := wsU y cc nL ret) B.pre
  have hown : s.vm.findClass y.cls = some m.cls := findClass_of_methodNamed B.named
  have hl := lv_entry av (n := nL) (Nat.le_of_ble_eq_true hn)
  rw [lg_entry_eq]
  exact body (p, l, e9, rmD d e es, s, m, av.toArray, below, meth, c) ⟨B.exec, B.bytes, hml, hown, htsU hts, B.returns, B.notSynchronized, (name_of_methodNamed B.named B.method).1, hK, hH.2.2.1, by rw [hH.1]; exact hH.2.1, rfl, rfl⟩ s.heap [] 0 0 _ (Nat.zero_add e) (Nat.zero_add es) hH va_S.rf hl
theorem flX6_19 : FL RX6 19 6 0 := ⟨RX6, TX6, 9, rfl, by decide, inX6, gw_255, rfl⟩
theorem flX6_23 : FL RX6 23 2 8 := ⟨RX2, TX2, 9, rfl, by decide, inX2, gw_141, rfl⟩
theorem flX6_27 : FL RX6 27 6 1 := ⟨RX6, TX6, 9, rfl, by decide, inX6, gw_256, rfl⟩
theorem flX6_35 : FL RX6 35 6 3 := ⟨RX6, TX6, 9, rfl, by decide, inX6, gw_258, rfl⟩
theorem flX6_42 : FL RX6 42 6 4 := ⟨RX6, TX6, 9, rfl, by decide, inX6, gw_259, rfl⟩
theorem flX6_46 : FL RX6 46 6 5 := ⟨RX6, TX6, 9, rfl, by decide, inX6, gw_260, rfl⟩
theorem flX6_52 : FL RX6 52 6 8 := ⟨RX6, TX6, 9, rfl, by decide, inX6, gw_263, rfl⟩
theorem flX6_57 : FL RX6 57 2 0 := ⟨RX2, TX2, 9, rfl, by decide, inX2, gw_122, rfl⟩
theorem flX6_65 : FL RX6 65 2 1 := ⟨RX2, TX2, 9, rfl, by decide, inX2, gw_125, rfl⟩
theorem flX6_68 : FL RX6 68 6 6 := ⟨RX6, TX6, 9, rfl, by decide, inX6, gw_261, rfl⟩
theorem flX6_71 : FL RX6 71 6 7 := ⟨RX6, TX6, 9, rfl, by decide, inX6, gw_262, rfl⟩
theorem flX6_83 : FL RX6 83 1 3 := ⟨RX1, TX1, 5, rfl, by decide, inX1, gw_317, rfl⟩
theorem flX6_86 : FL RX6 86 1 4 := ⟨RX1, TX1, 5, rfl, by decide, inX1, gw_319, rfl⟩
theorem flX6_87 : FL RX6 87 4 0 := ⟨RX4, TX4, 2, rfl, by decide, inX4, gw_107, rfl⟩
theorem flX6_96 : FL RX6 96 2 3 := ⟨RX2, TX2, 9, rfl, by decide, inX2, gw_131, rfl⟩
theorem flX6_111 : FL RX6 111 5 1 := ⟨RX5, TX5, 10, rfl, by decide, inX5, gw_172, rfl⟩
theorem flX6_118 : FL RX6 118 5 5 := ⟨RX5, TX5, 10, rfl, by decide, inX5, gw_180, rfl⟩
theorem flX6_125 : FL RX6 125 5 8 := ⟨RX5, TX5, 10, rfl, by decide, inX5, gw_185, rfl⟩
theorem flX6_128 : FL RX6 128 5 6 := ⟨RX5, TX5, 10, rfl, by decide, inX5, gw_182, rfl⟩
theorem flX6_135 : FL RX6 135 2 5 := ⟨RX2, TX2, 9, rfl, by decide, inX2, gw_136, rfl⟩
theorem flX6_138 : FL RX6 138 2 4 := ⟨RX2, TX2, 9, rfl, by decide, inX2, gw_134, rfl⟩
theorem flX6_144 : FL RX6 144 5 9 := ⟨RX5, TX5, 10, rfl, by decide, inX5, gw_187, rfl⟩
theorem flX6_151 : FL RX6 151 5 3 := ⟨RX5, TX5, 10, rfl, by decide, inX5, gw_176, rfl⟩
theorem flX6_167 : FL RX6 167 5 2 := ⟨RX5, TX5, 10, rfl, by decide, inX5, gw_174, rfl⟩
theorem flX6_168 : FL RX6 168 2 2 := ⟨RX2, TX2, 9, rfl, by decide, inX2, gw_128, rfl⟩
theorem flX6_188 : FL RX6 188 2 7 := ⟨RX2, TX2, 9, rfl, by decide, inX2, gw_140, rfl⟩
theorem flX6_191 : FL RX6 191 2 6 := ⟨RX2, TX2, 9, rfl, by decide, inX2, gw_138, rfl⟩
theorem flX6_198 : FL RX6 198 3 0 := ⟨RX3, TX3, 3, rfl, by decide, inX3, gw_242, rfl⟩
theorem flX6_201 : FL RX6 201 5 4 := ⟨RX5, TX5, 10, rfl, by decide, inX5, gw_178, rfl⟩
theorem flX6_204 : FL RX6 204 3 1 := ⟨RX3, TX3, 3, rfl, by decide, inX3, gw_244, rfl⟩
theorem flX6_212 : FL RX6 212 3 2 := ⟨RX3, TX3, 3, rfl, by decide, inX3, gw_246, rfl⟩
theorem flX6_222 : FL RX6 222 6 2 := ⟨RX6, TX6, 9, rfl, by decide, inX6, gw_257, rfl⟩
theorem flX6_226 : FL RX6 226 0 4 := ⟨RX0, TX0, 5, rfl, by decide, inX0, gw_222, rfl⟩
theorem flX6_233 : FL RX6 233 0 2 := ⟨RX0, TX0, 5, rfl, by decide, inX0, gw_218, rfl⟩
theorem flX6_245 : FL RX6 245 0 3 := ⟨RX0, TX0, 5, rfl, by decide, inX0, gw_220, rfl⟩
theorem flX0_9 : FL RX0 9 0 3 := ⟨RX0, TX0, 5, rfl, by decide, inX0, gw_219, rfl⟩
theorem flX0_15 : FL RX0 15 0 0 := ⟨RX0, TX0, 5, rfl, by decide, inX0, gw_215, rfl⟩
theorem flX0_19 : FL RX0 19 0 2 := ⟨RX0, TX0, 5, rfl, by decide, inX0, gw_217, rfl⟩
theorem flX0_22 : FL RX0 22 0 1 := ⟨RX0, TX0, 5, rfl, by decide, inX0, gw_216, rfl⟩
theorem flX0_39 : FL RX0 39 0 4 := ⟨RX0, TX0, 5, rfl, by decide, inX0, gw_221, rfl⟩
theorem flX1_9 : FL RX1 9 1 2 := ⟨RX1, TX1, 5, rfl, by decide, inX1, gw_315, rfl⟩
theorem flX1_18 : FL RX1 18 1 4 := ⟨RX1, TX1, 5, rfl, by decide, inX1, gw_318, rfl⟩
theorem flX1_22 : FL RX1 22 1 0 := ⟨RX1, TX1, 5, rfl, by decide, inX1, gw_313, rfl⟩
theorem flX1_32 : FL RX1 32 1 1 := ⟨RX1, TX1, 5, rfl, by decide, inX1, gw_314, rfl⟩
theorem flX1_43 : FL RX1 43 1 3 := ⟨RX1, TX1, 5, rfl, by decide, inX1, gw_316, rfl⟩
theorem flX2_9 : FL RX2 9 2 0 := ⟨RX2, TX2, 9, rfl, by decide, inX2, gw_121, rfl⟩
theorem flX2_15 : FL RX2 15 2 1 := ⟨RX2, TX2, 9, rfl, by decide, inX2, gw_124, rfl⟩
theorem flX2_19 : FL RX2 19 2 2 := ⟨RX2, TX2, 9, rfl, by decide, inX2, gw_127, rfl⟩
theorem flX2_24 : FL RX2 24 2 3 := ⟨RX2, TX2, 9, rfl, by decide, inX2, gw_129, rfl⟩
theorem flX2_27 : FL RX2 27 2 4 := ⟨RX2, TX2, 9, rfl, by decide, inX2, gw_132, rfl⟩
theorem flX2_30 : FL RX2 30 2 6 := ⟨RX2, TX2, 9, rfl, by decide, inX2, gw_137, rfl⟩
theorem flX2_33 : FL RX2 33 2 8 := ⟨RX2, TX2, 9, rfl, by decide, inX2, gw_142, rfl⟩
theorem flX2_45 : FL RX2 45 2 5 := ⟨RX2, TX2, 9, rfl, by decide, inX2, gw_135, rfl⟩
theorem flX2_48 : FL RX2 48 2 7 := ⟨RX2, TX2, 9, rfl, by decide, inX2, gw_139, rfl⟩
theorem flX2_61 : FL RX2 61 4 1 := ⟨RX4, TX4, 2, rfl, by decide, inX4, gw_109, rfl⟩
theorem flX3_9 : FL RX3 9 3 0 := ⟨RX3, TX3, 3, rfl, by decide, inX3, gw_241, rfl⟩
theorem flX3_15 : FL RX3 15 3 2 := ⟨RX3, TX3, 3, rfl, by decide, inX3, gw_245, rfl⟩
theorem flX3_25 : FL RX3 25 3 1 := ⟨RX3, TX3, 3, rfl, by decide, inX3, gw_243, rfl⟩
theorem flX4_11 : FL RX4 11 4 0 := ⟨RX4, TX4, 2, rfl, by decide, inX4, gw_105, rfl⟩
theorem flX4_16 : FL RX4 16 4 1 := ⟨RX4, TX4, 2, rfl, by decide, inX4, gw_108, rfl⟩
theorem flX5_9 : FL RX5 9 5 1 := ⟨RX5, TX5, 10, rfl, by decide, inX5, gw_171, rfl⟩
theorem flX5_17 : FL RX5 17 5 2 := ⟨RX5, TX5, 10, rfl, by decide, inX5, gw_173, rfl⟩
theorem flX5_20 : FL RX5 20 5 3 := ⟨RX5, TX5, 10, rfl, by decide, inX5, gw_175, rfl⟩
theorem flX5_23 : FL RX5 23 5 4 := ⟨RX5, TX5, 10, rfl, by decide, inX5, gw_177, rfl⟩
theorem flX5_26 : FL RX5 26 5 5 := ⟨RX5, TX5, 10, rfl, by decide, inX5, gw_179, rfl⟩
theorem flX5_29 : FL RX5 29 5 6 := ⟨RX5, TX5, 10, rfl, by decide, inX5, gw_181, rfl⟩
theorem flX5_32 : FL RX5 32 5 7 := ⟨RX5, TX5, 10, rfl, by decide, inX5, gw_183, rfl⟩
theorem flX5_35 : FL RX5 35 5 8 := ⟨RX5, TX5, 10, rfl, by decide, inX5, gw_184, rfl⟩
theorem flX5_38 : FL RX5 38 5 9 := ⟨RX5, TX5, 10, rfl, by decide, inX5, gw_186, rfl⟩
theorem flX5_41 : FL RX5 41 5 0 := ⟨RX5, TX5, 10, rfl, by decide, inX5, gw_170, rfl⟩
theorem flX5_45 : FL RX5 45 2 8 := ⟨RX2, TX2, 9, rfl, by decide, inX2, gw_143, rfl⟩
theorem flX5_51 : FL RX5 51 4 0 := ⟨RX4, TX4, 2, rfl, by decide, inX4, gw_106, rfl⟩
theorem flX5_58 : FL RX5 58 2 3 := ⟨RX2, TX2, 9, rfl, by decide, inX2, gw_130, rfl⟩
theorem flX5_66 : FL RX5 66 2 1 := ⟨RX2, TX2, 9, rfl, by decide, inX2, gw_126, rfl⟩
theorem flX5_121 : FL RX5 121 2 0 := ⟨RX2, TX2, 9, rfl, by decide, inX2, gw_123, rfl⟩
theorem flX5_128 : FL RX5 128 2 4 := ⟨RX2, TX2, 9, rfl, by decide, inX2, gw_133, rfl⟩
theorem flX7_7 : FL RX7 7 7 0 := ⟨RX7, TX7, 67, rfl, by decide, inX7, gw_750, rfl⟩
theorem flX7_13 : FL RX7 13 7 1 := ⟨RX7, TX7, 67, rfl, by decide, inX7, gw_751, rfl⟩
theorem flX7_16 : FL RX7 16 7 2 := ⟨RX7, TX7, 67, rfl, by decide, inX7, gw_752, rfl⟩
theorem flX7_19 : FL RX7 19 7 3 := ⟨RX7, TX7, 67, rfl, by decide, inX7, gw_753, rfl⟩
theorem flX7_23 : FL RX7 23 7 4 := ⟨RX7, TX7, 67, rfl, by decide, inX7, gw_754, rfl⟩
theorem flX7_26 : FL RX7 26 7 5 := ⟨RX7, TX7, 67, rfl, by decide, inX7, gw_755, rfl⟩
theorem flX7_29 : FL RX7 29 7 6 := ⟨RX7, TX7, 67, rfl, by decide, inX7, gw_756, rfl⟩
theorem flX7_32 : FL RX7 32 7 7 := ⟨RX7, TX7, 67, rfl, by decide, inX7, gw_757, rfl⟩
theorem flX7_35 : FL RX7 35 7 8 := ⟨RX7, TX7, 67, rfl, by decide, inX7, gw_758, rfl⟩
theorem flX7_38 : FL RX7 38 7 9 := ⟨RX7, TX7, 67, rfl, by decide, inX7, gw_759, rfl⟩
theorem flX7_41 : FL RX7 41 7 10 := ⟨RX7, TX7, 67, rfl, by decide, inX7, gw_760, rfl⟩
theorem flX7_44 : FL RX7 44 7 11 := ⟨RX7, TX7, 67, rfl, by decide, inX7, gw_761, rfl⟩
theorem flX7_47 : FL RX7 47 7 12 := ⟨RX7, TX7, 67, rfl, by decide, inX7, gw_762, rfl⟩
theorem flX7_50 : FL RX7 50 7 13 := ⟨RX7, TX7, 67, rfl, by decide, inX7, gw_763, rfl⟩
theorem flX7_53 : FL RX7 53 7 14 := ⟨RX7, TX7, 67, rfl, by decide, inX7, gw_764, rfl⟩
theorem flX7_56 : FL RX7 56 7 15 := ⟨RX7, TX7, 67, rfl, by decide, inX7, gw_765, rfl⟩
theorem flX7_59 : FL RX7 59 7 16 := ⟨RX7, TX7, 67, rfl, by decide, inX7, gw_766, rfl⟩
theorem flX7_62 : FL RX7 62 7 17 := ⟨RX7, TX7, 67, rfl, by decide, inX7, gw_767, rfl⟩
theorem flX7_65 : FL RX7 65 7 18 := ⟨RX7, TX7, 67, rfl, by decide, inX7, gw_768, rfl⟩
theorem flX7_68 : FL RX7 68 7 19 := ⟨RX7, TX7, 67, rfl, by decide, inX7, gw_769, rfl⟩
theorem flX7_71 : FL RX7 71 7 20 := ⟨RX7, TX7, 67, rfl, by decide, inX7, gw_770, rfl⟩
theorem flX7_74 : FL RX7 74 7 21 := ⟨RX7, TX7, 67, rfl, by decide, inX7, gw_771, rfl⟩
theorem flX7_77 : FL RX7 77 7 22 := ⟨RX7, TX7, 67, rfl, by decide, inX7, gw_772, rfl⟩
theorem flX7_80 : FL RX7 80 7 23 := ⟨RX7, TX7, 67, rfl, by decide, inX7, gw_773, rfl⟩
theorem flX7_83 : FL RX7 83 7 24 := ⟨RX7, TX7, 67, rfl, by decide, inX7, gw_774, rfl⟩
theorem flX7_87 : FL RX7 87 7 25 := ⟨RX7, TX7, 67, rfl, by decide, inX7, gw_775, rfl⟩
theorem flX7_90 : FL RX7 90 7 26 := ⟨RX7, TX7, 67, rfl, by decide, inX7, gw_776, rfl⟩
theorem flX7_93 : FL RX7 93 7 27 := ⟨RX7, TX7, 67, rfl, by decide, inX7, gw_777, rfl⟩
theorem flX7_96 : FL RX7 96 7 28 := ⟨RX7, TX7, 67, rfl, by decide, inX7, gw_778, rfl⟩
theorem flX7_99 : FL RX7 99 7 29 := ⟨RX7, TX7, 67, rfl, by decide, inX7, gw_779, rfl⟩
theorem flX7_102 : FL RX7 102 7 30 := ⟨RX7, TX7, 67, rfl, by decide, inX7, gw_780, rfl⟩
theorem flX7_105 : FL RX7 105 7 31 := ⟨RX7, TX7, 67, rfl, by decide, inX7, gw_781, rfl⟩
theorem flX7_108 : FL RX7 108 7 32 := ⟨RX7, TX7, 67, rfl, by decide, inX7, gw_782, rfl⟩
theorem flX7_111 : FL RX7 111 7 33 := ⟨RX7, TX7, 67, rfl, by decide, inX7, gw_783, rfl⟩
theorem flX7_114 : FL RX7 114 7 34 := ⟨RX7, TX7, 67, rfl, by decide, inX7, gw_784, rfl⟩
theorem flX7_117 : FL RX7 117 7 35 := ⟨RX7, TX7, 67, rfl, by decide, inX7, gw_785, rfl⟩
theorem flX7_120 : FL RX7 120 7 36 := ⟨RX7, TX7, 67, rfl, by decide, inX7, gw_786, rfl⟩
theorem flX7_123 : FL RX7 123 7 37 := ⟨RX7, TX7, 67, rfl, by decide, inX7, gw_787, rfl⟩
theorem flX7_126 : FL RX7 126 7 38 := ⟨RX7, TX7, 67, rfl, by decide, inX7, gw_788, rfl⟩
theorem flX7_129 : FL RX7 129 7 39 := ⟨RX7, TX7, 67, rfl, by decide, inX7, gw_789, rfl⟩
theorem flX7_132 : FL RX7 132 7 40 := ⟨RX7, TX7, 67, rfl, by decide, inX7, gw_790, rfl⟩
theorem flX7_135 : FL RX7 135 7 41 := ⟨RX7, TX7, 67, rfl, by decide, inX7, gw_791, rfl⟩
theorem flX7_138 : FL RX7 138 7 42 := ⟨RX7, TX7, 67, rfl, by decide, inX7, gw_792, rfl⟩
theorem flX7_141 : FL RX7 141 7 43 := ⟨RX7, TX7, 67, rfl, by decide, inX7, gw_793, rfl⟩
theorem flX7_144 : FL RX7 144 7 44 := ⟨RX7, TX7, 67, rfl, by decide, inX7, gw_794, rfl⟩
theorem flX7_147 : FL RX7 147 7 45 := ⟨RX7, TX7, 67, rfl, by decide, inX7, gw_795, rfl⟩
theorem flX7_151 : FL RX7 151 7 46 := ⟨RX7, TX7, 67, rfl, by decide, inX7, gw_796, rfl⟩
theorem flX7_154 : FL RX7 154 7 47 := ⟨RX7, TX7, 67, rfl, by decide, inX7, gw_797, rfl⟩
theorem flX7_157 : FL RX7 157 7 48 := ⟨RX7, TX7, 67, rfl, by decide, inX7, gw_798, rfl⟩
theorem flX7_160 : FL RX7 160 7 49 := ⟨RX7, TX7, 67, rfl, by decide, inX7, gw_799, rfl⟩
theorem flX7_163 : FL RX7 163 7 50 := ⟨RX7, TX7, 67, rfl, by decide, inX7, gw_800, rfl⟩
theorem flX7_166 : FL RX7 166 7 51 := ⟨RX7, TX7, 67, rfl, by decide, inX7, gw_801, rfl⟩
theorem flX7_169 : FL RX7 169 7 52 := ⟨RX7, TX7, 67, rfl, by decide, inX7, gw_802, rfl⟩
theorem flX7_172 : FL RX7 172 7 53 := ⟨RX7, TX7, 67, rfl, by decide, inX7, gw_803, rfl⟩
theorem flX7_175 : FL RX7 175 7 54 := ⟨RX7, TX7, 67, rfl, by decide, inX7, gw_804, rfl⟩
theorem flX7_178 : FL RX7 178 7 55 := ⟨RX7, TX7, 67, rfl, by decide, inX7, gw_805, rfl⟩
theorem flX7_181 : FL RX7 181 7 56 := ⟨RX7, TX7, 67, rfl, by decide, inX7, gw_806, rfl⟩
theorem flX7_184 : FL RX7 184 7 57 := ⟨RX7, TX7, 67, rfl, by decide, inX7, gw_807, rfl⟩
theorem flX7_187 : FL RX7 187 7 58 := ⟨RX7, TX7, 67, rfl, by decide, inX7, gw_808, rfl⟩
theorem flX7_190 : FL RX7 190 7 59 := ⟨RX7, TX7, 67, rfl, by decide, inX7, gw_809, rfl⟩
theorem flX7_193 : FL RX7 193 7 60 := ⟨RX7, TX7, 67, rfl, by decide, inX7, gw_810, rfl⟩
theorem flX7_196 : FL RX7 196 7 61 := ⟨RX7, TX7, 67, rfl, by decide, inX7, gw_811, rfl⟩
theorem flX7_199 : FL RX7 199 7 62 := ⟨RX7, TX7, 67, rfl, by decide, inX7, gw_812, rfl⟩
theorem flX7_202 : FL RX7 202 7 63 := ⟨RX7, TX7, 67, rfl, by decide, inX7, gw_813, rfl⟩
theorem flX7_205 : FL RX7 205 7 64 := ⟨RX7, TX7, 67, rfl, by decide, inX7, gw_814, rfl⟩
theorem flX7_208 : FL RX7 208 7 65 := ⟨RX7, TX7, 67, rfl, by decide, inX7, gw_815, rfl⟩
theorem flX7_212 : FL RX7 212 7 66 := ⟨RX7, TX7, 67, rfl, by decide, inX7, gw_816, rfl⟩
theorem fp0_0 : FP 0 0 false .int := ⟨RX0, TX0, 5, tyX0, rfl, tyX0_ok, nmX0, rfl, by decide +kernel⟩
theorem fp0_1 : FP 0 1 false .int := ⟨RX0, TX0, 5, tyX0, rfl, tyX0_ok, nmX0, rfl, by decide +kernel⟩
theorem fp0_2 : FP 0 2 false .int := ⟨RX0, TX0, 5, tyX0, rfl, tyX0_ok, nmX0, rfl, by decide +kernel⟩
theorem fp0_3 : FP 0 3 true (.array .int) := ⟨RX0, TX0, 5, tyX0, rfl, tyX0_ok, nmX0, rfl, by decide +kernel⟩
theorem fp0_4 : FP 0 4 false .int := ⟨RX0, TX0, 5, tyX0, rfl, tyX0_ok, nmX0, rfl, by decide +kernel⟩
theorem fp1_0 : FP 1 0 true (.array .int) := ⟨RX1, TX1, 5, tyX1, rfl, tyX1_ok, nmX1, rfl, by decide +kernel⟩
theorem fp1_1 : FP 1 1 true .int := ⟨RX1, TX1, 5, tyX1, rfl, tyX1_ok, nmX1, rfl, by decide +kernel⟩
theorem fp1_2 : FP 1 2 false .boolean := ⟨RX1, TX1, 5, tyX1, rfl, tyX1_ok, nmX1, rfl, by decide +kernel⟩
theorem fp1_3 : FP 1 3 false .int := ⟨RX1, TX1, 5, tyX1, rfl, tyX1_ok, nmX1, rfl, by decide +kernel⟩
theorem fp1_4 : FP 1 4 true (.object "MeltHours$Valley") := ⟨RX1, TX1, 5, tyX1, rfl, tyX1_ok, nmX1, rfl, by decide +kernel⟩
theorem fp2_0 : FP 2 0 false .int := ⟨RX2, TX2, 9, tyX2, rfl, tyX2_ok, nmX2, rfl, by decide +kernel⟩
theorem fp2_1 : FP 2 1 true (.array .int) := ⟨RX2, TX2, 9, tyX2, rfl, tyX2_ok, nmX2, rfl, by decide +kernel⟩
theorem fp2_2 : FP 2 2 true (.array .int) := ⟨RX2, TX2, 9, tyX2, rfl, tyX2_ok, nmX2, rfl, by decide +kernel⟩
theorem fp2_3 : FP 2 3 true (.array (.array .int)) := ⟨RX2, TX2, 9, tyX2, rfl, tyX2_ok, nmX2, rfl, by decide +kernel⟩
theorem fp2_4 : FP 2 4 true (.array (.array .int)) := ⟨RX2, TX2, 9, tyX2, rfl, tyX2_ok, nmX2, rfl, by decide +kernel⟩
theorem fp2_5 : FP 2 5 false .int := ⟨RX2, TX2, 9, tyX2, rfl, tyX2_ok, nmX2, rfl, by decide +kernel⟩
theorem fp2_6 : FP 2 6 true (.array .int) := ⟨RX2, TX2, 9, tyX2, rfl, tyX2_ok, nmX2, rfl, by decide +kernel⟩
theorem fp2_7 : FP 2 7 false .int := ⟨RX2, TX2, 9, tyX2, rfl, tyX2_ok, nmX2, rfl, by decide +kernel⟩
theorem fp2_8 : FP 2 8 false (.object "MeltHours$Valley") := ⟨RX2, TX2, 9, tyX2, rfl, tyX2_ok, nmX2, rfl, by decide +kernel⟩
theorem fp3_0 : FP 3 0 false .int := ⟨RX3, TX3, 3, tyX3, rfl, tyX3_ok, nmX3, rfl, by decide +kernel⟩
theorem fp3_1 : FP 3 1 false .int := ⟨RX3, TX3, 3, tyX3, rfl, tyX3_ok, nmX3, rfl, by decide +kernel⟩
theorem fp3_2 : FP 3 2 true (.array .long) := ⟨RX3, TX3, 3, tyX3, rfl, tyX3_ok, nmX3, rfl, by decide +kernel⟩
theorem fp4_0 : FP 4 0 true (.array (.array .int)) := ⟨RX4, TX4, 2, tyX4, rfl, tyX4_ok, nmX4, rfl, by decide +kernel⟩
theorem fp4_1 : FP 4 1 true (.array .int) := ⟨RX4, TX4, 2, tyX4, rfl, tyX4_ok, nmX4, rfl, by decide +kernel⟩
theorem fp5_0 : FP 5 0 true (.object "MeltHours$State") := ⟨RX5, TX5, 10, tyX5, rfl, tyX5_ok, nmX5, rfl, by decide +kernel⟩
theorem fp5_1 : FP 5 1 true (.array .int) := ⟨RX5, TX5, 10, tyX5, rfl, tyX5_ok, nmX5, rfl, by decide +kernel⟩
theorem fp5_2 : FP 5 2 true (.array (.array .int)) := ⟨RX5, TX5, 10, tyX5, rfl, tyX5_ok, nmX5, rfl, by decide +kernel⟩
theorem fp5_3 : FP 5 3 true (.array (.array .int)) := ⟨RX5, TX5, 10, tyX5, rfl, tyX5_ok, nmX5, rfl, by decide +kernel⟩
theorem fp5_4 : FP 5 4 true (.array (.array .int)) := ⟨RX5, TX5, 10, tyX5, rfl, tyX5_ok, nmX5, rfl, by decide +kernel⟩
theorem fp5_5 : FP 5 5 true (.array (.array .int)) := ⟨RX5, TX5, 10, tyX5, rfl, tyX5_ok, nmX5, rfl, by decide +kernel⟩
theorem fp5_6 : FP 5 6 true (.array (.array .int)) := ⟨RX5, TX5, 10, tyX5, rfl, tyX5_ok, nmX5, rfl, by decide +kernel⟩
theorem fp5_7 : FP 5 7 true (.array (.array .int)) := ⟨RX5, TX5, 10, tyX5, rfl, tyX5_ok, nmX5, rfl, by decide +kernel⟩
theorem fp5_8 : FP 5 8 true (.array (.array .int)) := ⟨RX5, TX5, 10, tyX5, rfl, tyX5_ok, nmX5, rfl, by decide +kernel⟩
theorem fp5_9 : FP 5 9 true (.array .int) := ⟨RX5, TX5, 10, tyX5, rfl, tyX5_ok, nmX5, rfl, by decide +kernel⟩
theorem fp6_0 : FP 6 0 true (.object "MeltHours$State") := ⟨RX6, TX6, 9, tyX6, rfl, tyX6_ok, nmX6, rfl, by decide +kernel⟩
theorem fp6_1 : FP 6 1 true (.object "MeltHours$State") := ⟨RX6, TX6, 9, tyX6, rfl, tyX6_ok, nmX6, rfl, by decide +kernel⟩
theorem fp6_2 : FP 6 2 false .boolean := ⟨RX6, TX6, 9, tyX6, rfl, tyX6_ok, nmX6, rfl, by decide +kernel⟩
theorem fp6_3 : FP 6 3 true (.object "MeltHours$Water") := ⟨RX6, TX6, 9, tyX6, rfl, tyX6_ok, nmX6, rfl, by decide +kernel⟩
theorem fp6_4 : FP 6 4 true (.object "MeltHours$Acts") := ⟨RX6, TX6, 9, tyX6, rfl, tyX6_ok, nmX6, rfl, by decide +kernel⟩
theorem fp6_5 : FP 6 5 true (.array .int) := ⟨RX6, TX6, 9, tyX6, rfl, tyX6_ok, nmX6, rfl, by decide +kernel⟩
theorem fp6_6 : FP 6 6 false .int := ⟨RX6, TX6, 9, tyX6, rfl, tyX6_ok, nmX6, rfl, by decide +kernel⟩
theorem fp6_7 : FP 6 7 false .int := ⟨RX6, TX6, 9, tyX6, rfl, tyX6_ok, nmX6, rfl, by decide +kernel⟩
theorem fp6_8 : FP 6 8 true (.array (.object "MeltHours$Tape")) := ⟨RX6, TX6, 9, tyX6, rfl, tyX6_ok, nmX6, rfl, by decide +kernel⟩
theorem fp7_0 : FP 7 0 false .int := ⟨RX7, TX7, 67, tyX7, rfl, tyX7_ok, nmX7, rfl, by decide +kernel⟩
theorem fp7_1 : FP 7 1 false .int := ⟨RX7, TX7, 67, tyX7, rfl, tyX7_ok, nmX7, rfl, by decide +kernel⟩
theorem fp7_2 : FP 7 2 false .int := ⟨RX7, TX7, 67, tyX7, rfl, tyX7_ok, nmX7, rfl, by decide +kernel⟩
theorem fp7_3 : FP 7 3 true (.array .int) := ⟨RX7, TX7, 67, tyX7, rfl, tyX7_ok, nmX7, rfl, by decide +kernel⟩
theorem fp7_4 : FP 7 4 true (.array .int) := ⟨RX7, TX7, 67, tyX7, rfl, tyX7_ok, nmX7, rfl, by decide +kernel⟩
theorem fp7_5 : FP 7 5 true (.array .int) := ⟨RX7, TX7, 67, tyX7, rfl, tyX7_ok, nmX7, rfl, by decide +kernel⟩
theorem fp7_6 : FP 7 6 true (.array .int) := ⟨RX7, TX7, 67, tyX7, rfl, tyX7_ok, nmX7, rfl, by decide +kernel⟩
theorem fp7_7 : FP 7 7 false .int := ⟨RX7, TX7, 67, tyX7, rfl, tyX7_ok, nmX7, rfl, by decide +kernel⟩
theorem fp7_8 : FP 7 8 false .int := ⟨RX7, TX7, 67, tyX7, rfl, tyX7_ok, nmX7, rfl, by decide +kernel⟩
theorem fp7_9 : FP 7 9 false .int := ⟨RX7, TX7, 67, tyX7, rfl, tyX7_ok, nmX7, rfl, by decide +kernel⟩
theorem fp7_10 : FP 7 10 false .int := ⟨RX7, TX7, 67, tyX7, rfl, tyX7_ok, nmX7, rfl, by decide +kernel⟩
theorem fp7_11 : FP 7 11 false .int := ⟨RX7, TX7, 67, tyX7, rfl, tyX7_ok, nmX7, rfl, by decide +kernel⟩
theorem fp7_12 : FP 7 12 true (.array .int) := ⟨RX7, TX7, 67, tyX7, rfl, tyX7_ok, nmX7, rfl, by decide +kernel⟩
theorem fp7_13 : FP 7 13 true (.array .int) := ⟨RX7, TX7, 67, tyX7, rfl, tyX7_ok, nmX7, rfl, by decide +kernel⟩
theorem fp7_14 : FP 7 14 true (.array .int) := ⟨RX7, TX7, 67, tyX7, rfl, tyX7_ok, nmX7, rfl, by decide +kernel⟩
theorem fp7_15 : FP 7 15 true (.array .int) := ⟨RX7, TX7, 67, tyX7, rfl, tyX7_ok, nmX7, rfl, by decide +kernel⟩
theorem fp7_16 : FP 7 16 true (.array .int) := ⟨RX7, TX7, 67, tyX7, rfl, tyX7_ok, nmX7, rfl, by decide +kernel⟩
theorem fp7_17 : FP 7 17 true (.array .int) := ⟨RX7, TX7, 67, tyX7, rfl, tyX7_ok, nmX7, rfl, by decide +kernel⟩
theorem fp7_18 : FP 7 18 true (.array .int) := ⟨RX7, TX7, 67, tyX7, rfl, tyX7_ok, nmX7, rfl, by decide +kernel⟩
theorem fp7_19 : FP 7 19 true (.array .int) := ⟨RX7, TX7, 67, tyX7, rfl, tyX7_ok, nmX7, rfl, by decide +kernel⟩
theorem fp7_20 : FP 7 20 true (.array .int) := ⟨RX7, TX7, 67, tyX7, rfl, tyX7_ok, nmX7, rfl, by decide +kernel⟩
theorem fp7_21 : FP 7 21 false .int := ⟨RX7, TX7, 67, tyX7, rfl, tyX7_ok, nmX7, rfl, by decide +kernel⟩
theorem fp7_22 : FP 7 22 false .int := ⟨RX7, TX7, 67, tyX7, rfl, tyX7_ok, nmX7, rfl, by decide +kernel⟩
theorem fp7_23 : FP 7 23 false .int := ⟨RX7, TX7, 67, tyX7, rfl, tyX7_ok, nmX7, rfl, by decide +kernel⟩
theorem fp7_24 : FP 7 24 true (.array .boolean) := ⟨RX7, TX7, 67, tyX7, rfl, tyX7_ok, nmX7, rfl, by decide +kernel⟩
theorem fp7_25 : FP 7 25 false .int := ⟨RX7, TX7, 67, tyX7, rfl, tyX7_ok, nmX7, rfl, by decide +kernel⟩
theorem fp7_26 : FP 7 26 true (.array .int) := ⟨RX7, TX7, 67, tyX7, rfl, tyX7_ok, nmX7, rfl, by decide +kernel⟩
theorem fp7_27 : FP 7 27 true (.array .int) := ⟨RX7, TX7, 67, tyX7, rfl, tyX7_ok, nmX7, rfl, by decide +kernel⟩
theorem fp7_28 : FP 7 28 true (.array .int) := ⟨RX7, TX7, 67, tyX7, rfl, tyX7_ok, nmX7, rfl, by decide +kernel⟩
theorem fp7_29 : FP 7 29 true (.array .int) := ⟨RX7, TX7, 67, tyX7, rfl, tyX7_ok, nmX7, rfl, by decide +kernel⟩
theorem fp7_30 : FP 7 30 true (.array .int) := ⟨RX7, TX7, 67, tyX7, rfl, tyX7_ok, nmX7, rfl, by decide +kernel⟩
theorem fp7_31 : FP 7 31 true (.array .int) := ⟨RX7, TX7, 67, tyX7, rfl, tyX7_ok, nmX7, rfl, by decide +kernel⟩
theorem fp7_32 : FP 7 32 true (.array .int) := ⟨RX7, TX7, 67, tyX7, rfl, tyX7_ok, nmX7, rfl, by decide +kernel⟩
theorem fp7_33 : FP 7 33 true (.array .int) := ⟨RX7, TX7, 67, tyX7, rfl, tyX7_ok, nmX7, rfl, by decide +kernel⟩
theorem fp7_34 : FP 7 34 true (.array .int) := ⟨RX7, TX7, 67, tyX7, rfl, tyX7_ok, nmX7, rfl, by decide +kernel⟩
theorem fp7_35 : FP 7 35 true (.array .int) := ⟨RX7, TX7, 67, tyX7, rfl, tyX7_ok, nmX7, rfl, by decide +kernel⟩
theorem fp7_36 : FP 7 36 true (.array .int) := ⟨RX7, TX7, 67, tyX7, rfl, tyX7_ok, nmX7, rfl, by decide +kernel⟩
theorem fp7_37 : FP 7 37 true (.array .int) := ⟨RX7, TX7, 67, tyX7, rfl, tyX7_ok, nmX7, rfl, by decide +kernel⟩
theorem fp7_38 : FP 7 38 true (.array .int) := ⟨RX7, TX7, 67, tyX7, rfl, tyX7_ok, nmX7, rfl, by decide +kernel⟩
theorem fp7_39 : FP 7 39 false .int := ⟨RX7, TX7, 67, tyX7, rfl, tyX7_ok, nmX7, rfl, by decide +kernel⟩
theorem fp7_40 : FP 7 40 true (.array .int) := ⟨RX7, TX7, 67, tyX7, rfl, tyX7_ok, nmX7, rfl, by decide +kernel⟩
theorem fp7_41 : FP 7 41 true (.array .int) := ⟨RX7, TX7, 67, tyX7, rfl, tyX7_ok, nmX7, rfl, by decide +kernel⟩
theorem fp7_42 : FP 7 42 true (.array .int) := ⟨RX7, TX7, 67, tyX7, rfl, tyX7_ok, nmX7, rfl, by decide +kernel⟩
theorem fp7_43 : FP 7 43 true (.array .int) := ⟨RX7, TX7, 67, tyX7, rfl, tyX7_ok, nmX7, rfl, by decide +kernel⟩
theorem fp7_44 : FP 7 44 true (.array .int) := ⟨RX7, TX7, 67, tyX7, rfl, tyX7_ok, nmX7, rfl, by decide +kernel⟩
theorem fp7_45 : FP 7 45 false .boolean := ⟨RX7, TX7, 67, tyX7, rfl, tyX7_ok, nmX7, rfl, by decide +kernel⟩
theorem fp7_46 : FP 7 46 false .int := ⟨RX7, TX7, 67, tyX7, rfl, tyX7_ok, nmX7, rfl, by decide +kernel⟩
theorem fp7_47 : FP 7 47 false .int := ⟨RX7, TX7, 67, tyX7, rfl, tyX7_ok, nmX7, rfl, by decide +kernel⟩
theorem fp7_48 : FP 7 48 false .int := ⟨RX7, TX7, 67, tyX7, rfl, tyX7_ok, nmX7, rfl, by decide +kernel⟩
theorem fp7_49 : FP 7 49 false .int := ⟨RX7, TX7, 67, tyX7, rfl, tyX7_ok, nmX7, rfl, by decide +kernel⟩
theorem fp7_50 : FP 7 50 false .int := ⟨RX7, TX7, 67, tyX7, rfl, tyX7_ok, nmX7, rfl, by decide +kernel⟩
theorem fp7_51 : FP 7 51 false .int := ⟨RX7, TX7, 67, tyX7, rfl, tyX7_ok, nmX7, rfl, by decide +kernel⟩
theorem fp7_52 : FP 7 52 true (.array .int) := ⟨RX7, TX7, 67, tyX7, rfl, tyX7_ok, nmX7, rfl, by decide +kernel⟩
theorem fp7_53 : FP 7 53 true (.array .int) := ⟨RX7, TX7, 67, tyX7, rfl, tyX7_ok, nmX7, rfl, by decide +kernel⟩
theorem fp7_54 : FP 7 54 true (.array .int) := ⟨RX7, TX7, 67, tyX7, rfl, tyX7_ok, nmX7, rfl, by decide +kernel⟩
theorem fp7_55 : FP 7 55 true (.array .int) := ⟨RX7, TX7, 67, tyX7, rfl, tyX7_ok, nmX7, rfl, by decide +kernel⟩
theorem fp7_56 : FP 7 56 true (.array .int) := ⟨RX7, TX7, 67, tyX7, rfl, tyX7_ok, nmX7, rfl, by decide +kernel⟩
theorem fp7_57 : FP 7 57 true (.array .int) := ⟨RX7, TX7, 67, tyX7, rfl, tyX7_ok, nmX7, rfl, by decide +kernel⟩
theorem fp7_58 : FP 7 58 true (.array .int) := ⟨RX7, TX7, 67, tyX7, rfl, tyX7_ok, nmX7, rfl, by decide +kernel⟩
theorem fp7_59 : FP 7 59 true (.array .int) := ⟨RX7, TX7, 67, tyX7, rfl, tyX7_ok, nmX7, rfl, by decide +kernel⟩
theorem fp7_60 : FP 7 60 true (.array .int) := ⟨RX7, TX7, 67, tyX7, rfl, tyX7_ok, nmX7, rfl, by decide +kernel⟩
theorem fp7_61 : FP 7 61 false .int := ⟨RX7, TX7, 67, tyX7, rfl, tyX7_ok, nmX7, rfl, by decide +kernel⟩
theorem fp7_62 : FP 7 62 true (.array .int) := ⟨RX7, TX7, 67, tyX7, rfl, tyX7_ok, nmX7, rfl, by decide +kernel⟩
theorem fp7_63 : FP 7 63 true (.array .int) := ⟨RX7, TX7, 67, tyX7, rfl, tyX7_ok, nmX7, rfl, by decide +kernel⟩
theorem fp7_64 : FP 7 64 true (.array .int) := ⟨RX7, TX7, 67, tyX7, rfl, tyX7_ok, nmX7, rfl, by decide +kernel⟩
theorem fp7_65 : FP 7 65 true (.array .long) := ⟨RX7, TX7, 67, tyX7, rfl, tyX7_ok, nmX7, rfl, by decide +kernel⟩
theorem fp7_66 : FP 7 66 true (.array .long) := ⟨RX7, TX7, 67, tyX7, rfl, tyX7_ok, nmX7, rfl, by decide +kernel⟩
theorem cnX6_11 : CN RX6 11 2 9 := ⟨RX2, TX2, tyX2, rfl, gw_92, gw_93, gw_69, inX2, tyX2_ok, fun j hj => match j, hj with
  | 0, _ => rfl
  | 1, _ => rfl
  | 2, _ => rfl
  | 3, _ => rfl
  | 4, _ => rfl
  | 5, _ => rfl
  | 6, _ => rfl
  | 7, _ => rfl
  | 8, _ => rfl
  | j + 9, h => absurd h (by omega)⟩
theorem cnX6_13 : CN RX6 13 4 2 := ⟨RX4, TX4, tyX4, rfl, gw_94, gw_95, gw_70, inX4, tyX4_ok, fun j hj => match j, hj with
  | 0, _ => rfl
  | 1, _ => rfl
  | j + 2, h => absurd h (by omega)⟩
theorem cnX6_30 : CN RX6 30 5 10 := ⟨RX5, TX5, tyX5, rfl, gw_163, gw_164, gw_72, inX5, tyX5_ok, fun j hj => match j, hj with
  | 0, _ => rfl
  | 1, _ => rfl
  | 2, _ => rfl
  | 3, _ => rfl
  | 4, _ => rfl
  | 5, _ => rfl
  | 6, _ => rfl
  | 7, _ => rfl
  | 8, _ => rfl
  | 9, _ => rfl
  | j + 10, h => absurd h (by omega)⟩
theorem cnX6_39 : CN RX6 39 0 5 := ⟨RX0, TX0, tyX0, rfl, gw_209, gw_210, gw_73, inX0, tyX0_ok, fun j hj => match j, hj with
  | 0, _ => rfl
  | 1, _ => rfl
  | 2, _ => rfl
  | 3, _ => rfl
  | 4, _ => rfl
  | j + 5, h => absurd h (by omega)⟩
theorem cnX6_50 : CN RX6 50 3 3 := ⟨RX3, TX3, tyX3, rfl, gw_234, gw_236, gw_74, inX3, tyX3_ok, fun j hj => match j, hj with
  | 0, _ => rfl
  | 1, _ => rfl
  | 2, _ => rfl
  | j + 3, h => absurd h (by omega)⟩
theorem cnX6_74 : CN RX6 74 1 5 := ⟨RX1, TX1, tyX1, rfl, gw_302, gw_303, gw_76, inX1, tyX1_ok, fun j hj => match j, hj with
  | 0, _ => rfl
  | 1, _ => rfl
  | 2, _ => rfl
  | 3, _ => rfl
  | 4, _ => rfl
  | j + 5, h => absurd h (by omega)⟩
theorem cnX1_15 : CN RX1 15 4 2 := ⟨RX4, TX4, tyX4, rfl, gw_308, gw_95, gw_70, inX4, tyX4_ok, fun j hj => match j, hj with
  | 0, _ => rfl
  | 1, _ => rfl
  | j + 2, h => absurd h (by omega)⟩
theorem cnL_7 : CN RL 7 6 9 := ⟨RX6, TX6, tyX6, rfl, gw_84, gw_85, gw_68, inX6, tyX6_ok, fun j hj => match j, hj with
  | 0, _ => rfl
  | 1, _ => rfl
  | 2, _ => rfl
  | 3, _ => rfl
  | 4, _ => rfl
  | 5, _ => rfl
  | 6, _ => rfl
  | 7, _ => rfl
  | 8, _ => rfl
  | j + 9, h => absurd h (by omega)⟩
theorem cnL_10 : CN RL 10 7 67 := ⟨RX7, TX7, tyX7, rfl, gw_744, gw_745, gw_75, inX7, tyX7_ok, fun j hj => match j, hj with
  | 0, _ => rfl
  | 1, _ => rfl
  | 2, _ => rfl
  | 3, _ => rfl
  | 4, _ => rfl
  | 5, _ => rfl
  | 6, _ => rfl
  | 7, _ => rfl
  | 8, _ => rfl
  | 9, _ => rfl
  | 10, _ => rfl
  | 11, _ => rfl
  | 12, _ => rfl
  | 13, _ => rfl
  | 14, _ => rfl
  | 15, _ => rfl
  | 16, _ => rfl
  | 17, _ => rfl
  | 18, _ => rfl
  | 19, _ => rfl
  | 20, _ => rfl
  | 21, _ => rfl
  | 22, _ => rfl
  | 23, _ => rfl
  | 24, _ => rfl
  | 25, _ => rfl
  | 26, _ => rfl
  | 27, _ => rfl
  | 28, _ => rfl
  | 29, _ => rfl
  | 30, _ => rfl
  | 31, _ => rfl
  | 32, _ => rfl
  | 33, _ => rfl
  | 34, _ => rfl
  | 35, _ => rfl
  | 36, _ => rfl
  | 37, _ => rfl
  | 38, _ => rfl
  | 39, _ => rfl
  | 40, _ => rfl
  | 41, _ => rfl
  | 42, _ => rfl
  | 43, _ => rfl
  | 44, _ => rfl
  | 45, _ => rfl
  | 46, _ => rfl
  | 47, _ => rfl
  | 48, _ => rfl
  | 49, _ => rfl
  | 50, _ => rfl
  | 51, _ => rfl
  | 52, _ => rfl
  | 53, _ => rfl
  | 54, _ => rfl
  | 55, _ => rfl
  | 56, _ => rfl
  | 57, _ => rfl
  | 58, _ => rfl
  | 59, _ => rfl
  | 60, _ => rfl
  | 61, _ => rfl
  | 62, _ => rfl
  | 63, _ => rfl
  | 64, _ => rfl
  | 65, _ => rfl
  | 66, _ => rfl
  | j + 67, h => absurd h (by omega)⟩
theorem cwX0_init : Cond.code yX0_init cX0_init 1 none ∈ lw_good := gw_213
theorem cwX0_began : Cond.code yX0_began cX0_began 2 none ∈ lw_good := gw_687
theorem cwX0_lets : Cond.code yX0_lets cX0_lets 3 (some .int) ∈ lw_good := gw_683
theorem cwX0_standAt : Cond.code yX0_standAt cX0_standAt 3 none ∈ lw_good := gw_679
theorem cwX0_takes : Cond.code yX0_takes cX0_takes 3 (some .int) ∈ lw_good := gw_692
theorem cwX0_tells : Cond.code yX0_tells cX0_tells 3 (some .int) ∈ lw_good := gw_697
theorem cwX1_init : Cond.code yX1_init cX1_init 3 none ∈ lw_good := gw_306
theorem cwX1_both : Cond.code yX1_both cX1_both 6 (some (.array .boolean)) ∈ lw_good := gw_424
theorem cwX1_clause : Cond.code yX1_clause cX1_clause 4 none ∈ lw_good := gw_338
theorem cwX1_either : Cond.code yX1_either cX1_either 6 (some (.array .boolean)) ∈ lw_good := gw_420
theorem cwX1_ending : Cond.code yX1_ending cX1_ending 4 (some .int) ∈ lw_good := gw_355
theorem cwX1_expect : Cond.code yX1_expect cX1_expect 2 none ∈ lw_good := gw_407
theorem cwX1_factor : Cond.code yX1_factor cX1_factor 4 (some (.array .boolean)) ∈ lw_good := gw_428
theorem cwX1_figure : Cond.code yX1_figure cX1_figure 3 (some .int) ∈ lw_good := gw_443
theorem cwX1_isValley : Cond.code yX1_isValley cX1_isValley 2 (some .boolean) ∈ lw_good := gw_334
theorem cwX1_next : Cond.code yX1_next cX1_next 1 (some .int) ∈ lw_good := gw_350
theorem cwX1_number : Cond.code yX1_number cX1_number 3 (some .int) ∈ lw_good := gw_415
theorem cwX1_oneOf : Cond.code yX1_oneOf cX1_oneOf 5 (some .int) ∈ lw_good := gw_432
theorem cwX1_passes : Cond.code yX1_passes cX1_passes 2 (some .boolean) ∈ lw_good := gw_346
theorem cwX1_whereHolds : Cond.code yX1_whereHolds cX1_whereHolds 6 (some (.array .boolean)) ∈ lw_good := gw_435
theorem cwX1_word : Cond.code yX1_word cX1_word 1 (some .int) ∈ lw_good := gw_342
theorem cwX2_init : Cond.code yX2_init cX2_init 2 none ∈ lw_good := gw_118
theorem cwX2_become : Cond.code yX2_become cX2_become 2 none ∈ lw_good := gw_665
theorem cwX2_isPlace : Cond.code yX2_isPlace cX2_isPlace 2 (some .boolean) ∈ lw_good := gw_482
theorem cwX2_isWant : Cond.code yX2_isWant cX2_isWant 2 (some .boolean) ∈ lw_good := gw_544
theorem cwX2_melting : Cond.code yX2_melting cX2_melting 4 (some .int) ∈ lw_good := gw_463
theorem cwX3_init : Cond.code yX3_init cX3_init 1 none ∈ lw_good := gw_239
theorem cwX3_asItem : Cond.code yX3_asItem cX3_asItem 3 (some .long) ∈ lw_good := gw_735
theorem cwX3_become : Cond.code yX3_become cX3_become 3 none ∈ lw_good := gw_723
theorem cwX4_init : Cond.code yX4_init cX4_init 1 none ∈ lw_good := gw_98
theorem cwX4_melt : Cond.code yX4_melt cX4_melt 4 none ∈ lw_good := gw_439
theorem cwX4_tell : Cond.code yX4_tell cX4_tell 4 none ∈ lw_good := gw_447
theorem cwX5_init : Cond.code yX5_init cX5_init 2 none ∈ lw_good := gw_167
theorem cwX5_again : Cond.code yX5_again cX5_again 3 (some .int) ∈ lw_good := gw_509
theorem cwX5_arriving : Cond.code yX5_arriving cX5_arriving 3 (some .int) ∈ lw_good := gw_525
theorem cwX5_come : Cond.code yX5_come cX5_come 7 none ∈ lw_good := gw_514
theorem cwX5_going : Cond.code yX5_going cX5_going 3 (some .int) ∈ lw_good := gw_519
theorem cwX5_inAllPlaces : Cond.code yX5_inAllPlaces cX5_inAllPlaces 4 (some .int) ∈ lw_good := gw_563
theorem cwX5_inPlace : Cond.code yX5_inPlace cX5_inPlace 3 (some .int) ∈ lw_good := gw_567
theorem cwX5_load : Cond.code yX5_load cX5_load 1 none ∈ lw_good := gw_490
theorem cwX5_meltUnder : Cond.code yX5_meltUnder cX5_meltUnder 4 none ∈ lw_good := gw_504
theorem cwX5_pass : Cond.code yX5_pass cX5_pass 8 none ∈ lw_good := gw_529
theorem cwX5_rows : Cond.code yX5_rows cX5_rows 2 (some (.array (.array .int))) ∈ lw_good := gw_552
theorem cwX5_serve : Cond.code yX5_serve cX5_serve 7 (some .int) ∈ lw_good := gw_540
theorem cwX5_servedBefore : Cond.code yX5_servedBefore cX5_servedBefore 4 (some .int) ∈ lw_good := gw_548
theorem cwX5_settle : Cond.code yX5_settle cX5_settle 1 (some .int) ∈ lw_good := gw_486
theorem cwX5_takes : Cond.code yX5_takes cX5_takes 8 (some .int) ∈ lw_good := gw_533
theorem cwX5_utmost : Cond.code yX5_utmost cX5_utmost 6 (some .int) ∈ lw_good := gw_590
theorem cwX5_worthWithout : Cond.code yX5_worthWithout cX5_worthWithout 3 (some .int) ∈ lw_good := gw_644
theorem cwX6_init : Cond.code yX6_init cX6_init 2 none ∈ lw_good := gw_88
theorem cwX6_act : Cond.code yX6_act cX6_act 4 (some .int) ∈ lw_good := gw_675
theorem cwX6_all : Cond.code yX6_all cX6_all 2 (some .int) ∈ lw_good := gw_556
theorem cwX6_best : Cond.code yX6_best cX6_best 11 (some .int) ∈ lw_good := gw_586
theorem cwX6_copy : Cond.code yX6_copy cX6_copy 2 none ∈ lw_good := gw_496
theorem cwX6_copyRows : Cond.code yX6_copyRows cX6_copyRows 3 none ∈ lw_good := gw_493
theorem cwX6_count : Cond.code yX6_count cX6_count 2 (some .int) ∈ lw_good := gw_715
theorem cwX6_day : Cond.code yX6_day cX6_day 2 (some .int) ∈ lw_good := gw_648
theorem cwX6_divisorWithHundred : Cond.code yX6_divisorWithHundred cX6_divisorWithHundred 2 (some .int) ∈ lw_good := gw_622
theorem cwX6_feed : Cond.code yX6_feed cX6_feed 4 (some .int) ∈ lw_good := gw_297
theorem cwX6_gate : Cond.code yX6_gate cX6_gate 7 (some .int) ∈ lw_good := gw_469
theorem cwX6_image : Cond.code yX6_image cX6_image 1 (some .int) ∈ lw_good := gw_661
theorem cwX6_isOrUnder : Cond.code yX6_isOrUnder cX6_isOrUnder 4 (some .boolean) ∈ lw_good := gw_709
theorem cwX6_isUnder : Cond.code yX6_isUnder cX6_isUnder 2 (some .boolean) ∈ lw_good := gw_293
theorem cwX6_item : Cond.code yX6_item cX6_item 6 (some .int) ∈ lw_good := gw_731
theorem cwX6_judge : Cond.code yX6_judge cX6_judge 8 (some .int) ∈ lw_good := gw_652
theorem cwX6_mean : Cond.code yX6_mean cX6_mean 7 (some .long) ∈ lw_good := gw_613
theorem cwX6_melts : Cond.code yX6_melts cX6_melts 2 (some .int) ∈ lw_good := gw_459
theorem cwX6_odds : Cond.code yX6_odds cX6_odds 3 (some .int) ∈ lw_good := gw_609
theorem cwX6_of : Cond.code yX6_of cX6_of 3 (some .int) ∈ lw_good := gw_474
theorem cwX6_part : Cond.code yX6_part cX6_part 8 (some .int) ∈ lw_good := gw_602
theorem cwX6_places : Cond.code yX6_places cX6_places 3 (some .int) ∈ lw_good := gw_286
theorem cwX6_pond : Cond.code yX6_pond cX6_pond 6 (some .int) ∈ lw_good := gw_626
theorem cwX6_price : Cond.code yX6_price cX6_price 3 (some .int) ∈ lw_good := gw_598
theorem cwX6_read : Cond.code yX6_read cX6_read 4 (some .long) ∈ lw_good := gw_739
theorem cwX6_shift : Cond.code yX6_shift cX6_shift 8 (some .int) ∈ lw_good := gw_743
theorem cwX6_sky : Cond.code yX6_sky cX6_sky 4 (some .int) ∈ lw_good := gw_290
theorem cwX6_span : Cond.code yX6_span cX6_span 4 (some .int) ∈ lw_good := gw_593
theorem cwX6_spare : Cond.code yX6_spare cX6_spare 4 (some .int) ∈ lw_good := gw_634
theorem cwX6_sum : Cond.code yX6_sum cX6_sum 6 (some .int) ∈ lw_good := gw_559
theorem cwX6_taken : Cond.code yX6_taken cX6_taken 4 (some .int) ∈ lw_good := gw_706
theorem cwX6_tape : Cond.code yX6_tape cX6_tape 5 (some .int) ∈ lw_good := gw_719
theorem cwX6_tapeAt : Cond.code yX6_tapeAt cX6_tapeAt 2 (some (.object "MeltHours$Tape")) ∈ lw_good := gw_656
theorem cwX6_told : Cond.code yX6_told cX6_told 3 (some .int) ∈ lw_good := gw_455
theorem cwX6_trace : Cond.code yX6_trace cX6_trace 2 (some .int) ∈ lw_good := gw_702
theorem cwX6_underSkies : Cond.code yX6_underSkies cX6_underSkies 5 (some .int) ∈ lw_good := gw_618
theorem cwX6_undo : Cond.code yX6_undo cX6_undo 1 (some .int) ∈ lw_good := gw_671
theorem cwX6_valley : Cond.code yX6_valley cX6_valley 2 (some .int) ∈ lw_good := gw_301
theorem cwX6_want : Cond.code yX6_want cX6_want 6 (some .int) ∈ lw_good := gw_573
theorem cwX6_wants : Cond.code yX6_wants cX6_wants 3 (some .int) ∈ lw_good := gw_577
theorem cwX6_water : Cond.code yX6_water cX6_water 4 (some .int) ∈ lw_good := gw_478
theorem cwX6_worth : Cond.code yX6_worth cX6_worth 1 (some .int) ∈ lw_good := gw_582
theorem cwX6_wrong : Cond.code yX6_wrong cX6_wrong 4 (some .int) ∈ lw_good := gw_630
theorem cwX7_init : Cond.code yX7_init cX7_init 1 none ∈ lw_good := gw_748
theorem cwX7_act : Cond.code yX7_act cX7_act 4 (some .int) ∈ lw_good := gw_1215
theorem cwX7_all : Cond.code yX7_all cX7_all 4 (some .int) ∈ lw_good := gw_1121
theorem cwX7_asIs : Cond.code yX7_asIs cX7_asIs 2 none ∈ lw_good := gw_1096
theorem cwX7_behind : Cond.code yX7_behind cX7_behind 1 (some .int) ∈ lw_good := gw_1060
theorem cwX7_best : Cond.code yX7_best cX7_best 10 (some .int) ∈ lw_good := gw_1149
theorem cwX7_body : Cond.code yX7_body cX7_body 2 none ∈ lw_good := gw_1223
theorem cwX7_clockTakes : Cond.code yX7_clockTakes cX7_clockTakes 3 (some .int) ∈ lw_good := gw_1235
theorem cwX7_copy : Cond.code yX7_copy cX7_copy 4 none ∈ lw_good := gw_1207
theorem cwX7_count : Cond.code yX7_count cX7_count 2 (some .int) ∈ lw_good := gw_1259
theorem cwX7_day : Cond.code yX7_day cX7_day 2 (some .int) ∈ lw_good := gw_1068
theorem cwX7_divisor : Cond.code yX7_divisor cX7_divisor 11 (some .long) ∈ lw_good := gw_1175
theorem cwX7_feed : Cond.code yX7_feed cX7_feed 4 (some .int) ∈ lw_good := gw_980
theorem cwX7_first : Cond.code yX7_first cX7_first 1 (some .int) ∈ lw_good := gw_1056
theorem cwX7_floods : Cond.code yX7_floods cX7_floods 3 (some .int) ∈ lw_good := gw_1125
theorem cwX7_gate : Cond.code yX7_gate cX7_gate 6 (some .int) ∈ lw_good := gw_967
theorem cwX7_go : Cond.code yX7_go cX7_go 8 none ∈ lw_good := gw_1101
theorem cwX7_goesText : Cond.code yX7_goesText cX7_goesText 3 (some .boolean) ∈ lw_good := gw_988
theorem cwX7_has : Cond.code yX7_has cX7_has 3 (some .boolean) ∈ lw_good := gw_1117
theorem cwX7_holds : Cond.code yX7_holds cX7_holds 9 (some .boolean) ∈ lw_good := gw_1084
theorem cwX7_image : Cond.code yX7_image cX7_image 1 (some .int) ∈ lw_good := gw_1203
theorem cwX7_in : Cond.code yX7_in cX7_in 4 (some .boolean) ∈ lw_good := gw_959
theorem cwX7_isDigit : Cond.code yX7_isDigit cX7_isDigit 1 (some .boolean) ∈ lw_good := gw_1024
theorem cwX7_isGate : Cond.code yX7_isGate cX7_isGate 2 (some .boolean) ∈ lw_good := gw_971
theorem cwX7_isHour : Cond.code yX7_isHour cX7_isHour 2 (some .boolean) ∈ lw_good := gw_1076
theorem cwX7_isPlace : Cond.code yX7_isPlace cX7_isPlace 2 (some .boolean) ∈ lw_good := gw_1092
theorem cwX7_isTape : Cond.code yX7_isTape cX7_isTape 2 (some .boolean) ∈ lw_good := gw_1199
theorem cwX7_item : Cond.code yX7_item cX7_item 5 (some .int) ∈ lw_good := gw_1267
theorem cwX7_judge : Cond.code yX7_judge cX7_judge 5 (some .int) ∈ lw_good := gw_1195
theorem cwX7_last : Cond.code yX7_last cX7_last 6 (some .int) ∈ lw_good := gw_1052
theorem cwX7_less : Cond.code yX7_less cX7_less 3 (some .int) ∈ lw_good := gw_1109
theorem cwX7_letsAct : Cond.code yX7_letsAct cX7_letsAct 3 (some .int) ∈ lw_good := gw_1219
theorem cwX7_mean : Cond.code yX7_mean cX7_mean 10 (some .long) ∈ lw_good := gw_1165
theorem cwX7_meltOf : Cond.code yX7_meltOf cX7_meltOf 5 (some .int) ∈ lw_good := gw_1080
theorem cwX7_melts : Cond.code yX7_melts cX7_melts 2 (some .int) ∈ lw_good := gw_1072
theorem cwX7_min : Cond.code yX7_min cX7_min 3 (some .int) ∈ lw_good := gw_1064
theorem cwX7_narrow : Cond.code yX7_narrow cX7_narrow 4 (some .long) ∈ lw_good := gw_1271
theorem cwX7_next : Cond.code yX7_next cX7_next 1 (some .int) ∈ lw_good := gw_1004
theorem cwX7_odds : Cond.code yX7_odds cX7_odds 3 (some .int) ∈ lw_good := gw_1161
theorem cwX7_oddsOf : Cond.code yX7_oddsOf cX7_oddsOf 2 (some .int) ∈ lw_good := gw_1170
theorem cwX7_of : Cond.code yX7_of cX7_of 3 (some .int) ∈ lw_good := gw_976
theorem cwX7_ones : Cond.code yX7_ones cX7_ones 4 (some .int) ∈ lw_good := gw_1191
theorem cwX7_part : Cond.code yX7_part cX7_part 8 (some .int) ∈ lw_good := gw_1157
theorem cwX7_places : Cond.code yX7_places cX7_places 3 (some .int) ∈ lw_good := gw_955
theorem cwX7_plainLets : Cond.code yX7_plainLets cX7_plainLets 3 (some .int) ∈ lw_good := gw_1227
theorem cwX7_plainTakes : Cond.code yX7_plainTakes cX7_plainTakes 3 (some .int) ∈ lw_good := gw_1239
theorem cwX7_plainTells : Cond.code yX7_plainTells cX7_plainTells 3 (some .int) ∈ lw_good := gw_1247
theorem cwX7_pond : Cond.code yX7_pond cX7_pond 6 (some .int) ∈ lw_good := gw_1179
theorem cwX7_price : Cond.code yX7_price cX7_price 3 (some .int) ∈ lw_good := gw_1153
theorem cwX7_put : Cond.code yX7_put cX7_put 2 none ∈ lw_good := gw_1036
theorem cwX7_read : Cond.code yX7_read cX7_read 3 (some .long) ∈ lw_good := gw_1275
theorem cwX7_second : Cond.code yX7_second cX7_second 1 (some .int) ∈ lw_good := gw_1000
theorem cwX7_serve : Cond.code yX7_serve cX7_serve 5 (some .int) ∈ lw_good := gw_1141
theorem cwX7_sets : Cond.code yX7_sets cX7_sets 5 none ∈ lw_good := gw_1105
theorem cwX7_settle : Cond.code yX7_settle cX7_settle 2 none ∈ lw_good := gw_1044
theorem cwX7_shift : Cond.code yX7_shift cX7_shift 7 (some .int) ∈ lw_good := gw_1279
theorem cwX7_sky : Cond.code yX7_sky cX7_sky 4 (some .int) ∈ lw_good := gw_963
theorem cwX7_spare : Cond.code yX7_spare cX7_spare 5 (some .int) ∈ lw_good := gw_1187
theorem cwX7_taken : Cond.code yX7_taken cX7_taken 4 (some .int) ∈ lw_good := gw_1255
theorem cwX7_takes : Cond.code yX7_takes cX7_takes 7 (some .int) ∈ lw_good := gw_1113
theorem cwX7_takesAct : Cond.code yX7_takesAct cX7_takesAct 4 (some .int) ∈ lw_good := gw_1231
theorem cwX7_takesClause : Cond.code yX7_takesClause cX7_takesClause 2 (some .boolean) ∈ lw_good := gw_992
theorem cwX7_takesE : Cond.code yX7_takesE cX7_takesE 4 (some .boolean) ∈ lw_good := gw_1028
theorem cwX7_takesHead : Cond.code yX7_takesHead cX7_takesHead 3 (some .boolean) ∈ lw_good := gw_996
theorem cwX7_takesNumber : Cond.code yX7_takesNumber cX7_takesNumber 2 (some .boolean) ∈ lw_good := gw_1020
theorem cwX7_takesSign : Cond.code yX7_takesSign cX7_takesSign 2 (some .boolean) ∈ lw_good := gw_1013
theorem cwX7_takesTest : Cond.code yX7_takesTest cX7_takesTest 3 (some .boolean) ∈ lw_good := gw_1032
theorem cwX7_takesWord : Cond.code yX7_takesWord cX7_takesWord 4 (some .boolean) ∈ lw_good := gw_1009
theorem cwX7_tape : Cond.code yX7_tape cX7_tape 5 (some .int) ∈ lw_good := gw_1263
theorem cwX7_tellsAct : Cond.code yX7_tellsAct cX7_tellsAct 4 (some .int) ∈ lw_good := gw_1243
theorem cwX7_told : Cond.code yX7_told cX7_told 3 (some .int) ∈ lw_good := gw_1048
theorem cwX7_trace : Cond.code yX7_trace cX7_trace 2 (some .int) ∈ lw_good := gw_1251
theorem cwX7_undo : Cond.code yX7_undo cX7_undo 1 (some .int) ∈ lw_good := gw_1211
theorem cwX7_valley : Cond.code yX7_valley cX7_valley 2 (some .int) ∈ lw_good := gw_984
theorem cwX7_want : Cond.code yX7_want cX7_want 5 (some .int) ∈ lw_good := gw_1129
theorem cwX7_wants : Cond.code yX7_wants cX7_wants 3 (some .int) ∈ lw_good := gw_1133
theorem cwX7_water : Cond.code yX7_water cX7_water 5 (some .int) ∈ lw_good := gw_1088
theorem cwX7_whole : Cond.code yX7_whole cX7_whole 1 none ∈ lw_good := gw_1040
theorem cwX7_worth : Cond.code yX7_worth cX7_worth 1 (some .int) ∈ lw_good := gw_1145
theorem cwX7_worthNow : Cond.code yX7_worthNow cX7_worthNow 1 (some .int) ∈ lw_good := gw_1137
theorem cwX7_wrong : Cond.code yX7_wrong cX7_wrong 3 (some .int) ∈ lw_good := gw_1183
theorem cwJ6_bitCount_0f7a4 : Cond.code yJ6_bitCount_0f7a4 cJ6_bitCount_0f7a4 1 (some .int) ∈ lw_good := gw_637
theorem cwJ9_max_7cf53 : Cond.code yJ9_max_7cf53 cJ9_max_7cf53 2 (some .int) ∈ lw_good := gw_536
theorem cwJ9_min_7cf53 : Cond.code yJ9_min_7cf53 cJ9_min_7cf53 2 (some .int) ∈ lw_good := gw_312
theorem cwJ7_fill_53178 : Cond.code yJ7_fill_53178 cJ7_fill_53178 4 none ∈ lw_good := gw_104
theorem cwJ7_fill_d0a16 : Cond.code yJ7_fill_d0a16 cJ7_fill_d0a16 5 none ∈ lw_good := gw_727
theorem cwd_of {y : MethodName} {cnt : Nat} (h1 : (y.cls ≠ "java/lang/invoke/MethodHandle" ∧ y.cls ≠ "java/lang/invoke/VarHandle")) (h2 : (parseMethodDescriptor y.desc).map (fun d => d.parameters.length) = some cnt) : cwd y cnt := ⟨h1, h2⟩
theorem clX6_15 : CLI RX6 15 yX4_init 0 := ⟨gw_96, gw_97, gw_70, ⟨by decide +kernel, by decide +kernel⟩, rfl⟩
theorem clX6_16 : CLI RX6 16 yX2_init 1 := ⟨gw_116, gw_117, gw_69, ⟨by decide +kernel, by decide +kernel⟩, rfl⟩
theorem clX6_32 : CLI RX6 32 yX5_init 1 := ⟨gw_165, gw_166, gw_72, ⟨by decide +kernel, by decide +kernel⟩, rfl⟩
theorem clX6_41 : CLIN RX6 41 yX0_init 0 := ⟨List.mem_of_getElem? (i := 0) rfl, gw_212, gw_73, ⟨by decide +kernel, by decide +kernel⟩, rfl⟩
theorem clX6_56 : CLIN RX6 56 yX3_init 0 := ⟨List.mem_of_getElem? (i := 1) rfl, gw_238, gw_74, ⟨by decide +kernel, by decide +kernel⟩, rfl⟩
theorem clX6_61 : CLS RX6 61 yX6_isUnder 2 := ⟨gw_291, gw_292, gw_68, ⟨by decide +kernel, by decide +kernel⟩⟩
theorem clX6_76 : CLI RX6 76 yX1_init 2 := ⟨gw_304, gw_305, gw_76, ⟨by decide +kernel, by decide +kernel⟩, rfl⟩
theorem clX6_79 : CLV RX6 79 yX1_isValley 0 := ⟨gw_331, gw_332, gw_333, gw_76, ⟨by decide +kernel, by decide +kernel⟩⟩
theorem clX6_91 : CLV RX6 91 yX2_melting 2 := ⟨gw_460, gw_461, gw_462, gw_69, ⟨by decide +kernel, by decide +kernel⟩⟩
theorem clX6_99 : CLV RX6 99 yX2_isPlace 1 := ⟨gw_479, gw_480, gw_481, gw_69, ⟨by decide +kernel, by decide +kernel⟩⟩
theorem clX6_103 : CLV RX6 103 yX5_settle 0 := ⟨gw_483, gw_484, gw_485, gw_72, ⟨by decide +kernel, by decide +kernel⟩⟩
theorem clX6_107 : CLV RX6 107 yX5_rows 1 := ⟨gw_549, gw_550, gw_551, gw_72, ⟨by decide +kernel, by decide +kernel⟩⟩
theorem clX6_114 : CLS RX6 114 yX6_sum 1 := ⟨gw_557, gw_558, gw_68, ⟨by decide +kernel, by decide +kernel⟩⟩
theorem clX6_121 : CLV RX6 121 yX5_inAllPlaces 1 := ⟨gw_560, gw_561, gw_562, gw_72, ⟨by decide +kernel, by decide +kernel⟩⟩
theorem clX6_131 : CLV RX6 131 yX5_inPlace 2 := ⟨gw_569, gw_565, gw_566, gw_72, ⟨by decide +kernel, by decide +kernel⟩⟩
theorem clX6_141 : CLV RX6 141 yX2_isWant 1 := ⟨gw_578, gw_542, gw_543, gw_69, ⟨by decide +kernel, by decide +kernel⟩⟩
theorem clX6_147 : CLV RX6 147 yX5_utmost 1 := ⟨gw_587, gw_588, gw_589, gw_72, ⟨by decide +kernel, by decide +kernel⟩⟩
theorem clX6_152 : CLS RX6 152 yX6_span 2 := ⟨gw_591, gw_592, gw_68, ⟨by decide +kernel, by decide +kernel⟩⟩
theorem clX6_155 : CLV RX6 155 yX5_again 1 := ⟨gw_594, gw_507, gw_508, gw_72, ⟨by decide +kernel, by decide +kernel⟩⟩
theorem clX6_158 : CLV RX6 158 yX5_load 0 := ⟨gw_603, gw_488, gw_489, gw_72, ⟨by decide +kernel, by decide +kernel⟩⟩
theorem clX6_161 : CLV RX6 161 yX5_going 2 := ⟨gw_604, gw_517, gw_518, gw_72, ⟨by decide +kernel, by decide +kernel⟩⟩
theorem clX6_164 : CLV RX6 164 yX5_arriving 2 := ⟨gw_605, gw_523, gw_524, gw_72, ⟨by decide +kernel, by decide +kernel⟩⟩
theorem clX6_173 : CLV RX6 173 yX6_underSkies 3 := ⟨gw_615, gw_617, gw_17, gw_68, ⟨by decide +kernel, by decide +kernel⟩⟩
theorem clX6_177 : CLS RX6 177 yX6_divisorWithHundred 1 := ⟨gw_620, gw_621, gw_68, ⟨by decide +kernel, by decide +kernel⟩⟩
theorem clX6_180 : CLS RX6 180 yJ6_bitCount_0f7a4 1 := ⟨gw_635, gw_636, gw_83, ⟨by decide +kernel, by decide +kernel⟩⟩
theorem clX6_185 : CLV RX6 185 yX5_worthWithout 1 := ⟨gw_641, gw_642, gw_643, gw_72, ⟨by decide +kernel, by decide +kernel⟩⟩
theorem clX6_194 : CLV RX6 194 yX6_tapeAt 1 := ⟨gw_653, gw_655, gw_18, gw_68, ⟨by decide +kernel, by decide +kernel⟩⟩
theorem clX6_207 : CLS RX6 207 yJ9_min_7cf53 2 := ⟨gw_497, gw_311, gw_77, ⟨by decide +kernel, by decide +kernel⟩⟩
theorem clX6_216 : CLS RX6 216 yJ9_max_7cf53 2 := ⟨gw_657, gw_535, gw_77, ⟨by decide +kernel, by decide +kernel⟩⟩
theorem clX6_219 : CLV RX6 219 yX2_become 1 := ⟨gw_662, gw_663, gw_664, gw_69, ⟨by decide +kernel, by decide +kernel⟩⟩
theorem clX6_229 : CLV RX6 229 yX0_standAt 2 := ⟨gw_676, gw_677, gw_678, gw_73, ⟨by decide +kernel, by decide +kernel⟩⟩
theorem clX6_236 : CLV RX6 236 yX0_lets 2 := ⟨gw_680, gw_681, gw_682, gw_73, ⟨by decide +kernel, by decide +kernel⟩⟩
theorem clX6_239 : CLV RX6 239 yX0_takes 2 := ⟨gw_689, gw_690, gw_691, gw_73, ⟨by decide +kernel, by decide +kernel⟩⟩
theorem clX6_242 : CLV RX6 242 yX0_tells 2 := ⟨gw_694, gw_695, gw_696, gw_73, ⟨by decide +kernel, by decide +kernel⟩⟩
theorem clX6_248 : CLS RX6 248 yX6_isOrUnder 2 := ⟨gw_707, gw_708, gw_68, ⟨by decide +kernel, by decide +kernel⟩⟩
theorem clX6_251 : CLV RX6 251 yX3_become 2 := ⟨gw_720, gw_721, gw_722, gw_74, ⟨by decide +kernel, by decide +kernel⟩⟩
theorem clX6_254 : CLV RX6 254 yX3_asItem 1 := ⟨gw_732, gw_733, gw_734, gw_74, ⟨by decide +kernel, by decide +kernel⟩⟩
theorem clX6_264 : CLV RX6 264 yX5_meltUnder 2 := ⟨gw_619, gw_502, gw_503, gw_72, ⟨by decide +kernel, by decide +kernel⟩⟩
theorem clX6_270 : CLS RX6 270 yX6_copy 2 := ⟨gw_494, gw_495, gw_68, ⟨by decide +kernel, by decide +kernel⟩⟩
theorem clX0_25 : CLV RX0 25 yX0_began 1 := ⟨gw_684, gw_686, gw_19, gw_73, ⟨by decide +kernel, by decide +kernel⟩⟩
theorem clX0_29 : CLV RX0 29 yX0_lets 2 := ⟨gw_688, gw_681, gw_682, gw_73, ⟨by decide +kernel, by decide +kernel⟩⟩
theorem clX0_33 : CLV RX0 33 yX0_takes 2 := ⟨gw_693, gw_690, gw_691, gw_73, ⟨by decide +kernel, by decide +kernel⟩⟩
theorem clX0_36 : CLV RX0 36 yX0_tells 2 := ⟨gw_698, gw_695, gw_696, gw_73, ⟨by decide +kernel, by decide +kernel⟩⟩
theorem clX1_17 : CLI RX1 17 yX4_init 0 := ⟨gw_309, gw_97, gw_70, ⟨by decide +kernel, by decide +kernel⟩, rfl⟩
theorem clX1_26 : CLS RX1 26 yJ9_min_7cf53 2 := ⟨gw_310, gw_311, gw_77, ⟨by decide +kernel, by decide +kernel⟩⟩
theorem clX1_36 : CLV RX1 36 yX1_clause 0 := ⟨gw_335, gw_337, gw_0, gw_76, ⟨by decide +kernel, by decide +kernel⟩⟩
theorem clX1_39 : CLV RX1 39 yX1_passes 1 := ⟨gw_343, gw_345, gw_2, gw_76, ⟨by decide +kernel, by decide +kernel⟩⟩
theorem clX1_46 : CLV RX1 46 yX1_word 0 := ⟨gw_339, gw_341, gw_1, gw_76, ⟨by decide +kernel, by decide +kernel⟩⟩
theorem clX1_50 : CLV RX1 50 yX1_expect 1 := ⟨gw_404, gw_406, gw_5, gw_76, ⟨by decide +kernel, by decide +kernel⟩⟩
theorem clX1_54 : CLV RX1 54 yX1_number 0 := ⟨gw_412, gw_414, gw_6, gw_76, ⟨by decide +kernel, by decide +kernel⟩⟩
theorem clX1_57 : CLV RX1 57 yX1_either 1 := ⟨gw_417, gw_419, gw_7, gw_76, ⟨by decide +kernel, by decide +kernel⟩⟩
theorem clX1_61 : CLV RX1 61 yX4_melt 2 := ⟨gw_436, gw_437, gw_438, gw_70, ⟨by decide +kernel, by decide +kernel⟩⟩
theorem clX1_65 : CLV RX1 65 yX1_figure 1 := ⟨gw_440, gw_442, gw_11, gw_76, ⟨by decide +kernel, by decide +kernel⟩⟩
theorem clX1_69 : CLV RX1 69 yX4_tell 3 := ⟨gw_444, gw_445, gw_446, gw_70, ⟨by decide +kernel, by decide +kernel⟩⟩
theorem clX1_75 : CLV RX1 75 yX1_ending 2 := ⟨gw_352, gw_354, gw_4, gw_76, ⟨by decide +kernel, by decide +kernel⟩⟩
theorem clX1_87 : CLV RX1 87 yJ0_length_8abf5 0 := ⟨gw_356, gw_357, gw_358, gw_78, ⟨by decide +kernel, by decide +kernel⟩⟩
theorem clX1_91 : CLV RX1 91 yJ0_charAt_5068e 1 := ⟨gw_366, gw_367, gw_368, gw_78, ⟨by decide +kernel, by decide +kernel⟩⟩
theorem clX1_95 : CLV RX1 95 yX1_both 1 := ⟨gw_421, gw_423, gw_8, gw_76, ⟨by decide +kernel, by decide +kernel⟩⟩
theorem clX1_98 : CLV RX1 98 yX1_factor 1 := ⟨gw_425, gw_427, gw_9, gw_76, ⟨by decide +kernel, by decide +kernel⟩⟩
theorem clX1_101 : CLV RX1 101 yX1_oneOf 3 := ⟨gw_429, gw_431, gw_10, gw_76, ⟨by decide +kernel, by decide +kernel⟩⟩
theorem clX1_105 : CLS RX1 105 yX1_whereHolds 3 := ⟨gw_433, gw_434, gw_76, ⟨by decide +kernel, by decide +kernel⟩⟩
theorem clX1_109 : CLV RX1 109 yX1_next 0 := ⟨gw_347, gw_349, gw_3, gw_76, ⟨by decide +kernel, by decide +kernel⟩⟩
theorem clX1_112 : CLSN RX1 112 yX6_isUnder 2 := ⟨List.mem_of_getElem? (i := 2) rfl, gw_292, gw_68, ⟨by decide +kernel, by decide +kernel⟩⟩
theorem clX2_37 : CLSN RX2 37 yX6_copy 2 := ⟨List.mem_of_getElem? (i := 8) rfl, gw_495, gw_68, ⟨by decide +kernel, by decide +kernel⟩⟩
theorem clX2_41 : CLSN RX2 41 yX6_copyRows 2 := ⟨List.mem_of_getElem? (i := 9) rfl, gw_492, gw_68, ⟨by decide +kernel, by decide +kernel⟩⟩
theorem clX2_51 : CLSN RX2 51 yX6_isUnder 2 := ⟨List.mem_of_getElem? (i := 4) rfl, gw_292, gw_68, ⟨by decide +kernel, by decide +kernel⟩⟩
theorem clX2_55 : CLS RX2 55 yJ9_min_7cf53 2 := ⟨gw_464, gw_311, gw_77, ⟨by decide +kernel, by decide +kernel⟩⟩
theorem clX3_19 : CLS RX3 19 yJ9_min_7cf53 2 := ⟨gw_724, gw_311, gw_77, ⟨by decide +kernel, by decide +kernel⟩⟩
theorem clX3_28 : CLS RX3 28 yJ7_fill_d0a16 2 := ⟨gw_725, gw_726, gw_71, ⟨by decide +kernel, by decide +kernel⟩⟩
theorem clX4_20 : CLS RX4 20 yJ7_fill_53178 2 := ⟨gw_102, gw_103, gw_71, ⟨by decide +kernel, by decide +kernel⟩⟩
theorem clX4_26 : CLSN RX4 26 yX6_isUnder 2 := ⟨List.mem_of_getElem? (i := 3) rfl, gw_292, gw_68, ⟨by decide +kernel, by decide +kernel⟩⟩
theorem clX4_30 : CLS RX4 30 yJ9_min_7cf53 2 := ⟨gw_449, gw_311, gw_77, ⟨by decide +kernel, by decide +kernel⟩⟩
theorem clX5_54 : CLSN RX5 54 yX6_copyRows 2 := ⟨List.mem_of_getElem? (i := 5) rfl, gw_492, gw_68, ⟨by decide +kernel, by decide +kernel⟩⟩
theorem clX5_59 : CLV RX5 59 yX2_melting 2 := ⟨gw_505, gw_461, gw_462, gw_69, ⟨by decide +kernel, by decide +kernel⟩⟩
theorem clX5_63 : CLV RX5 63 yX5_load 0 := ⟨gw_487, gw_488, gw_489, gw_72, ⟨by decide +kernel, by decide +kernel⟩⟩
theorem clX5_69 : CLV RX5 69 yX5_meltUnder 2 := ⟨gw_501, gw_502, gw_503, gw_72, ⟨by decide +kernel, by decide +kernel⟩⟩
theorem clX5_73 : CLV RX5 73 yX5_again 1 := ⟨gw_506, gw_507, gw_508, gw_72, ⟨by decide +kernel, by decide +kernel⟩⟩
theorem clX5_77 : CLV RX5 77 yX2_isPlace 1 := ⟨gw_510, gw_480, gw_481, gw_69, ⟨by decide +kernel, by decide +kernel⟩⟩
theorem clX5_81 : CLV RX5 81 yX5_come 2 := ⟨gw_511, gw_513, gw_12, gw_72, ⟨by decide +kernel, by decide +kernel⟩⟩
theorem clX5_85 : CLV RX5 85 yX5_pass 1 := ⟨gw_526, gw_528, gw_13, gw_72, ⟨by decide +kernel, by decide +kernel⟩⟩
theorem clX5_89 : CLV RX5 89 yX5_serve 0 := ⟨gw_537, gw_539, gw_15, gw_72, ⟨by decide +kernel, by decide +kernel⟩⟩
theorem clX5_93 : CLS RX5 93 yJ9_min_7cf53 2 := ⟨gw_520, gw_311, gw_77, ⟨by decide +kernel, by decide +kernel⟩⟩
theorem clX5_98 : CLS RX5 98 yJ7_fill_53178 2 := ⟨gw_515, gw_103, gw_71, ⟨by decide +kernel, by decide +kernel⟩⟩
theorem clX5_104 : CLV RX5 104 yX5_going 2 := ⟨gw_516, gw_517, gw_518, gw_72, ⟨by decide +kernel, by decide +kernel⟩⟩
theorem clX5_107 : CLSN RX5 107 yX6_isUnder 2 := ⟨List.mem_of_getElem? (i := 6) rfl, gw_292, gw_68, ⟨by decide +kernel, by decide +kernel⟩⟩
theorem clX5_111 : CLV RX5 111 yX5_arriving 2 := ⟨gw_522, gw_523, gw_524, gw_72, ⟨by decide +kernel, by decide +kernel⟩⟩
theorem clX5_114 : CLV RX5 114 yX5_takes 4 := ⟨gw_530, gw_532, gw_14, gw_72, ⟨by decide +kernel, by decide +kernel⟩⟩
theorem clX5_118 : CLS RX5 118 yJ9_max_7cf53 2 := ⟨gw_534, gw_535, gw_77, ⟨by decide +kernel, by decide +kernel⟩⟩
theorem clX5_125 : CLV RX5 125 yX2_isWant 1 := ⟨gw_541, gw_542, gw_543, gw_69, ⟨by decide +kernel, by decide +kernel⟩⟩
theorem clX5_131 : CLV RX5 131 yX5_servedBefore 1 := ⟨gw_545, gw_547, gw_16, gw_72, ⟨by decide +kernel, by decide +kernel⟩⟩
theorem clX5_134 : CLV RX5 134 yX5_inPlace 2 := ⟨gw_564, gw_565, gw_566, gw_72, ⟨by decide +kernel, by decide +kernel⟩⟩
theorem clX5_138 : CLSN RX5 138 yX6_sum 1 := ⟨List.mem_of_getElem? (i := 7) rfl, gw_558, gw_68, ⟨by decide +kernel, by decide +kernel⟩⟩
theorem clL_9 : CLI RL 9 yX6_init 0 := ⟨gw_86, gw_87, gw_68, ⟨by decide +kernel, by decide +kernel⟩, rfl⟩
theorem clL_12 : CLI RL 12 yX7_init 0 := ⟨gw_746, gw_747, gw_75, ⟨by decide +kernel, by decide +kernel⟩, rfl⟩
theorem clL_13 : CLV RL 13 yX6_places 1 := ⟨gw_283, gw_284, gw_285, gw_68, ⟨by decide +kernel, by decide +kernel⟩⟩
theorem clL_17 : CLV RL 17 yX7_places 1 := ⟨gw_952, gw_953, gw_954, gw_75, ⟨by decide +kernel, by decide +kernel⟩⟩
theorem clL_18 : CLV RL 18 yX6_sky 2 := ⟨gw_287, gw_288, gw_289, gw_68, ⟨by decide +kernel, by decide +kernel⟩⟩
theorem clL_22 : CLV RL 22 yX7_sky 2 := ⟨gw_960, gw_961, gw_962, gw_75, ⟨by decide +kernel, by decide +kernel⟩⟩
theorem clL_23 : CLV RL 23 yX6_feed 2 := ⟨gw_294, gw_295, gw_296, gw_68, ⟨by decide +kernel, by decide +kernel⟩⟩
theorem clL_26 : CLV RL 26 yX7_feed 2 := ⟨gw_977, gw_978, gw_979, gw_75, ⟨by decide +kernel, by decide +kernel⟩⟩
theorem clL_27 : CLV RL 27 yX6_valley 0 := ⟨gw_298, gw_299, gw_300, gw_68, ⟨by decide +kernel, by decide +kernel⟩⟩
theorem clL_31 : CLV RL 31 yX7_valley 0 := ⟨gw_981, gw_982, gw_983, gw_75, ⟨by decide +kernel, by decide +kernel⟩⟩
theorem clL_32 : CLV RL 32 yX6_told 2 := ⟨gw_452, gw_453, gw_454, gw_68, ⟨by decide +kernel, by decide +kernel⟩⟩
theorem clL_35 : CLV RL 35 yX7_told 2 := ⟨gw_1045, gw_1046, gw_1047, gw_75, ⟨by decide +kernel, by decide +kernel⟩⟩
theorem clL_36 : CLV RL 36 yX6_melts 1 := ⟨gw_456, gw_457, gw_458, gw_68, ⟨by decide +kernel, by decide +kernel⟩⟩
theorem clL_39 : CLV RL 39 yX7_melts 1 := ⟨gw_1069, gw_1070, gw_1071, gw_75, ⟨by decide +kernel, by decide +kernel⟩⟩
theorem clL_40 : CLV RL 40 yX6_gate 4 := ⟨gw_466, gw_467, gw_468, gw_68, ⟨by decide +kernel, by decide +kernel⟩⟩
theorem clL_44 : CLV RL 44 yX7_gate 4 := ⟨gw_964, gw_965, gw_966, gw_75, ⟨by decide +kernel, by decide +kernel⟩⟩
theorem clL_45 : CLV RL 45 yX6_of 2 := ⟨gw_471, gw_472, gw_473, gw_68, ⟨by decide +kernel, by decide +kernel⟩⟩
theorem clL_48 : CLV RL 48 yX7_of 2 := ⟨gw_973, gw_974, gw_975, gw_75, ⟨by decide +kernel, by decide +kernel⟩⟩
theorem clL_49 : CLV RL 49 yX6_water 3 := ⟨gw_475, gw_476, gw_477, gw_68, ⟨by decide +kernel, by decide +kernel⟩⟩
theorem clL_53 : CLV RL 53 yX7_water 3 := ⟨gw_1085, gw_1086, gw_1087, gw_75, ⟨by decide +kernel, by decide +kernel⟩⟩
theorem clL_54 : CLV RL 54 yX6_all 1 := ⟨gw_553, gw_554, gw_555, gw_68, ⟨by decide +kernel, by decide +kernel⟩⟩
theorem clL_57 : CLV RL 57 yX7_all 1 := ⟨gw_1118, gw_1119, gw_1120, gw_75, ⟨by decide +kernel, by decide +kernel⟩⟩
theorem clL_58 : CLV RL 58 yX6_want 4 := ⟨gw_570, gw_571, gw_572, gw_68, ⟨by decide +kernel, by decide +kernel⟩⟩
theorem clL_61 : CLV RL 61 yX7_want 4 := ⟨gw_1126, gw_1127, gw_1128, gw_75, ⟨by decide +kernel, by decide +kernel⟩⟩
theorem clL_62 : CLV RL 62 yX6_wants 2 := ⟨gw_574, gw_575, gw_576, gw_68, ⟨by decide +kernel, by decide +kernel⟩⟩
theorem clL_65 : CLV RL 65 yX7_wants 2 := ⟨gw_1130, gw_1131, gw_1132, gw_75, ⟨by decide +kernel, by decide +kernel⟩⟩
theorem clL_66 : CLV RL 66 yX6_worth 0 := ⟨gw_579, gw_580, gw_581, gw_68, ⟨by decide +kernel, by decide +kernel⟩⟩
theorem clL_69 : CLV RL 69 yX7_worth 0 := ⟨gw_1142, gw_1143, gw_1144, gw_75, ⟨by decide +kernel, by decide +kernel⟩⟩
theorem clL_70 : CLV RL 70 yX6_best 2 := ⟨gw_583, gw_584, gw_585, gw_68, ⟨by decide +kernel, by decide +kernel⟩⟩
theorem clL_73 : CLV RL 73 yX7_best 2 := ⟨gw_1146, gw_1147, gw_1148, gw_75, ⟨by decide +kernel, by decide +kernel⟩⟩
theorem clL_74 : CLV RL 74 yX6_price 1 := ⟨gw_595, gw_596, gw_597, gw_68, ⟨by decide +kernel, by decide +kernel⟩⟩
theorem clL_77 : CLV RL 77 yX7_price 1 := ⟨gw_1150, gw_1151, gw_1152, gw_75, ⟨by decide +kernel, by decide +kernel⟩⟩
theorem clL_78 : CLV RL 78 yX6_part 4 := ⟨gw_599, gw_600, gw_601, gw_68, ⟨by decide +kernel, by decide +kernel⟩⟩
theorem clL_81 : CLV RL 81 yX7_part 4 := ⟨gw_1154, gw_1155, gw_1156, gw_75, ⟨by decide +kernel, by decide +kernel⟩⟩
theorem clL_82 : CLV RL 82 yX6_odds 2 := ⟨gw_606, gw_607, gw_608, gw_68, ⟨by decide +kernel, by decide +kernel⟩⟩
theorem clL_85 : CLV RL 85 yX7_odds 2 := ⟨gw_1158, gw_1159, gw_1160, gw_75, ⟨by decide +kernel, by decide +kernel⟩⟩
theorem clL_86 : CLV RL 86 yX6_mean 2 := ⟨gw_610, gw_611, gw_612, gw_68, ⟨by decide +kernel, by decide +kernel⟩⟩
theorem clL_90 : CLV RL 90 yX7_mean 2 := ⟨gw_1162, gw_1163, gw_1164, gw_75, ⟨by decide +kernel, by decide +kernel⟩⟩
theorem clL_91 : CLV RL 91 yX6_pond 1 := ⟨gw_623, gw_624, gw_625, gw_68, ⟨by decide +kernel, by decide +kernel⟩⟩
theorem clL_94 : CLV RL 94 yX7_pond 1 := ⟨gw_1176, gw_1177, gw_1178, gw_75, ⟨by decide +kernel, by decide +kernel⟩⟩
theorem clL_95 : CLV RL 95 yX6_wrong 0 := ⟨gw_627, gw_628, gw_629, gw_68, ⟨by decide +kernel, by decide +kernel⟩⟩
theorem clL_98 : CLV RL 98 yX7_wrong 0 := ⟨gw_1180, gw_1181, gw_1182, gw_75, ⟨by decide +kernel, by decide +kernel⟩⟩
theorem clL_99 : CLV RL 99 yX6_spare 0 := ⟨gw_631, gw_632, gw_633, gw_68, ⟨by decide +kernel, by decide +kernel⟩⟩
theorem clL_102 : CLV RL 102 yX7_spare 0 := ⟨gw_1184, gw_1185, gw_1186, gw_75, ⟨by decide +kernel, by decide +kernel⟩⟩
theorem clL_103 : CLV RL 103 yX6_day 1 := ⟨gw_645, gw_646, gw_647, gw_68, ⟨by decide +kernel, by decide +kernel⟩⟩
theorem clL_106 : CLV RL 106 yX7_day 1 := ⟨gw_1065, gw_1066, gw_1067, gw_75, ⟨by decide +kernel, by decide +kernel⟩⟩
theorem clL_107 : CLV RL 107 yX6_judge 3 := ⟨gw_649, gw_650, gw_651, gw_68, ⟨by decide +kernel, by decide +kernel⟩⟩
theorem clL_110 : CLV RL 110 yX7_judge 3 := ⟨gw_1192, gw_1193, gw_1194, gw_75, ⟨by decide +kernel, by decide +kernel⟩⟩
theorem clL_111 : CLV RL 111 yX6_image 0 := ⟨gw_658, gw_659, gw_660, gw_68, ⟨by decide +kernel, by decide +kernel⟩⟩
theorem clL_114 : CLV RL 114 yX7_image 0 := ⟨gw_1200, gw_1201, gw_1202, gw_75, ⟨by decide +kernel, by decide +kernel⟩⟩
theorem clL_115 : CLV RL 115 yX6_undo 0 := ⟨gw_668, gw_669, gw_670, gw_68, ⟨by decide +kernel, by decide +kernel⟩⟩
theorem clL_118 : CLV RL 118 yX7_undo 0 := ⟨gw_1208, gw_1209, gw_1210, gw_75, ⟨by decide +kernel, by decide +kernel⟩⟩
theorem clL_119 : CLV RL 119 yX6_act 3 := ⟨gw_672, gw_673, gw_674, gw_68, ⟨by decide +kernel, by decide +kernel⟩⟩
theorem clL_122 : CLV RL 122 yX7_act 3 := ⟨gw_1212, gw_1213, gw_1214, gw_75, ⟨by decide +kernel, by decide +kernel⟩⟩
theorem clL_123 : CLV RL 123 yX6_trace 1 := ⟨gw_699, gw_700, gw_701, gw_68, ⟨by decide +kernel, by decide +kernel⟩⟩
theorem clL_126 : CLV RL 126 yX7_trace 1 := ⟨gw_1248, gw_1249, gw_1250, gw_75, ⟨by decide +kernel, by decide +kernel⟩⟩
theorem clL_127 : CLV RL 127 yX6_taken 2 := ⟨gw_703, gw_704, gw_705, gw_68, ⟨by decide +kernel, by decide +kernel⟩⟩
theorem clL_130 : CLV RL 130 yX7_taken 2 := ⟨gw_1252, gw_1253, gw_1254, gw_75, ⟨by decide +kernel, by decide +kernel⟩⟩
theorem clL_131 : CLV RL 131 yX6_count 1 := ⟨gw_712, gw_713, gw_714, gw_68, ⟨by decide +kernel, by decide +kernel⟩⟩
theorem clL_134 : CLV RL 134 yX7_count 1 := ⟨gw_1256, gw_1257, gw_1258, gw_75, ⟨by decide +kernel, by decide +kernel⟩⟩
theorem clL_135 : CLV RL 135 yX6_tape 3 := ⟨gw_716, gw_717, gw_718, gw_68, ⟨by decide +kernel, by decide +kernel⟩⟩
theorem clL_138 : CLV RL 138 yX7_tape 3 := ⟨gw_1260, gw_1261, gw_1262, gw_75, ⟨by decide +kernel, by decide +kernel⟩⟩
theorem clL_141 : CLV RL 141 yX6_item 3 := ⟨gw_728, gw_729, gw_730, gw_68, ⟨by decide +kernel, by decide +kernel⟩⟩
theorem clL_145 : CLV RL 145 yX7_item 3 := ⟨gw_1264, gw_1265, gw_1266, gw_75, ⟨by decide +kernel, by decide +kernel⟩⟩
theorem clL_146 : CLV RL 146 yX6_read 2 := ⟨gw_736, gw_737, gw_738, gw_68, ⟨by decide +kernel, by decide +kernel⟩⟩
theorem clL_149 : CLV RL 149 yX7_read 2 := ⟨gw_1272, gw_1273, gw_1274, gw_75, ⟨by decide +kernel, by decide +kernel⟩⟩
theorem clL_150 : CLV RL 150 yX6_shift 5 := ⟨gw_740, gw_741, gw_742, gw_68, ⟨by decide +kernel, by decide +kernel⟩⟩
theorem clL_154 : CLV RL 154 yX7_shift 5 := ⟨gw_1276, gw_1277, gw_1278, gw_75, ⟨by decide +kernel, by decide +kernel⟩⟩
theorem clX7_215 : CLV RX7 215 yX7_in 3 := ⟨gw_956, gw_958, gw_20, gw_75, ⟨by decide +kernel, by decide +kernel⟩⟩
theorem clX7_219 : CLV RX7 219 yX7_isGate 1 := ⟨gw_968, gw_970, gw_21, gw_75, ⟨by decide +kernel, by decide +kernel⟩⟩
theorem clX7_224 : CLV RX7 224 yX7_next 0 := ⟨gw_1001, gw_1003, gw_26, gw_75, ⟨by decide +kernel, by decide +kernel⟩⟩
theorem clX7_228 : CLV RX7 228 yX7_takesSign 1 := ⟨gw_1010, gw_1012, gw_28, gw_75, ⟨by decide +kernel, by decide +kernel⟩⟩
theorem clX7_231 : CLV RX7 231 yX7_isDigit 0 := ⟨gw_1021, gw_1023, gw_30, gw_75, ⟨by decide +kernel, by decide +kernel⟩⟩
theorem clX7_235 : CLV RX7 235 yX7_put 1 := ⟨gw_1033, gw_1035, gw_33, gw_75, ⟨by decide +kernel, by decide +kernel⟩⟩
theorem clX7_239 : CLV RX7 239 yX7_takesNumber 0 := ⟨gw_1017, gw_1019, gw_29, gw_75, ⟨by decide +kernel, by decide +kernel⟩⟩
theorem clX7_242 : CLV RX7 242 yX7_whole 0 := ⟨gw_1037, gw_1039, gw_34, gw_75, ⟨by decide +kernel, by decide +kernel⟩⟩
theorem clX7_245 : CLV RX7 245 yX7_takesTest 0 := ⟨gw_1029, gw_1031, gw_32, gw_75, ⟨by decide +kernel, by decide +kernel⟩⟩
theorem clX7_248 : CLV RX7 248 yX7_settle 1 := ⟨gw_1041, gw_1043, gw_35, gw_75, ⟨by decide +kernel, by decide +kernel⟩⟩
theorem clX7_251 : CLV RX7 251 yX7_second 0 := ⟨gw_997, gw_999, gw_25, gw_75, ⟨by decide +kernel, by decide +kernel⟩⟩
theorem clX7_255 : CLV RX7 255 yX7_takesWord 2 := ⟨gw_1006, gw_1008, gw_27, gw_75, ⟨by decide +kernel, by decide +kernel⟩⟩
theorem clX7_262 : CLV RX7 262 yX7_takesHead 1 := ⟨gw_993, gw_995, gw_24, gw_75, ⟨by decide +kernel, by decide +kernel⟩⟩
theorem clX7_265 : CLV RX7 265 yX7_takesE 1 := ⟨gw_1025, gw_1027, gw_31, gw_75, ⟨by decide +kernel, by decide +kernel⟩⟩
theorem clX7_268 : CLV RX7 268 yX7_takesClause 1 := ⟨gw_989, gw_991, gw_23, gw_75, ⟨by decide +kernel, by decide +kernel⟩⟩
theorem clX7_271 : CLV RX7 271 yX7_goesText 1 := ⟨gw_985, gw_987, gw_22, gw_75, ⟨by decide +kernel, by decide +kernel⟩⟩
theorem clX7_274 : CLV RX7 274 yX7_first 0 := ⟨gw_1053, gw_1055, gw_37, gw_75, ⟨by decide +kernel, by decide +kernel⟩⟩
theorem clX7_277 : CLV RX7 277 yX7_behind 0 := ⟨gw_1057, gw_1059, gw_38, gw_75, ⟨by decide +kernel, by decide +kernel⟩⟩
theorem clX7_280 : CLV RX7 280 yX7_last 3 := ⟨gw_1049, gw_1051, gw_36, gw_75, ⟨by decide +kernel, by decide +kernel⟩⟩
theorem clX7_284 : CLV RX7 284 yX7_min 2 := ⟨gw_1061, gw_1063, gw_39, gw_75, ⟨by decide +kernel, by decide +kernel⟩⟩
theorem clX7_288 : CLV RX7 288 yX7_holds 3 := ⟨gw_1081, gw_1083, gw_42, gw_75, ⟨by decide +kernel, by decide +kernel⟩⟩
theorem clX7_291 : CLV RX7 291 yX7_isHour 1 := ⟨gw_1073, gw_1075, gw_40, gw_75, ⟨by decide +kernel, by decide +kernel⟩⟩
theorem clX7_294 : CLV RX7 294 yX7_meltOf 2 := ⟨gw_1077, gw_1079, gw_41, gw_75, ⟨by decide +kernel, by decide +kernel⟩⟩
theorem clX7_297 : CLV RX7 297 yX7_told 2 := ⟨gw_1097, gw_1046, gw_1047, gw_75, ⟨by decide +kernel, by decide +kernel⟩⟩
theorem clX7_300 : CLV RX7 300 yX7_less 2 := ⟨gw_1106, gw_1108, gw_47, gw_75, ⟨by decide +kernel, by decide +kernel⟩⟩
theorem clX7_303 : CLV RX7 303 yX7_has 2 := ⟨gw_1114, gw_1116, gw_49, gw_75, ⟨by decide +kernel, by decide +kernel⟩⟩
theorem clX7_306 : CLV RX7 306 yX7_sets 3 := ⟨gw_1102, gw_1104, gw_46, gw_75, ⟨by decide +kernel, by decide +kernel⟩⟩
theorem clX7_310 : CLV RX7 310 yX7_takes 4 := ⟨gw_1110, gw_1112, gw_48, gw_75, ⟨by decide +kernel, by decide +kernel⟩⟩
theorem clX7_314 : CLV RX7 314 yX7_isPlace 1 := ⟨gw_1089, gw_1091, gw_43, gw_75, ⟨by decide +kernel, by decide +kernel⟩⟩
theorem clX7_317 : CLV RX7 317 yX7_asIs 0 := ⟨gw_1093, gw_1095, gw_44, gw_75, ⟨by decide +kernel, by decide +kernel⟩⟩
theorem clX7_320 : CLV RX7 320 yX7_go 0 := ⟨gw_1098, gw_1100, gw_45, gw_75, ⟨by decide +kernel, by decide +kernel⟩⟩
theorem clX7_323 : CLV RX7 323 yX7_floods 0 := ⟨gw_1122, gw_1124, gw_50, gw_75, ⟨by decide +kernel, by decide +kernel⟩⟩
theorem clX7_326 : CLV RX7 326 yX7_serve 0 := ⟨gw_1138, gw_1140, gw_52, gw_75, ⟨by decide +kernel, by decide +kernel⟩⟩
theorem clX7_329 : CLV RX7 329 yX7_worthNow 0 := ⟨gw_1134, gw_1136, gw_51, gw_75, ⟨by decide +kernel, by decide +kernel⟩⟩
theorem clX7_334 : CLV RX7 334 yX7_oddsOf 1 := ⟨gw_1167, gw_1169, gw_53, gw_75, ⟨by decide +kernel, by decide +kernel⟩⟩
theorem clX7_340 : CLV RX7 340 yX7_divisor 2 := ⟨gw_1172, gw_1174, gw_54, gw_75, ⟨by decide +kernel, by decide +kernel⟩⟩
theorem clX7_344 : CLV RX7 344 yX7_ones 1 := ⟨gw_1188, gw_1190, gw_55, gw_75, ⟨by decide +kernel, by decide +kernel⟩⟩
theorem clX7_347 : CLV RX7 347 yX7_isTape 1 := ⟨gw_1196, gw_1198, gw_56, gw_75, ⟨by decide +kernel, by decide +kernel⟩⟩
theorem clX7_350 : CLV RX7 350 yX7_copy 2 := ⟨gw_1204, gw_1206, gw_57, gw_75, ⟨by decide +kernel, by decide +kernel⟩⟩
theorem clX7_354 : CLV RX7 354 yX7_body 1 := ⟨gw_1220, gw_1222, gw_59, gw_75, ⟨by decide +kernel, by decide +kernel⟩⟩
theorem clX7_357 : CLV RX7 357 yX7_plainLets 2 := ⟨gw_1224, gw_1226, gw_60, gw_75, ⟨by decide +kernel, by decide +kernel⟩⟩
theorem clX7_360 : CLV RX7 360 yX7_letsAct 2 := ⟨gw_1216, gw_1218, gw_58, gw_75, ⟨by decide +kernel, by decide +kernel⟩⟩
theorem clX7_363 : CLV RX7 363 yX7_plainTakes 2 := ⟨gw_1236, gw_1238, gw_63, gw_75, ⟨by decide +kernel, by decide +kernel⟩⟩
theorem clX7_366 : CLV RX7 366 yX7_clockTakes 2 := ⟨gw_1232, gw_1234, gw_62, gw_75, ⟨by decide +kernel, by decide +kernel⟩⟩
theorem clX7_369 : CLV RX7 369 yX7_takesAct 2 := ⟨gw_1228, gw_1230, gw_61, gw_75, ⟨by decide +kernel, by decide +kernel⟩⟩
theorem clX7_372 : CLV RX7 372 yX7_plainTells 2 := ⟨gw_1244, gw_1246, gw_65, gw_75, ⟨by decide +kernel, by decide +kernel⟩⟩
theorem clX7_375 : CLV RX7 375 yX7_tellsAct 2 := ⟨gw_1240, gw_1242, gw_64, gw_75, ⟨by decide +kernel, by decide +kernel⟩⟩
theorem clX7_378 : CLV RX7 378 yX7_narrow 2 := ⟨gw_1268, gw_1270, gw_66, gw_75, ⟨by decide +kernel, by decide +kernel⟩⟩
end
section
/-! the texts: length and charAt of the five String constants -/
theorem dJ0_coder_7d493_0 : decode cJ0_coder_7d493 0 = .ok (.getstatic 38, 3) := by decide +kernel
theorem dJ0_coder_7d493_3 : decode cJ0_coder_7d493 3 = .ok (.ifCond .eq 10, 3) := by decide +kernel
theorem dJ0_coder_7d493_6 : decode cJ0_coder_7d493 6 = .ok (.aload_n 0, 1) := by decide +kernel
theorem dJ0_coder_7d493_7 : decode cJ0_coder_7d493 7 = .ok (.getfield 15, 3) := by decide +kernel
theorem dJ0_coder_7d493_10 : decode cJ0_coder_7d493 10 = .ok (.goto 4, 3) := by decide +kernel
theorem dJ0_coder_7d493_13 : decode cJ0_coder_7d493 13 = .ok (.iconst 1, 1) := by decide +kernel
theorem dJ0_coder_7d493_14 : decode cJ0_coder_7d493 14 = .ok (.ireturn, 1) := by decide +kernel
theorem dJ0_length_8abf5_0 : decode cJ0_length_8abf5 0 = .ok (.aload_n 0, 1) := by decide +kernel
theorem dJ0_length_8abf5_1 : decode cJ0_length_8abf5 1 = .ok (.getfield 9, 3) := by decide +kernel
theorem dJ0_length_8abf5_4 : decode cJ0_length_8abf5 4 = .ok (.arraylength, 1) := by decide +kernel
theorem dJ0_length_8abf5_5 : decode cJ0_length_8abf5 5 = .ok (.aload_n 0, 1) := by decide +kernel
theorem dJ0_length_8abf5_6 : decode cJ0_length_8abf5 6 = .ok (.invokevirtual 335, 3) := by decide +kernel
theorem dJ0_length_8abf5_9 : decode cJ0_length_8abf5 9 = .ok (.ishr, 1) := by decide +kernel
theorem dJ0_length_8abf5_10 : decode cJ0_length_8abf5 10 = .ok (.ireturn, 1) := by decide +kernel
theorem dJ0_isLatin1_aae02_0 : decode cJ0_isLatin1_aae02 0 = .ok (.getstatic 38, 3) := by decide +kernel
theorem dJ0_isLatin1_aae02_3 : decode cJ0_isLatin1_aae02 3 = .ok (.ifCond .eq 14, 3) := by decide +kernel
theorem dJ0_isLatin1_aae02_6 : decode cJ0_isLatin1_aae02 6 = .ok (.aload_n 0, 1) := by decide +kernel
theorem dJ0_isLatin1_aae02_7 : decode cJ0_isLatin1_aae02 7 = .ok (.getfield 15, 3) := by decide +kernel
theorem dJ0_isLatin1_aae02_10 : decode cJ0_isLatin1_aae02 10 = .ok (.ifCond .ne 7, 3) := by decide +kernel
theorem dJ0_isLatin1_aae02_13 : decode cJ0_isLatin1_aae02 13 = .ok (.iconst 1, 1) := by decide +kernel
theorem dJ0_isLatin1_aae02_14 : decode cJ0_isLatin1_aae02 14 = .ok (.goto 4, 3) := by decide +kernel
theorem dJ0_isLatin1_aae02_17 : decode cJ0_isLatin1_aae02 17 = .ok (.iconst 0, 1) := by decide +kernel
theorem dJ0_isLatin1_aae02_18 : decode cJ0_isLatin1_aae02 18 = .ok (.ireturn, 1) := by decide +kernel
theorem dJ3_checkIndex_8e157_0 : decode cJ3_checkIndex_8e157 0 = .ok (.iload_n 0, 1) := by decide +kernel
theorem dJ3_checkIndex_8e157_1 : decode cJ3_checkIndex_8e157 1 = .ok (.ifCond .lt 8, 3) := by decide +kernel
theorem dJ3_checkIndex_8e157_4 : decode cJ3_checkIndex_8e157 4 = .ok (.iload_n 0, 1) := by decide +kernel
theorem dJ3_checkIndex_8e157_5 : decode cJ3_checkIndex_8e157 5 = .ok (.iload_n 1, 1) := by decide +kernel
theorem dJ3_checkIndex_8e157_6 : decode cJ3_checkIndex_8e157 6 = .ok (.if_icmp .lt 10, 3) := by decide +kernel
theorem dJ3_checkIndex_8e157_9 : decode cJ3_checkIndex_8e157 9 = .ok (.aload_n 2, 1) := by decide +kernel
theorem dJ3_checkIndex_8e157_10 : decode cJ3_checkIndex_8e157 10 = .ok (.iload_n 0, 1) := by decide +kernel
theorem dJ3_checkIndex_8e157_11 : decode cJ3_checkIndex_8e157 11 = .ok (.iload_n 1, 1) := by decide +kernel
theorem dJ3_checkIndex_8e157_12 : decode cJ3_checkIndex_8e157 12 = .ok (.invokestatic 95, 3) := by decide +kernel
theorem dJ3_checkIndex_8e157_15 : decode cJ3_checkIndex_8e157 15 = .ok (.athrow, 1) := by decide +kernel
theorem dJ3_checkIndex_8e157_16 : decode cJ3_checkIndex_8e157 16 = .ok (.iload_n 0, 1) := by decide +kernel
theorem dJ3_checkIndex_8e157_17 : decode cJ3_checkIndex_8e157 17 = .ok (.ireturn, 1) := by decide +kernel
theorem dJ0_checkIndex_df160_0 : decode cJ0_checkIndex_df160 0 = .ok (.iload_n 0, 1) := by decide +kernel
theorem dJ0_checkIndex_df160_1 : decode cJ0_checkIndex_df160 1 = .ok (.iload_n 1, 1) := by decide +kernel
theorem dJ0_checkIndex_df160_2 : decode cJ0_checkIndex_df160 2 = .ok (.getstatic 1053, 3) := by decide +kernel
theorem dJ0_checkIndex_df160_5 : decode cJ0_checkIndex_df160 5 = .ok (.invokestatic 1059, 3) := by decide +kernel
theorem dJ0_checkIndex_df160_8 : decode cJ0_checkIndex_df160 8 = .ok (.pop, 1) := by decide +kernel
theorem dJ0_checkIndex_df160_9 : decode cJ0_checkIndex_df160 9 = .ok (.return_, 1) := by decide +kernel
theorem dJ1_charAt_3b067_0 : decode cJ1_charAt_3b067 0 = .ok (.iload_n 1, 1) := by decide +kernel
theorem dJ1_charAt_3b067_1 : decode cJ1_charAt_3b067 1 = .ok (.aload_n 0, 1) := by decide +kernel
theorem dJ1_charAt_3b067_2 : decode cJ1_charAt_3b067 2 = .ok (.arraylength, 1) := by decide +kernel
theorem dJ1_charAt_3b067_3 : decode cJ1_charAt_3b067 3 = .ok (.invokestatic 9, 3) := by decide +kernel
theorem dJ1_charAt_3b067_6 : decode cJ1_charAt_3b067 6 = .ok (.aload_n 0, 1) := by decide +kernel
theorem dJ1_charAt_3b067_7 : decode cJ1_charAt_3b067 7 = .ok (.iload_n 1, 1) := by decide +kernel
theorem dJ1_charAt_3b067_8 : decode cJ1_charAt_3b067 8 = .ok (.baload, 1) := by decide +kernel
theorem dJ1_charAt_3b067_9 : decode cJ1_charAt_3b067 9 = .ok (.sipush 255, 3) := by decide +kernel
theorem dJ1_charAt_3b067_12 : decode cJ1_charAt_3b067 12 = .ok (.iand, 1) := by decide +kernel
theorem dJ1_charAt_3b067_13 : decode cJ1_charAt_3b067 13 = .ok (.i2c, 1) := by decide +kernel
theorem dJ1_charAt_3b067_14 : decode cJ1_charAt_3b067 14 = .ok (.ireturn, 1) := by decide +kernel
theorem dJ0_charAt_5068e_0 : decode cJ0_charAt_5068e 0 = .ok (.aload_n 0, 1) := by decide +kernel
theorem dJ0_charAt_5068e_1 : decode cJ0_charAt_5068e 1 = .ok (.invokevirtual 492, 3) := by decide +kernel
theorem dJ0_charAt_5068e_4 : decode cJ0_charAt_5068e 4 = .ok (.ifCond .eq 12, 3) := by decide +kernel
theorem dJ0_charAt_5068e_7 : decode cJ0_charAt_5068e 7 = .ok (.aload_n 0, 1) := by decide +kernel
theorem dJ0_charAt_5068e_8 : decode cJ0_charAt_5068e 8 = .ok (.getfield 9, 3) := by decide +kernel
theorem dJ0_charAt_5068e_11 : decode cJ0_charAt_5068e 11 = .ok (.iload_n 1, 1) := by decide +kernel
theorem dJ0_charAt_5068e_12 : decode cJ0_charAt_5068e 12 = .ok (.invokestatic 495, 3) := by decide +kernel
theorem dJ0_charAt_5068e_15 : decode cJ0_charAt_5068e 15 = .ok (.ireturn, 1) := by decide +kernel
theorem dJ0_charAt_5068e_16 : decode cJ0_charAt_5068e 16 = .ok (.aload_n 0, 1) := by decide +kernel
theorem dJ0_charAt_5068e_17 : decode cJ0_charAt_5068e 17 = .ok (.getfield 9, 3) := by decide +kernel
theorem dJ0_charAt_5068e_20 : decode cJ0_charAt_5068e 20 = .ok (.iload_n 1, 1) := by decide +kernel
theorem dJ0_charAt_5068e_21 : decode cJ0_charAt_5068e 21 = .ok (.invokestatic 498, 3) := by decide +kernel
theorem dJ0_charAt_5068e_24 : decode cJ0_charAt_5068e 24 = .ok (.ireturn, 1) := by decide +kernel
abbrev sA (G : GT) : Nat → Nat := G.2.2.2.2.1
abbrev sV (G : GT) : Nat → Nat := G.2.2.2.2.2.1
def stL (i : Nat) : Option Int32 := if i < 5 then some (Int32.ofNat (sLen.getD i 0)) else none
def stC (i : Nat) (k : Int32) : Option Int32 := if i < 5 ∧ ¬ (k < 0 ∨ sLen.getD i 0 ≤ k.toNatClampNeg) then some ((sByt.getD i []).getD k.toNatClampNeg 0) else none
theorem st_ok : ∀ i, i < 5 → ∀ k, k < 4 → ((((sByt.getD i []).getD k 0) &&& 255).toUInt32 % 65536).toInt32 = (sByt.getD i []).getD k 0 ∧ narrow .char (.int ((sByt.getD i []).getD k 0)) = .int ((sByt.getD i []).getD k 0) := by decide +kernel
theorem st_len : ∀ i, i < 5 → sLen.getD i 0 ≤ 4 := by decide
section JS
variable {G : GT} {X : XT} {Q : State → Prop} {nL : Nat} {sh : SH} {I : IH} {L : LH} {n e es pc : Nat} {ls : List (Nat × Value)} {st : List Value}
variable {own : String} {cc : ByteArray} {d : Nat} {ret : Option FieldType} {nm : String}
theorem j_ldcS (F : MF G X RX1 cc nL d ret nm) {ix : Nat} {tx : String} (i : Nat) (hi : sIx[i]? = some (ix, tx)) (hd : decode cc pc = .ok (.ldc ix, 2)) (kk : J G X Q nL sh I L n e es (pc + 2) ls (.ref (sA G i) :: st)) : J G X Q nL sh I L n e es pc ls st := by
  obtain ⟨p, l, e', R, s, m, args, below, meth, c⟩ := X
  obtain ⟨hx, hb, hml, hown, hts, hr, hlocks, hnm, hK, hq0, hq1, hRf, hRl⟩ := F
  intro H locs cells slots LS h1 h2 h3 h4 h5
  exact va_ldcS hx hb hown (hK.2.2.2.2.1 i _ hi) hd (kk H locs cells slots LS h1 h2 h3 h4 h5)
theorem j_getCS (F : MF G X own cc nL d ret nm) {ix : Nat} (hw : Cond.fieldLink own ix "java/lang/String" "COMPACT_STRINGS" "Z" ∈ lw_good) (hd : decode cc pc = .ok (.getstatic ix, 3)) (kk : J G X Q nL sh I L n e es (pc + 3) ls (.int 1 :: st)) : J G X Q nL sh I L n e es pc ls st := by
  obtain ⟨p, l, e', R, s, m, args, below, meth, c⟩ := X
  obtain ⟨hx, hb, hml, hown, hts, hr, hlocks, hnm, hK, hq0, hq1, hRf, hRl⟩ := F
  intro H locs cells slots LS h1 h2 h3 h4 h5
  obtain ⟨cf, kf, fi, f, a, cell, z1, z2, z3, z4, z5, z6, z7, z8⟩ := hK.2.2.2.2.2.2.2.2.1
  exact W.gets hx hb hown (hts _ hw) z1 z2 z3 z4 (by rw [h3.2.2.1 a (Array.getElem?_eq_some_iff.mp z5).1]; exact z5) (fun e => by rw [e] at z6; cases z6) z7 rfl hd (kk H locs cells slots LS h1 h2 h3 h4 h5)
theorem j_getSF (F : MF G X own cc nL d ret nm) {ix : Nat} (hw : Cond.fieldLink own ix "jdk/internal/util/Preconditions" "SIOOBE_FORMATTER" "Ljava/util/function/BiFunction;" ∈ lw_good) (hd : decode cc pc = .ok (.getstatic ix, 3)) (kk : J G X Q nL sh I L n e es (pc + 3) ls (.ref G.2.2.2.2.2.2.2 :: st)) : J G X Q nL sh I L n e es pc ls st := by
  obtain ⟨p, l, e', R, s, m, args, below, meth, c⟩ := X
  obtain ⟨hx, hb, hml, hown, hts, hr, hlocks, hnm, hK, hq0, hq1, hRf, hRl⟩ := F
  intro H locs cells slots LS h1 h2 h3 h4 h5
  obtain ⟨cf, kf, fi, f, a, cell, z1, z2, z3, z4, z5, z6, z7, z8⟩ := hK.2.2.2.2.2.2.2.2.2
  exact W.gets hx hb hown (hts _ hw) z1 z2 z3 z4 (by rw [h3.2.2.1 a (Array.getElem?_eq_some_iff.mp z5).1]; exact z5) (fun e => by rw [e] at z6; cases z6) z7 rfl hd (kk H locs cells slots LS h1 h2 h3 h4 h5)
theorem j_getSC (F : MF G X own cc nL d ret nm) {ix i : Nat} (hi : i < 5) (hw : Cond.fieldLink own ix "java/lang/String" "coder" "B" ∈ lw_good) (hd : decode cc pc = .ok (.getfield ix, 3)) (kk : J G X Q nL sh I L n e es (pc + 3) ls (.int 0 :: st)) : J G X Q nL sh I L n e es pc ls (.ref (sA G i) :: st) := by
  obtain ⟨p, l, e', R, s, m, args, below, meth, c⟩ := X
  obtain ⟨hx, hb, hml, hown, hts, hr, hlocks, hnm, hK, hq0, hq1, hRf, hRl⟩ := F
  intro H locs cells slots LS h1 h2 h3 h4 h5
  obtain ⟨cf, k, fi, f, cell, z1, z2, z3, z4, z5, z6⟩ := (hK.2.2.2.2.2.1.1 i hi).2.1
  exact W.getf hx hb hown (hts _ hw) z1 z2 (by rw [h3.2.2.1 _ (Array.getElem?_eq_some_iff.mp z3).1]; exact z3) z4 (v := .int 0) z5 rfl rfl hd (kk H locs cells slots LS h1 h2 h3 h4 h5)
theorem j_getSV (F : MF G X own cc nL d ret nm) {ix i : Nat} (hi : i < 5) (hw : Cond.fieldLink own ix "java/lang/String" "value" "[B" ∈ lw_good) (hd : decode cc pc = .ok (.getfield ix, 3)) (kk : J G X Q nL sh I L n e es (pc + 3) ls (.ref (sV G i) :: st)) : J G X Q nL sh I L n e es pc ls (.ref (sA G i) :: st) := by
  obtain ⟨p, l, e', R, s, m, args, below, meth, c⟩ := X
  obtain ⟨hx, hb, hml, hown, hts, hr, hlocks, hnm, hK, hq0, hq1, hRf, hRl⟩ := F
  intro H locs cells slots LS h1 h2 h3 h4 h5
  obtain ⟨cf, k, fi, f, cell, z1, z2, z3, z4, z5, z6⟩ := (hK.2.2.2.2.2.1.1 i hi).2.2.1
  exact W.getf hx hb hown (hts _ hw) z1 z2 (by rw [h3.2.2.1 _ (Array.getElem?_eq_some_iff.mp z3).1]; exact z3) z4 (v := .ref (sV G i)) z5 rfl rfl hd (kk H locs cells slots LS h1 h2 h3 h4 h5)
theorem j_lenSV (F : MF G X own cc nL d ret nm) {i : Nat} (hi : i < 5) (hd : decode cc pc = .ok (.arraylength, 1)) (kk : J G X Q nL sh I L n e es (pc + 1) ls (.int (Int32.ofNat (sLen.getD i 0)) :: st)) : J G X Q nL sh I L n e es pc ls (.ref (sV G i) :: st) := by
  obtain ⟨p, l, e', R, s, m, args, below, meth, c⟩ := X
  obtain ⟨hx, hb, hml, hown, hts, hr, hlocks, hnm, hK, hq0, hq1, hRf, hRl⟩ := F
  intro H locs cells slots LS h1 h2 h3 h4 h5
  obtain ⟨cell, z1, z2, z3, z4, z5, z6, z7⟩ := (hK.2.2.2.2.2.1.1 i hi).2.2.2
  exact W.alen (n := Int32.ofNat (sLen.getD i 0)) hx hb (by rw [h3.2.2.1 _ (Array.getElem?_eq_some_iff.mp z1).1]; exact z1) z2 z5 rfl rfl hd (kk H locs cells slots LS h1 h2 h3 h4 h5)
theorem j_bldSV (F : MF G X own cc nL d ret nm) {i : Nat} {k : Int32} (hi : i < 5) (hk : vp_in k (sLen.getD i 0)) (hd : decode cc pc = .ok (.baload, 1)) (kk : J G X Q nL sh I L n e es (pc + 1) ls (.int ((sByt.getD i []).getD k.toNatClampNeg 0) :: st)) : J G X Q nL sh I L n e es pc ls (.int k :: .ref (sV G i) :: st) := by
  obtain ⟨p, l, e', R, s, m, args, below, meth, c⟩ := X
  obtain ⟨hx, hb, hml, hown, hts, hr, hlocks, hnm, hK, hq0, hq1, hRf, hRl⟩ := F
  intro H locs cells slots LS h1 h2 h3 h4 h5
  obtain ⟨cell, z1, z2, z3, z4, z5, z6, z7⟩ := (hK.2.2.2.2.2.1.1 i hi).2.2.2
  have hlt : k.toNatClampNeg < sLen.getD i 0 := Nat.not_le.mp fun q => hk (Or.inr q)
  have hin' : ¬ (k < 0 ∨ cell.slots.size ≤ k.toNatClampNeg) := by
    intro q
    rcases q with q | q
    · exact hk (Or.inl q)
    · omega
  exact W.bald (v := .int ((sByt.getD i []).getD k.toNatClampNeg 0)) hx hb (by rw [h3.2.2.1 _ (Array.getElem?_eq_some_iff.mp z1).1]; exact z1) z2 z3 hin' (by rw [z6 _ hlt]) rfl rfl hd (kk H locs cells slots LS h1 h2 h3 h4 h5)
theorem j_callVS (F : MF G X own cc nL d ret nm) {ix cnt d' nL' i : Nat} {y : MethodName} {cc' : ByteArray} {ret' : Option FieldType} {As st0 : List Value} {v : Value} (hi : i < 5) (cl : CLV own ix y cnt) (hcode : Cond.code y cc' nL' ret' ∈ lw_good) (hC : y.cls = "java/lang/String") (hct : Ct G y cc' nL' ret' d' (.ref (sA G i) :: As) sh I L n (some v) sh I L n 0 0) (hdk : dok d' nL' d = true) (hn : As.length = cnt) (hs0 : st0 = As.reverse ++ .ref (sA G i) :: st) (hst : Nat.ble ((st.map fun v => v.category).sum) 8 = true) (hd : decode cc pc = .ok (.invokevirtual ix, 3)) (kk : J G X Q nL sh I L n e es (pc + 3) ls (v :: st)) : J G X Q nL sh I L n e es pc ls st0 := by
  obtain ⟨p, l, e', R, s, m, args, below, meth, c⟩ := X
  obtain ⟨hx, hb, hml, hown, hts, hr, hlocks, hnm, hK, hq0, hq1, hRf, hRl⟩ := F
  intro H locs cells slots LS h1 h2 h3 h4 h5
  obtain ⟨w1, w2, w3, w4, w5⟩ := cl
  have hf := dok_fr hdk
  obtain ⟨cell, z1, z2, z3, z4⟩ := (hK.2.2.2.2.2.1.1 i hi).1
  refine run_W (va_runV (C := y.cls) (As := As) (rest := st) ⟨hx, hb, hml, hown, hts⟩ (hct l) ⟨⟨rfl, rfl, by rw [hRf]; exact hf.1, by rw [hRl]; exact hf.2, pay_in hts (goodU hcode), List.mem_cons_self, hts _ hcode, hts _ w4, w5.1, cwd_len w5, hts _ w1⟩, hts _ w2, hts _ w3⟩ ⟨PcT.blind, ⟨cell, by rw [h3.2.2.1 _ (Array.getElem?_eq_some_iff.mp z1).1]; exact z1, z2, by rw [hC]; exact z3⟩, preT (As := .ref (sA G i) :: As) h3 hK⟩ rfl hn h5.1 hs0 (lv_room (Nat.le_of_ble_eq_true hst)) hd ⟨by omega, by omega⟩) h4 (fun H1 locs1 k3 k4 => ?_)
  exact kk H1 locs1 (cells + 0) (slots + 0) LS (by omega) (by omega) k3 k4 h5
end JS
theorem ctJ0_coder (G : GT) {sh : SH} {I : IH} {L : LH} {n i : Nat} (hi : i < 5) : Ct G yJ0_coder_7d493 cJ0_coder_7d493 1 (some .byte) 0 [.ref (sA G i)] sh I L n (some (.int 0)) sh I L n 0 0 := by
  refine ct_ofJ (y := yJ0_coder_7d493) (by decide +kernel) rfl (fun X F => ?_)
  have F : MF G X RJ0 cJ0_coder_7d493 1 0 (some .byte) "coder" := F
  refine j_getCS (pc := 0) F (good_of 364 (by decide +kernel) rfl) dJ0_coder_7d493_0 ?_
  refine j_if_eq (pc := 3) F 13 dJ0_coder_7d493_3 rfl (fun c => absurd c (by decide)) (fun c => ?_)
  refine j_aload_n (pc := 6) (k0 := 0) F 0 rfl dJ0_coder_7d493_6 ?_
  refine j_getSC (pc := 7) F hi (good_of 1282 (by decide +kernel) rfl) dJ0_coder_7d493_7 ?_
  refine j_goto (pc := 10) F 14 dJ0_coder_7d493_10 rfl ?_
  exact j_nret (pc := 14) F rfl rfl dJ0_coder_7d493_14
set_option maxRecDepth 100000 in
theorem ctJ0_length (G : GT) {sh : SH} {I : IH} {L : LH} {n i : Nat} (hi : i < 5) : Ct G yJ0_length_8abf5 cJ0_length_8abf5 1 (some .int) 1 [.ref (sA G i)] sh I L n (some (.int (Int32.ofNat (sLen.getD i 0)))) sh I L n 0 0 := by
  refine ct_ofJ (y := yJ0_length_8abf5) (by decide +kernel) rfl (fun X F => ?_)
  have F : MF G X RJ0 cJ0_length_8abf5 1 1 (some .int) "length" := F
  refine j_aload_n (pc := 0) (k0 := 0) F 0 rfl dJ0_length_8abf5_0 ?_
  refine j_getSV (pc := 1) F hi (good_of 1281 (by decide +kernel) rfl) dJ0_length_8abf5_1 ?_
  refine j_lenSV (pc := 4) F hi dJ0_length_8abf5_4 ?_
  refine j_aload_n (pc := 5) (k0 := 0) F 0 rfl dJ0_length_8abf5_5 ?_
  refine j_callVS (pc := 6) (As := []) (st := [.int (Int32.ofNat (sLen.getD i 0))]) F hi ⟨(good_of 360 (by decide +kernel) rfl), (good_of 361 (by decide +kernel) rfl), (good_of 362 (by decide +kernel) rfl), (good_of 78 (by decide +kernel) rfl), by decide +kernel, by decide +kernel⟩ (good_of 363 rfl rfl) rfl (ctJ0_coder G hi) rfl rfl rfl rfl dJ0_length_8abf5_6 ?_
  refine j_ishr (pc := 9) F dJ0_length_8abf5_9 ?_
  rw [sb_shr0]
  exact j_iret (pc := 10) F dJ0_length_8abf5_10
theorem ctJ0_isLatin1 (G : GT) {sh : SH} {I : IH} {L : LH} {n i : Nat} (hi : i < 5) : Ct G yJ0_isLatin1_aae02 cJ0_isLatin1_aae02 1 (some .boolean) 0 [.ref (sA G i)] sh I L n (some (.int 1)) sh I L n 0 0 := by
  refine ct_ofJ (y := yJ0_isLatin1_aae02) (by decide +kernel) rfl (fun X F => ?_)
  have F : MF G X RJ0 cJ0_isLatin1_aae02 1 0 (some .boolean) "isLatin1" := F
  refine j_getCS (pc := 0) F (good_of 364 (by decide +kernel) rfl) dJ0_isLatin1_aae02_0 ?_
  refine j_if_eq (pc := 3) F 17 dJ0_isLatin1_aae02_3 rfl (fun c => absurd c (by decide)) (fun c => ?_)
  refine j_aload_n (pc := 6) (k0 := 0) F 0 rfl dJ0_isLatin1_aae02_6 ?_
  refine j_getSC (pc := 7) F hi (good_of 1282 (by decide +kernel) rfl) dJ0_isLatin1_aae02_7 ?_
  refine j_if_ne (pc := 10) F 17 dJ0_isLatin1_aae02_10 rfl (fun c => absurd rfl c) (fun c => ?_)
  refine j_iconst (pc := 13) F 1 dJ0_isLatin1_aae02_13 (by decide) ?_
  refine j_goto (pc := 14) F 18 dJ0_isLatin1_aae02_14 rfl ?_
  exact j_zret (pc := 18) F (Or.inr rfl) dJ0_isLatin1_aae02_18
theorem ctJ3_checkIndex (G : GT) {sh : SH} {I : IH} {L : LH} {n a : Nat} {k z : Int32} (h1 : ¬ k < 0) (h2 : k < z) : Ct G yJ3_checkIndex_8e157 cJ3_checkIndex_8e157 3 (some .int) 0 [.int k, .int z, .ref a] sh I L n (some (.int k)) sh I L n 0 0 := by
  refine ct_ofJ (y := yJ3_checkIndex_8e157) (by decide +kernel) rfl (fun X F => ?_)
  have F : MF G X RJ3 cJ3_checkIndex_8e157 3 0 (some .int) "checkIndex" := F
  refine j_iload_n (pc := 0) (k0 := 0) F 0 rfl dJ3_checkIndex_8e157_0 ?_
  refine j_if_lt (pc := 1) F 9 dJ3_checkIndex_8e157_1 rfl (fun c => absurd c h1) (fun c => ?_)
  refine j_iload_n (pc := 4) (k0 := 0) F 0 rfl dJ3_checkIndex_8e157_4 ?_
  refine j_iload_n (pc := 5) (k0 := 1) F 1 rfl dJ3_checkIndex_8e157_5 ?_
  refine j_icmp_lt (pc := 6) F 16 dJ3_checkIndex_8e157_6 rfl (fun c => ?_) (fun c => absurd h2 c)
  refine j_iload_n (pc := 16) (k0 := 0) F 0 rfl dJ3_checkIndex_8e157_16 ?_
  exact j_iret (pc := 17) F dJ3_checkIndex_8e157_17
set_option maxRecDepth 100000 in
theorem ctJ0_checkIndex (G : GT) {sh : SH} {I : IH} {L : LH} {n : Nat} {k z : Int32} (h1 : ¬ k < 0) (h2 : k < z) : Ct G yJ0_checkIndex_df160 cJ0_checkIndex_df160 2 none 1 [.int k, .int z] sh I L n none sh I L n 0 0 := by
  refine ct_ofJ (y := yJ0_checkIndex_df160) (by decide +kernel) rfl (fun X F => ?_)
  have F : MF G X RJ0 cJ0_checkIndex_df160 2 1 none "checkIndex" := F
  refine j_iload_n (pc := 0) (k0 := 0) F 0 rfl dJ0_checkIndex_df160_0 ?_
  refine j_iload_n (pc := 1) (k0 := 1) F 1 rfl dJ0_checkIndex_df160_1 ?_
  refine j_getSF (pc := 2) F (good_of 380 (by decide +kernel) rfl) dJ0_checkIndex_df160_2 ?_
  refine j_callS1 (pc := 5) (cnt := 3) (As := [.int k, .int z, .ref G.2.2.2.2.2.2.2]) (st := []) (e1 := 0) (es1 := 0) F ⟨(good_of 382 (by decide +kernel) rfl), (good_of 383 (by decide +kernel) rfl), (good_of 80 (by decide +kernel) rfl), by decide +kernel, by decide +kernel⟩ (good_of 384 rfl rfl) (ctJ3_checkIndex G h1 h2) rfl rfl rfl rfl rfl rfl dJ0_checkIndex_df160_5 ?_
  refine j_pop (pc := 8) F dJ0_checkIndex_df160_8 rfl ?_
  exact j_vret (pc := 9) F dJ0_checkIndex_df160_9
theorem st_lt {i : Nat} {k : Int32} (hi : i < 5) (hk : vp_in k (sLen.getD i 0)) : ¬ k < 0 ∧ k < Int32.ofNat (sLen.getD i 0) ∧ k.toNatClampNeg < 4 := by
  have h4 := st_len i hi
  obtain ⟨j, hj, rfl⟩ := vp_in_of hk (by omega)
  refine ⟨nI_pos (by omega), nI_lt hj (by omega), ?_⟩
  rw [nI_clamp (by omega)]
  omega
set_option maxRecDepth 100000 in
theorem ctJ1_charAt (G : GT) {sh : SH} {I : IH} {L : LH} {n i : Nat} {k : Int32} (hi : i < 5) (hk : vp_in k (sLen.getD i 0)) : Ct G yJ1_charAt_3b067 cJ1_charAt_3b067 2 (some .char) 2 [.ref (sV G i), .int k] sh I L n (some (.int ((sByt.getD i []).getD k.toNatClampNeg 0))) sh I L n 0 0 := by
  refine ct_ofJ (y := yJ1_charAt_3b067) (by decide +kernel) rfl (fun X F => ?_)
  have F : MF G X RJ1 cJ1_charAt_3b067 2 2 (some .char) "charAt" := F
  obtain ⟨k1, k2, k3⟩ := st_lt hi hk
  refine j_iload_n (pc := 0) (k0 := 1) F 1 rfl dJ1_charAt_3b067_0 ?_
  refine j_aload_n (pc := 1) (k0 := 0) F 0 rfl dJ1_charAt_3b067_1 ?_
  refine j_lenSV (pc := 2) F hi dJ1_charAt_3b067_2 ?_
  refine j_callS0 (pc := 3) (cnt := 2) (As := [.int k, .int (Int32.ofNat (sLen.getD i 0))]) (st := []) (e1 := 0) (es1 := 0) F ⟨(good_of 377 (by decide +kernel) rfl), (good_of 378 (by decide +kernel) rfl), (good_of 78 (by decide +kernel) rfl), by decide +kernel, by decide +kernel⟩ (good_of 379 rfl rfl) (ctJ0_checkIndex G k1 k2) rfl rfl rfl rfl rfl rfl dJ1_charAt_3b067_3 ?_
  refine j_aload_n (pc := 6) (k0 := 0) F 0 rfl dJ1_charAt_3b067_6 ?_
  refine j_iload_n (pc := 7) (k0 := 1) F 1 rfl dJ1_charAt_3b067_7 ?_
  refine j_bldSV (pc := 8) F hi hk dJ1_charAt_3b067_8 ?_
  refine j_sipush (pc := 9) F 255 dJ1_charAt_3b067_9 (by decide) ?_
  refine j_iand (pc := 12) F dJ1_charAt_3b067_12 ?_
  refine j_i2c (pc := 13) F dJ1_charAt_3b067_13 ?_
  rw [(st_ok i hi _ k3).1]
  exact j_nret (pc := 14) F rfl (st_ok i hi _ k3).2 dJ1_charAt_3b067_14
set_option maxRecDepth 100000 in
theorem ctJ0_charAt (G : GT) {sh : SH} {I : IH} {L : LH} {n i : Nat} {k : Int32} (hi : i < 5) (hk : vp_in k (sLen.getD i 0)) : Ct G yJ0_charAt_5068e cJ0_charAt_5068e 2 (some .char) 3 [.ref (sA G i), .int k] sh I L n (some (.int ((sByt.getD i []).getD k.toNatClampNeg 0))) sh I L n 0 0 := by
  refine ct_ofJ (y := yJ0_charAt_5068e) (by decide +kernel) rfl (fun X F => ?_)
  have F : MF G X RJ0 cJ0_charAt_5068e 2 3 (some .char) "charAt" := F
  obtain ⟨k1, k2, k3⟩ := st_lt hi hk
  refine j_aload_n (pc := 0) (k0 := 0) F 0 rfl dJ0_charAt_5068e_0 ?_
  refine j_callVS (pc := 1) (As := []) (st := []) F hi ⟨(good_of 370 (by decide +kernel) rfl), (good_of 371 (by decide +kernel) rfl), (good_of 372 (by decide +kernel) rfl), (good_of 78 (by decide +kernel) rfl), by decide +kernel, by decide +kernel⟩ (good_of 373 rfl rfl) rfl (ctJ0_isLatin1 G hi) rfl rfl rfl rfl dJ0_charAt_5068e_1 ?_
  refine j_if_eq (pc := 4) F 16 dJ0_charAt_5068e_4 rfl (fun c => absurd c (by decide)) (fun c => ?_)
  refine j_aload_n (pc := 7) (k0 := 0) F 0 rfl dJ0_charAt_5068e_7 ?_
  refine j_getSV (pc := 8) F hi (good_of 1281 (by decide +kernel) rfl) dJ0_charAt_5068e_8 ?_
  refine j_iload_n (pc := 11) (k0 := 1) F 1 rfl dJ0_charAt_5068e_11 ?_
  refine j_callS1 (pc := 12) (cnt := 2) (As := [.ref (sV G i), .int k]) (st := []) (e1 := 0) (es1 := 0) F ⟨(good_of 374 (by decide +kernel) rfl), (good_of 375 (by decide +kernel) rfl), (good_of 79 (by decide +kernel) rfl), by decide +kernel, by decide +kernel⟩ (good_of 376 rfl rfl) (ctJ1_charAt G hi hk) rfl rfl rfl rfl rfl rfl dJ0_charAt_5068e_12 ?_
  exact j_nret (pc := 15) F rfl (st_ok i hi _ k3).2 dJ0_charAt_5068e_15
section JS2
variable {G : GT} {X : XT} {Q : State → Prop} {nL : Nat} {sh : SH} {I : IH} {L : LH} {n e es pc : Nat} {ls : List (Nat × Value)} {st : List Value}
variable {own : String} {cc : ByteArray} {d : Nat} {ret : Option FieldType} {nm : String}
set_option maxRecDepth 100000 in
theorem j_strL (F : MF G X own cc nL d ret nm) {ix i : Nat} {r : Int32} (cl : CLV own ix yJ0_length_8abf5 0) (hg : stL i = some r) (hdk : dok 1 1 d = true) (hst : Nat.ble ((st.map fun v => v.category).sum) 8 = true) (hd : decode cc pc = .ok (.invokevirtual ix, 3)) (kk : J G X Q nL sh I L n e es (pc + 3) ls (.int r :: st)) : J G X Q nL sh I L n e es pc ls (.ref (sA G i) :: st) := by
  obtain ⟨hi, rfl⟩ := ite_obt hg
  exact j_callVS (As := []) F hi cl (good_of 359 rfl rfl) rfl (ctJ0_length G hi) hdk rfl rfl hst hd kk
set_option maxRecDepth 100000 in
theorem j_strC (F : MF G X own cc nL d ret nm) {ix i : Nat} {k r : Int32} (cl : CLV own ix yJ0_charAt_5068e 1) (hg : stC i k = some r) (hdk : dok 3 2 d = true) (hst : Nat.ble ((st.map fun v => v.category).sum) 8 = true) (hd : decode cc pc = .ok (.invokevirtual ix, 3)) (kk : J G X Q nL sh I L n e es (pc + 3) ls (.int r :: st)) : J G X Q nL sh I L n e es pc ls (.int k :: .ref (sA G i) :: st) := by
  obtain ⟨⟨hi, hk⟩, rfl⟩ := ite_obt hg
  exact j_callVS (As := [.int k]) F hi cl (good_of 369 rfl rfl) rfl (ctJ0_charAt G hi hk) hdk rfl rfl hst hd kk
end JS2
end
section
/-! decompiled: X0_init, X0_standAt, X0_began, X0_lets, X0_takes, X0_tells, J7_fill_53178, X4_init, J9_min_7cf53, X1_init, X1_next, X1_passes, X1_expect, X1_ending, X1_word, X6_isUnder, X1_number, X1_oneOf, X1_whereHolds, X1_both, X1_either, X1_factor, X4_melt -/
theorem dX0_init_0 : decode cX0_init 0 = .ok (.aload_n 0, 1) := by decide +kernel
theorem dX0_init_1 : decode cX0_init 1 = .ok (.invokespecial 3, 3) := by decide +kernel
theorem dX0_init_4 : decode cX0_init 4 = .ok (.aload_n 0, 1) := by decide +kernel
theorem dX0_init_5 : decode cX0_init 5 = .ok (.bipush 20, 2) := by decide +kernel
theorem dX0_init_7 : decode cX0_init 7 = .ok (.newarray .int, 2) := by decide +kernel
theorem dX0_init_9 : decode cX0_init 9 = .ok (.putfield 9, 3) := by decide +kernel
theorem dX0_init_12 : decode cX0_init 12 = .ok (.return_, 1) := by decide +kernel
def fX0_init (this : Nat) (sh : SH) (I : IH) (n : Nat) : Option ((Nat × Nat) × (SH × IH × Nat)) :=
  b2 (nAI sh I n 0 20) fun h1 i2 =>
  addE 1 (20 : Int32).toNatClampNeg (
  (pR h1 0 this 3 n).bind fun h5 =>
  some ((0, 0), (h5, i2, (n + 1))))
set_option maxHeartbeats 4000000 in
set_option maxRecDepth 20000 in
theorem jbX0_init_0 (G : GT) {X : XT} {L : LH} {sh' : SH} {I' : IH} {n' : Nat}  {this : Nat}  {sh : SH} {I : IH} {n : Nat} {e es : Nat} (F : MF G X RX0 cX0_init 1 1 none "<init>") (h : fX0_init this sh I n = some ((e, es), (sh', I', n'))) : J G X (QE G X (none) sh' I' L n') 1 sh I L n e es 0 [(0, .ref this)] [] := by
  unfold fX0_init at h
  refine j_aload_n (pc := 0) (k0 := 0) F 0 rfl dX0_init_0 ?_
  refine j_objInit (pc := 1) F (good_of 214 (by decide +kernel) (by decide +kernel)) rfl rfl dX0_init_1 ?_
  refine j_aload_n (pc := 4) (k0 := 0) F 0 rfl dX0_init_4 ?_
  refine j_bipush (pc := 5) F 20 dX0_init_5 (by decide) ?_
  obtain ⟨h1, i2, hh1, h⟩ := b2_obt h
  obtain ⟨e3, es4, h, he, hes⟩ := addE_obt h
  refine j_newI (pc := 7) F (Or.inl ⟨rfl, rfl⟩) aw_int hh1 he hes dX0_init_7 ?_
  obtain ⟨h5, hh5, h⟩ := ob h
  refine j_putR (pc := 9) (ty := (.array .int)) F ⟨rfl, rfl⟩ flX0_9 fp0_3 (fun _ => ⟨rfl, rfl⟩) hh5 dX0_init_9 ?_
  cases h
  exact j_vret (pc := 12) F dX0_init_12
theorem ctX0_init (G : GT) {sh : SH} {I : IH} {L : LH} {n : Nat} {this : Nat} {sh' : SH} {I' : IH} {n' : Nat} {e es : Nat}  (h : fX0_init this sh I n = some ((e, es), (sh', I', n'))) : Ct G yX0_init cX0_init 1 none 1 [.ref this] sh I L n (none) sh' I' L n' e es := by
  refine ct_of (y := yX0_init) (by decide +kernel) rfl (fun X F => ?_)
  exact jbX0_init_0 G F h
theorem dX0_standAt_0 : decode cX0_standAt 0 = .ok (.aload_n 0, 1) := by decide +kernel
theorem dX0_standAt_1 : decode cX0_standAt 1 = .ok (.iload_n 1, 1) := by decide +kernel
theorem dX0_standAt_2 : decode cX0_standAt 2 = .ok (.putfield 15, 3) := by decide +kernel
theorem dX0_standAt_5 : decode cX0_standAt 5 = .ok (.aload_n 0, 1) := by decide +kernel
theorem dX0_standAt_6 : decode cX0_standAt 6 = .ok (.aload_n 2, 1) := by decide +kernel
theorem dX0_standAt_7 : decode cX0_standAt 7 = .ok (.iconst 0, 1) := by decide +kernel
theorem dX0_standAt_8 : decode cX0_standAt 8 = .ok (.iaload, 1) := by decide +kernel
theorem dX0_standAt_9 : decode cX0_standAt 9 = .ok (.putfield 19, 3) := by decide +kernel
theorem dX0_standAt_12 : decode cX0_standAt 12 = .ok (.aload_n 0, 1) := by decide +kernel
theorem dX0_standAt_13 : decode cX0_standAt 13 = .ok (.aload_n 2, 1) := by decide +kernel
theorem dX0_standAt_14 : decode cX0_standAt 14 = .ok (.iconst 1, 1) := by decide +kernel
theorem dX0_standAt_15 : decode cX0_standAt 15 = .ok (.iaload, 1) := by decide +kernel
theorem dX0_standAt_16 : decode cX0_standAt 16 = .ok (.putfield 22, 3) := by decide +kernel
theorem dX0_standAt_19 : decode cX0_standAt 19 = .ok (.return_, 1) := by decide +kernel
def fX0_standAt (sh : SH) (this : Nat) (v1 : Int32) (v2 : Nat) (I : IH) : Option (IH) :=
  (pI sh I 0 this 0 v1).bind fun i1 =>
  (aI sh i1 0 v2 0).bind fun x2 =>
  (pI sh i1 0 this 2 x2).bind fun i3 =>
  (aI sh i3 0 v2 1).bind fun x4 =>
  (pI sh i3 0 this 1 x4).bind fun i5 =>
  some i5
set_option maxHeartbeats 4000000 in
set_option maxRecDepth 20000 in
theorem jbX0_standAt_0 (G : GT) {X : XT} {sh : SH} {L : LH} {n : Nat} {I' : IH}  {this : Nat}  {v1 : Int32} {v2 : Nat} {I : IH} (F : MF G X RX0 cX0_standAt 3 0 none "standAt") (h : fX0_standAt sh this v1 v2 I = some I') : J G X (QE G X (none) sh I' L n) 3 sh I L n 0 0 0 [(0, .ref this), (1, .int v1), (2, .ref v2)] [] := by
  unfold fX0_standAt at h
  refine j_aload_n (pc := 0) (k0 := 0) F 0 rfl dX0_standAt_0 ?_
  refine j_iload_n (pc := 1) (k0 := 1) F 1 rfl dX0_standAt_1 ?_
  obtain ⟨i1, hi1, h⟩ := ob h
  refine j_putI (pc := 2) F flX0_15 fp0_0 (fun z => by cases z) hi1 dX0_standAt_2 ?_
  refine j_aload_n (pc := 5) (k0 := 0) F 0 rfl dX0_standAt_5 ?_
  refine j_aload_n (pc := 6) (k0 := 2) F 2 rfl dX0_standAt_6 ?_
  refine j_iconst (pc := 7) F 0 dX0_standAt_7 (by decide) ?_
  obtain ⟨x2, hx2, h⟩ := ob h
  refine j_iald (pc := 8) F hx2 dX0_standAt_8 ?_
  obtain ⟨i3, hi3, h⟩ := ob h
  refine j_putI (pc := 9) F flX0_19 fp0_2 (fun z => by cases z) hi3 dX0_standAt_9 ?_
  refine j_aload_n (pc := 12) (k0 := 0) F 0 rfl dX0_standAt_12 ?_
  refine j_aload_n (pc := 13) (k0 := 2) F 2 rfl dX0_standAt_13 ?_
  refine j_iconst (pc := 14) F 1 dX0_standAt_14 (by decide) ?_
  obtain ⟨x4, hx4, h⟩ := ob h
  refine j_iald (pc := 15) F hx4 dX0_standAt_15 ?_
  obtain ⟨i5, hi5, h⟩ := ob h
  refine j_putI (pc := 16) F flX0_22 fp0_1 (fun z => by cases z) hi5 dX0_standAt_16 ?_
  cases h
  exact j_vret (pc := 19) F dX0_standAt_19
theorem ctX0_standAt (G : GT) {sh : SH} {I : IH} {L : LH} {n : Nat} {this : Nat} {v1 : Int32} {v2 : Nat} {I' : IH}  (h : fX0_standAt sh this v1 v2 I = some I') : Ct G yX0_standAt cX0_standAt 3 none 0 [.ref this, .int v1, .ref v2] sh I L n (none) sh I' L n 0 0 := by
  refine ct_of (y := yX0_standAt) (by decide +kernel) rfl (fun X F => ?_)
  exact jbX0_standAt_0 G F h
theorem dX0_began_0 : decode cX0_began 0 = .ok (.aload_n 0, 1) := by decide +kernel
theorem dX0_began_1 : decode cX0_began 1 = .ok (.getfield 39, 3) := by decide +kernel
theorem dX0_began_4 : decode cX0_began 4 = .ok (.aload_n 0, 1) := by decide +kernel
theorem dX0_began_5 : decode cX0_began 5 = .ok (.getfield 9, 3) := by decide +kernel
theorem dX0_began_8 : decode cX0_began 8 = .ok (.arraylength, 1) := by decide +kernel
theorem dX0_began_9 : decode cX0_began 9 = .ok (.if_icmp .ge 13, 3) := by decide +kernel
theorem dX0_began_12 : decode cX0_began 12 = .ok (.aload_n 0, 1) := by decide +kernel
theorem dX0_began_13 : decode cX0_began 13 = .ok (.getfield 9, 3) := by decide +kernel
theorem dX0_began_16 : decode cX0_began 16 = .ok (.aload_n 0, 1) := by decide +kernel
theorem dX0_began_17 : decode cX0_began 17 = .ok (.getfield 39, 3) := by decide +kernel
theorem dX0_began_20 : decode cX0_began 20 = .ok (.iload_n 1, 1) := by decide +kernel
theorem dX0_began_21 : decode cX0_began 21 = .ok (.iastore, 1) := by decide +kernel
theorem dX0_began_22 : decode cX0_began 22 = .ok (.aload_n 0, 1) := by decide +kernel
theorem dX0_began_23 : decode cX0_began 23 = .ok (.dup, 1) := by decide +kernel
theorem dX0_began_24 : decode cX0_began 24 = .ok (.getfield 39, 3) := by decide +kernel
theorem dX0_began_27 : decode cX0_began 27 = .ok (.iconst 1, 1) := by decide +kernel
theorem dX0_began_28 : decode cX0_began 28 = .ok (.iadd, 1) := by decide +kernel
theorem dX0_began_29 : decode cX0_began 29 = .ok (.putfield 39, 3) := by decide +kernel
theorem dX0_began_32 : decode cX0_began 32 = .ok (.return_, 1) := by decide +kernel
def fX0_began_b22 (sh : SH) (this : Nat) (I : IH) : Option (IH) :=
  (gI sh I 0 this 4).bind fun x1 =>
  (pI sh I 0 this 4 (x1 + 1)).bind fun i2 =>
  some i2
def fX0_began (sh : SH) (this : Nat) (v1 : Int32) (I : IH) : Option (IH) :=
  (gI sh I 0 this 4).bind fun x1 =>
  (gR sh 0 this 3).bind fun x2 =>
  (aL sh x2).bind fun x3 =>
  if x3 ≤ x1 then (
    fX0_began_b22 sh this I) else
  (gR sh 0 this 3).bind fun x4 =>
  (gI sh I 0 this 4).bind fun x5 =>
  (sI sh I x4 x5 v1).bind fun i6 =>
  fX0_began_b22 sh this i6
set_option maxHeartbeats 4000000 in
set_option maxRecDepth 20000 in
theorem jbX0_began_22 (G : GT) {X : XT} {sh : SH} {L : LH} {n : Nat} {I' : IH}  {this : Nat}  {I : IH} (F : MF G X RX0 cX0_began 2 0 none "began") (h : fX0_began_b22 sh this I = some I') : J G X (QE G X (none) sh I' L n) 2 sh I L n 0 0 22 [(0, .ref this)] [] := by
  unfold fX0_began_b22 at h
  refine j_aload_n (pc := 22) (k0 := 0) F 0 rfl dX0_began_22 ?_
  refine j_dup (pc := 23) F dX0_began_23 rfl ?_
  obtain ⟨x1, hx1, h⟩ := ob h
  refine j_getI (pc := 24) F flX0_39 hx1 dX0_began_24 ?_
  refine j_iconst (pc := 27) F 1 dX0_began_27 (by decide) ?_
  refine j_iadd (pc := 28) F dX0_began_28 ?_
  obtain ⟨i2, hi2, h⟩ := ob h
  refine j_putI (pc := 29) F flX0_39 fp0_4 (fun z => by cases z) hi2 dX0_began_29 ?_
  cases h
  exact j_vret (pc := 32) F dX0_began_32
set_option maxHeartbeats 4000000 in
set_option maxRecDepth 20000 in
theorem jbX0_began_0 (G : GT) {X : XT} {sh : SH} {L : LH} {n : Nat} {I' : IH}  {this : Nat}  {v1 : Int32} {I : IH} (F : MF G X RX0 cX0_began 2 0 none "began") (h : fX0_began sh this v1 I = some I') : J G X (QE G X (none) sh I' L n) 2 sh I L n 0 0 0 [(0, .ref this), (1, .int v1)] [] := by
  unfold fX0_began at h
  refine j_aload_n (pc := 0) (k0 := 0) F 0 rfl dX0_began_0 ?_
  obtain ⟨x1, hx1, h⟩ := ob h
  refine j_getI (pc := 1) F flX0_39 hx1 dX0_began_1 ?_
  refine j_aload_n (pc := 4) (k0 := 0) F 0 rfl dX0_began_4 ?_
  obtain ⟨x2, hx2, h⟩ := ob h
  refine j_getR (pc := 5) F flX0_9 hx2 dX0_began_5 ?_
  obtain ⟨x3, hx3, h⟩ := ob h
  refine j_alen (pc := 8) F hx3 dX0_began_8 ?_
  refine j_icmp_ge (pc := 9) F 22 dX0_began_9 rfl (fun c => ?_) (fun c => ?_)
  · have h := iz_t c h
    refine j_sub [0] rfl ?_
    exact jbX0_began_22 G F h
  · have h := iz_f c h
    refine j_aload_n (pc := 12) (k0 := 0) F 0 rfl dX0_began_12 ?_
    obtain ⟨x4, hx4, h⟩ := ob h
    refine j_getR (pc := 13) F flX0_9 hx4 dX0_began_13 ?_
    refine j_aload_n (pc := 16) (k0 := 0) F 0 rfl dX0_began_16 ?_
    obtain ⟨x5, hx5, h⟩ := ob h
    refine j_getI (pc := 17) F flX0_39 hx5 dX0_began_17 ?_
    refine j_iload_n (pc := 20) (k0 := 1) F 1 rfl dX0_began_20 ?_
    obtain ⟨i6, hi6, h⟩ := ob h
    refine j_iast (pc := 21) F hi6 dX0_began_21 ?_
    refine j_sub [0] rfl ?_
    exact jbX0_began_22 G F h
theorem ctX0_began (G : GT) {sh : SH} {I : IH} {L : LH} {n : Nat} {this : Nat} {v1 : Int32} {I' : IH}  (h : fX0_began sh this v1 I = some I') : Ct G yX0_began cX0_began 2 none 0 [.ref this, .int v1] sh I L n (none) sh I' L n 0 0 := by
  refine ct_of (y := yX0_began) (by decide +kernel) rfl (fun X F => ?_)
  exact jbX0_began_0 G F h
theorem dX0_lets_0 : decode cX0_lets 0 = .ok (.iload_n 1, 1) := by decide +kernel
theorem dX0_lets_1 : decode cX0_lets 1 = .ok (.tableswitch 82 2 6 #[35, 82, 50, 35, 64], 35) := by decide +kernel
theorem dX0_lets_36 : decode cX0_lets 36 = .ok (.aload_n 0, 1) := by decide +kernel
theorem dX0_lets_37 : decode cX0_lets 37 = .ok (.bipush 30, 2) := by decide +kernel
theorem dX0_lets_39 : decode cX0_lets 39 = .ok (.invokevirtual 25, 3) := by decide +kernel
theorem dX0_lets_42 : decode cX0_lets 42 = .ok (.aload_n 0, 1) := by decide +kernel
theorem dX0_lets_43 : decode cX0_lets 43 = .ok (.iconst 0, 1) := by decide +kernel
theorem dX0_lets_44 : decode cX0_lets 44 = .ok (.iload_n 2, 1) := by decide +kernel
theorem dX0_lets_45 : decode cX0_lets 45 = .ok (.iconst 3, 1) := by decide +kernel
theorem dX0_lets_46 : decode cX0_lets 46 = .ok (.imul, 1) := by decide +kernel
theorem dX0_lets_47 : decode cX0_lets 47 = .ok (.invokevirtual 29, 3) := by decide +kernel
theorem dX0_lets_50 : decode cX0_lets 50 = .ok (.ireturn, 1) := by decide +kernel
theorem dX0_lets_51 : decode cX0_lets 51 = .ok (.aload_n 0, 1) := by decide +kernel
theorem dX0_lets_52 : decode cX0_lets 52 = .ok (.bipush 50, 2) := by decide +kernel
theorem dX0_lets_54 : decode cX0_lets 54 = .ok (.invokevirtual 25, 3) := by decide +kernel
theorem dX0_lets_57 : decode cX0_lets 57 = .ok (.aload_n 0, 1) := by decide +kernel
theorem dX0_lets_58 : decode cX0_lets 58 = .ok (.iconst 1, 1) := by decide +kernel
theorem dX0_lets_59 : decode cX0_lets 59 = .ok (.iload_n 2, 1) := by decide +kernel
theorem dX0_lets_60 : decode cX0_lets 60 = .ok (.invokevirtual 29, 3) := by decide +kernel
theorem dX0_lets_63 : decode cX0_lets 63 = .ok (.ineg, 1) := by decide +kernel
theorem dX0_lets_64 : decode cX0_lets 64 = .ok (.ireturn, 1) := by decide +kernel
theorem dX0_lets_65 : decode cX0_lets 65 = .ok (.aload_n 0, 1) := by decide +kernel
theorem dX0_lets_66 : decode cX0_lets 66 = .ok (.bipush 71, 2) := by decide +kernel
theorem dX0_lets_68 : decode cX0_lets 68 = .ok (.invokevirtual 25, 3) := by decide +kernel
theorem dX0_lets_71 : decode cX0_lets 71 = .ok (.aload_n 0, 1) := by decide +kernel
theorem dX0_lets_72 : decode cX0_lets 72 = .ok (.iconst 3, 1) := by decide +kernel
theorem dX0_lets_73 : decode cX0_lets 73 = .ok (.iload_n 2, 1) := by decide +kernel
theorem dX0_lets_74 : decode cX0_lets 74 = .ok (.invokevirtual 29, 3) := by decide +kernel
theorem dX0_lets_77 : decode cX0_lets 77 = .ok (.aload_n 0, 1) := by decide +kernel
theorem dX0_lets_78 : decode cX0_lets 78 = .ok (.getfield 22, 3) := by decide +kernel
theorem dX0_lets_81 : decode cX0_lets 81 = .ok (.ixor, 1) := by decide +kernel
theorem dX0_lets_82 : decode cX0_lets 82 = .ok (.ireturn, 1) := by decide +kernel
theorem dX0_lets_83 : decode cX0_lets 83 = .ok (.aload_n 0, 1) := by decide +kernel
theorem dX0_lets_84 : decode cX0_lets 84 = .ok (.bipush 10, 2) := by decide +kernel
theorem dX0_lets_86 : decode cX0_lets 86 = .ok (.invokevirtual 25, 3) := by decide +kernel
theorem dX0_lets_89 : decode cX0_lets 89 = .ok (.iload_n 2, 1) := by decide +kernel
theorem dX0_lets_90 : decode cX0_lets 90 = .ok (.aload_n 0, 1) := by decide +kernel
theorem dX0_lets_91 : decode cX0_lets 91 = .ok (.getfield 15, 3) := by decide +kernel
theorem dX0_lets_94 : decode cX0_lets 94 = .ok (.iadd, 1) := by decide +kernel
theorem dX0_lets_95 : decode cX0_lets 95 = .ok (.ireturn, 1) := by decide +kernel
def fX0_lets_b0 (sh : SH) (this : Nat) (rc : (Nat → Int32 → Int32 → IH → Option (Int32 × IH))) (v1 : Int32) (v2 : Int32) (I : IH) : Option (Int32 × IH) :=
  if v1 = 2 then (
    (fX0_began sh this 30 I).bind fun i1 =>
    b2 (rc this 0 (v2 * 3) i1) fun x2 i3 =>
    some (x2, i3)) else
  if v1 = 4 then (
    (fX0_began sh this 50 I).bind fun i4 =>
    b2 (rc this 1 v2 i4) fun x5 i6 =>
    some ((-x5), i6)) else
  if v1 = 5 then (
    (fX0_began sh this 30 I).bind fun i7 =>
    b2 (rc this 0 (v2 * 3) i7) fun x8 i9 =>
    some (x8, i9)) else
  if v1 = 6 then (
    (fX0_began sh this 71 I).bind fun i10 =>
    b2 (rc this 3 v2 i10) fun x11 i12 =>
    (gI sh i12 0 this 1).bind fun x13 =>
    some ((x11 ^^^ x13), i12)) else
  (fX0_began sh this 10 I).bind fun i14 =>
  (gI sh i14 0 this 0).bind fun x15 =>
  some ((v2 + x15), i14)
def fX0_lets (sh : SH) : Nat → Nat → Int32 → Int32 → IH → Option (Int32 × IH)
  | 0, _, _, _, _ => none
  | dp + 1, this, v1, v2, I => fX0_lets_b0 sh this (fX0_lets sh dp) v1 v2 I
set_option maxHeartbeats 4000000 in
set_option maxRecDepth 20000 in
theorem jbX0_lets_0 (G : GT) {X : XT} {dR : Nat} {sh : SH} {L : LH} {n : Nat} {r : Int32} {I' : IH}  {this : Nat} {rc : (Nat → Int32 → Int32 → IH → Option (Int32 × IH))} {v1 : Int32} {v2 : Int32} {I : IH} (F : MF G X RX0 cX0_lets 3 (dR + 10) (some .int) "lets") (hth : isO sh 0 this) (hrc : ∀ {I : IH} {L : LH} {n : Nat} {this : Nat} {v1 : Int32} {v2 : Int32} {r : Int32} {I' : IH} , isO sh 0 this → rc this v1 v2 I = some (r, I') → Ct G yX0_lets cX0_lets 3 (some .int) dR [.ref this, .int v1, .int v2] sh I L n (some (.int r)) sh I' L n 0 0) (hb9 : 0 ≤ dR) (h : fX0_lets_b0 sh this rc v1 v2 I = some (r, I')) : J G X (QE G X (some (.int r)) sh I' L n) 3 sh I L n 0 0 0 [(0, .ref this), (1, .int v1), (2, .int v2)] [] := by
  unfold fX0_lets_b0 at h
  refine j_iload_n (pc := 0) (k0 := 1) F 1 rfl dX0_lets_0 ?_
  by_cases c1 : v1 = 2
  · have h := iz_t c1 h
    refine j_tabIn (pc := 1) (k0 := 2) F 36 c1 dX0_lets_1 (by decide) rfl rfl ?_
    refine j_aload_n (pc := 36) (k0 := 0) F 0 rfl dX0_lets_36 ?_
    refine j_bipush (pc := 37) F 30 dX0_lets_37 (by decide) ?_
    obtain ⟨i1, hi1, h⟩ := ob h
    refine j_callV0 (pc := 39) (ci := 0) (As := [.int 30]) (st := []) (e1 := 0) (es1 := 0) F clX0_25 cwX0_began rfl hth (ctX0_began G hi1) (dok_of (by omega) (by decide)) rfl rfl rfl rfl rfl dX0_lets_39 ?_
    refine j_aload_n (pc := 42) (k0 := 0) F 0 rfl dX0_lets_42 ?_
    refine j_iconst (pc := 43) F 0 dX0_lets_43 (by decide) ?_
    refine j_iload_n (pc := 44) (k0 := 2) F 2 rfl dX0_lets_44 ?_
    refine j_iconst (pc := 45) F 3 dX0_lets_45 (by decide) ?_
    refine j_imul (pc := 46) F dX0_lets_46 ?_
    obtain ⟨x2, i3, hx2, h⟩ := b2_obt h
    refine j_callV1 (pc := 47) (ci := 0) (As := [.int 0, .int (v2 * 3)]) (st := []) (e1 := 0) (es1 := 0) F clX0_29 cwX0_lets rfl hth (hrc hth hx2) (dok_of (by omega) (by decide)) rfl rfl rfl rfl rfl dX0_lets_47 ?_
    cases h
    exact j_iret (pc := 50) F dX0_lets_50
  have h := iz_f c1 h
  by_cases c2 : v1 = 4
  · have h := iz_t c2 h
    refine j_tabIn (pc := 1) (k0 := 4) F 51 c2 dX0_lets_1 (by decide) rfl rfl ?_
    refine j_aload_n (pc := 51) (k0 := 0) F 0 rfl dX0_lets_51 ?_
    refine j_bipush (pc := 52) F 50 dX0_lets_52 (by decide) ?_
    obtain ⟨i4, hi4, h⟩ := ob h
    refine j_callV0 (pc := 54) (ci := 0) (As := [.int 50]) (st := []) (e1 := 0) (es1 := 0) F clX0_25 cwX0_began rfl hth (ctX0_began G hi4) (dok_of (by omega) (by decide)) rfl rfl rfl rfl rfl dX0_lets_54 ?_
    refine j_aload_n (pc := 57) (k0 := 0) F 0 rfl dX0_lets_57 ?_
    refine j_iconst (pc := 58) F 1 dX0_lets_58 (by decide) ?_
    refine j_iload_n (pc := 59) (k0 := 2) F 2 rfl dX0_lets_59 ?_
    obtain ⟨x5, i6, hx5, h⟩ := b2_obt h
    refine j_callV1 (pc := 60) (ci := 0) (As := [.int 1, .int v2]) (st := []) (e1 := 0) (es1 := 0) F clX0_29 cwX0_lets rfl hth (hrc hth hx5) (dok_of (by omega) (by decide)) rfl rfl rfl rfl rfl dX0_lets_60 ?_
    refine j_ineg (pc := 63) F dX0_lets_63 ?_
    cases h
    exact j_iret (pc := 64) F dX0_lets_64
  have h := iz_f c2 h
  by_cases c3 : v1 = 5
  · have h := iz_t c3 h
    refine j_tabIn (pc := 1) (k0 := 5) F 36 c3 dX0_lets_1 (by decide) rfl rfl ?_
    refine j_aload_n (pc := 36) (k0 := 0) F 0 rfl dX0_lets_36 ?_
    refine j_bipush (pc := 37) F 30 dX0_lets_37 (by decide) ?_
    obtain ⟨i7, hi7, h⟩ := ob h
    refine j_callV0 (pc := 39) (ci := 0) (As := [.int 30]) (st := []) (e1 := 0) (es1 := 0) F clX0_25 cwX0_began rfl hth (ctX0_began G hi7) (dok_of (by omega) (by decide)) rfl rfl rfl rfl rfl dX0_lets_39 ?_
    refine j_aload_n (pc := 42) (k0 := 0) F 0 rfl dX0_lets_42 ?_
    refine j_iconst (pc := 43) F 0 dX0_lets_43 (by decide) ?_
    refine j_iload_n (pc := 44) (k0 := 2) F 2 rfl dX0_lets_44 ?_
    refine j_iconst (pc := 45) F 3 dX0_lets_45 (by decide) ?_
    refine j_imul (pc := 46) F dX0_lets_46 ?_
    obtain ⟨x8, i9, hx8, h⟩ := b2_obt h
    refine j_callV1 (pc := 47) (ci := 0) (As := [.int 0, .int (v2 * 3)]) (st := []) (e1 := 0) (es1 := 0) F clX0_29 cwX0_lets rfl hth (hrc hth hx8) (dok_of (by omega) (by decide)) rfl rfl rfl rfl rfl dX0_lets_47 ?_
    cases h
    exact j_iret (pc := 50) F dX0_lets_50
  have h := iz_f c3 h
  by_cases c4 : v1 = 6
  · have h := iz_t c4 h
    refine j_tabIn (pc := 1) (k0 := 6) F 65 c4 dX0_lets_1 (by decide) rfl rfl ?_
    refine j_aload_n (pc := 65) (k0 := 0) F 0 rfl dX0_lets_65 ?_
    refine j_bipush (pc := 66) F 71 dX0_lets_66 (by decide) ?_
    obtain ⟨i10, hi10, h⟩ := ob h
    refine j_callV0 (pc := 68) (ci := 0) (As := [.int 71]) (st := []) (e1 := 0) (es1 := 0) F clX0_25 cwX0_began rfl hth (ctX0_began G hi10) (dok_of (by omega) (by decide)) rfl rfl rfl rfl rfl dX0_lets_68 ?_
    refine j_aload_n (pc := 71) (k0 := 0) F 0 rfl dX0_lets_71 ?_
    refine j_iconst (pc := 72) F 3 dX0_lets_72 (by decide) ?_
    refine j_iload_n (pc := 73) (k0 := 2) F 2 rfl dX0_lets_73 ?_
    obtain ⟨x11, i12, hx11, h⟩ := b2_obt h
    refine j_callV1 (pc := 74) (ci := 0) (As := [.int 3, .int v2]) (st := []) (e1 := 0) (es1 := 0) F clX0_29 cwX0_lets rfl hth (hrc hth hx11) (dok_of (by omega) (by decide)) rfl rfl rfl rfl rfl dX0_lets_74 ?_
    refine j_aload_n (pc := 77) (k0 := 0) F 0 rfl dX0_lets_77 ?_
    obtain ⟨x13, hx13, h⟩ := ob h
    refine j_getI (pc := 78) F flX0_22 hx13 dX0_lets_78 ?_
    refine j_ixor (pc := 81) F dX0_lets_81 ?_
    cases h
    exact j_iret (pc := 82) F dX0_lets_82
  have h := iz_f c4 h
  by_cases d1 : v1 = 3
  · refine j_tabIn (pc := 1) (k0 := 3) F 83 d1 dX0_lets_1 (by decide) rfl rfl ?_
    refine j_aload_n (pc := 83) (k0 := 0) F 0 rfl dX0_lets_83 ?_
    refine j_bipush (pc := 84) F 10 dX0_lets_84 (by decide) ?_
    obtain ⟨i14, hi14, h⟩ := ob h
    refine j_callV0 (pc := 86) (ci := 0) (As := [.int 10]) (st := []) (e1 := 0) (es1 := 0) F clX0_25 cwX0_began rfl hth (ctX0_began G hi14) (dok_of (by omega) (by decide)) rfl rfl rfl rfl rfl dX0_lets_86 ?_
    refine j_iload_n (pc := 89) (k0 := 2) F 2 rfl dX0_lets_89 ?_
    refine j_aload_n (pc := 90) (k0 := 0) F 0 rfl dX0_lets_90 ?_
    obtain ⟨x15, hx15, h⟩ := ob h
    refine j_getI (pc := 91) F flX0_15 hx15 dX0_lets_91 ?_
    refine j_iadd (pc := 94) F dX0_lets_94 ?_
    cases h
    exact j_iret (pc := 95) F dX0_lets_95
  have tc1 := lv_neT (a := 2) c1 (by decide)
  have tc2 := lv_neT (a := 4) c2 (by decide)
  have tc3 := lv_neT (a := 5) c3 (by decide)
  have tc4 := lv_neT (a := 6) c4 (by decide)
  have td1 := lv_neT (a := 3) d1 (by decide)
  refine j_tabOut (pc := 1) F 83 dX0_lets_1 (by omega) rfl ?_
  refine j_aload_n (pc := 83) (k0 := 0) F 0 rfl dX0_lets_83 ?_
  refine j_bipush (pc := 84) F 10 dX0_lets_84 (by decide) ?_
  obtain ⟨i14, hi14, h⟩ := ob h
  refine j_callV0 (pc := 86) (ci := 0) (As := [.int 10]) (st := []) (e1 := 0) (es1 := 0) F clX0_25 cwX0_began rfl hth (ctX0_began G hi14) (dok_of (by omega) (by decide)) rfl rfl rfl rfl rfl dX0_lets_86 ?_
  refine j_iload_n (pc := 89) (k0 := 2) F 2 rfl dX0_lets_89 ?_
  refine j_aload_n (pc := 90) (k0 := 0) F 0 rfl dX0_lets_90 ?_
  obtain ⟨x15, hx15, h⟩ := ob h
  refine j_getI (pc := 91) F flX0_15 hx15 dX0_lets_91 ?_
  refine j_iadd (pc := 94) F dX0_lets_94 ?_
  cases h
  exact j_iret (pc := 95) F dX0_lets_95
theorem ctX0_lets (G : GT) : ∀ (dp : Nat) (sh : SH) (I : IH) (L : LH) (n : Nat) (this : Nat) (v1 : Int32) (v2 : Int32) (r : Int32) (I' : IH) , isO sh 0 this → fX0_lets sh dp this v1 v2 I = some (r, I') → Ct G yX0_lets cX0_lets 3 (some .int) (0 + 10 * dp) [.ref this, .int v1, .int v2] sh I L n (some (.int r)) sh I' L n 0 0
  | 0 => by
    intros
    rename_i h
    exact absurd (show none = some _ from h) (by intro z; cases z)
  | dp + 1 => by
    intro sh I L n this v1 v2 r I' hth h
    refine ct_of (y := yX0_lets) (by decide +kernel) rfl (fun X F => ?_)
    exact jbX0_lets_0 G F hth (hrc := fun hth h => ctX0_lets G dp _ _ _ _ _ _ _ _ _ hth h) (Nat.le_add_right _ _) h
theorem dX0_takes_0 : decode cX0_takes 0 = .ok (.iload_n 1, 1) := by decide +kernel
theorem dX0_takes_1 : decode cX0_takes 1 = .ok (.lookupswitch 86 #[(1, 35), (4, 51), (6, 66)], 35) := by decide +kernel
theorem dX0_takes_36 : decode cX0_takes 36 = .ok (.aload_n 0, 1) := by decide +kernel
theorem dX0_takes_37 : decode cX0_takes 37 = .ok (.bipush 20, 2) := by decide +kernel
theorem dX0_takes_39 : decode cX0_takes 39 = .ok (.invokevirtual 25, 3) := by decide +kernel
theorem dX0_takes_42 : decode cX0_takes 42 = .ok (.aload_n 0, 1) := by decide +kernel
theorem dX0_takes_43 : decode cX0_takes 43 = .ok (.iconst 0, 1) := by decide +kernel
theorem dX0_takes_44 : decode cX0_takes 44 = .ok (.iload_n 2, 1) := by decide +kernel
theorem dX0_takes_45 : decode cX0_takes 45 = .ok (.invokevirtual 33, 3) := by decide +kernel
theorem dX0_takes_48 : decode cX0_takes 48 = .ok (.bipush 6, 2) := by decide +kernel
theorem dX0_takes_50 : decode cX0_takes 50 = .ok (.ixor, 1) := by decide +kernel
theorem dX0_takes_51 : decode cX0_takes 51 = .ok (.ireturn, 1) := by decide +kernel
theorem dX0_takes_52 : decode cX0_takes 52 = .ok (.aload_n 0, 1) := by decide +kernel
theorem dX0_takes_53 : decode cX0_takes 53 = .ok (.bipush 51, 2) := by decide +kernel
theorem dX0_takes_55 : decode cX0_takes 55 = .ok (.invokevirtual 25, 3) := by decide +kernel
theorem dX0_takes_58 : decode cX0_takes 58 = .ok (.aload_n 0, 1) := by decide +kernel
theorem dX0_takes_59 : decode cX0_takes 59 = .ok (.iconst 1, 1) := by decide +kernel
theorem dX0_takes_60 : decode cX0_takes 60 = .ok (.iload_n 2, 1) := by decide +kernel
theorem dX0_takes_61 : decode cX0_takes 61 = .ok (.iconst 1, 1) := by decide +kernel
theorem dX0_takes_62 : decode cX0_takes 62 = .ok (.iadd, 1) := by decide +kernel
theorem dX0_takes_63 : decode cX0_takes 63 = .ok (.invokevirtual 33, 3) := by decide +kernel
theorem dX0_takes_66 : decode cX0_takes 66 = .ok (.ireturn, 1) := by decide +kernel
theorem dX0_takes_67 : decode cX0_takes 67 = .ok (.aload_n 0, 1) := by decide +kernel
theorem dX0_takes_68 : decode cX0_takes 68 = .ok (.bipush 70, 2) := by decide +kernel
theorem dX0_takes_70 : decode cX0_takes 70 = .ok (.invokevirtual 25, 3) := by decide +kernel
theorem dX0_takes_73 : decode cX0_takes 73 = .ok (.aload_n 0, 1) := by decide +kernel
theorem dX0_takes_74 : decode cX0_takes 74 = .ok (.iconst 3, 1) := by decide +kernel
theorem dX0_takes_75 : decode cX0_takes 75 = .ok (.iload_n 2, 1) := by decide +kernel
theorem dX0_takes_76 : decode cX0_takes 76 = .ok (.invokevirtual 33, 3) := by decide +kernel
theorem dX0_takes_79 : decode cX0_takes 79 = .ok (.aload_n 0, 1) := by decide +kernel
theorem dX0_takes_80 : decode cX0_takes 80 = .ok (.iconst 3, 1) := by decide +kernel
theorem dX0_takes_81 : decode cX0_takes 81 = .ok (.iconst 2, 1) := by decide +kernel
theorem dX0_takes_82 : decode cX0_takes 82 = .ok (.invokevirtual 29, 3) := by decide +kernel
theorem dX0_takes_85 : decode cX0_takes 85 = .ok (.iadd, 1) := by decide +kernel
theorem dX0_takes_86 : decode cX0_takes 86 = .ok (.ireturn, 1) := by decide +kernel
theorem dX0_takes_87 : decode cX0_takes 87 = .ok (.aload_n 0, 1) := by decide +kernel
theorem dX0_takes_88 : decode cX0_takes 88 = .ok (.bipush 11, 2) := by decide +kernel
theorem dX0_takes_90 : decode cX0_takes 90 = .ok (.invokevirtual 25, 3) := by decide +kernel
theorem dX0_takes_93 : decode cX0_takes 93 = .ok (.aload_n 0, 1) := by decide +kernel
theorem dX0_takes_94 : decode cX0_takes 94 = .ok (.aload_n 0, 1) := by decide +kernel
theorem dX0_takes_95 : decode cX0_takes 95 = .ok (.getfield 19, 3) := by decide +kernel
theorem dX0_takes_98 : decode cX0_takes 98 = .ok (.iload_n 2, 1) := by decide +kernel
theorem dX0_takes_99 : decode cX0_takes 99 = .ok (.invokevirtual 29, 3) := by decide +kernel
theorem dX0_takes_102 : decode cX0_takes 102 = .ok (.aload_n 0, 1) := by decide +kernel
theorem dX0_takes_103 : decode cX0_takes 103 = .ok (.getfield 22, 3) := by decide +kernel
theorem dX0_takes_106 : decode cX0_takes 106 = .ok (.isub, 1) := by decide +kernel
theorem dX0_takes_107 : decode cX0_takes 107 = .ok (.ireturn, 1) := by decide +kernel
def fX0_takes_b0 (sh : SH) (this : Nat) (rc : (Nat → Int32 → Int32 → IH → Option (Int32 × IH))) (v1 : Int32) (v2 : Int32) (I : IH) : Option (Int32 × IH) :=
  if v1 = 1 then (
    (fX0_began sh this 20 I).bind fun i1 =>
    b2 (rc this 0 v2 i1) fun x2 i3 =>
    some ((x2 ^^^ 6), i3)) else
  if v1 = 4 then (
    (fX0_began sh this 51 I).bind fun i4 =>
    b2 (rc this 1 (v2 + 1) i4) fun x5 i6 =>
    some (x5, i6)) else
  if v1 = 6 then (
    (fX0_began sh this 70 I).bind fun i7 =>
    b2 (rc this 3 v2 i7) fun x8 i9 =>
    b2 (fX0_lets sh 6 this 3 2 i9) fun x10 i11 =>
    some ((x8 + x10), i11)) else
  (fX0_began sh this 11 I).bind fun i12 =>
  (gI sh i12 0 this 2).bind fun x13 =>
  b2 (fX0_lets sh 6 this x13 v2 i12) fun x14 i15 =>
  (gI sh i15 0 this 1).bind fun x16 =>
  some ((x14 - x16), i15)
def fX0_takes (sh : SH) : Nat → Nat → Int32 → Int32 → IH → Option (Int32 × IH)
  | 0, _, _, _, _ => none
  | dp + 1, this, v1, v2, I => fX0_takes_b0 sh this (fX0_takes sh dp) v1 v2 I
set_option maxHeartbeats 4000000 in
set_option maxRecDepth 20000 in
theorem jbX0_takes_0 (G : GT) {X : XT} {dR : Nat} {sh : SH} {L : LH} {n : Nat} {r : Int32} {I' : IH}  {this : Nat} {rc : (Nat → Int32 → Int32 → IH → Option (Int32 × IH))} {v1 : Int32} {v2 : Int32} {I : IH} (F : MF G X RX0 cX0_takes 3 (dR + 10) (some .int) "takes") (hth : isO sh 0 this) (hrc : ∀ {I : IH} {L : LH} {n : Nat} {this : Nat} {v1 : Int32} {v2 : Int32} {r : Int32} {I' : IH} , isO sh 0 this → rc this v1 v2 I = some (r, I') → Ct G yX0_takes cX0_takes 3 (some .int) dR [.ref this, .int v1, .int v2] sh I L n (some (.int r)) sh I' L n 0 0) (hb9 : 60 ≤ dR) (h : fX0_takes_b0 sh this rc v1 v2 I = some (r, I')) : J G X (QE G X (some (.int r)) sh I' L n) 3 sh I L n 0 0 0 [(0, .ref this), (1, .int v1), (2, .int v2)] [] := by
  unfold fX0_takes_b0 at h
  refine j_iload_n (pc := 0) (k0 := 1) F 1 rfl dX0_takes_0 ?_
  by_cases c1 : v1 = 1
  · have h := iz_t c1 h
    refine j_look (pc := 1) F 36 dX0_takes_1 rfl (by first | (rw [c1]; done) | (rw [c1]; rfl)) rfl ?_
    refine j_aload_n (pc := 36) (k0 := 0) F 0 rfl dX0_takes_36 ?_
    refine j_bipush (pc := 37) F 20 dX0_takes_37 (by decide) ?_
    obtain ⟨i1, hi1, h⟩ := ob h
    refine j_callV0 (pc := 39) (ci := 0) (As := [.int 20]) (st := []) (e1 := 0) (es1 := 0) F clX0_25 cwX0_began rfl hth (ctX0_began G hi1) (dok_of (by omega) (by decide)) rfl rfl rfl rfl rfl dX0_takes_39 ?_
    refine j_aload_n (pc := 42) (k0 := 0) F 0 rfl dX0_takes_42 ?_
    refine j_iconst (pc := 43) F 0 dX0_takes_43 (by decide) ?_
    refine j_iload_n (pc := 44) (k0 := 2) F 2 rfl dX0_takes_44 ?_
    obtain ⟨x2, i3, hx2, h⟩ := b2_obt h
    refine j_callV1 (pc := 45) (ci := 0) (As := [.int 0, .int v2]) (st := []) (e1 := 0) (es1 := 0) F clX0_33 cwX0_takes rfl hth (hrc hth hx2) (dok_of (by omega) (by decide)) rfl rfl rfl rfl rfl dX0_takes_45 ?_
    refine j_bipush (pc := 48) F 6 dX0_takes_48 (by decide) ?_
    refine j_ixor (pc := 50) F dX0_takes_50 ?_
    cases h
    exact j_iret (pc := 51) F dX0_takes_51
  have h := iz_f c1 h
  by_cases c2 : v1 = 4
  · have h := iz_t c2 h
    refine j_look (pc := 1) F 52 dX0_takes_1 rfl ((lv_osw c1 rfl).trans (by first | (rw [c2]; done) | (rw [c2]; rfl))) rfl ?_
    refine j_aload_n (pc := 52) (k0 := 0) F 0 rfl dX0_takes_52 ?_
    refine j_bipush (pc := 53) F 51 dX0_takes_53 (by decide) ?_
    obtain ⟨i4, hi4, h⟩ := ob h
    refine j_callV0 (pc := 55) (ci := 0) (As := [.int 51]) (st := []) (e1 := 0) (es1 := 0) F clX0_25 cwX0_began rfl hth (ctX0_began G hi4) (dok_of (by omega) (by decide)) rfl rfl rfl rfl rfl dX0_takes_55 ?_
    refine j_aload_n (pc := 58) (k0 := 0) F 0 rfl dX0_takes_58 ?_
    refine j_iconst (pc := 59) F 1 dX0_takes_59 (by decide) ?_
    refine j_iload_n (pc := 60) (k0 := 2) F 2 rfl dX0_takes_60 ?_
    refine j_iconst (pc := 61) F 1 dX0_takes_61 (by decide) ?_
    refine j_iadd (pc := 62) F dX0_takes_62 ?_
    obtain ⟨x5, i6, hx5, h⟩ := b2_obt h
    refine j_callV1 (pc := 63) (ci := 0) (As := [.int 1, .int (v2 + 1)]) (st := []) (e1 := 0) (es1 := 0) F clX0_33 cwX0_takes rfl hth (hrc hth hx5) (dok_of (by omega) (by decide)) rfl rfl rfl rfl rfl dX0_takes_63 ?_
    cases h
    exact j_iret (pc := 66) F dX0_takes_66
  have h := iz_f c2 h
  by_cases c3 : v1 = 6
  · have h := iz_t c3 h
    refine j_look (pc := 1) F 67 dX0_takes_1 rfl ((lv_osw c1 rfl).trans ((lv_osw c2 rfl).trans (by first | (rw [c3]; done) | (rw [c3]; rfl)))) rfl ?_
    refine j_aload_n (pc := 67) (k0 := 0) F 0 rfl dX0_takes_67 ?_
    refine j_bipush (pc := 68) F 70 dX0_takes_68 (by decide) ?_
    obtain ⟨i7, hi7, h⟩ := ob h
    refine j_callV0 (pc := 70) (ci := 0) (As := [.int 70]) (st := []) (e1 := 0) (es1 := 0) F clX0_25 cwX0_began rfl hth (ctX0_began G hi7) (dok_of (by omega) (by decide)) rfl rfl rfl rfl rfl dX0_takes_70 ?_
    refine j_aload_n (pc := 73) (k0 := 0) F 0 rfl dX0_takes_73 ?_
    refine j_iconst (pc := 74) F 3 dX0_takes_74 (by decide) ?_
    refine j_iload_n (pc := 75) (k0 := 2) F 2 rfl dX0_takes_75 ?_
    obtain ⟨x8, i9, hx8, h⟩ := b2_obt h
    refine j_callV1 (pc := 76) (ci := 0) (As := [.int 3, .int v2]) (st := []) (e1 := 0) (es1 := 0) F clX0_33 cwX0_takes rfl hth (hrc hth hx8) (dok_of (by omega) (by decide)) rfl rfl rfl rfl rfl dX0_takes_76 ?_
    refine j_aload_n (pc := 79) (k0 := 0) F 0 rfl dX0_takes_79 ?_
    refine j_iconst (pc := 80) F 3 dX0_takes_80 (by decide) ?_
    refine j_iconst (pc := 81) F 2 dX0_takes_81 (by decide) ?_
    obtain ⟨x10, i11, hx10, h⟩ := b2_obt h
    refine j_callV1 (pc := 82) (ci := 0) (As := [.int 3, .int 2]) (st := [.int x8]) (e1 := 0) (es1 := 0) F clX0_29 cwX0_lets rfl hth (ctX0_lets G 6 _ _ _ _ _ _ _ _ _ hth hx10) (dok_of (by omega) (by decide)) rfl rfl rfl rfl rfl dX0_takes_82 ?_
    refine j_iadd (pc := 85) F dX0_takes_85 ?_
    cases h
    exact j_iret (pc := 86) F dX0_takes_86
  have h := iz_f c3 h
  refine j_look (pc := 1) F 87 dX0_takes_1 rfl ((lv_osw c1 rfl).trans ((lv_osw c2 rfl).trans ((lv_osw c3 rfl).trans (rfl)))) rfl ?_
  refine j_aload_n (pc := 87) (k0 := 0) F 0 rfl dX0_takes_87 ?_
  refine j_bipush (pc := 88) F 11 dX0_takes_88 (by decide) ?_
  obtain ⟨i12, hi12, h⟩ := ob h
  refine j_callV0 (pc := 90) (ci := 0) (As := [.int 11]) (st := []) (e1 := 0) (es1 := 0) F clX0_25 cwX0_began rfl hth (ctX0_began G hi12) (dok_of (by omega) (by decide)) rfl rfl rfl rfl rfl dX0_takes_90 ?_
  refine j_aload_n (pc := 93) (k0 := 0) F 0 rfl dX0_takes_93 ?_
  refine j_aload_n (pc := 94) (k0 := 0) F 0 rfl dX0_takes_94 ?_
  obtain ⟨x13, hx13, h⟩ := ob h
  refine j_getI (pc := 95) F flX0_19 hx13 dX0_takes_95 ?_
  refine j_iload_n (pc := 98) (k0 := 2) F 2 rfl dX0_takes_98 ?_
  obtain ⟨x14, i15, hx14, h⟩ := b2_obt h
  refine j_callV1 (pc := 99) (ci := 0) (As := [.int x13, .int v2]) (st := []) (e1 := 0) (es1 := 0) F clX0_29 cwX0_lets rfl hth (ctX0_lets G 6 _ _ _ _ _ _ _ _ _ hth hx14) (dok_of (by omega) (by decide)) rfl rfl rfl rfl rfl dX0_takes_99 ?_
  refine j_aload_n (pc := 102) (k0 := 0) F 0 rfl dX0_takes_102 ?_
  obtain ⟨x16, hx16, h⟩ := ob h
  refine j_getI (pc := 103) F flX0_22 hx16 dX0_takes_103 ?_
  refine j_isub (pc := 106) F dX0_takes_106 ?_
  cases h
  exact j_iret (pc := 107) F dX0_takes_107
theorem ctX0_takes (G : GT) : ∀ (dp : Nat) (sh : SH) (I : IH) (L : LH) (n : Nat) (this : Nat) (v1 : Int32) (v2 : Int32) (r : Int32) (I' : IH) , isO sh 0 this → fX0_takes sh dp this v1 v2 I = some (r, I') → Ct G yX0_takes cX0_takes 3 (some .int) (60 + 10 * dp) [.ref this, .int v1, .int v2] sh I L n (some (.int r)) sh I' L n 0 0
  | 0 => by
    intros
    rename_i h
    exact absurd (show none = some _ from h) (by intro z; cases z)
  | dp + 1 => by
    intro sh I L n this v1 v2 r I' hth h
    refine ct_of (y := yX0_takes) (by decide +kernel) rfl (fun X F => ?_)
    exact jbX0_takes_0 G F hth (hrc := fun hth h => ctX0_takes G dp _ _ _ _ _ _ _ _ _ hth h) (Nat.le_add_right _ _) h
theorem dX0_tells_0 : decode cX0_tells 0 = .ok (.iload_n 1, 1) := by decide +kernel
theorem dX0_tells_1 : decode cX0_tells 1 = .ok (.tableswitch 72 3 6 #[31, 72, 54, 31], 31) := by decide +kernel
theorem dX0_tells_32 : decode cX0_tells 32 = .ok (.aload_n 0, 1) := by decide +kernel
theorem dX0_tells_33 : decode cX0_tells 33 = .ok (.bipush 40, 2) := by decide +kernel
theorem dX0_tells_35 : decode cX0_tells 35 = .ok (.invokevirtual 25, 3) := by decide +kernel
theorem dX0_tells_38 : decode cX0_tells 38 = .ok (.aload_n 0, 1) := by decide +kernel
theorem dX0_tells_39 : decode cX0_tells 39 = .ok (.iconst 0, 1) := by decide +kernel
theorem dX0_tells_40 : decode cX0_tells 40 = .ok (.iload_n 2, 1) := by decide +kernel
theorem dX0_tells_41 : decode cX0_tells 41 = .ok (.invokevirtual 36, 3) := by decide +kernel
theorem dX0_tells_44 : decode cX0_tells 44 = .ok (.aload_n 0, 1) := by decide +kernel
theorem dX0_tells_45 : decode cX0_tells 45 = .ok (.aload_n 0, 1) := by decide +kernel
theorem dX0_tells_46 : decode cX0_tells 46 = .ok (.getfield 19, 3) := by decide +kernel
theorem dX0_tells_49 : decode cX0_tells 49 = .ok (.iconst 1, 1) := by decide +kernel
theorem dX0_tells_50 : decode cX0_tells 50 = .ok (.invokevirtual 33, 3) := by decide +kernel
theorem dX0_tells_53 : decode cX0_tells 53 = .ok (.iadd, 1) := by decide +kernel
theorem dX0_tells_54 : decode cX0_tells 54 = .ok (.ireturn, 1) := by decide +kernel
theorem dX0_tells_55 : decode cX0_tells 55 = .ok (.aload_n 0, 1) := by decide +kernel
theorem dX0_tells_56 : decode cX0_tells 56 = .ok (.bipush 60, 2) := by decide +kernel
theorem dX0_tells_58 : decode cX0_tells 58 = .ok (.invokevirtual 25, 3) := by decide +kernel
theorem dX0_tells_61 : decode cX0_tells 61 = .ok (.aload_n 0, 1) := by decide +kernel
theorem dX0_tells_62 : decode cX0_tells 62 = .ok (.iconst 2, 1) := by decide +kernel
theorem dX0_tells_63 : decode cX0_tells 63 = .ok (.iload_n 2, 1) := by decide +kernel
theorem dX0_tells_64 : decode cX0_tells 64 = .ok (.aload_n 0, 1) := by decide +kernel
theorem dX0_tells_65 : decode cX0_tells 65 = .ok (.getfield 15, 3) := by decide +kernel
theorem dX0_tells_68 : decode cX0_tells 68 = .ok (.isub, 1) := by decide +kernel
theorem dX0_tells_69 : decode cX0_tells 69 = .ok (.invokevirtual 36, 3) := by decide +kernel
theorem dX0_tells_72 : decode cX0_tells 72 = .ok (.ireturn, 1) := by decide +kernel
theorem dX0_tells_73 : decode cX0_tells 73 = .ok (.aload_n 0, 1) := by decide +kernel
theorem dX0_tells_74 : decode cX0_tells 74 = .ok (.bipush 12, 2) := by decide +kernel
theorem dX0_tells_76 : decode cX0_tells 76 = .ok (.invokevirtual 25, 3) := by decide +kernel
theorem dX0_tells_79 : decode cX0_tells 79 = .ok (.aload_n 0, 1) := by decide +kernel
theorem dX0_tells_80 : decode cX0_tells 80 = .ok (.aload_n 0, 1) := by decide +kernel
theorem dX0_tells_81 : decode cX0_tells 81 = .ok (.getfield 19, 3) := by decide +kernel
theorem dX0_tells_84 : decode cX0_tells 84 = .ok (.iload_n 2, 1) := by decide +kernel
theorem dX0_tells_85 : decode cX0_tells 85 = .ok (.invokevirtual 33, 3) := by decide +kernel
theorem dX0_tells_88 : decode cX0_tells 88 = .ok (.iconst 2, 1) := by decide +kernel
theorem dX0_tells_89 : decode cX0_tells 89 = .ok (.imul, 1) := by decide +kernel
theorem dX0_tells_90 : decode cX0_tells 90 = .ok (.ireturn, 1) := by decide +kernel
def fX0_tells_b0 (sh : SH) (this : Nat) (rc : (Nat → Int32 → Int32 → IH → Option (Int32 × IH))) (v1 : Int32) (v2 : Int32) (I : IH) : Option (Int32 × IH) :=
  if v1 = 3 then (
    (fX0_began sh this 40 I).bind fun i1 =>
    b2 (rc this 0 v2 i1) fun x2 i3 =>
    (gI sh i3 0 this 2).bind fun x4 =>
    b2 (fX0_takes sh 6 this x4 1 i3) fun x5 i6 =>
    some ((x2 + x5), i6)) else
  if v1 = 5 then (
    (fX0_began sh this 60 I).bind fun i7 =>
    (gI sh i7 0 this 0).bind fun x8 =>
    b2 (rc this 2 (v2 - x8) i7) fun x9 i10 =>
    some (x9, i10)) else
  if v1 = 6 then (
    (fX0_began sh this 40 I).bind fun i11 =>
    b2 (rc this 0 v2 i11) fun x12 i13 =>
    (gI sh i13 0 this 2).bind fun x14 =>
    b2 (fX0_takes sh 6 this x14 1 i13) fun x15 i16 =>
    some ((x12 + x15), i16)) else
  (fX0_began sh this 12 I).bind fun i17 =>
  (gI sh i17 0 this 2).bind fun x18 =>
  b2 (fX0_takes sh 6 this x18 v2 i17) fun x19 i20 =>
  some ((x19 * 2), i20)
def fX0_tells (sh : SH) : Nat → Nat → Int32 → Int32 → IH → Option (Int32 × IH)
  | 0, _, _, _, _ => none
  | dp + 1, this, v1, v2, I => fX0_tells_b0 sh this (fX0_tells sh dp) v1 v2 I
set_option maxHeartbeats 4000000 in
set_option maxRecDepth 20000 in
theorem jbX0_tells_0 (G : GT) {X : XT} {dR : Nat} {sh : SH} {L : LH} {n : Nat} {r : Int32} {I' : IH}  {this : Nat} {rc : (Nat → Int32 → Int32 → IH → Option (Int32 × IH))} {v1 : Int32} {v2 : Int32} {I : IH} (F : MF G X RX0 cX0_tells 3 (dR + 10) (some .int) "tells") (hth : isO sh 0 this) (hrc : ∀ {I : IH} {L : LH} {n : Nat} {this : Nat} {v1 : Int32} {v2 : Int32} {r : Int32} {I' : IH} , isO sh 0 this → rc this v1 v2 I = some (r, I') → Ct G yX0_tells cX0_tells 3 (some .int) dR [.ref this, .int v1, .int v2] sh I L n (some (.int r)) sh I' L n 0 0) (hb9 : 120 ≤ dR) (h : fX0_tells_b0 sh this rc v1 v2 I = some (r, I')) : J G X (QE G X (some (.int r)) sh I' L n) 3 sh I L n 0 0 0 [(0, .ref this), (1, .int v1), (2, .int v2)] [] := by
  unfold fX0_tells_b0 at h
  refine j_iload_n (pc := 0) (k0 := 1) F 1 rfl dX0_tells_0 ?_
  by_cases c1 : v1 = 3
  · have h := iz_t c1 h
    refine j_tabIn (pc := 1) (k0 := 3) F 32 c1 dX0_tells_1 (by decide) rfl rfl ?_
    refine j_aload_n (pc := 32) (k0 := 0) F 0 rfl dX0_tells_32 ?_
    refine j_bipush (pc := 33) F 40 dX0_tells_33 (by decide) ?_
    obtain ⟨i1, hi1, h⟩ := ob h
    refine j_callV0 (pc := 35) (ci := 0) (As := [.int 40]) (st := []) (e1 := 0) (es1 := 0) F clX0_25 cwX0_began rfl hth (ctX0_began G hi1) (dok_of (by omega) (by decide)) rfl rfl rfl rfl rfl dX0_tells_35 ?_
    refine j_aload_n (pc := 38) (k0 := 0) F 0 rfl dX0_tells_38 ?_
    refine j_iconst (pc := 39) F 0 dX0_tells_39 (by decide) ?_
    refine j_iload_n (pc := 40) (k0 := 2) F 2 rfl dX0_tells_40 ?_
    obtain ⟨x2, i3, hx2, h⟩ := b2_obt h
    refine j_callV1 (pc := 41) (ci := 0) (As := [.int 0, .int v2]) (st := []) (e1 := 0) (es1 := 0) F clX0_36 cwX0_tells rfl hth (hrc hth hx2) (dok_of (by omega) (by decide)) rfl rfl rfl rfl rfl dX0_tells_41 ?_
    refine j_aload_n (pc := 44) (k0 := 0) F 0 rfl dX0_tells_44 ?_
    refine j_aload_n (pc := 45) (k0 := 0) F 0 rfl dX0_tells_45 ?_
    obtain ⟨x4, hx4, h⟩ := ob h
    refine j_getI (pc := 46) F flX0_19 hx4 dX0_tells_46 ?_
    refine j_iconst (pc := 49) F 1 dX0_tells_49 (by decide) ?_
    obtain ⟨x5, i6, hx5, h⟩ := b2_obt h
    refine j_callV1 (pc := 50) (ci := 0) (As := [.int x4, .int 1]) (st := [.int x2]) (e1 := 0) (es1 := 0) F clX0_33 cwX0_takes rfl hth (ctX0_takes G 6 _ _ _ _ _ _ _ _ _ hth hx5) (dok_of (by omega) (by decide)) rfl rfl rfl rfl rfl dX0_tells_50 ?_
    refine j_iadd (pc := 53) F dX0_tells_53 ?_
    cases h
    exact j_iret (pc := 54) F dX0_tells_54
  have h := iz_f c1 h
  by_cases c2 : v1 = 5
  · have h := iz_t c2 h
    refine j_tabIn (pc := 1) (k0 := 5) F 55 c2 dX0_tells_1 (by decide) rfl rfl ?_
    refine j_aload_n (pc := 55) (k0 := 0) F 0 rfl dX0_tells_55 ?_
    refine j_bipush (pc := 56) F 60 dX0_tells_56 (by decide) ?_
    obtain ⟨i7, hi7, h⟩ := ob h
    refine j_callV0 (pc := 58) (ci := 0) (As := [.int 60]) (st := []) (e1 := 0) (es1 := 0) F clX0_25 cwX0_began rfl hth (ctX0_began G hi7) (dok_of (by omega) (by decide)) rfl rfl rfl rfl rfl dX0_tells_58 ?_
    refine j_aload_n (pc := 61) (k0 := 0) F 0 rfl dX0_tells_61 ?_
    refine j_iconst (pc := 62) F 2 dX0_tells_62 (by decide) ?_
    refine j_iload_n (pc := 63) (k0 := 2) F 2 rfl dX0_tells_63 ?_
    refine j_aload_n (pc := 64) (k0 := 0) F 0 rfl dX0_tells_64 ?_
    obtain ⟨x8, hx8, h⟩ := ob h
    refine j_getI (pc := 65) F flX0_15 hx8 dX0_tells_65 ?_
    refine j_isub (pc := 68) F dX0_tells_68 ?_
    obtain ⟨x9, i10, hx9, h⟩ := b2_obt h
    refine j_callV1 (pc := 69) (ci := 0) (As := [.int 2, .int (v2 - x8)]) (st := []) (e1 := 0) (es1 := 0) F clX0_36 cwX0_tells rfl hth (hrc hth hx9) (dok_of (by omega) (by decide)) rfl rfl rfl rfl rfl dX0_tells_69 ?_
    cases h
    exact j_iret (pc := 72) F dX0_tells_72
  have h := iz_f c2 h
  by_cases c3 : v1 = 6
  · have h := iz_t c3 h
    refine j_tabIn (pc := 1) (k0 := 6) F 32 c3 dX0_tells_1 (by decide) rfl rfl ?_
    refine j_aload_n (pc := 32) (k0 := 0) F 0 rfl dX0_tells_32 ?_
    refine j_bipush (pc := 33) F 40 dX0_tells_33 (by decide) ?_
    obtain ⟨i11, hi11, h⟩ := ob h
    refine j_callV0 (pc := 35) (ci := 0) (As := [.int 40]) (st := []) (e1 := 0) (es1 := 0) F clX0_25 cwX0_began rfl hth (ctX0_began G hi11) (dok_of (by omega) (by decide)) rfl rfl rfl rfl rfl dX0_tells_35 ?_
    refine j_aload_n (pc := 38) (k0 := 0) F 0 rfl dX0_tells_38 ?_
    refine j_iconst (pc := 39) F 0 dX0_tells_39 (by decide) ?_
    refine j_iload_n (pc := 40) (k0 := 2) F 2 rfl dX0_tells_40 ?_
    obtain ⟨x12, i13, hx12, h⟩ := b2_obt h
    refine j_callV1 (pc := 41) (ci := 0) (As := [.int 0, .int v2]) (st := []) (e1 := 0) (es1 := 0) F clX0_36 cwX0_tells rfl hth (hrc hth hx12) (dok_of (by omega) (by decide)) rfl rfl rfl rfl rfl dX0_tells_41 ?_
    refine j_aload_n (pc := 44) (k0 := 0) F 0 rfl dX0_tells_44 ?_
    refine j_aload_n (pc := 45) (k0 := 0) F 0 rfl dX0_tells_45 ?_
    obtain ⟨x14, hx14, h⟩ := ob h
    refine j_getI (pc := 46) F flX0_19 hx14 dX0_tells_46 ?_
    refine j_iconst (pc := 49) F 1 dX0_tells_49 (by decide) ?_
    obtain ⟨x15, i16, hx15, h⟩ := b2_obt h
    refine j_callV1 (pc := 50) (ci := 0) (As := [.int x14, .int 1]) (st := [.int x12]) (e1 := 0) (es1 := 0) F clX0_33 cwX0_takes rfl hth (ctX0_takes G 6 _ _ _ _ _ _ _ _ _ hth hx15) (dok_of (by omega) (by decide)) rfl rfl rfl rfl rfl dX0_tells_50 ?_
    refine j_iadd (pc := 53) F dX0_tells_53 ?_
    cases h
    exact j_iret (pc := 54) F dX0_tells_54
  have h := iz_f c3 h
  by_cases d1 : v1 = 4
  · refine j_tabIn (pc := 1) (k0 := 4) F 73 d1 dX0_tells_1 (by decide) rfl rfl ?_
    refine j_aload_n (pc := 73) (k0 := 0) F 0 rfl dX0_tells_73 ?_
    refine j_bipush (pc := 74) F 12 dX0_tells_74 (by decide) ?_
    obtain ⟨i17, hi17, h⟩ := ob h
    refine j_callV0 (pc := 76) (ci := 0) (As := [.int 12]) (st := []) (e1 := 0) (es1 := 0) F clX0_25 cwX0_began rfl hth (ctX0_began G hi17) (dok_of (by omega) (by decide)) rfl rfl rfl rfl rfl dX0_tells_76 ?_
    refine j_aload_n (pc := 79) (k0 := 0) F 0 rfl dX0_tells_79 ?_
    refine j_aload_n (pc := 80) (k0 := 0) F 0 rfl dX0_tells_80 ?_
    obtain ⟨x18, hx18, h⟩ := ob h
    refine j_getI (pc := 81) F flX0_19 hx18 dX0_tells_81 ?_
    refine j_iload_n (pc := 84) (k0 := 2) F 2 rfl dX0_tells_84 ?_
    obtain ⟨x19, i20, hx19, h⟩ := b2_obt h
    refine j_callV1 (pc := 85) (ci := 0) (As := [.int x18, .int v2]) (st := []) (e1 := 0) (es1 := 0) F clX0_33 cwX0_takes rfl hth (ctX0_takes G 6 _ _ _ _ _ _ _ _ _ hth hx19) (dok_of (by omega) (by decide)) rfl rfl rfl rfl rfl dX0_tells_85 ?_
    refine j_iconst (pc := 88) F 2 dX0_tells_88 (by decide) ?_
    refine j_imul (pc := 89) F dX0_tells_89 ?_
    cases h
    exact j_iret (pc := 90) F dX0_tells_90
  have tc1 := lv_neT (a := 3) c1 (by decide)
  have tc2 := lv_neT (a := 5) c2 (by decide)
  have tc3 := lv_neT (a := 6) c3 (by decide)
  have td1 := lv_neT (a := 4) d1 (by decide)
  refine j_tabOut (pc := 1) F 73 dX0_tells_1 (by omega) rfl ?_
  refine j_aload_n (pc := 73) (k0 := 0) F 0 rfl dX0_tells_73 ?_
  refine j_bipush (pc := 74) F 12 dX0_tells_74 (by decide) ?_
  obtain ⟨i17, hi17, h⟩ := ob h
  refine j_callV0 (pc := 76) (ci := 0) (As := [.int 12]) (st := []) (e1 := 0) (es1 := 0) F clX0_25 cwX0_began rfl hth (ctX0_began G hi17) (dok_of (by omega) (by decide)) rfl rfl rfl rfl rfl dX0_tells_76 ?_
  refine j_aload_n (pc := 79) (k0 := 0) F 0 rfl dX0_tells_79 ?_
  refine j_aload_n (pc := 80) (k0 := 0) F 0 rfl dX0_tells_80 ?_
  obtain ⟨x18, hx18, h⟩ := ob h
  refine j_getI (pc := 81) F flX0_19 hx18 dX0_tells_81 ?_
  refine j_iload_n (pc := 84) (k0 := 2) F 2 rfl dX0_tells_84 ?_
  obtain ⟨x19, i20, hx19, h⟩ := b2_obt h
  refine j_callV1 (pc := 85) (ci := 0) (As := [.int x18, .int v2]) (st := []) (e1 := 0) (es1 := 0) F clX0_33 cwX0_takes rfl hth (ctX0_takes G 6 _ _ _ _ _ _ _ _ _ hth hx19) (dok_of (by omega) (by decide)) rfl rfl rfl rfl rfl dX0_tells_85 ?_
  refine j_iconst (pc := 88) F 2 dX0_tells_88 (by decide) ?_
  refine j_imul (pc := 89) F dX0_tells_89 ?_
  cases h
  exact j_iret (pc := 90) F dX0_tells_90
theorem ctX0_tells (G : GT) : ∀ (dp : Nat) (sh : SH) (I : IH) (L : LH) (n : Nat) (this : Nat) (v1 : Int32) (v2 : Int32) (r : Int32) (I' : IH) , isO sh 0 this → fX0_tells sh dp this v1 v2 I = some (r, I') → Ct G yX0_tells cX0_tells 3 (some .int) (120 + 10 * dp) [.ref this, .int v1, .int v2] sh I L n (some (.int r)) sh I' L n 0 0
  | 0 => by
    intros
    rename_i h
    exact absurd (show none = some _ from h) (by intro z; cases z)
  | dp + 1 => by
    intro sh I L n this v1 v2 r I' hth h
    refine ct_of (y := yX0_tells) (by decide +kernel) rfl (fun X F => ?_)
    exact jbX0_tells_0 G F hth (hrc := fun hth h => ctX0_tells G dp _ _ _ _ _ _ _ _ _ hth h) (Nat.le_add_right _ _) h
theorem dJ7_fill_53178_0 : decode cJ7_fill_53178 0 = .ok (.iconst 0, 1) := by decide +kernel
theorem dJ7_fill_53178_1 : decode cJ7_fill_53178 1 = .ok (.istore_n 2, 1) := by decide +kernel
theorem dJ7_fill_53178_2 : decode cJ7_fill_53178 2 = .ok (.aload_n 0, 1) := by decide +kernel
theorem dJ7_fill_53178_3 : decode cJ7_fill_53178 3 = .ok (.arraylength, 1) := by decide +kernel
theorem dJ7_fill_53178_4 : decode cJ7_fill_53178 4 = .ok (.istore_n 3, 1) := by decide +kernel
theorem dJ7_fill_53178_5 : decode cJ7_fill_53178 5 = .ok (.iload_n 2, 1) := by decide +kernel
theorem dJ7_fill_53178_6 : decode cJ7_fill_53178 6 = .ok (.iload_n 3, 1) := by decide +kernel
theorem dJ7_fill_53178_7 : decode cJ7_fill_53178 7 = .ok (.if_icmp .ge 13, 3) := by decide +kernel
theorem dJ7_fill_53178_10 : decode cJ7_fill_53178 10 = .ok (.aload_n 0, 1) := by decide +kernel
theorem dJ7_fill_53178_11 : decode cJ7_fill_53178 11 = .ok (.iload_n 2, 1) := by decide +kernel
theorem dJ7_fill_53178_12 : decode cJ7_fill_53178 12 = .ok (.iload_n 1, 1) := by decide +kernel
theorem dJ7_fill_53178_13 : decode cJ7_fill_53178 13 = .ok (.iastore, 1) := by decide +kernel
theorem dJ7_fill_53178_14 : decode cJ7_fill_53178 14 = .ok (.iinc 2 1, 3) := by decide +kernel
theorem dJ7_fill_53178_17 : decode cJ7_fill_53178 17 = .ok (.goto (-12), 3) := by decide +kernel
theorem dJ7_fill_53178_20 : decode cJ7_fill_53178 20 = .ok (.return_, 1) := by decide +kernel
def fJ7_fill_53178_b5 (sh : SH) : Nat → Nat → Int32 → Int32 → Int32 → IH → Option (IH)
  | 0, _, _, _, _, _ => none
  | fuel + 1, v0, v1, v2, v3, I =>
    if v3 ≤ v2 then (
      some I) else
    (sI sh I v0 v2 v1).bind fun i1 =>
    fJ7_fill_53178_b5 sh fuel v0 v1 (v2 + 1) v3 i1
def fJ7_fill_53178 (sh : SH) (v0 : Nat) (v1 : Int32) (I : IH) : Option (IH) :=
  (aL sh v0).bind fun x1 =>
  fJ7_fill_53178_b5 sh 1000 v0 v1 0 x1 I
set_option maxHeartbeats 4000000 in
set_option maxRecDepth 20000 in
theorem jbJ7_fill_53178_5 (G : GT) {X : XT} {sh : SH} {L : LH} {n : Nat} {I' : IH}   (F : MF G X RJ7 cJ7_fill_53178 4 0 none "fill") : ∀ (fuel : Nat) (v0 : Nat) (v1 : Int32) (v2 : Int32) (v3 : Int32) (I : IH), fJ7_fill_53178_b5 sh fuel v0 v1 v2 v3 I = some I' → J G X (QE G X (none) sh I' L n) 4 sh I L n 0 0 5 [(0, .ref v0), (1, .int v1), (2, .int v2), (3, .int v3)] []
  | 0 => by
    intros
    rename_i h
    exact absurd (show none = some _ from h) (by intro z; cases z)
  | fuel + 1 => by
    intro v0 v1 v2 v3 I h
    rw [fJ7_fill_53178_b5] at h
    refine j_iload_n (pc := 5) (k0 := 2) F 2 rfl dJ7_fill_53178_5 ?_
    refine j_iload_n (pc := 6) (k0 := 3) F 3 rfl dJ7_fill_53178_6 ?_
    refine j_icmp_ge (pc := 7) F 20 dJ7_fill_53178_7 rfl (fun c => ?_) (fun c => ?_)
    · have h := iz_t c h
      cases h
      exact j_vret (pc := 20) F dJ7_fill_53178_20
    · have h := iz_f c h
      refine j_aload_n (pc := 10) (k0 := 0) F 0 rfl dJ7_fill_53178_10 ?_
      refine j_iload_n (pc := 11) (k0 := 2) F 2 rfl dJ7_fill_53178_11 ?_
      refine j_iload_n (pc := 12) (k0 := 1) F 1 rfl dJ7_fill_53178_12 ?_
      obtain ⟨i1, hi1, h⟩ := ob h
      refine j_iast (pc := 13) F hi1 dJ7_fill_53178_13 ?_
      refine j_iinc (pc := 14) (k1 := 2) (ls' := [(2, .int (v2 + 1)), (0, .ref v0), (1, .int v1), (3, .int v3)]) F (v2 + 1) 2 rfl rfl rfl rfl dJ7_fill_53178_14 ?_
      refine j_goto (pc := 17) F 5 dJ7_fill_53178_17 rfl ?_
      refine j_sub [1, 2, 0, 3] rfl ?_
      exact jbJ7_fill_53178_5 G F fuel _ _ _ _ _ h
set_option maxHeartbeats 4000000 in
set_option maxRecDepth 20000 in
theorem jbJ7_fill_53178_0 (G : GT) {X : XT} {sh : SH} {L : LH} {n : Nat} {I' : IH}   {v0 : Nat} {v1 : Int32} {I : IH} (F : MF G X RJ7 cJ7_fill_53178 4 0 none "fill") (h : fJ7_fill_53178 sh v0 v1 I = some I') : J G X (QE G X (none) sh I' L n) 4 sh I L n 0 0 0 [(0, .ref v0), (1, .int v1)] [] := by
  unfold fJ7_fill_53178 at h
  refine j_iconst (pc := 0) F 0 dJ7_fill_53178_0 (by decide) ?_
  refine j_istore_n (pc := 1) (k1 := 2) (ls' := [(2, .int 0), (0, .ref v0), (1, .int v1)]) F rfl rfl rfl dJ7_fill_53178_1 ?_
  refine j_aload_n (pc := 2) (k0 := 0) F 1 rfl dJ7_fill_53178_2 ?_
  obtain ⟨x1, hx1, h⟩ := ob h
  refine j_alen (pc := 3) F hx1 dJ7_fill_53178_3 ?_
  refine j_istore_n (pc := 4) (k1 := 3) (ls' := [(3, .int x1), (2, .int 0), (0, .ref v0), (1, .int v1)]) F rfl rfl rfl dJ7_fill_53178_4 ?_
  refine j_sub [2, 3, 1, 0] rfl ?_
  exact jbJ7_fill_53178_5 G F 1000 _ _ _ _ _ h
theorem ctJ7_fill_53178 (G : GT) {sh : SH} {I : IH} {L : LH} {n : Nat} {v0 : Nat} {v1 : Int32} {I' : IH}  (h : fJ7_fill_53178 sh v0 v1 I = some I') : Ct G yJ7_fill_53178 cJ7_fill_53178 4 none 0 [.ref v0, .int v1] sh I L n (none) sh I' L n 0 0 := by
  refine ct_ofJ (y := yJ7_fill_53178) (by decide +kernel) rfl (fun X F => ?_)
  exact jbJ7_fill_53178_0 G F h
theorem dX4_init_0 : decode cX4_init 0 = .ok (.aload_n 0, 1) := by decide +kernel
theorem dX4_init_1 : decode cX4_init 1 = .ok (.invokespecial 3, 3) := by decide +kernel
theorem dX4_init_4 : decode cX4_init 4 = .ok (.aload_n 0, 1) := by decide +kernel
theorem dX4_init_5 : decode cX4_init 5 = .ok (.iconst 4, 1) := by decide +kernel
theorem dX4_init_6 : decode cX4_init 6 = .ok (.iconst 5, 1) := by decide +kernel
theorem dX4_init_7 : decode cX4_init 7 = .ok (.multianewarray 9 2, 4) := by decide +kernel
theorem dX4_init_11 : decode cX4_init 11 = .ok (.putfield 11, 3) := by decide +kernel
theorem dX4_init_14 : decode cX4_init 14 = .ok (.aload_n 0, 1) := by decide +kernel
theorem dX4_init_15 : decode cX4_init 15 = .ok (.sipush 144, 3) := by decide +kernel
theorem dX4_init_18 : decode cX4_init 18 = .ok (.newarray .int, 2) := by decide +kernel
theorem dX4_init_20 : decode cX4_init 20 = .ok (.putfield 16, 3) := by decide +kernel
theorem dX4_init_23 : decode cX4_init 23 = .ok (.aload_n 0, 1) := by decide +kernel
theorem dX4_init_24 : decode cX4_init 24 = .ok (.getfield 11, 3) := by decide +kernel
theorem dX4_init_27 : decode cX4_init 27 = .ok (.iconst 0, 1) := by decide +kernel
theorem dX4_init_28 : decode cX4_init 28 = .ok (.aaload, 1) := by decide +kernel
theorem dX4_init_29 : decode cX4_init 29 = .ok (.iconst 1, 1) := by decide +kernel
theorem dX4_init_30 : decode cX4_init 30 = .ok (.invokestatic 20, 3) := by decide +kernel
theorem dX4_init_33 : decode cX4_init 33 = .ok (.aload_n 0, 1) := by decide +kernel
theorem dX4_init_34 : decode cX4_init 34 = .ok (.getfield 11, 3) := by decide +kernel
theorem dX4_init_37 : decode cX4_init 37 = .ok (.iconst 2, 1) := by decide +kernel
theorem dX4_init_38 : decode cX4_init 38 = .ok (.aaload, 1) := by decide +kernel
theorem dX4_init_39 : decode cX4_init 39 = .ok (.bipush 99, 2) := by decide +kernel
theorem dX4_init_41 : decode cX4_init 41 = .ok (.invokestatic 20, 3) := by decide +kernel
theorem dX4_init_44 : decode cX4_init 44 = .ok (.return_, 1) := by decide +kernel
def fX4_init (this : Nat) (sh : SH) (I : IH) (n : Nat) : Option ((Nat × Nat) × (SH × IH × Nat)) :=
  b2 (nM sh I n 4 5) fun h1 i2 =>
  addE (1 + (4 : Int32).toNatClampNeg) ((4 : Int32).toNatClampNeg + (4 : Int32).toNatClampNeg * (5 : Int32).toNatClampNeg) (
  (pR h1 4 this 0 n).bind fun h5 =>
  b2 (nAI h5 i2 (n + (1 + (4 : Int32).toNatClampNeg)) 0 144) fun h6 i7 =>
  addE 1 (144 : Int32).toNatClampNeg (
  (pR h6 4 this 1 (n + (1 + (4 : Int32).toNatClampNeg))).bind fun h10 =>
  (gR h10 4 this 0).bind fun x11 =>
  (aR h10 4 x11 0).bind fun x12 =>
  (fJ7_fill_53178 h10 x12 1 i7).bind fun i13 =>
  (gR h10 4 this 0).bind fun x14 =>
  (aR h10 4 x14 2).bind fun x15 =>
  (fJ7_fill_53178 h10 x15 99 i13).bind fun i16 =>
  some ((0, 0), (h10, i16, ((n + (1 + (4 : Int32).toNatClampNeg)) + 1)))))
set_option maxHeartbeats 4000000 in
set_option maxRecDepth 20000 in
theorem jbX4_init_0 (G : GT) {X : XT} {L : LH} {sh' : SH} {I' : IH} {n' : Nat}  {this : Nat}  {sh : SH} {I : IH} {n : Nat} {e es : Nat} (F : MF G X RX4 cX4_init 1 1 none "<init>") (h : fX4_init this sh I n = some ((e, es), (sh', I', n'))) : J G X (QE G X (none) sh' I' L n') 1 sh I L n e es 0 [(0, .ref this)] [] := by
  unfold fX4_init at h
  refine j_aload_n (pc := 0) (k0 := 0) F 0 rfl dX4_init_0 ?_
  refine j_objInit (pc := 1) F (good_of 99 (by decide +kernel) (by decide +kernel)) rfl rfl dX4_init_1 ?_
  refine j_aload_n (pc := 4) (k0 := 0) F 0 rfl dX4_init_4 ?_
  refine j_iconst (pc := 5) F 4 dX4_init_5 (by decide) ?_
  refine j_iconst (pc := 6) F 5 dX4_init_6 (by decide) ?_
  obtain ⟨h1, i2, hh1, h⟩ := b2_obt h
  obtain ⟨e3, es4, h, he, hes⟩ := addE_obt h
  refine j_multi (pc := 7) F (good_of 100 (by decide +kernel) (by decide +kernel)) aw_int hh1 he hes dX4_init_7 ?_
  obtain ⟨h5, hh5, h⟩ := ob h
  refine j_putR (pc := 11) (ty := (.array (.array .int))) F ⟨rfl, rfl⟩ flX4_11 fp4_0 (fun _ => ⟨rfl, rfl⟩) hh5 dX4_init_11 ?_
  refine j_aload_n (pc := 14) (k0 := 0) F 0 rfl dX4_init_14 ?_
  refine j_sipush (pc := 15) F 144 dX4_init_15 (by decide) ?_
  obtain ⟨h6, i7, hh6, h⟩ := b2_obt h
  obtain ⟨e8, es9, h, he, hes⟩ := addE_obt h
  refine j_newI (pc := 18) F (Or.inl ⟨rfl, rfl⟩) aw_int hh6 he hes dX4_init_18 ?_
  obtain ⟨h10, hh10, h⟩ := ob h
  refine j_putR (pc := 20) (ty := (.array .int)) F ⟨rfl, rfl⟩ flX4_16 fp4_1 (fun _ => ⟨rfl, rfl⟩) hh10 dX4_init_20 ?_
  refine j_aload_n (pc := 23) (k0 := 0) F 0 rfl dX4_init_23 ?_
  obtain ⟨x11, hx11, h⟩ := ob h
  refine j_getR (pc := 24) F flX4_11 hx11 dX4_init_24 ?_
  refine j_iconst (pc := 27) F 0 dX4_init_27 (by decide) ?_
  obtain ⟨x12, hx12, h⟩ := ob h
  refine j_aald (pc := 28) F (Or.inr rfl) hx12 dX4_init_28 ?_
  refine j_iconst (pc := 29) F 1 dX4_init_29 (by decide) ?_
  obtain ⟨i13, hi13, h⟩ := ob h
  refine j_callS0 (pc := 30) (As := [.ref x12, .int 1]) (st := []) (e1 := e8) (es1 := es9) F clX4_20 cwJ7_fill_53178 (ctJ7_fill_53178 G hi13) rfl rfl rfl rfl (Nat.zero_add _).symm (Nat.zero_add _).symm dX4_init_30 ?_
  refine j_aload_n (pc := 33) (k0 := 0) F 0 rfl dX4_init_33 ?_
  obtain ⟨x14, hx14, h⟩ := ob h
  refine j_getR (pc := 34) F flX4_11 hx14 dX4_init_34 ?_
  refine j_iconst (pc := 37) F 2 dX4_init_37 (by decide) ?_
  obtain ⟨x15, hx15, h⟩ := ob h
  refine j_aald (pc := 38) F (Or.inr rfl) hx15 dX4_init_38 ?_
  refine j_bipush (pc := 39) F 99 dX4_init_39 (by decide) ?_
  obtain ⟨i16, hi16, h⟩ := ob h
  refine j_callS0 (pc := 41) (As := [.ref x15, .int 99]) (st := []) (e1 := e8) (es1 := es9) F clX4_20 cwJ7_fill_53178 (ctJ7_fill_53178 G hi16) rfl rfl rfl rfl (Nat.zero_add _).symm (Nat.zero_add _).symm dX4_init_41 ?_
  cases h
  exact j_vret (pc := 44) F dX4_init_44
theorem ctX4_init (G : GT) {sh : SH} {I : IH} {L : LH} {n : Nat} {this : Nat} {sh' : SH} {I' : IH} {n' : Nat} {e es : Nat}  (h : fX4_init this sh I n = some ((e, es), (sh', I', n'))) : Ct G yX4_init cX4_init 1 none 1 [.ref this] sh I L n (none) sh' I' L n' e es := by
  refine ct_of (y := yX4_init) (by decide +kernel) rfl (fun X F => ?_)
  exact jbX4_init_0 G F h
theorem dJ9_min_7cf53_0 : decode cJ9_min_7cf53 0 = .ok (.iload_n 0, 1) := by decide +kernel
theorem dJ9_min_7cf53_1 : decode cJ9_min_7cf53 1 = .ok (.iload_n 1, 1) := by decide +kernel
theorem dJ9_min_7cf53_2 : decode cJ9_min_7cf53 2 = .ok (.if_icmp .gt 7, 3) := by decide +kernel
theorem dJ9_min_7cf53_5 : decode cJ9_min_7cf53 5 = .ok (.iload_n 0, 1) := by decide +kernel
theorem dJ9_min_7cf53_6 : decode cJ9_min_7cf53 6 = .ok (.goto 4, 3) := by decide +kernel
theorem dJ9_min_7cf53_9 : decode cJ9_min_7cf53 9 = .ok (.iload_n 1, 1) := by decide +kernel
theorem dJ9_min_7cf53_10 : decode cJ9_min_7cf53 10 = .ok (.ireturn, 1) := by decide +kernel
def fJ9_min_7cf53 (v0 : Int32) (v1 : Int32) : Int32 :=
  if v1 < v0 then (
    v1) else
  v0
set_option maxHeartbeats 4000000 in
set_option maxRecDepth 20000 in
theorem jbJ9_min_7cf53_0 (G : GT) {X : XT} {sh : SH} {I : IH} {L : LH} {n : Nat} {r : Int32}   {v0 : Int32} {v1 : Int32} (F : MF G X RJ9 cJ9_min_7cf53 2 0 (some .int) "min") (h : fJ9_min_7cf53 v0 v1 = r) : J G X (QE G X (some (.int r)) sh I L n) 2 sh I L n 0 0 0 [(0, .int v0), (1, .int v1)] [] := by
  unfold fJ9_min_7cf53 at h
  refine j_iload_n (pc := 0) (k0 := 0) F 0 rfl dJ9_min_7cf53_0 ?_
  refine j_iload_n (pc := 1) (k0 := 1) F 1 rfl dJ9_min_7cf53_1 ?_
  refine j_icmp_gt (pc := 2) F 9 dJ9_min_7cf53_2 rfl (fun c => ?_) (fun c => ?_)
  · have h := iz_t c h
    refine j_iload_n (pc := 9) (k0 := 1) F 1 rfl dJ9_min_7cf53_9 ?_
    subst h
    exact j_iret (pc := 10) F dJ9_min_7cf53_10
  · have h := iz_f c h
    refine j_iload_n (pc := 5) (k0 := 0) F 0 rfl dJ9_min_7cf53_5 ?_
    refine j_goto (pc := 6) F 10 dJ9_min_7cf53_6 rfl ?_
    subst h
    exact j_iret (pc := 10) F dJ9_min_7cf53_10
theorem ctJ9_min_7cf53 (G : GT) {sh : SH} {I : IH} {L : LH} {n : Nat} {v0 : Int32} {v1 : Int32} : Ct G yJ9_min_7cf53 cJ9_min_7cf53 2 (some .int) 0 [.int v0, .int v1] sh I L n (some (.int (fJ9_min_7cf53 v0 v1))) sh I L n 0 0 := by
  refine ct_ofJ (y := yJ9_min_7cf53) (by decide +kernel) rfl (fun X F => ?_)
  exact jbJ9_min_7cf53_0 G F rfl
theorem dX1_init_0 : decode cX1_init 0 = .ok (.aload_n 0, 1) := by decide +kernel
theorem dX1_init_1 : decode cX1_init 1 = .ok (.invokespecial 3, 3) := by decide +kernel
theorem dX1_init_4 : decode cX1_init 4 = .ok (.aload_n 0, 1) := by decide +kernel
theorem dX1_init_5 : decode cX1_init 5 = .ok (.iconst 1, 1) := by decide +kernel
theorem dX1_init_6 : decode cX1_init 6 = .ok (.putfield 9, 3) := by decide +kernel
theorem dX1_init_9 : decode cX1_init 9 = .ok (.aload_n 0, 1) := by decide +kernel
theorem dX1_init_10 : decode cX1_init 10 = .ok (.new 15, 3) := by decide +kernel
theorem dX1_init_13 : decode cX1_init 13 = .ok (.dup, 1) := by decide +kernel
theorem dX1_init_14 : decode cX1_init 14 = .ok (.invokespecial 17, 3) := by decide +kernel
theorem dX1_init_17 : decode cX1_init 17 = .ok (.putfield 18, 3) := by decide +kernel
theorem dX1_init_20 : decode cX1_init 20 = .ok (.aload_n 0, 1) := by decide +kernel
theorem dX1_init_21 : decode cX1_init 21 = .ok (.aload_n 1, 1) := by decide +kernel
theorem dX1_init_22 : decode cX1_init 22 = .ok (.putfield 22, 3) := by decide +kernel
theorem dX1_init_25 : decode cX1_init 25 = .ok (.aload_n 0, 1) := by decide +kernel
theorem dX1_init_26 : decode cX1_init 26 = .ok (.iload_n 2, 1) := by decide +kernel
theorem dX1_init_27 : decode cX1_init 27 = .ok (.aload_n 1, 1) := by decide +kernel
theorem dX1_init_28 : decode cX1_init 28 = .ok (.arraylength, 1) := by decide +kernel
theorem dX1_init_29 : decode cX1_init 29 = .ok (.invokestatic 26, 3) := by decide +kernel
theorem dX1_init_32 : decode cX1_init 32 = .ok (.putfield 32, 3) := by decide +kernel
theorem dX1_init_35 : decode cX1_init 35 = .ok (.return_, 1) := by decide +kernel
def fX1_init (this : Nat) (v1 : Nat) (v2 : Int32) (sh : SH) (I : IH) (n : Nat) : Option ((Nat × Nat) × (SH × IH × Nat)) :=
  (pI sh I 1 this 2 1).bind fun i1 =>
  b2 (some (nO sh n 4, nOI i1 n)) fun h2 i3 =>
  addE 1 2 (
  bE3 (fX4_init n (nO sh n 4) (nOI i1 n) (n + 1)) fun h6 i7 n8 =>
  (pR h6 1 this 4 n).bind fun h13 =>
  (pR h13 1 this 0 v1).bind fun h14 =>
  (aL h14 v1).bind fun x15 =>
  (pI h14 i7 1 this 1 (fJ9_min_7cf53 v2 x15)).bind fun i16 =>
  some ((0, 0), (h14, i16, n8)))
set_option maxHeartbeats 4000000 in
set_option maxRecDepth 20000 in
theorem jbX1_init_0 (G : GT) {X : XT} {L : LH} {sh' : SH} {I' : IH} {n' : Nat}  {this : Nat}  {v1 : Nat} {v2 : Int32} {sh : SH} {I : IH} {n : Nat} {e es : Nat} (F : MF G X RX1 cX1_init 3 2 none "<init>") (h : fX1_init this v1 v2 sh I n = some ((e, es), (sh', I', n'))) : J G X (QE G X (none) sh' I' L n') 3 sh I L n e es 0 [(0, .ref this), (1, .ref v1), (2, .int v2)] [] := by
  unfold fX1_init at h
  refine j_aload_n (pc := 0) (k0 := 0) F 0 rfl dX1_init_0 ?_
  refine j_objInit (pc := 1) F (good_of 307 (by decide +kernel) (by decide +kernel)) rfl rfl dX1_init_1 ?_
  refine j_aload_n (pc := 4) (k0 := 0) F 0 rfl dX1_init_4 ?_
  refine j_iconst (pc := 5) F 1 dX1_init_5 (by decide) ?_
  obtain ⟨i1, hi1, h⟩ := ob h
  refine j_putZ (pc := 6) F (Or.inr rfl) flX1_9 fp1_2 (fun z => by cases z) hi1 dX1_init_6 ?_
  refine j_aload_n (pc := 9) (k0 := 0) F 0 rfl dX1_init_9 ?_
  obtain ⟨h2, i3, hh2, h⟩ := b2_obt h
  cases hh2
  obtain ⟨e4, es5, h, he, hes⟩ := addE_obt h
  refine j_new (pc := 10) F cnX1_15 he hes dX1_init_10 ?_
  refine j_dup (pc := 13) F dX1_init_13 rfl ?_
  obtain ⟨d9, ds10, h6, i7, n8, e11, es12, hh6, h, he, hes⟩ := bE3_obt h
  refine j_callI (pc := 14) (As := []) (st := [.ref n, .ref this]) (e1 := e11) (es1 := es12) F clX1_17 cwX4_init (ctX4_init G hh6) rfl rfl rfl rfl he hes dX1_init_14 ?_
  obtain ⟨h13, hh13, h⟩ := ob h
  refine j_putR (pc := 17) (ty := (.object "MeltHours$Valley")) F ⟨rfl, rfl⟩ flX1_18 fp1_4 (fun _ => ⟨rfl, rfl⟩) hh13 dX1_init_17 ?_
  refine j_aload_n (pc := 20) (k0 := 0) F 0 rfl dX1_init_20 ?_
  refine j_aload_n (pc := 21) (k0 := 1) F 1 rfl dX1_init_21 ?_
  obtain ⟨h14, hh14, h⟩ := ob h
  refine j_putR (pc := 22) (ty := (.array .int)) F ⟨rfl, rfl⟩ flX1_22 fp1_0 (fun _ => ⟨rfl, rfl⟩) hh14 dX1_init_22 ?_
  refine j_aload_n (pc := 25) (k0 := 0) F 0 rfl dX1_init_25 ?_
  refine j_iload_n (pc := 26) (k0 := 2) F 2 rfl dX1_init_26 ?_
  refine j_aload_n (pc := 27) (k0 := 1) F 1 rfl dX1_init_27 ?_
  obtain ⟨x15, hx15, h⟩ := ob h
  refine j_alen (pc := 28) F hx15 dX1_init_28 ?_
  refine j_callS1 (pc := 29) (As := [.int v2, .int x15]) (st := [.ref this]) (e1 := e11) (es1 := es12) F clX1_26 cwJ9_min_7cf53 (ctJ9_min_7cf53 G) rfl rfl rfl rfl (Nat.zero_add _).symm (Nat.zero_add _).symm dX1_init_29 ?_
  obtain ⟨i16, hi16, h⟩ := ob h
  refine j_putI (pc := 32) F flX1_32 fp1_1 (fun _ => ⟨rfl, rfl⟩) hi16 dX1_init_32 ?_
  cases h
  exact j_vret (pc := 35) F dX1_init_35
theorem ctX1_init (G : GT) {sh : SH} {I : IH} {L : LH} {n : Nat} {this : Nat} {v1 : Nat} {v2 : Int32} {sh' : SH} {I' : IH} {n' : Nat} {e es : Nat}  (h : fX1_init this v1 v2 sh I n = some ((e, es), (sh', I', n'))) : Ct G yX1_init cX1_init 3 none 2 [.ref this, .ref v1, .int v2] sh I L n (none) sh' I' L n' e es := by
  refine ct_of (y := yX1_init) (by decide +kernel) rfl (fun X F => ?_)
  exact jbX1_init_0 G F h
theorem dX1_next_0 : decode cX1_next 0 = .ok (.aload_n 0, 1) := by decide +kernel
theorem dX1_next_1 : decode cX1_next 1 = .ok (.getfield 9, 3) := by decide +kernel
theorem dX1_next_4 : decode cX1_next 4 = .ok (.ifCond .eq 26, 3) := by decide +kernel
theorem dX1_next_7 : decode cX1_next 7 = .ok (.aload_n 0, 1) := by decide +kernel
theorem dX1_next_8 : decode cX1_next 8 = .ok (.getfield 43, 3) := by decide +kernel
theorem dX1_next_11 : decode cX1_next 11 = .ok (.aload_n 0, 1) := by decide +kernel
theorem dX1_next_12 : decode cX1_next 12 = .ok (.getfield 32, 3) := by decide +kernel
theorem dX1_next_15 : decode cX1_next 15 = .ok (.if_icmp .ge 15, 3) := by decide +kernel
theorem dX1_next_18 : decode cX1_next 18 = .ok (.aload_n 0, 1) := by decide +kernel
theorem dX1_next_19 : decode cX1_next 19 = .ok (.getfield 22, 3) := by decide +kernel
theorem dX1_next_22 : decode cX1_next 22 = .ok (.aload_n 0, 1) := by decide +kernel
theorem dX1_next_23 : decode cX1_next 23 = .ok (.getfield 43, 3) := by decide +kernel
theorem dX1_next_26 : decode cX1_next 26 = .ok (.iaload, 1) := by decide +kernel
theorem dX1_next_27 : decode cX1_next 27 = .ok (.goto 4, 3) := by decide +kernel
theorem dX1_next_30 : decode cX1_next 30 = .ok (.iconst (-1), 1) := by decide +kernel
theorem dX1_next_31 : decode cX1_next 31 = .ok (.ireturn, 1) := by decide +kernel
def fX1_next (sh : SH) (I : IH) (this : Nat) : Option (Int32) :=
  (gI sh I 1 this 2).bind fun x1 =>
  if x1 = 0 then (
    some (-1)) else
  (gI sh I 1 this 3).bind fun x2 =>
  (gI sh I 1 this 1).bind fun x3 =>
  if x3 ≤ x2 then (
    some (-1)) else
  (gR sh 1 this 0).bind fun x4 =>
  (gI sh I 1 this 3).bind fun x5 =>
  (aI sh I 0 x4 x5).bind fun x6 =>
  some x6
set_option maxHeartbeats 4000000 in
set_option maxRecDepth 20000 in
theorem jbX1_next_0 (G : GT) {X : XT} {sh : SH} {I : IH} {L : LH} {n : Nat} {r : Int32}  {this : Nat}   (F : MF G X RX1 cX1_next 1 0 (some .int) "next") (h : fX1_next sh I this  = some r) : J G X (QE G X (some (.int r)) sh I L n) 1 sh I L n 0 0 0 [(0, .ref this)] [] := by
  unfold fX1_next at h
  refine j_aload_n (pc := 0) (k0 := 0) F 0 rfl dX1_next_0 ?_
  obtain ⟨x1, hx1, h⟩ := ob h
  refine j_getI (pc := 1) F flX1_9 hx1 dX1_next_1 ?_
  refine j_if_eq (pc := 4) F 30 dX1_next_4 rfl (fun c => ?_) (fun c => ?_)
  · have h := iz_t c h
    refine j_iconst (pc := 30) F (-1) dX1_next_30 (by decide) ?_
    cases h
    exact j_iret (pc := 31) F dX1_next_31
  · have h := iz_f c h
    refine j_aload_n (pc := 7) (k0 := 0) F 0 rfl dX1_next_7 ?_
    obtain ⟨x2, hx2, h⟩ := ob h
    refine j_getI (pc := 8) F flX1_43 hx2 dX1_next_8 ?_
    refine j_aload_n (pc := 11) (k0 := 0) F 0 rfl dX1_next_11 ?_
    obtain ⟨x3, hx3, h⟩ := ob h
    refine j_getI (pc := 12) F flX1_32 hx3 dX1_next_12 ?_
    refine j_icmp_ge (pc := 15) F 30 dX1_next_15 rfl (fun c => ?_) (fun c => ?_)
    · have h := iz_t c h
      refine j_iconst (pc := 30) F (-1) dX1_next_30 (by decide) ?_
      cases h
      exact j_iret (pc := 31) F dX1_next_31
    · have h := iz_f c h
      refine j_aload_n (pc := 18) (k0 := 0) F 0 rfl dX1_next_18 ?_
      obtain ⟨x4, hx4, h⟩ := ob h
      refine j_getR (pc := 19) F flX1_22 hx4 dX1_next_19 ?_
      refine j_aload_n (pc := 22) (k0 := 0) F 0 rfl dX1_next_22 ?_
      obtain ⟨x5, hx5, h⟩ := ob h
      refine j_getI (pc := 23) F flX1_43 hx5 dX1_next_23 ?_
      obtain ⟨x6, hx6, h⟩ := ob h
      refine j_iald (pc := 26) F hx6 dX1_next_26 ?_
      refine j_goto (pc := 27) F 31 dX1_next_27 rfl ?_
      cases h
      exact j_iret (pc := 31) F dX1_next_31
theorem ctX1_next (G : GT) {sh : SH} {I : IH} {L : LH} {n : Nat} {this : Nat} {r : Int32}  (h : fX1_next sh I this = some r) : Ct G yX1_next cX1_next 1 (some .int) 0 [.ref this] sh I L n (some (.int r)) sh I L n 0 0 := by
  refine ct_of (y := yX1_next) (by decide +kernel) rfl (fun X F => ?_)
  exact jbX1_next_0 G F h
theorem dX1_passes_0 : decode cX1_passes 0 = .ok (.aload_n 0, 1) := by decide +kernel
theorem dX1_passes_1 : decode cX1_passes 1 = .ok (.invokevirtual 109, 3) := by decide +kernel
theorem dX1_passes_4 : decode cX1_passes 4 = .ok (.iload_n 1, 1) := by decide +kernel
theorem dX1_passes_5 : decode cX1_passes 5 = .ok (.if_icmp .eq 5, 3) := by decide +kernel
theorem dX1_passes_8 : decode cX1_passes 8 = .ok (.iconst 0, 1) := by decide +kernel
theorem dX1_passes_9 : decode cX1_passes 9 = .ok (.ireturn, 1) := by decide +kernel
theorem dX1_passes_10 : decode cX1_passes 10 = .ok (.aload_n 0, 1) := by decide +kernel
theorem dX1_passes_11 : decode cX1_passes 11 = .ok (.dup, 1) := by decide +kernel
theorem dX1_passes_12 : decode cX1_passes 12 = .ok (.getfield 43, 3) := by decide +kernel
theorem dX1_passes_15 : decode cX1_passes 15 = .ok (.iconst 1, 1) := by decide +kernel
theorem dX1_passes_16 : decode cX1_passes 16 = .ok (.iadd, 1) := by decide +kernel
theorem dX1_passes_17 : decode cX1_passes 17 = .ok (.putfield 43, 3) := by decide +kernel
theorem dX1_passes_20 : decode cX1_passes 20 = .ok (.iconst 1, 1) := by decide +kernel
theorem dX1_passes_21 : decode cX1_passes 21 = .ok (.ireturn, 1) := by decide +kernel
def fX1_passes (sh : SH) (this : Nat) (v1 : Int32) (I : IH) : Option (Int32 × IH) :=
  (fX1_next sh I this).bind fun x1 =>
  if x1 = v1 then (
    (gI sh I 1 this 3).bind fun x2 =>
    (pI sh I 1 this 3 (x2 + 1)).bind fun i3 =>
    some (1, i3)) else
  some (0, I)
set_option maxHeartbeats 4000000 in
set_option maxRecDepth 20000 in
theorem jbX1_passes_0 (G : GT) {X : XT} {sh : SH} {L : LH} {n : Nat} {r : Int32} {I' : IH}  {this : Nat}  {v1 : Int32} {I : IH} (F : MF G X RX1 cX1_passes 2 1 (some .boolean) "passes") (hth : isO sh 1 this) (h : fX1_passes sh this v1 I = some (r, I')) : J G X (QE G X (some (.int r)) sh I' L n) 2 sh I L n 0 0 0 [(0, .ref this), (1, .int v1)] [] := by
  unfold fX1_passes at h
  refine j_aload_n (pc := 0) (k0 := 0) F 0 rfl dX1_passes_0 ?_
  obtain ⟨x1, hx1, h⟩ := ob h
  refine j_callV1 (pc := 1) (ci := 1) (As := []) (st := []) (e1 := 0) (es1 := 0) F clX1_109 cwX1_next rfl hth (ctX1_next G hx1) rfl rfl rfl rfl rfl rfl dX1_passes_1 ?_
  refine j_iload_n (pc := 4) (k0 := 1) F 1 rfl dX1_passes_4 ?_
  refine j_icmp_eq (pc := 5) F 10 dX1_passes_5 rfl (fun c => ?_) (fun c => ?_)
  · have h := iz_t c h
    refine j_aload_n (pc := 10) (k0 := 0) F 0 rfl dX1_passes_10 ?_
    refine j_dup (pc := 11) F dX1_passes_11 rfl ?_
    obtain ⟨x2, hx2, h⟩ := ob h
    refine j_getI (pc := 12) F flX1_43 hx2 dX1_passes_12 ?_
    refine j_iconst (pc := 15) F 1 dX1_passes_15 (by decide) ?_
    refine j_iadd (pc := 16) F dX1_passes_16 ?_
    obtain ⟨i3, hi3, h⟩ := ob h
    refine j_putI (pc := 17) F flX1_43 fp1_3 (fun z => by cases z) hi3 dX1_passes_17 ?_
    refine j_iconst (pc := 20) F 1 dX1_passes_20 (by decide) ?_
    cases h
    exact j_zret (pc := 21) F (Or.inr rfl) dX1_passes_21
  · have h := iz_f c h
    refine j_iconst (pc := 8) F 0 dX1_passes_8 (by decide) ?_
    cases h
    exact j_zret (pc := 9) F (Or.inl rfl) dX1_passes_9
theorem ctX1_passes (G : GT) {sh : SH} {I : IH} {L : LH} {n : Nat} {this : Nat} {v1 : Int32} {r : Int32} {I' : IH}  (hth : isO sh 1 this) (h : fX1_passes sh this v1 I = some (r, I')) : Ct G yX1_passes cX1_passes 2 (some .boolean) 1 [.ref this, .int v1] sh I L n (some (.int r)) sh I' L n 0 0 := by
  refine ct_of (y := yX1_passes) (by decide +kernel) rfl (fun X F => ?_)
  exact jbX1_passes_0 G F hth h
theorem dX1_expect_0 : decode cX1_expect 0 = .ok (.aload_n 0, 1) := by decide +kernel
theorem dX1_expect_1 : decode cX1_expect 1 = .ok (.iload_n 1, 1) := by decide +kernel
theorem dX1_expect_2 : decode cX1_expect 2 = .ok (.invokevirtual 39, 3) := by decide +kernel
theorem dX1_expect_5 : decode cX1_expect 5 = .ok (.ifCond .ne 8, 3) := by decide +kernel
theorem dX1_expect_8 : decode cX1_expect 8 = .ok (.aload_n 0, 1) := by decide +kernel
theorem dX1_expect_9 : decode cX1_expect 9 = .ok (.iconst 0, 1) := by decide +kernel
theorem dX1_expect_10 : decode cX1_expect 10 = .ok (.putfield 9, 3) := by decide +kernel
theorem dX1_expect_13 : decode cX1_expect 13 = .ok (.return_, 1) := by decide +kernel
def fX1_expect (sh : SH) (this : Nat) (v1 : Int32) (I : IH) : Option (IH) :=
  b2 (fX1_passes sh this v1 I) fun x1 i2 =>
  if x1 = 0 then (
    (pI sh i2 1 this 2 0).bind fun i3 =>
    some i3) else
  some i2
set_option maxHeartbeats 4000000 in
set_option maxRecDepth 20000 in
theorem jbX1_expect_0 (G : GT) {X : XT} {sh : SH} {L : LH} {n : Nat} {I' : IH}  {this : Nat}  {v1 : Int32} {I : IH} (F : MF G X RX1 cX1_expect 2 2 none "expect") (hth : isO sh 1 this) (h : fX1_expect sh this v1 I = some I') : J G X (QE G X (none) sh I' L n) 2 sh I L n 0 0 0 [(0, .ref this), (1, .int v1)] [] := by
  unfold fX1_expect at h
  refine j_aload_n (pc := 0) (k0 := 0) F 0 rfl dX1_expect_0 ?_
  refine j_iload_n (pc := 1) (k0 := 1) F 1 rfl dX1_expect_1 ?_
  obtain ⟨x1, i2, hx1, h⟩ := b2_obt h
  refine j_callV1 (pc := 2) (ci := 1) (As := [.int v1]) (st := []) (e1 := 0) (es1 := 0) F clX1_39 cwX1_passes rfl hth (ctX1_passes G hth hx1) rfl rfl rfl rfl rfl rfl dX1_expect_2 ?_
  refine j_if_ne (pc := 5) F 13 dX1_expect_5 rfl (fun c => ?_) (fun c => ?_)
  · have h := iz_f c h
    cases h
    exact j_vret (pc := 13) F dX1_expect_13
  · have h := iz_t c h
    refine j_aload_n (pc := 8) (k0 := 0) F 0 rfl dX1_expect_8 ?_
    refine j_iconst (pc := 9) F 0 dX1_expect_9 (by decide) ?_
    obtain ⟨i3, hi3, h⟩ := ob h
    refine j_putZ (pc := 10) F (Or.inl rfl) flX1_9 fp1_2 (fun z => by cases z) hi3 dX1_expect_10 ?_
    cases h
    exact j_vret (pc := 13) F dX1_expect_13
theorem ctX1_expect (G : GT) {sh : SH} {I : IH} {L : LH} {n : Nat} {this : Nat} {v1 : Int32} {I' : IH}  (hth : isO sh 1 this) (h : fX1_expect sh this v1 I = some I') : Ct G yX1_expect cX1_expect 2 none 2 [.ref this, .int v1] sh I L n (none) sh I' L n 0 0 := by
  refine ct_of (y := yX1_expect) (by decide +kernel) rfl (fun X F => ?_)
  exact jbX1_expect_0 G F hth h
theorem dX1_ending_0 : decode cX1_ending 0 = .ok (.iconst 0, 1) := by decide +kernel
theorem dX1_ending_1 : decode cX1_ending 1 = .ok (.istore_n 3, 1) := by decide +kernel
theorem dX1_ending_2 : decode cX1_ending 2 = .ok (.iload_n 3, 1) := by decide +kernel
theorem dX1_ending_3 : decode cX1_ending 3 = .ok (.aload_n 1, 1) := by decide +kernel
theorem dX1_ending_4 : decode cX1_ending 4 = .ok (.invokevirtual 87, 3) := by decide +kernel
theorem dX1_ending_7 : decode cX1_ending 7 = .ok (.if_icmp .ge 18, 3) := by decide +kernel
theorem dX1_ending_10 : decode cX1_ending 10 = .ok (.aload_n 0, 1) := by decide +kernel
theorem dX1_ending_11 : decode cX1_ending 11 = .ok (.aload_n 1, 1) := by decide +kernel
theorem dX1_ending_12 : decode cX1_ending 12 = .ok (.iload_n 3, 1) := by decide +kernel
theorem dX1_ending_13 : decode cX1_ending 13 = .ok (.invokevirtual 91, 3) := by decide +kernel
theorem dX1_ending_16 : decode cX1_ending 16 = .ok (.invokevirtual 50, 3) := by decide +kernel
theorem dX1_ending_19 : decode cX1_ending 19 = .ok (.iinc 3 1, 3) := by decide +kernel
theorem dX1_ending_22 : decode cX1_ending 22 = .ok (.goto (-20), 3) := by decide +kernel
theorem dX1_ending_25 : decode cX1_ending 25 = .ok (.iload_n 2, 1) := by decide +kernel
theorem dX1_ending_26 : decode cX1_ending 26 = .ok (.ireturn, 1) := by decide +kernel
def fX1_ending_b2 (sh : SH) (this : Nat) : Nat → Nat → Int32 → Int32 → IH → Option (Int32 × IH)
  | 0, _, _, _, _ => none
  | fuel + 1, v1, v2, v3, I =>
    (stL v1).bind fun z4 =>
    if z4 ≤ v3 then (
      some (v2, I)) else
    (stC v1 v3).bind fun z13 =>
    (fX1_expect sh this z13 I).bind fun i1 =>
    fX1_ending_b2 sh this fuel v1 v2 (v3 + 1) i1
def fX1_ending (sh : SH) (this : Nat) (v1 : Nat) (v2 : Int32) (I : IH) : Option (Int32 × IH) :=
  fX1_ending_b2 sh this 1000 v1 v2 0 I
set_option maxHeartbeats 4000000 in
set_option maxRecDepth 20000 in
theorem jbX1_ending_2 (G : GT) {X : XT} {sh : SH} {L : LH} {n : Nat} {r : Int32} {I' : IH}  {this : Nat}  (F : MF G X RX1 cX1_ending 4 4 (some .int) "ending") (hth : isO sh 1 this) : ∀ (fuel : Nat) (v1 : Nat) (v2 : Int32) (v3 : Int32) (I : IH), fX1_ending_b2 sh this fuel v1 v2 v3 I = some (r, I') → J G X (QE G X (some (.int r)) sh I' L n) 4 sh I L n 0 0 2 [(0, .ref this), (1, .ref (G.2.2.2.2.1 v1)), (2, .int v2), (3, .int v3)] []
  | 0 => by
    intros
    rename_i h
    exact absurd (show none = some _ from h) (by intro z; cases z)
  | fuel + 1 => by
    intro v1 v2 v3 I h
    rw [fX1_ending_b2] at h
    refine j_iload_n (pc := 2) (k0 := 3) F 3 rfl dX1_ending_2 ?_
    refine j_aload_n (pc := 3) (k0 := 1) F 1 rfl dX1_ending_3 ?_
    obtain ⟨z4, hz4, h⟩ := ob h
    refine j_strL (pc := 4) F clX1_87 hz4 rfl rfl dX1_ending_4 ?_
    refine j_icmp_ge (pc := 7) F 25 dX1_ending_7 rfl (fun c => ?_) (fun c => ?_)
    · have h := iz_t c h
      refine j_iload_n (pc := 25) (k0 := 2) F 2 rfl dX1_ending_25 ?_
      cases h
      exact j_iret (pc := 26) F dX1_ending_26
    · have h := iz_f c h
      refine j_aload_n (pc := 10) (k0 := 0) F 0 rfl dX1_ending_10 ?_
      refine j_aload_n (pc := 11) (k0 := 1) F 1 rfl dX1_ending_11 ?_
      refine j_iload_n (pc := 12) (k0 := 3) F 3 rfl dX1_ending_12 ?_
      obtain ⟨z13, hz13, h⟩ := ob h
      refine j_strC (pc := 13) F clX1_91 hz13 rfl rfl dX1_ending_13 ?_
      obtain ⟨i1, hi1, h⟩ := ob h
      refine j_callV0 (pc := 16) (ci := 1) (As := [.int z13]) (st := []) (e1 := 0) (es1 := 0) F clX1_50 cwX1_expect rfl hth (ctX1_expect G hth hi1) rfl rfl rfl rfl rfl rfl dX1_ending_16 ?_
      refine j_iinc (pc := 19) (k1 := 3) (ls' := [(3, .int (v3 + 1)), (0, .ref this), (1, .ref (G.2.2.2.2.1 v1)), (2, .int v2)]) F (v3 + 1) 3 rfl rfl rfl rfl dX1_ending_19 ?_
      refine j_goto (pc := 22) F 2 dX1_ending_22 rfl ?_
      refine j_sub [1, 2, 3, 0] rfl ?_
      exact jbX1_ending_2 G F hth fuel _ _ _ _ h
set_option maxHeartbeats 4000000 in
set_option maxRecDepth 20000 in
theorem jbX1_ending_0 (G : GT) {X : XT} {sh : SH} {L : LH} {n : Nat} {r : Int32} {I' : IH}  {this : Nat}  {v1 : Nat} {v2 : Int32} {I : IH} (F : MF G X RX1 cX1_ending 4 4 (some .int) "ending") (hth : isO sh 1 this) (h : fX1_ending sh this v1 v2 I = some (r, I')) : J G X (QE G X (some (.int r)) sh I' L n) 4 sh I L n 0 0 0 [(0, .ref this), (1, .ref (G.2.2.2.2.1 v1)), (2, .int v2)] [] := by
  unfold fX1_ending at h
  refine j_iconst (pc := 0) F 0 dX1_ending_0 (by decide) ?_
  refine j_istore_n (pc := 1) (k1 := 3) (ls' := [(3, .int 0), (0, .ref this), (1, .ref (G.2.2.2.2.1 v1)), (2, .int v2)]) F rfl rfl rfl dX1_ending_1 ?_
  refine j_sub [1, 2, 3, 0] rfl ?_
  exact jbX1_ending_2 G F hth 1000 _ _ _ _ h
theorem ctX1_ending (G : GT) {sh : SH} {I : IH} {L : LH} {n : Nat} {this : Nat} {v1 : Nat} {v2 : Int32} {r : Int32} {I' : IH}  (hth : isO sh 1 this) (h : fX1_ending sh this v1 v2 I = some (r, I')) : Ct G yX1_ending cX1_ending 4 (some .int) 4 [.ref this, .ref (G.2.2.2.2.1 v1), .int v2] sh I L n (some (.int r)) sh I' L n 0 0 := by
  refine ct_of (y := yX1_ending) (by decide +kernel) rfl (fun X F => ?_)
  exact jbX1_ending_0 G F hth h
theorem dX1_word_0 : decode cX1_word 0 = .ok (.aload_n 0, 1) := by decide +kernel
theorem dX1_word_1 : decode cX1_word 1 = .ok (.bipush 109, 2) := by decide +kernel
theorem dX1_word_3 : decode cX1_word 3 = .ok (.invokevirtual 39, 3) := by decide +kernel
theorem dX1_word_6 : decode cX1_word 6 = .ok (.ifCond .eq 30, 3) := by decide +kernel
theorem dX1_word_9 : decode cX1_word 9 = .ok (.aload_n 0, 1) := by decide +kernel
theorem dX1_word_10 : decode cX1_word 10 = .ok (.bipush 101, 2) := by decide +kernel
theorem dX1_word_12 : decode cX1_word 12 = .ok (.invokevirtual 39, 3) := by decide +kernel
theorem dX1_word_15 : decode cX1_word 15 = .ok (.ifCond .eq 13, 3) := by decide +kernel
theorem dX1_word_18 : decode cX1_word 18 = .ok (.aload_n 0, 1) := by decide +kernel
theorem dX1_word_19 : decode cX1_word 19 = .ok (.ldc 73, 2) := by decide +kernel
theorem dX1_word_21 : decode cX1_word 21 = .ok (.iconst 4, 1) := by decide +kernel
theorem dX1_word_22 : decode cX1_word 22 = .ok (.invokevirtual 75, 3) := by decide +kernel
theorem dX1_word_25 : decode cX1_word 25 = .ok (.goto 10, 3) := by decide +kernel
theorem dX1_word_28 : decode cX1_word 28 = .ok (.aload_n 0, 1) := by decide +kernel
theorem dX1_word_29 : decode cX1_word 29 = .ok (.ldc 79, 2) := by decide +kernel
theorem dX1_word_31 : decode cX1_word 31 = .ok (.iconst 2, 1) := by decide +kernel
theorem dX1_word_32 : decode cX1_word 32 = .ok (.invokevirtual 75, 3) := by decide +kernel
theorem dX1_word_35 : decode cX1_word 35 = .ok (.ireturn, 1) := by decide +kernel
theorem dX1_word_36 : decode cX1_word 36 = .ok (.aload_n 0, 1) := by decide +kernel
theorem dX1_word_37 : decode cX1_word 37 = .ok (.bipush 108, 2) := by decide +kernel
theorem dX1_word_39 : decode cX1_word 39 = .ok (.invokevirtual 39, 3) := by decide +kernel
theorem dX1_word_42 : decode cX1_word 42 = .ok (.ifCond .eq 30, 3) := by decide +kernel
theorem dX1_word_45 : decode cX1_word 45 = .ok (.aload_n 0, 1) := by decide +kernel
theorem dX1_word_46 : decode cX1_word 46 = .ok (.bipush 97, 2) := by decide +kernel
theorem dX1_word_48 : decode cX1_word 48 = .ok (.invokevirtual 39, 3) := by decide +kernel
theorem dX1_word_51 : decode cX1_word 51 = .ok (.ifCond .eq 13, 3) := by decide +kernel
theorem dX1_word_54 : decode cX1_word 54 = .ok (.aload_n 0, 1) := by decide +kernel
theorem dX1_word_55 : decode cX1_word 55 = .ok (.ldc 81, 2) := by decide +kernel
theorem dX1_word_57 : decode cX1_word 57 = .ok (.iconst 0, 1) := by decide +kernel
theorem dX1_word_58 : decode cX1_word 58 = .ok (.invokevirtual 75, 3) := by decide +kernel
theorem dX1_word_61 : decode cX1_word 61 = .ok (.goto 10, 3) := by decide +kernel
theorem dX1_word_64 : decode cX1_word 64 = .ok (.aload_n 0, 1) := by decide +kernel
theorem dX1_word_65 : decode cX1_word 65 = .ok (.ldc 83, 2) := by decide +kernel
theorem dX1_word_67 : decode cX1_word 67 = .ok (.iconst 1, 1) := by decide +kernel
theorem dX1_word_68 : decode cX1_word 68 = .ok (.invokevirtual 75, 3) := by decide +kernel
theorem dX1_word_71 : decode cX1_word 71 = .ok (.ireturn, 1) := by decide +kernel
theorem dX1_word_72 : decode cX1_word 72 = .ok (.aload_n 0, 1) := by decide +kernel
theorem dX1_word_73 : decode cX1_word 73 = .ok (.ldc 85, 2) := by decide +kernel
theorem dX1_word_75 : decode cX1_word 75 = .ok (.iconst 3, 1) := by decide +kernel
theorem dX1_word_76 : decode cX1_word 76 = .ok (.invokevirtual 75, 3) := by decide +kernel
theorem dX1_word_79 : decode cX1_word 79 = .ok (.ireturn, 1) := by decide +kernel
def fX1_word (sh : SH) (this : Nat) (I : IH) : Option (Int32 × IH) :=
  b2 (fX1_passes sh this 109 I) fun x1 i2 =>
  if x1 = 0 then (
    b2 (fX1_passes sh this 108 i2) fun x3 i4 =>
    if x3 = 0 then (
      b2 (fX1_ending sh this 4 3 i4) fun x5 i6 =>
      some (x5, i6)) else
    b2 (fX1_passes sh this 97 i4) fun x7 i8 =>
    if x7 = 0 then (
      b2 (fX1_ending sh this 3 1 i8) fun x9 i10 =>
      some (x9, i10)) else
    b2 (fX1_ending sh this 2 0 i8) fun x11 i12 =>
    some (x11, i12)) else
  b2 (fX1_passes sh this 101 i2) fun x13 i14 =>
  if x13 = 0 then (
    b2 (fX1_ending sh this 1 2 i14) fun x15 i16 =>
    some (x15, i16)) else
  b2 (fX1_ending sh this 0 4 i14) fun x17 i18 =>
  some (x17, i18)
set_option maxHeartbeats 4000000 in
set_option maxRecDepth 20000 in
theorem jbX1_word_0 (G : GT) {X : XT} {sh : SH} {L : LH} {n : Nat} {r : Int32} {I' : IH}  {this : Nat}  {I : IH} (F : MF G X RX1 cX1_word 1 5 (some .int) "word") (hth : isO sh 1 this) (h : fX1_word sh this I = some (r, I')) : J G X (QE G X (some (.int r)) sh I' L n) 1 sh I L n 0 0 0 [(0, .ref this)] [] := by
  unfold fX1_word at h
  refine j_aload_n (pc := 0) (k0 := 0) F 0 rfl dX1_word_0 ?_
  refine j_bipush (pc := 1) F 109 dX1_word_1 (by decide) ?_
  obtain ⟨x1, i2, hx1, h⟩ := b2_obt h
  refine j_callV1 (pc := 3) (ci := 1) (As := [.int 109]) (st := []) (e1 := 0) (es1 := 0) F clX1_39 cwX1_passes rfl hth (ctX1_passes G hth hx1) rfl rfl rfl rfl rfl rfl dX1_word_3 ?_
  refine j_if_eq (pc := 6) F 36 dX1_word_6 rfl (fun c => ?_) (fun c => ?_)
  · have h := iz_t c h
    refine j_aload_n (pc := 36) (k0 := 0) F 0 rfl dX1_word_36 ?_
    refine j_bipush (pc := 37) F 108 dX1_word_37 (by decide) ?_
    obtain ⟨x3, i4, hx3, h⟩ := b2_obt h
    refine j_callV1 (pc := 39) (ci := 1) (As := [.int 108]) (st := []) (e1 := 0) (es1 := 0) F clX1_39 cwX1_passes rfl hth (ctX1_passes G hth hx3) rfl rfl rfl rfl rfl rfl dX1_word_39 ?_
    refine j_if_eq (pc := 42) F 72 dX1_word_42 rfl (fun c => ?_) (fun c => ?_)
    · have h := iz_t c h
      refine j_aload_n (pc := 72) (k0 := 0) F 0 rfl dX1_word_72 ?_
      refine j_ldcS (pc := 73) F 4 rfl dX1_word_73 ?_
      refine j_iconst (pc := 75) F 3 dX1_word_75 (by decide) ?_
      obtain ⟨x5, i6, hx5, h⟩ := b2_obt h
      refine j_callV1 (pc := 76) (ci := 1) (As := [.ref (G.2.2.2.2.1 4), .int 3]) (st := []) (e1 := 0) (es1 := 0) F clX1_75 cwX1_ending rfl hth (ctX1_ending G hth hx5) rfl rfl rfl rfl rfl rfl dX1_word_76 ?_
      cases h
      exact j_iret (pc := 79) F dX1_word_79
    · have h := iz_f c h
      refine j_aload_n (pc := 45) (k0 := 0) F 0 rfl dX1_word_45 ?_
      refine j_bipush (pc := 46) F 97 dX1_word_46 (by decide) ?_
      obtain ⟨x7, i8, hx7, h⟩ := b2_obt h
      refine j_callV1 (pc := 48) (ci := 1) (As := [.int 97]) (st := []) (e1 := 0) (es1 := 0) F clX1_39 cwX1_passes rfl hth (ctX1_passes G hth hx7) rfl rfl rfl rfl rfl rfl dX1_word_48 ?_
      refine j_if_eq (pc := 51) F 64 dX1_word_51 rfl (fun c => ?_) (fun c => ?_)
      · have h := iz_t c h
        refine j_aload_n (pc := 64) (k0 := 0) F 0 rfl dX1_word_64 ?_
        refine j_ldcS (pc := 65) F 3 rfl dX1_word_65 ?_
        refine j_iconst (pc := 67) F 1 dX1_word_67 (by decide) ?_
        obtain ⟨x9, i10, hx9, h⟩ := b2_obt h
        refine j_callV1 (pc := 68) (ci := 1) (As := [.ref (G.2.2.2.2.1 3), .int 1]) (st := []) (e1 := 0) (es1 := 0) F clX1_75 cwX1_ending rfl hth (ctX1_ending G hth hx9) rfl rfl rfl rfl rfl rfl dX1_word_68 ?_
        cases h
        exact j_iret (pc := 71) F dX1_word_71
      · have h := iz_f c h
        refine j_aload_n (pc := 54) (k0 := 0) F 0 rfl dX1_word_54 ?_
        refine j_ldcS (pc := 55) F 2 rfl dX1_word_55 ?_
        refine j_iconst (pc := 57) F 0 dX1_word_57 (by decide) ?_
        obtain ⟨x11, i12, hx11, h⟩ := b2_obt h
        refine j_callV1 (pc := 58) (ci := 1) (As := [.ref (G.2.2.2.2.1 2), .int 0]) (st := []) (e1 := 0) (es1 := 0) F clX1_75 cwX1_ending rfl hth (ctX1_ending G hth hx11) rfl rfl rfl rfl rfl rfl dX1_word_58 ?_
        refine j_goto (pc := 61) F 71 dX1_word_61 rfl ?_
        cases h
        exact j_iret (pc := 71) F dX1_word_71
  · have h := iz_f c h
    refine j_aload_n (pc := 9) (k0 := 0) F 0 rfl dX1_word_9 ?_
    refine j_bipush (pc := 10) F 101 dX1_word_10 (by decide) ?_
    obtain ⟨x13, i14, hx13, h⟩ := b2_obt h
    refine j_callV1 (pc := 12) (ci := 1) (As := [.int 101]) (st := []) (e1 := 0) (es1 := 0) F clX1_39 cwX1_passes rfl hth (ctX1_passes G hth hx13) rfl rfl rfl rfl rfl rfl dX1_word_12 ?_
    refine j_if_eq (pc := 15) F 28 dX1_word_15 rfl (fun c => ?_) (fun c => ?_)
    · have h := iz_t c h
      refine j_aload_n (pc := 28) (k0 := 0) F 0 rfl dX1_word_28 ?_
      refine j_ldcS (pc := 29) F 1 rfl dX1_word_29 ?_
      refine j_iconst (pc := 31) F 2 dX1_word_31 (by decide) ?_
      obtain ⟨x15, i16, hx15, h⟩ := b2_obt h
      refine j_callV1 (pc := 32) (ci := 1) (As := [.ref (G.2.2.2.2.1 1), .int 2]) (st := []) (e1 := 0) (es1 := 0) F clX1_75 cwX1_ending rfl hth (ctX1_ending G hth hx15) rfl rfl rfl rfl rfl rfl dX1_word_32 ?_
      cases h
      exact j_iret (pc := 35) F dX1_word_35
    · have h := iz_f c h
      refine j_aload_n (pc := 18) (k0 := 0) F 0 rfl dX1_word_18 ?_
      refine j_ldcS (pc := 19) F 0 rfl dX1_word_19 ?_
      refine j_iconst (pc := 21) F 4 dX1_word_21 (by decide) ?_
      obtain ⟨x17, i18, hx17, h⟩ := b2_obt h
      refine j_callV1 (pc := 22) (ci := 1) (As := [.ref (G.2.2.2.2.1 0), .int 4]) (st := []) (e1 := 0) (es1 := 0) F clX1_75 cwX1_ending rfl hth (ctX1_ending G hth hx17) rfl rfl rfl rfl rfl rfl dX1_word_22 ?_
      refine j_goto (pc := 25) F 35 dX1_word_25 rfl ?_
      cases h
      exact j_iret (pc := 35) F dX1_word_35
theorem ctX1_word (G : GT) {sh : SH} {I : IH} {L : LH} {n : Nat} {this : Nat} {r : Int32} {I' : IH}  (hth : isO sh 1 this) (h : fX1_word sh this I = some (r, I')) : Ct G yX1_word cX1_word 1 (some .int) 5 [.ref this] sh I L n (some (.int r)) sh I' L n 0 0 := by
  refine ct_of (y := yX1_word) (by decide +kernel) rfl (fun X F => ?_)
  exact jbX1_word_0 G F hth h
theorem dX6_isUnder_0 : decode cX6_isUnder 0 = .ok (.iload_n 0, 1) := by decide +kernel
theorem dX6_isUnder_1 : decode cX6_isUnder 1 = .ok (.ifCond .lt 12, 3) := by decide +kernel
theorem dX6_isUnder_4 : decode cX6_isUnder 4 = .ok (.iload_n 0, 1) := by decide +kernel
theorem dX6_isUnder_5 : decode cX6_isUnder 5 = .ok (.iload_n 1, 1) := by decide +kernel
theorem dX6_isUnder_6 : decode cX6_isUnder 6 = .ok (.if_icmp .ge 7, 3) := by decide +kernel
theorem dX6_isUnder_9 : decode cX6_isUnder 9 = .ok (.iconst 1, 1) := by decide +kernel
theorem dX6_isUnder_10 : decode cX6_isUnder 10 = .ok (.goto 4, 3) := by decide +kernel
theorem dX6_isUnder_13 : decode cX6_isUnder 13 = .ok (.iconst 0, 1) := by decide +kernel
theorem dX6_isUnder_14 : decode cX6_isUnder 14 = .ok (.ireturn, 1) := by decide +kernel
def fX6_isUnder (v0 : Int32) (v1 : Int32) : Int32 :=
  if v0 < 0 then (
    0) else
  if v1 ≤ v0 then (
    0) else
  1
set_option maxHeartbeats 4000000 in
set_option maxRecDepth 20000 in
theorem jbX6_isUnder_0 (G : GT) {X : XT} {sh : SH} {I : IH} {L : LH} {n : Nat} {r : Int32}   {v0 : Int32} {v1 : Int32} (F : MF G X RX6 cX6_isUnder 2 0 (some .boolean) "isUnder") (h : fX6_isUnder v0 v1 = r) : J G X (QE G X (some (.int r)) sh I L n) 2 sh I L n 0 0 0 [(0, .int v0), (1, .int v1)] [] := by
  unfold fX6_isUnder at h
  refine j_iload_n (pc := 0) (k0 := 0) F 0 rfl dX6_isUnder_0 ?_
  refine j_if_lt (pc := 1) F 13 dX6_isUnder_1 rfl (fun c => ?_) (fun c => ?_)
  · have h := iz_t c h
    refine j_iconst (pc := 13) F 0 dX6_isUnder_13 (by decide) ?_
    subst h
    exact j_zret (pc := 14) F (Or.inl rfl) dX6_isUnder_14
  · have h := iz_f c h
    refine j_iload_n (pc := 4) (k0 := 0) F 0 rfl dX6_isUnder_4 ?_
    refine j_iload_n (pc := 5) (k0 := 1) F 1 rfl dX6_isUnder_5 ?_
    refine j_icmp_ge (pc := 6) F 13 dX6_isUnder_6 rfl (fun c => ?_) (fun c => ?_)
    · have h := iz_t c h
      refine j_iconst (pc := 13) F 0 dX6_isUnder_13 (by decide) ?_
      subst h
      exact j_zret (pc := 14) F (Or.inl rfl) dX6_isUnder_14
    · have h := iz_f c h
      refine j_iconst (pc := 9) F 1 dX6_isUnder_9 (by decide) ?_
      refine j_goto (pc := 10) F 14 dX6_isUnder_10 rfl ?_
      subst h
      exact j_zret (pc := 14) F (Or.inr rfl) dX6_isUnder_14
theorem ctX6_isUnder (G : GT) {sh : SH} {I : IH} {L : LH} {n : Nat} {v0 : Int32} {v1 : Int32} : Ct G yX6_isUnder cX6_isUnder 2 (some .boolean) 0 [.int v0, .int v1] sh I L n (some (.int (fX6_isUnder v0 v1))) sh I L n 0 0 := by
  refine ct_of (y := yX6_isUnder) (by decide +kernel) rfl (fun X F => ?_)
  exact jbX6_isUnder_0 G F rfl
theorem zbX6_isUnder {v0 : Int32} {v1 : Int32} : fX6_isUnder v0 v1 = 0 ∨ fX6_isUnder v0 v1 = 1 := by
  unfold fX6_isUnder
  repeat' split
  all_goals first | exact Or.inl rfl | exact Or.inr rfl
theorem dX1_number_0 : decode cX1_number 0 = .ok (.iconst 0, 1) := by decide +kernel
theorem dX1_number_1 : decode cX1_number 1 = .ok (.istore_n 1, 1) := by decide +kernel
theorem dX1_number_2 : decode cX1_number 2 = .ok (.iconst 0, 1) := by decide +kernel
theorem dX1_number_3 : decode cX1_number 3 = .ok (.istore_n 2, 1) := by decide +kernel
theorem dX1_number_4 : decode cX1_number 4 = .ok (.iload_n 2, 1) := by decide +kernel
theorem dX1_number_5 : decode cX1_number 5 = .ok (.iconst 2, 1) := by decide +kernel
theorem dX1_number_6 : decode cX1_number 6 = .ok (.if_icmp .ge 47, 3) := by decide +kernel
theorem dX1_number_9 : decode cX1_number 9 = .ok (.aload_n 0, 1) := by decide +kernel
theorem dX1_number_10 : decode cX1_number 10 = .ok (.invokevirtual 109, 3) := by decide +kernel
theorem dX1_number_13 : decode cX1_number 13 = .ok (.bipush 48, 2) := by decide +kernel
theorem dX1_number_15 : decode cX1_number 15 = .ok (.isub, 1) := by decide +kernel
theorem dX1_number_16 : decode cX1_number 16 = .ok (.bipush 10, 2) := by decide +kernel
theorem dX1_number_18 : decode cX1_number 18 = .ok (.invokestatic 112, 3) := by decide +kernel
theorem dX1_number_21 : decode cX1_number 21 = .ok (.ifCond .eq 32, 3) := by decide +kernel
theorem dX1_number_24 : decode cX1_number 24 = .ok (.bipush 10, 2) := by decide +kernel
theorem dX1_number_26 : decode cX1_number 26 = .ok (.iload_n 1, 1) := by decide +kernel
theorem dX1_number_27 : decode cX1_number 27 = .ok (.imul, 1) := by decide +kernel
theorem dX1_number_28 : decode cX1_number 28 = .ok (.aload_n 0, 1) := by decide +kernel
theorem dX1_number_29 : decode cX1_number 29 = .ok (.invokevirtual 109, 3) := by decide +kernel
theorem dX1_number_32 : decode cX1_number 32 = .ok (.iadd, 1) := by decide +kernel
theorem dX1_number_33 : decode cX1_number 33 = .ok (.bipush 48, 2) := by decide +kernel
theorem dX1_number_35 : decode cX1_number 35 = .ok (.isub, 1) := by decide +kernel
theorem dX1_number_36 : decode cX1_number 36 = .ok (.istore_n 1, 1) := by decide +kernel
theorem dX1_number_37 : decode cX1_number 37 = .ok (.aload_n 0, 1) := by decide +kernel
theorem dX1_number_38 : decode cX1_number 38 = .ok (.dup, 1) := by decide +kernel
theorem dX1_number_39 : decode cX1_number 39 = .ok (.getfield 43, 3) := by decide +kernel
theorem dX1_number_42 : decode cX1_number 42 = .ok (.iconst 1, 1) := by decide +kernel
theorem dX1_number_43 : decode cX1_number 43 = .ok (.iadd, 1) := by decide +kernel
theorem dX1_number_44 : decode cX1_number 44 = .ok (.putfield 43, 3) := by decide +kernel
theorem dX1_number_47 : decode cX1_number 47 = .ok (.iinc 2 1, 3) := by decide +kernel
theorem dX1_number_50 : decode cX1_number 50 = .ok (.goto (-46), 3) := by decide +kernel
theorem dX1_number_53 : decode cX1_number 53 = .ok (.iload_n 2, 1) := by decide +kernel
theorem dX1_number_54 : decode cX1_number 54 = .ok (.ifCond .ne 8, 3) := by decide +kernel
theorem dX1_number_57 : decode cX1_number 57 = .ok (.aload_n 0, 1) := by decide +kernel
theorem dX1_number_58 : decode cX1_number 58 = .ok (.iconst 0, 1) := by decide +kernel
theorem dX1_number_59 : decode cX1_number 59 = .ok (.putfield 9, 3) := by decide +kernel
theorem dX1_number_62 : decode cX1_number 62 = .ok (.iload_n 1, 1) := by decide +kernel
theorem dX1_number_63 : decode cX1_number 63 = .ok (.ireturn, 1) := by decide +kernel
def fX1_number_b4 (sh : SH) (this : Nat) (k53 : (Int32 → Int32 → IH → Option (Int32 × IH))) : Nat → Int32 → Int32 → IH → Option (Int32 × IH)
  | 0, _, _, _ => none
  | fuel + 1, v1, v2, I =>
    if 2 ≤ v2 then (
      k53 v1 v2 I) else
    (fX1_next sh I this).bind fun x1 =>
    if (fX6_isUnder (x1 - 48) 10) = 0 then (
      k53 v1 v2 I) else
    (fX1_next sh I this).bind fun x2 =>
    (gI sh I 1 this 3).bind fun x3 =>
    (pI sh I 1 this 3 (x3 + 1)).bind fun i4 =>
    fX1_number_b4 sh this k53 fuel (((10 * v1) + x2) - 48) (v2 + 1) i4
def fX1_number_b53 (sh : SH) (this : Nat) (v1 : Int32) (v2 : Int32) (I : IH) : Option (Int32 × IH) :=
  if v2 = 0 then (
    (pI sh I 1 this 2 0).bind fun i1 =>
    some (v1, i1)) else
  some (v1, I)
def fX1_number (sh : SH) (this : Nat) (I : IH) : Option (Int32 × IH) :=
  fX1_number_b4 sh this (fX1_number_b53 sh this) 1000 0 0 I
set_option maxHeartbeats 4000000 in
set_option maxRecDepth 20000 in
theorem jbX1_number_4 (G : GT) {X : XT} {sh : SH} {L : LH} {n : Nat} {r : Int32} {I' : IH}  {this : Nat} {k53 : (Int32 → Int32 → IH → Option (Int32 × IH))} (F : MF G X RX1 cX1_number 3 1 (some .int) "number") (hth : isO sh 1 this)
    (hk53 : ∀ {v1 : Int32} {v2 : Int32} {I : IH}, k53 v1 v2 I = some (r, I') → J G X (QE G X (some (.int r)) sh I' L n) 3 sh I L n 0 0 53 [(0, .ref this), (1, .int v1), (2, .int v2)] []) : ∀ (fuel : Nat) (v1 : Int32) (v2 : Int32) (I : IH), fX1_number_b4 sh this k53 fuel v1 v2 I = some (r, I') → J G X (QE G X (some (.int r)) sh I' L n) 3 sh I L n 0 0 4 [(0, .ref this), (1, .int v1), (2, .int v2)] []
  | 0 => by
    intros
    rename_i h
    exact absurd (show none = some _ from h) (by intro z; cases z)
  | fuel + 1 => by
    intro v1 v2 I h
    rw [fX1_number_b4] at h
    refine j_iload_n (pc := 4) (k0 := 2) F 2 rfl dX1_number_4 ?_
    refine j_iconst (pc := 5) F 2 dX1_number_5 (by decide) ?_
    refine j_icmp_ge (pc := 6) F 53 dX1_number_6 rfl (fun c => ?_) (fun c => ?_)
    · have h := iz_t c h
      exact hk53 h
    · have h := iz_f c h
      refine j_aload_n (pc := 9) (k0 := 0) F 0 rfl dX1_number_9 ?_
      obtain ⟨x1, hx1, h⟩ := ob h
      refine j_callV1 (pc := 10) (ci := 1) (As := []) (st := []) (e1 := 0) (es1 := 0) F clX1_109 cwX1_next rfl hth (ctX1_next G hx1) rfl rfl rfl rfl rfl rfl dX1_number_10 ?_
      refine j_bipush (pc := 13) F 48 dX1_number_13 (by decide) ?_
      refine j_isub (pc := 15) F dX1_number_15 ?_
      refine j_bipush (pc := 16) F 10 dX1_number_16 (by decide) ?_
      refine j_callSN1 (pc := 18) (As := [.int (x1 - 48), .int 10]) (st := []) (e1 := 0) (es1 := 0) F clX1_112 cwX6_isUnder (ctX6_isUnder G) rfl rfl rfl rfl rfl rfl dX1_number_18 ?_
      refine j_if_eq (pc := 21) F 53 dX1_number_21 rfl (fun c => ?_) (fun c => ?_)
      · have h := iz_t c h
        exact hk53 h
      · have h := iz_f c h
        refine j_bipush (pc := 24) F 10 dX1_number_24 (by decide) ?_
        refine j_iload_n (pc := 26) (k0 := 1) F 1 rfl dX1_number_26 ?_
        refine j_imul (pc := 27) F dX1_number_27 ?_
        refine j_aload_n (pc := 28) (k0 := 0) F 0 rfl dX1_number_28 ?_
        obtain ⟨x2, hx2, h⟩ := ob h
        refine j_callV1 (pc := 29) (ci := 1) (As := []) (st := [.int (10 * v1)]) (e1 := 0) (es1 := 0) F clX1_109 cwX1_next rfl hth (ctX1_next G hx2) rfl rfl rfl rfl rfl rfl dX1_number_29 ?_
        refine j_iadd (pc := 32) F dX1_number_32 ?_
        refine j_bipush (pc := 33) F 48 dX1_number_33 (by decide) ?_
        refine j_isub (pc := 35) F dX1_number_35 ?_
        refine j_istore_n (pc := 36) (k1 := 1) (ls' := [(1, .int (((10 * v1) + x2) - 48)), (0, .ref this), (2, .int v2)]) F rfl rfl rfl dX1_number_36 ?_
        refine j_aload_n (pc := 37) (k0 := 0) F 1 rfl dX1_number_37 ?_
        refine j_dup (pc := 38) F dX1_number_38 rfl ?_
        obtain ⟨x3, hx3, h⟩ := ob h
        refine j_getI (pc := 39) F flX1_43 hx3 dX1_number_39 ?_
        refine j_iconst (pc := 42) F 1 dX1_number_42 (by decide) ?_
        refine j_iadd (pc := 43) F dX1_number_43 ?_
        obtain ⟨i4, hi4, h⟩ := ob h
        refine j_putI (pc := 44) F flX1_43 fp1_3 (fun z => by cases z) hi4 dX1_number_44 ?_
        refine j_iinc (pc := 47) (k1 := 2) (ls' := [(2, .int (v2 + 1)), (1, .int (((10 * v1) + x2) - 48)), (0, .ref this)]) F (v2 + 1) 2 rfl rfl rfl rfl dX1_number_47 ?_
        refine j_goto (pc := 50) F 4 dX1_number_50 rfl ?_
        refine j_sub [2, 1, 0] rfl ?_
        exact jbX1_number_4 G F hth hk53 fuel _ _ _ h
set_option maxHeartbeats 4000000 in
set_option maxRecDepth 20000 in
theorem jbX1_number_53 (G : GT) {X : XT} {sh : SH} {L : LH} {n : Nat} {r : Int32} {I' : IH}  {this : Nat}  {v1 : Int32} {v2 : Int32} {I : IH} (F : MF G X RX1 cX1_number 3 1 (some .int) "number") (hth : isO sh 1 this) (h : fX1_number_b53 sh this v1 v2 I = some (r, I')) : J G X (QE G X (some (.int r)) sh I' L n) 3 sh I L n 0 0 53 [(0, .ref this), (1, .int v1), (2, .int v2)] [] := by
  unfold fX1_number_b53 at h
  refine j_iload_n (pc := 53) (k0 := 2) F 2 rfl dX1_number_53 ?_
  refine j_if_ne (pc := 54) F 62 dX1_number_54 rfl (fun c => ?_) (fun c => ?_)
  · have h := iz_f c h
    refine j_iload_n (pc := 62) (k0 := 1) F 1 rfl dX1_number_62 ?_
    cases h
    exact j_iret (pc := 63) F dX1_number_63
  · have h := iz_t c h
    refine j_aload_n (pc := 57) (k0 := 0) F 0 rfl dX1_number_57 ?_
    refine j_iconst (pc := 58) F 0 dX1_number_58 (by decide) ?_
    obtain ⟨i1, hi1, h⟩ := ob h
    refine j_putZ (pc := 59) F (Or.inl rfl) flX1_9 fp1_2 (fun z => by cases z) hi1 dX1_number_59 ?_
    refine j_iload_n (pc := 62) (k0 := 1) F 1 rfl dX1_number_62 ?_
    cases h
    exact j_iret (pc := 63) F dX1_number_63
set_option maxHeartbeats 4000000 in
set_option maxRecDepth 20000 in
theorem jbX1_number_0 (G : GT) {X : XT} {sh : SH} {L : LH} {n : Nat} {r : Int32} {I' : IH}  {this : Nat}  {I : IH} (F : MF G X RX1 cX1_number 3 1 (some .int) "number") (hth : isO sh 1 this) (h : fX1_number sh this I = some (r, I')) : J G X (QE G X (some (.int r)) sh I' L n) 3 sh I L n 0 0 0 [(0, .ref this)] [] := by
  unfold fX1_number at h
  refine j_iconst (pc := 0) F 0 dX1_number_0 (by decide) ?_
  refine j_istore_n (pc := 1) (k1 := 1) (ls' := [(1, .int 0), (0, .ref this)]) F rfl rfl rfl dX1_number_1 ?_
  refine j_iconst (pc := 2) F 0 dX1_number_2 (by decide) ?_
  refine j_istore_n (pc := 3) (k1 := 2) (ls' := [(2, .int 0), (1, .int 0), (0, .ref this)]) F rfl rfl rfl dX1_number_3 ?_
  refine j_sub [2, 1, 0] rfl ?_
  exact jbX1_number_4 G F hth (fun h => jbX1_number_53 G F hth h) 1000 _ _ _ h
theorem ctX1_number (G : GT) {sh : SH} {I : IH} {L : LH} {n : Nat} {this : Nat} {r : Int32} {I' : IH}  (hth : isO sh 1 this) (h : fX1_number sh this I = some (r, I')) : Ct G yX1_number cX1_number 3 (some .int) 1 [.ref this] sh I L n (some (.int r)) sh I' L n 0 0 := by
  refine ct_of (y := yX1_number) (by decide +kernel) rfl (fun X F => ?_)
  exact jbX1_number_0 G F hth h
theorem dX1_oneOf_0 : decode cX1_oneOf 0 = .ok (.aload_n 0, 1) := by decide +kernel
theorem dX1_oneOf_1 : decode cX1_oneOf 1 = .ok (.invokevirtual 109, 3) := by decide +kernel
theorem dX1_oneOf_4 : decode cX1_oneOf 4 = .ok (.istore 4, 2) := by decide +kernel
theorem dX1_oneOf_6 : decode cX1_oneOf 6 = .ok (.iload 4, 2) := by decide +kernel
theorem dX1_oneOf_8 : decode cX1_oneOf 8 = .ok (.iload_n 1, 1) := by decide +kernel
theorem dX1_oneOf_9 : decode cX1_oneOf 9 = .ok (.if_icmp .eq 22, 3) := by decide +kernel
theorem dX1_oneOf_12 : decode cX1_oneOf 12 = .ok (.iload 4, 2) := by decide +kernel
theorem dX1_oneOf_14 : decode cX1_oneOf 14 = .ok (.iload_n 2, 1) := by decide +kernel
theorem dX1_oneOf_15 : decode cX1_oneOf 15 = .ok (.if_icmp .eq 16, 3) := by decide +kernel
theorem dX1_oneOf_18 : decode cX1_oneOf 18 = .ok (.iload 4, 2) := by decide +kernel
theorem dX1_oneOf_20 : decode cX1_oneOf 20 = .ok (.iload_n 3, 1) := by decide +kernel
theorem dX1_oneOf_21 : decode cX1_oneOf 21 = .ok (.if_icmp .eq 10, 3) := by decide +kernel
theorem dX1_oneOf_24 : decode cX1_oneOf 24 = .ok (.aload_n 0, 1) := by decide +kernel
theorem dX1_oneOf_25 : decode cX1_oneOf 25 = .ok (.iconst 0, 1) := by decide +kernel
theorem dX1_oneOf_26 : decode cX1_oneOf 26 = .ok (.putfield 9, 3) := by decide +kernel
theorem dX1_oneOf_29 : decode cX1_oneOf 29 = .ok (.iconst (-1), 1) := by decide +kernel
theorem dX1_oneOf_30 : decode cX1_oneOf 30 = .ok (.ireturn, 1) := by decide +kernel
theorem dX1_oneOf_31 : decode cX1_oneOf 31 = .ok (.aload_n 0, 1) := by decide +kernel
theorem dX1_oneOf_32 : decode cX1_oneOf 32 = .ok (.dup, 1) := by decide +kernel
theorem dX1_oneOf_33 : decode cX1_oneOf 33 = .ok (.getfield 43, 3) := by decide +kernel
theorem dX1_oneOf_36 : decode cX1_oneOf 36 = .ok (.iconst 1, 1) := by decide +kernel
theorem dX1_oneOf_37 : decode cX1_oneOf 37 = .ok (.iadd, 1) := by decide +kernel
theorem dX1_oneOf_38 : decode cX1_oneOf 38 = .ok (.putfield 43, 3) := by decide +kernel
theorem dX1_oneOf_41 : decode cX1_oneOf 41 = .ok (.iload 4, 2) := by decide +kernel
theorem dX1_oneOf_43 : decode cX1_oneOf 43 = .ok (.ireturn, 1) := by decide +kernel
def fX1_oneOf_b31 (sh : SH) (this : Nat) (v4 : Int32) (I : IH) : Option (Int32 × IH) :=
  (gI sh I 1 this 3).bind fun x1 =>
  (pI sh I 1 this 3 (x1 + 1)).bind fun i2 =>
  some (v4, i2)
def fX1_oneOf (sh : SH) (this : Nat) (v1 : Int32) (v2 : Int32) (v3 : Int32) (I : IH) : Option (Int32 × IH) :=
  (fX1_next sh I this).bind fun x1 =>
  if x1 = v1 then (
    fX1_oneOf_b31 sh this x1 I) else
  if x1 = v2 then (
    fX1_oneOf_b31 sh this x1 I) else
  if x1 = v3 then (
    fX1_oneOf_b31 sh this x1 I) else
  (pI sh I 1 this 2 0).bind fun i2 =>
  some ((-1), i2)
set_option maxHeartbeats 4000000 in
set_option maxRecDepth 20000 in
theorem jbX1_oneOf_31 (G : GT) {X : XT} {sh : SH} {L : LH} {n : Nat} {r : Int32} {I' : IH}  {this : Nat}  {v4 : Int32} {I : IH} (F : MF G X RX1 cX1_oneOf 5 1 (some .int) "oneOf") (hth : isO sh 1 this) (h : fX1_oneOf_b31 sh this v4 I = some (r, I')) : J G X (QE G X (some (.int r)) sh I' L n) 5 sh I L n 0 0 31 [(0, .ref this), (4, .int v4)] [] := by
  unfold fX1_oneOf_b31 at h
  refine j_aload_n (pc := 31) (k0 := 0) F 0 rfl dX1_oneOf_31 ?_
  refine j_dup (pc := 32) F dX1_oneOf_32 rfl ?_
  obtain ⟨x1, hx1, h⟩ := ob h
  refine j_getI (pc := 33) F flX1_43 hx1 dX1_oneOf_33 ?_
  refine j_iconst (pc := 36) F 1 dX1_oneOf_36 (by decide) ?_
  refine j_iadd (pc := 37) F dX1_oneOf_37 ?_
  obtain ⟨i2, hi2, h⟩ := ob h
  refine j_putI (pc := 38) F flX1_43 fp1_3 (fun z => by cases z) hi2 dX1_oneOf_38 ?_
  refine j_iload (pc := 41) (k0 := 4) F 1 rfl dX1_oneOf_41 ?_
  cases h
  exact j_iret (pc := 43) F dX1_oneOf_43
set_option maxHeartbeats 4000000 in
set_option maxRecDepth 20000 in
theorem jbX1_oneOf_0 (G : GT) {X : XT} {sh : SH} {L : LH} {n : Nat} {r : Int32} {I' : IH}  {this : Nat}  {v1 : Int32} {v2 : Int32} {v3 : Int32} {I : IH} (F : MF G X RX1 cX1_oneOf 5 1 (some .int) "oneOf") (hth : isO sh 1 this) (h : fX1_oneOf sh this v1 v2 v3 I = some (r, I')) : J G X (QE G X (some (.int r)) sh I' L n) 5 sh I L n 0 0 0 [(0, .ref this), (1, .int v1), (2, .int v2), (3, .int v3)] [] := by
  unfold fX1_oneOf at h
  refine j_aload_n (pc := 0) (k0 := 0) F 0 rfl dX1_oneOf_0 ?_
  obtain ⟨x1, hx1, h⟩ := ob h
  refine j_callV1 (pc := 1) (ci := 1) (As := []) (st := []) (e1 := 0) (es1 := 0) F clX1_109 cwX1_next rfl hth (ctX1_next G hx1) rfl rfl rfl rfl rfl rfl dX1_oneOf_1 ?_
  refine j_istore (pc := 4) (k1 := 4) (ls' := [(4, .int x1), (0, .ref this), (1, .int v1), (2, .int v2), (3, .int v3)]) F rfl rfl dX1_oneOf_4 ?_
  refine j_iload (pc := 6) (k0 := 4) F 0 rfl dX1_oneOf_6 ?_
  refine j_iload_n (pc := 8) (k0 := 1) F 2 rfl dX1_oneOf_8 ?_
  refine j_icmp_eq (pc := 9) F 31 dX1_oneOf_9 rfl (fun c => ?_) (fun c => ?_)
  · have h := iz_t c h
    refine j_sub [1, 0] rfl ?_
    exact jbX1_oneOf_31 G F hth h
  · have h := iz_f c h
    refine j_iload (pc := 12) (k0 := 4) F 0 rfl dX1_oneOf_12 ?_
    refine j_iload_n (pc := 14) (k0 := 2) F 3 rfl dX1_oneOf_14 ?_
    refine j_icmp_eq (pc := 15) F 31 dX1_oneOf_15 rfl (fun c => ?_) (fun c => ?_)
    · have h := iz_t c h
      refine j_sub [1, 0] rfl ?_
      exact jbX1_oneOf_31 G F hth h
    · have h := iz_f c h
      refine j_iload (pc := 18) (k0 := 4) F 0 rfl dX1_oneOf_18 ?_
      refine j_iload_n (pc := 20) (k0 := 3) F 4 rfl dX1_oneOf_20 ?_
      refine j_icmp_eq (pc := 21) F 31 dX1_oneOf_21 rfl (fun c => ?_) (fun c => ?_)
      · have h := iz_t c h
        refine j_sub [1, 0] rfl ?_
        exact jbX1_oneOf_31 G F hth h
      · have h := iz_f c h
        refine j_aload_n (pc := 24) (k0 := 0) F 1 rfl dX1_oneOf_24 ?_
        refine j_iconst (pc := 25) F 0 dX1_oneOf_25 (by decide) ?_
        obtain ⟨i2, hi2, h⟩ := ob h
        refine j_putZ (pc := 26) F (Or.inl rfl) flX1_9 fp1_2 (fun z => by cases z) hi2 dX1_oneOf_26 ?_
        refine j_iconst (pc := 29) F (-1) dX1_oneOf_29 (by decide) ?_
        cases h
        exact j_iret (pc := 30) F dX1_oneOf_30
theorem ctX1_oneOf (G : GT) {sh : SH} {I : IH} {L : LH} {n : Nat} {this : Nat} {v1 : Int32} {v2 : Int32} {v3 : Int32} {r : Int32} {I' : IH}  (hth : isO sh 1 this) (h : fX1_oneOf sh this v1 v2 v3 I = some (r, I')) : Ct G yX1_oneOf cX1_oneOf 5 (some .int) 1 [.ref this, .int v1, .int v2, .int v3] sh I L n (some (.int r)) sh I' L n 0 0 := by
  refine ct_of (y := yX1_oneOf) (by decide +kernel) rfl (fun X F => ?_)
  exact jbX1_oneOf_0 G F hth h
theorem dX1_whereHolds_0 : decode cX1_whereHolds 0 = .ok (.sipush 144, 3) := by decide +kernel
theorem dX1_whereHolds_3 : decode cX1_whereHolds 3 = .ok (.newarray .boolean, 2) := by decide +kernel
theorem dX1_whereHolds_5 : decode cX1_whereHolds 5 = .ok (.astore_n 3, 1) := by decide +kernel
theorem dX1_whereHolds_6 : decode cX1_whereHolds 6 = .ok (.iconst 0, 1) := by decide +kernel
theorem dX1_whereHolds_7 : decode cX1_whereHolds 7 = .ok (.istore 4, 2) := by decide +kernel
theorem dX1_whereHolds_9 : decode cX1_whereHolds 9 = .ok (.iload 4, 2) := by decide +kernel
theorem dX1_whereHolds_11 : decode cX1_whereHolds 11 = .ok (.sipush 144, 3) := by decide +kernel
theorem dX1_whereHolds_14 : decode cX1_whereHolds 14 = .ok (.if_icmp .ge 103, 3) := by decide +kernel
theorem dX1_whereHolds_17 : decode cX1_whereHolds 17 = .ok (.iload_n 0, 1) := by decide +kernel
theorem dX1_whereHolds_18 : decode cX1_whereHolds 18 = .ok (.bipush 104, 2) := by decide +kernel
theorem dX1_whereHolds_20 : decode cX1_whereHolds 20 = .ok (.if_icmp .ne 11, 3) := by decide +kernel
theorem dX1_whereHolds_23 : decode cX1_whereHolds 23 = .ok (.iload 4, 2) := by decide +kernel
theorem dX1_whereHolds_25 : decode cX1_whereHolds 25 = .ok (.bipush 24, 2) := by decide +kernel
theorem dX1_whereHolds_27 : decode cX1_whereHolds 27 = .ok (.irem, 1) := by decide +kernel
theorem dX1_whereHolds_28 : decode cX1_whereHolds 28 = .ok (.goto 26, 3) := by decide +kernel
theorem dX1_whereHolds_31 : decode cX1_whereHolds 31 = .ok (.iload_n 0, 1) := by decide +kernel
theorem dX1_whereHolds_32 : decode cX1_whereHolds 32 = .ok (.bipush 100, 2) := by decide +kernel
theorem dX1_whereHolds_34 : decode cX1_whereHolds 34 = .ok (.if_icmp .ne 13, 3) := by decide +kernel
theorem dX1_whereHolds_37 : decode cX1_whereHolds 37 = .ok (.iload 4, 2) := by decide +kernel
theorem dX1_whereHolds_39 : decode cX1_whereHolds 39 = .ok (.bipush 24, 2) := by decide +kernel
theorem dX1_whereHolds_41 : decode cX1_whereHolds 41 = .ok (.idiv, 1) := by decide +kernel
theorem dX1_whereHolds_42 : decode cX1_whereHolds 42 = .ok (.iconst 3, 1) := by decide +kernel
theorem dX1_whereHolds_43 : decode cX1_whereHolds 43 = .ok (.idiv, 1) := by decide +kernel
theorem dX1_whereHolds_44 : decode cX1_whereHolds 44 = .ok (.goto 10, 3) := by decide +kernel
theorem dX1_whereHolds_47 : decode cX1_whereHolds 47 = .ok (.iload 4, 2) := by decide +kernel
theorem dX1_whereHolds_49 : decode cX1_whereHolds 49 = .ok (.bipush 24, 2) := by decide +kernel
theorem dX1_whereHolds_51 : decode cX1_whereHolds 51 = .ok (.idiv, 1) := by decide +kernel
theorem dX1_whereHolds_52 : decode cX1_whereHolds 52 = .ok (.iconst 3, 1) := by decide +kernel
theorem dX1_whereHolds_53 : decode cX1_whereHolds 53 = .ok (.irem, 1) := by decide +kernel
theorem dX1_whereHolds_54 : decode cX1_whereHolds 54 = .ok (.istore 5, 2) := by decide +kernel
theorem dX1_whereHolds_56 : decode cX1_whereHolds 56 = .ok (.aload_n 3, 1) := by decide +kernel
theorem dX1_whereHolds_57 : decode cX1_whereHolds 57 = .ok (.iload 4, 2) := by decide +kernel
theorem dX1_whereHolds_59 : decode cX1_whereHolds 59 = .ok (.iload_n 1, 1) := by decide +kernel
theorem dX1_whereHolds_60 : decode cX1_whereHolds 60 = .ok (.bipush 60, 2) := by decide +kernel
theorem dX1_whereHolds_62 : decode cX1_whereHolds 62 = .ok (.if_icmp .ne 17, 3) := by decide +kernel
theorem dX1_whereHolds_65 : decode cX1_whereHolds 65 = .ok (.iload 5, 2) := by decide +kernel
theorem dX1_whereHolds_67 : decode cX1_whereHolds 67 = .ok (.iload_n 2, 1) := by decide +kernel
theorem dX1_whereHolds_68 : decode cX1_whereHolds 68 = .ok (.if_icmp .ge 7, 3) := by decide +kernel
theorem dX1_whereHolds_71 : decode cX1_whereHolds 71 = .ok (.iconst 1, 1) := by decide +kernel
theorem dX1_whereHolds_72 : decode cX1_whereHolds 72 = .ok (.goto 38, 3) := by decide +kernel
theorem dX1_whereHolds_75 : decode cX1_whereHolds 75 = .ok (.iconst 0, 1) := by decide +kernel
theorem dX1_whereHolds_76 : decode cX1_whereHolds 76 = .ok (.goto 34, 3) := by decide +kernel
theorem dX1_whereHolds_79 : decode cX1_whereHolds 79 = .ok (.iload_n 1, 1) := by decide +kernel
theorem dX1_whereHolds_80 : decode cX1_whereHolds 80 = .ok (.bipush 61, 2) := by decide +kernel
theorem dX1_whereHolds_82 : decode cX1_whereHolds 82 = .ok (.if_icmp .ne 17, 3) := by decide +kernel
theorem dX1_whereHolds_85 : decode cX1_whereHolds 85 = .ok (.iload 5, 2) := by decide +kernel
theorem dX1_whereHolds_87 : decode cX1_whereHolds 87 = .ok (.iload_n 2, 1) := by decide +kernel
theorem dX1_whereHolds_88 : decode cX1_whereHolds 88 = .ok (.if_icmp .ne 7, 3) := by decide +kernel
theorem dX1_whereHolds_91 : decode cX1_whereHolds 91 = .ok (.iconst 1, 1) := by decide +kernel
theorem dX1_whereHolds_92 : decode cX1_whereHolds 92 = .ok (.goto 18, 3) := by decide +kernel
theorem dX1_whereHolds_95 : decode cX1_whereHolds 95 = .ok (.iconst 0, 1) := by decide +kernel
theorem dX1_whereHolds_96 : decode cX1_whereHolds 96 = .ok (.goto 14, 3) := by decide +kernel
theorem dX1_whereHolds_99 : decode cX1_whereHolds 99 = .ok (.iload 5, 2) := by decide +kernel
theorem dX1_whereHolds_101 : decode cX1_whereHolds 101 = .ok (.iload_n 2, 1) := by decide +kernel
theorem dX1_whereHolds_102 : decode cX1_whereHolds 102 = .ok (.if_icmp .le 7, 3) := by decide +kernel
theorem dX1_whereHolds_105 : decode cX1_whereHolds 105 = .ok (.iconst 1, 1) := by decide +kernel
theorem dX1_whereHolds_106 : decode cX1_whereHolds 106 = .ok (.goto 4, 3) := by decide +kernel
theorem dX1_whereHolds_109 : decode cX1_whereHolds 109 = .ok (.iconst 0, 1) := by decide +kernel
theorem dX1_whereHolds_110 : decode cX1_whereHolds 110 = .ok (.bastore, 1) := by decide +kernel
theorem dX1_whereHolds_111 : decode cX1_whereHolds 111 = .ok (.iinc 4 1, 3) := by decide +kernel
theorem dX1_whereHolds_114 : decode cX1_whereHolds 114 = .ok (.goto (-105), 3) := by decide +kernel
theorem dX1_whereHolds_117 : decode cX1_whereHolds 117 = .ok (.aload_n 3, 1) := by decide +kernel
theorem dX1_whereHolds_118 : decode cX1_whereHolds 118 = .ok (.areturn, 1) := by decide +kernel
def fX1_whereHolds_b54 (k9 : (Int32 → Int32 → Int32 → Nat → Int32 → SH → IH → Nat → Option ((Nat × Nat) × (Nat × SH × IH × Nat)))) (v0 : Int32) (v1 : Int32) (v2 : Int32) (v3 : Nat) (v4 : Int32) (s0 : Int32) (sh : SH) (I : IH) (n : Nat) : Option ((Nat × Nat) × (Nat × SH × IH × Nat)) :=
  if v1 = 60 then (
    if v2 ≤ s0 then (
      (sZ sh I v3 v4 0).bind fun i5 =>
      k9 v0 v1 v2 v3 (v4 + 1) sh i5 n) else
    (sZ sh I v3 v4 1).bind fun i6 =>
    k9 v0 v1 v2 v3 (v4 + 1) sh i6 n) else
  if v1 = 61 then (
    if s0 = v2 then (
      (sZ sh I v3 v4 1).bind fun i4 =>
      k9 v0 v1 v2 v3 (v4 + 1) sh i4 n) else
    (sZ sh I v3 v4 0).bind fun i3 =>
    k9 v0 v1 v2 v3 (v4 + 1) sh i3 n) else
  if s0 ≤ v2 then (
    (sZ sh I v3 v4 0).bind fun i1 =>
    k9 v0 v1 v2 v3 (v4 + 1) sh i1 n) else
  (sZ sh I v3 v4 1).bind fun i2 =>
  k9 v0 v1 v2 v3 (v4 + 1) sh i2 n
def fX1_whereHolds_b9  : Nat → Int32 → Int32 → Int32 → Nat → Int32 → SH → IH → Nat → Option ((Nat × Nat) × (Nat × SH × IH × Nat))
  | 0, _, _, _, _, _, _, _, _ => none
  | fuel + 1, v0, v1, v2, v3, v4, sh, I, n =>
    if 144 ≤ v4 then (
      some ((0, 0), (v3, sh, I, n))) else
    if v0 = 104 then (
      fX1_whereHolds_b54 (fX1_whereHolds_b9 fuel) v0 v1 v2 v3 v4 (v4 - v4 / 24 * 24) sh I n) else
    if v0 = 100 then (
      fX1_whereHolds_b54 (fX1_whereHolds_b9 fuel) v0 v1 v2 v3 v4 ((v4 / 24) / 3) sh I n) else
    fX1_whereHolds_b54 (fX1_whereHolds_b9 fuel) v0 v1 v2 v3 v4 ((v4 / 24) - (v4 / 24) / 3 * 3) sh I n
def fX1_whereHolds (v0 : Int32) (v1 : Int32) (v2 : Int32) (sh : SH) (I : IH) (n : Nat) : Option ((Nat × Nat) × (Nat × SH × IH × Nat)) :=
  b2 (nAI sh I n 1 144) fun h1 i2 =>
  addE 1 (144 : Int32).toNatClampNeg (
  fX1_whereHolds_b9 1000 v0 v1 v2 n 0 h1 i2 (n + 1))
set_option maxHeartbeats 4000000 in
set_option maxRecDepth 20000 in
theorem jbX1_whereHolds_54 (G : GT) {X : XT} {L : LH} {r : Nat} {sh' : SH} {I' : IH} {n' : Nat}  {k9 : (Int32 → Int32 → Int32 → Nat → Int32 → SH → IH → Nat → Option ((Nat × Nat) × (Nat × SH × IH × Nat)))} {v0 : Int32} {v1 : Int32} {v2 : Int32} {v3 : Nat} {v4 : Int32} {s0 : Int32} {sh : SH} {I : IH} {n : Nat} {e es : Nat} (F : MF G X RX1 cX1_whereHolds 6 0 (some (.array .boolean)) "whereHolds")
    (hk9 : ∀ {v0 : Int32} {v1 : Int32} {v2 : Int32} {v3 : Nat} {v4 : Int32} {sh : SH} {I : IH} {n : Nat} {e es : Nat}, k9 v0 v1 v2 v3 v4 sh I n = some ((e, es), (r, sh', I', n')) → J G X (QE G X (some (.ref r)) sh' I' L n') 6 sh I L n e es 9 [(0, .int v0), (1, .int v1), (2, .int v2), (3, .ref v3), (4, .int v4)] []) (h : fX1_whereHolds_b54 k9 v0 v1 v2 v3 v4 s0 sh I n = some ((e, es), (r, sh', I', n'))) : J G X (QE G X (some (.ref r)) sh' I' L n') 6 sh I L n e es 54 [(0, .int v0), (1, .int v1), (2, .int v2), (3, .ref v3), (4, .int v4)] [.int s0] := by
  unfold fX1_whereHolds_b54 at h
  refine j_istore (pc := 54) (k1 := 5) (ls' := [(5, .int s0), (0, .int v0), (1, .int v1), (2, .int v2), (3, .ref v3), (4, .int v4)]) F rfl rfl dX1_whereHolds_54 ?_
  refine j_aload_n (pc := 56) (k0 := 3) F 4 rfl dX1_whereHolds_56 ?_
  refine j_iload (pc := 57) (k0 := 4) F 5 rfl dX1_whereHolds_57 ?_
  refine j_iload_n (pc := 59) (k0 := 1) F 2 rfl dX1_whereHolds_59 ?_
  refine j_bipush (pc := 60) F 60 dX1_whereHolds_60 (by decide) ?_
  refine j_icmp_ne (pc := 62) F 79 dX1_whereHolds_62 rfl (fun c => ?_) (fun c => ?_)
  · have h := iz_f c h
    refine j_iload_n (pc := 79) (k0 := 1) F 2 rfl dX1_whereHolds_79 ?_
    refine j_bipush (pc := 80) F 61 dX1_whereHolds_80 (by decide) ?_
    refine j_icmp_ne (pc := 82) F 99 dX1_whereHolds_82 rfl (fun c => ?_) (fun c => ?_)
    · have h := iz_f c h
      refine j_iload (pc := 99) (k0 := 5) F 0 rfl dX1_whereHolds_99 ?_
      refine j_iload_n (pc := 101) (k0 := 2) F 3 rfl dX1_whereHolds_101 ?_
      refine j_icmp_le (pc := 102) F 109 dX1_whereHolds_102 rfl (fun c => ?_) (fun c => ?_)
      · have h := iz_t c h
        refine j_iconst (pc := 109) F 0 dX1_whereHolds_109 (by decide) ?_
        obtain ⟨i1, hi1, h⟩ := ob h
        refine j_zast (pc := 110) F hi1 dX1_whereHolds_110 ?_
        refine j_iinc (pc := 111) (k1 := 4) (ls' := [(4, .int (v4 + 1)), (5, .int s0), (0, .int v0), (1, .int v1), (2, .int v2), (3, .ref v3)]) F (v4 + 1) 5 rfl rfl rfl rfl dX1_whereHolds_111 ?_
        refine j_goto (pc := 114) F 9 dX1_whereHolds_114 rfl ?_
        refine j_sub [2, 3, 4, 5, 0] rfl ?_
        exact hk9 h
      · have h := iz_f c h
        refine j_iconst (pc := 105) F 1 dX1_whereHolds_105 (by decide) ?_
        refine j_goto (pc := 106) F 110 dX1_whereHolds_106 rfl ?_
        obtain ⟨i2, hi2, h⟩ := ob h
        refine j_zast (pc := 110) F hi2 dX1_whereHolds_110 ?_
        refine j_iinc (pc := 111) (k1 := 4) (ls' := [(4, .int (v4 + 1)), (5, .int s0), (0, .int v0), (1, .int v1), (2, .int v2), (3, .ref v3)]) F (v4 + 1) 5 rfl rfl rfl rfl dX1_whereHolds_111 ?_
        refine j_goto (pc := 114) F 9 dX1_whereHolds_114 rfl ?_
        refine j_sub [2, 3, 4, 5, 0] rfl ?_
        exact hk9 h
    · have h := iz_t c h
      refine j_iload (pc := 85) (k0 := 5) F 0 rfl dX1_whereHolds_85 ?_
      refine j_iload_n (pc := 87) (k0 := 2) F 3 rfl dX1_whereHolds_87 ?_
      refine j_icmp_ne (pc := 88) F 95 dX1_whereHolds_88 rfl (fun c => ?_) (fun c => ?_)
      · have h := iz_f c h
        refine j_iconst (pc := 95) F 0 dX1_whereHolds_95 (by decide) ?_
        refine j_goto (pc := 96) F 110 dX1_whereHolds_96 rfl ?_
        obtain ⟨i3, hi3, h⟩ := ob h
        refine j_zast (pc := 110) F hi3 dX1_whereHolds_110 ?_
        refine j_iinc (pc := 111) (k1 := 4) (ls' := [(4, .int (v4 + 1)), (5, .int s0), (0, .int v0), (1, .int v1), (2, .int v2), (3, .ref v3)]) F (v4 + 1) 5 rfl rfl rfl rfl dX1_whereHolds_111 ?_
        refine j_goto (pc := 114) F 9 dX1_whereHolds_114 rfl ?_
        refine j_sub [2, 3, 4, 5, 0] rfl ?_
        exact hk9 h
      · have h := iz_t c h
        refine j_iconst (pc := 91) F 1 dX1_whereHolds_91 (by decide) ?_
        refine j_goto (pc := 92) F 110 dX1_whereHolds_92 rfl ?_
        obtain ⟨i4, hi4, h⟩ := ob h
        refine j_zast (pc := 110) F hi4 dX1_whereHolds_110 ?_
        refine j_iinc (pc := 111) (k1 := 4) (ls' := [(4, .int (v4 + 1)), (5, .int s0), (0, .int v0), (1, .int v1), (2, .int v2), (3, .ref v3)]) F (v4 + 1) 5 rfl rfl rfl rfl dX1_whereHolds_111 ?_
        refine j_goto (pc := 114) F 9 dX1_whereHolds_114 rfl ?_
        refine j_sub [2, 3, 4, 5, 0] rfl ?_
        exact hk9 h
  · have h := iz_t c h
    refine j_iload (pc := 65) (k0 := 5) F 0 rfl dX1_whereHolds_65 ?_
    refine j_iload_n (pc := 67) (k0 := 2) F 3 rfl dX1_whereHolds_67 ?_
    refine j_icmp_ge (pc := 68) F 75 dX1_whereHolds_68 rfl (fun c => ?_) (fun c => ?_)
    · have h := iz_t c h
      refine j_iconst (pc := 75) F 0 dX1_whereHolds_75 (by decide) ?_
      refine j_goto (pc := 76) F 110 dX1_whereHolds_76 rfl ?_
      obtain ⟨i5, hi5, h⟩ := ob h
      refine j_zast (pc := 110) F hi5 dX1_whereHolds_110 ?_
      refine j_iinc (pc := 111) (k1 := 4) (ls' := [(4, .int (v4 + 1)), (5, .int s0), (0, .int v0), (1, .int v1), (2, .int v2), (3, .ref v3)]) F (v4 + 1) 5 rfl rfl rfl rfl dX1_whereHolds_111 ?_
      refine j_goto (pc := 114) F 9 dX1_whereHolds_114 rfl ?_
      refine j_sub [2, 3, 4, 5, 0] rfl ?_
      exact hk9 h
    · have h := iz_f c h
      refine j_iconst (pc := 71) F 1 dX1_whereHolds_71 (by decide) ?_
      refine j_goto (pc := 72) F 110 dX1_whereHolds_72 rfl ?_
      obtain ⟨i6, hi6, h⟩ := ob h
      refine j_zast (pc := 110) F hi6 dX1_whereHolds_110 ?_
      refine j_iinc (pc := 111) (k1 := 4) (ls' := [(4, .int (v4 + 1)), (5, .int s0), (0, .int v0), (1, .int v1), (2, .int v2), (3, .ref v3)]) F (v4 + 1) 5 rfl rfl rfl rfl dX1_whereHolds_111 ?_
      refine j_goto (pc := 114) F 9 dX1_whereHolds_114 rfl ?_
      refine j_sub [2, 3, 4, 5, 0] rfl ?_
      exact hk9 h
set_option maxHeartbeats 4000000 in
set_option maxRecDepth 20000 in
theorem jbX1_whereHolds_9 (G : GT) {X : XT} {L : LH} {r : Nat} {sh' : SH} {I' : IH} {n' : Nat}   (F : MF G X RX1 cX1_whereHolds 6 0 (some (.array .boolean)) "whereHolds") : ∀ (fuel : Nat) (v0 : Int32) (v1 : Int32) (v2 : Int32) (v3 : Nat) (v4 : Int32) (sh : SH) (I : IH) (n : Nat) (e es : Nat), fX1_whereHolds_b9 fuel v0 v1 v2 v3 v4 sh I n = some ((e, es), (r, sh', I', n')) → J G X (QE G X (some (.ref r)) sh' I' L n') 6 sh I L n e es 9 [(0, .int v0), (1, .int v1), (2, .int v2), (3, .ref v3), (4, .int v4)] []
  | 0 => by
    intros
    rename_i h
    exact absurd (show none = some _ from h) (by intro z; cases z)
  | fuel + 1 => by
    intro v0 v1 v2 v3 v4 sh I n e es h
    rw [fX1_whereHolds_b9] at h
    refine j_iload (pc := 9) (k0 := 4) F 4 rfl dX1_whereHolds_9 ?_
    refine j_sipush (pc := 11) F 144 dX1_whereHolds_11 (by decide) ?_
    refine j_icmp_ge (pc := 14) F 117 dX1_whereHolds_14 rfl (fun c => ?_) (fun c => ?_)
    · have h := iz_t c h
      refine j_aload_n (pc := 117) (k0 := 3) F 3 rfl dX1_whereHolds_117 ?_
      cases h
      exact j_aretR (pc := 118) F rfl (Or.inr ⟨_, rfl⟩) dX1_whereHolds_118
    · have h := iz_f c h
      refine j_iload_n (pc := 17) (k0 := 0) F 0 rfl dX1_whereHolds_17 ?_
      refine j_bipush (pc := 18) F 104 dX1_whereHolds_18 (by decide) ?_
      refine j_icmp_ne (pc := 20) F 31 dX1_whereHolds_20 rfl (fun c => ?_) (fun c => ?_)
      · have h := iz_f c h
        refine j_iload_n (pc := 31) (k0 := 0) F 0 rfl dX1_whereHolds_31 ?_
        refine j_bipush (pc := 32) F 100 dX1_whereHolds_32 (by decide) ?_
        refine j_icmp_ne (pc := 34) F 47 dX1_whereHolds_34 rfl (fun c => ?_) (fun c => ?_)
        · have h := iz_f c h
          refine j_iload (pc := 47) (k0 := 4) F 4 rfl dX1_whereHolds_47 ?_
          refine j_bipush (pc := 49) F 24 dX1_whereHolds_49 (by decide) ?_
          refine j_idiv (pc := 51) F (by decide) dX1_whereHolds_51 ?_
          refine j_iconst (pc := 52) F 3 dX1_whereHolds_52 (by decide) ?_
          refine j_irem (pc := 53) F (by decide) dX1_whereHolds_53 ?_
          exact jbX1_whereHolds_54 G F (fun h => jbX1_whereHolds_9 G F fuel _ _ _ _ _ _ _ _ _ _ h) h
        · have h := iz_t c h
          refine j_iload (pc := 37) (k0 := 4) F 4 rfl dX1_whereHolds_37 ?_
          refine j_bipush (pc := 39) F 24 dX1_whereHolds_39 (by decide) ?_
          refine j_idiv (pc := 41) F (by decide) dX1_whereHolds_41 ?_
          refine j_iconst (pc := 42) F 3 dX1_whereHolds_42 (by decide) ?_
          refine j_idiv (pc := 43) F (by decide) dX1_whereHolds_43 ?_
          refine j_goto (pc := 44) F 54 dX1_whereHolds_44 rfl ?_
          exact jbX1_whereHolds_54 G F (fun h => jbX1_whereHolds_9 G F fuel _ _ _ _ _ _ _ _ _ _ h) h
      · have h := iz_t c h
        refine j_iload (pc := 23) (k0 := 4) F 4 rfl dX1_whereHolds_23 ?_
        refine j_bipush (pc := 25) F 24 dX1_whereHolds_25 (by decide) ?_
        refine j_irem (pc := 27) F (by decide) dX1_whereHolds_27 ?_
        refine j_goto (pc := 28) F 54 dX1_whereHolds_28 rfl ?_
        exact jbX1_whereHolds_54 G F (fun h => jbX1_whereHolds_9 G F fuel _ _ _ _ _ _ _ _ _ _ h) h
set_option maxHeartbeats 4000000 in
set_option maxRecDepth 20000 in
theorem jbX1_whereHolds_0 (G : GT) {X : XT} {L : LH} {r : Nat} {sh' : SH} {I' : IH} {n' : Nat}   {v0 : Int32} {v1 : Int32} {v2 : Int32} {sh : SH} {I : IH} {n : Nat} {e es : Nat} (F : MF G X RX1 cX1_whereHolds 6 0 (some (.array .boolean)) "whereHolds") (h : fX1_whereHolds v0 v1 v2 sh I n = some ((e, es), (r, sh', I', n'))) : J G X (QE G X (some (.ref r)) sh' I' L n') 6 sh I L n e es 0 [(0, .int v0), (1, .int v1), (2, .int v2)] [] := by
  unfold fX1_whereHolds at h
  refine j_sipush (pc := 0) F 144 dX1_whereHolds_0 (by decide) ?_
  obtain ⟨h1, i2, hh1, h⟩ := b2_obt h
  obtain ⟨e3, es4, h, he, hes⟩ := addE_obt h
  refine j_newI (pc := 3) F (Or.inr ⟨rfl, rfl⟩) aw_boolean hh1 he hes dX1_whereHolds_3 ?_
  refine j_astore_n (pc := 5) (k1 := 3) (ls' := [(3, .ref n), (0, .int v0), (1, .int v1), (2, .int v2)]) F rfl rfl rfl dX1_whereHolds_5 ?_
  refine j_iconst (pc := 6) F 0 dX1_whereHolds_6 (by decide) ?_
  refine j_istore (pc := 7) (k1 := 4) (ls' := [(4, .int 0), (3, .ref n), (0, .int v0), (1, .int v1), (2, .int v2)]) F rfl rfl dX1_whereHolds_7 ?_
  refine j_sub [2, 3, 4, 1, 0] rfl ?_
  exact jbX1_whereHolds_9 G F 1000 _ _ _ _ _ _ _ _ _ _ h
theorem ctX1_whereHolds (G : GT) {sh : SH} {I : IH} {L : LH} {n : Nat} {v0 : Int32} {v1 : Int32} {v2 : Int32} {r : Nat} {sh' : SH} {I' : IH} {n' : Nat} {e es : Nat}  (h : fX1_whereHolds v0 v1 v2 sh I n = some ((e, es), (r, sh', I', n'))) : Ct G yX1_whereHolds cX1_whereHolds 6 (some (.array .boolean)) 0 [.int v0, .int v1, .int v2] sh I L n (some (.ref r)) sh' I' L n' e es := by
  refine ct_of (y := yX1_whereHolds) (by decide +kernel) rfl (fun X F => ?_)
  exact jbX1_whereHolds_0 G F h
theorem dX1_both_0 : decode cX1_both 0 = .ok (.aload_n 0, 1) := by decide +kernel
theorem dX1_both_1 : decode cX1_both 1 = .ok (.iload_n 1, 1) := by decide +kernel
theorem dX1_both_2 : decode cX1_both 2 = .ok (.invokevirtual 98, 3) := by decide +kernel
theorem dX1_both_5 : decode cX1_both 5 = .ok (.astore_n 2, 1) := by decide +kernel
theorem dX1_both_6 : decode cX1_both 6 = .ok (.iconst 0, 1) := by decide +kernel
theorem dX1_both_7 : decode cX1_both 7 = .ok (.istore_n 3, 1) := by decide +kernel
theorem dX1_both_8 : decode cX1_both 8 = .ok (.iload_n 3, 1) := by decide +kernel
theorem dX1_both_9 : decode cX1_both 9 = .ok (.aload_n 0, 1) := by decide +kernel
theorem dX1_both_10 : decode cX1_both 10 = .ok (.getfield 32, 3) := by decide +kernel
theorem dX1_both_13 : decode cX1_both 13 = .ok (.if_icmp .ge 54, 3) := by decide +kernel
theorem dX1_both_16 : decode cX1_both 16 = .ok (.aload_n 0, 1) := by decide +kernel
theorem dX1_both_17 : decode cX1_both 17 = .ok (.bipush 38, 2) := by decide +kernel
theorem dX1_both_19 : decode cX1_both 19 = .ok (.invokevirtual 39, 3) := by decide +kernel
theorem dX1_both_22 : decode cX1_both 22 = .ok (.ifCond .eq 45, 3) := by decide +kernel
theorem dX1_both_25 : decode cX1_both 25 = .ok (.aload_n 0, 1) := by decide +kernel
theorem dX1_both_26 : decode cX1_both 26 = .ok (.iload_n 1, 1) := by decide +kernel
theorem dX1_both_27 : decode cX1_both 27 = .ok (.invokevirtual 98, 3) := by decide +kernel
theorem dX1_both_30 : decode cX1_both 30 = .ok (.astore 4, 2) := by decide +kernel
theorem dX1_both_32 : decode cX1_both 32 = .ok (.iconst 0, 1) := by decide +kernel
theorem dX1_both_33 : decode cX1_both 33 = .ok (.istore 5, 2) := by decide +kernel
theorem dX1_both_35 : decode cX1_both 35 = .ok (.iload 5, 2) := by decide +kernel
theorem dX1_both_37 : decode cX1_both 37 = .ok (.sipush 144, 3) := by decide +kernel
theorem dX1_both_40 : decode cX1_both 40 = .ok (.if_icmp .ge 21, 3) := by decide +kernel
theorem dX1_both_43 : decode cX1_both 43 = .ok (.aload_n 2, 1) := by decide +kernel
theorem dX1_both_44 : decode cX1_both 44 = .ok (.iload 5, 2) := by decide +kernel
theorem dX1_both_46 : decode cX1_both 46 = .ok (.dup2, 1) := by decide +kernel
theorem dX1_both_47 : decode cX1_both 47 = .ok (.baload, 1) := by decide +kernel
theorem dX1_both_48 : decode cX1_both 48 = .ok (.aload 4, 2) := by decide +kernel
theorem dX1_both_50 : decode cX1_both 50 = .ok (.iload 5, 2) := by decide +kernel
theorem dX1_both_52 : decode cX1_both 52 = .ok (.baload, 1) := by decide +kernel
theorem dX1_both_53 : decode cX1_both 53 = .ok (.iand, 1) := by decide +kernel
theorem dX1_both_54 : decode cX1_both 54 = .ok (.bastore, 1) := by decide +kernel
theorem dX1_both_55 : decode cX1_both 55 = .ok (.iinc 5 1, 3) := by decide +kernel
theorem dX1_both_58 : decode cX1_both 58 = .ok (.goto (-23), 3) := by decide +kernel
theorem dX1_both_61 : decode cX1_both 61 = .ok (.iinc 3 1, 3) := by decide +kernel
theorem dX1_both_64 : decode cX1_both 64 = .ok (.goto (-56), 3) := by decide +kernel
theorem dX1_both_67 : decode cX1_both 67 = .ok (.aload_n 2, 1) := by decide +kernel
theorem dX1_both_68 : decode cX1_both 68 = .ok (.areturn, 1) := by decide +kernel
def fX1_both_b35 (this : Nat) (rc : (Nat → Int32 → SH → IH → Nat → Option ((Nat × Nat) × (Nat × SH × IH × Nat)))) (k8 : (Int32 → Nat → Int32 → SH → IH → Nat → Option ((Nat × Nat) × (Nat × SH × IH × Nat)))) : Nat → Int32 → Nat → Int32 → Nat → Int32 → SH → IH → Nat → Option ((Nat × Nat) × (Nat × SH × IH × Nat))
  | 0, _, _, _, _, _, _, _, _ => none
  | fuel + 1, v1, v2, v3, v4, v5, sh, I, n =>
    if 144 ≤ v5 then (
      k8 v1 v2 (v3 + 1) sh I n) else
    (aI sh I 1 v2 v5).bind fun x1 =>
    (aI sh I 1 v4 v5).bind fun x2 =>
    (sZ sh I v2 v5 (x1 &&& x2)).bind fun i3 =>
    fX1_both_b35 this rc k8 fuel v1 v2 v3 v4 (v5 + 1) sh i3 n
def fX1_both_b8 (this : Nat) (rc : (Nat → Int32 → SH → IH → Nat → Option ((Nat × Nat) × (Nat × SH × IH × Nat)))) : Nat → Int32 → Nat → Int32 → SH → IH → Nat → Option ((Nat × Nat) × (Nat × SH × IH × Nat))
  | 0, _, _, _, _, _, _ => none
  | fuel + 1, v1, v2, v3, sh, I, n =>
    (gI sh I 1 this 1).bind fun x1 =>
    if x1 ≤ v3 then (
      some ((0, 0), (v2, sh, I, n))) else
    (ck sh 1 this).bind fun u2 =>
    b2 (fX1_passes sh this 38 I) fun x3 i4 =>
    if x3 = 0 then (
      some ((0, 0), (v2, sh, i4, n))) else
    bE4 (rc this v1 sh i4 n) fun x5 h6 i7 n8 =>
    fX1_both_b35 this rc (fX1_both_b8 this rc fuel) 1000 v1 v2 v3 x5 0 h6 i7 n8
def fX1_both_b0 (this : Nat) (rc : (Nat → Int32 → SH → IH → Nat → Option ((Nat × Nat) × (Nat × SH × IH × Nat)))) (v1 : Int32) (sh : SH) (I : IH) (n : Nat) : Option ((Nat × Nat) × (Nat × SH × IH × Nat)) :=
  bE4 (rc this v1 sh I n) fun x1 h2 i3 n4 =>
  fX1_both_b8 this rc 1000 v1 x1 0 h2 i3 n4
def fX1_both (this : Nat) (rc : (Nat → Int32 → SH → IH → Nat → Option ((Nat × Nat) × (Nat × SH × IH × Nat)))) (v1 : Int32) (sh : SH) (I : IH) (n : Nat) : Option ((Nat × Nat) × (Nat × SH × IH × Nat)) := fX1_both_b0 this rc v1 sh I n
set_option maxHeartbeats 4000000 in
set_option maxRecDepth 20000 in
theorem jbX1_both_35 (G : GT) {X : XT} {dR : Nat} {L : LH} {r : Nat} {sh' : SH} {I' : IH} {n' : Nat}  {this : Nat} {k8 : (Int32 → Nat → Int32 → SH → IH → Nat → Option ((Nat × Nat) × (Nat × SH × IH × Nat)))} {rc : (Nat → Int32 → SH → IH → Nat → Option ((Nat × Nat) × (Nat × SH × IH × Nat)))} (F : MF G X RX1 cX1_both 6 (dR + 10) (some (.array .boolean)) "both") (hrc : ∀ {sh : SH} {I : IH} {L : LH} {n : Nat} {this : Nat} {v1 : Int32} {r : Nat} {sh' : SH} {I' : IH} {n' : Nat} {e es : Nat} , isO sh 1 this → rc this v1 sh I n = some ((e, es), (r, sh', I', n')) → Ct G yX1_factor cX1_factor 4 (some (.array .boolean)) dR [.ref this, .int v1] sh I L n (some (.ref r)) sh' I' L n' e es)
    (hk8 : ∀ {v1 : Int32} {v2 : Nat} {v3 : Int32} {sh : SH} {I : IH} {n : Nat} {e es : Nat}, k8 v1 v2 v3 sh I n = some ((e, es), (r, sh', I', n')) → J G X (QE G X (some (.ref r)) sh' I' L n') 6 sh I L n e es 8 [(0, .ref this), (1, .int v1), (2, .ref v2), (3, .int v3)] []) : ∀ (fuel : Nat) (v1 : Int32) (v2 : Nat) (v3 : Int32) (v4 : Nat) (v5 : Int32) (sh : SH) (I : IH) (n : Nat) (e es : Nat), fX1_both_b35 this rc k8 fuel v1 v2 v3 v4 v5 sh I n = some ((e, es), (r, sh', I', n')) → J G X (QE G X (some (.ref r)) sh' I' L n') 6 sh I L n e es 35 [(0, .ref this), (1, .int v1), (2, .ref v2), (3, .int v3), (4, .ref v4), (5, .int v5)] []
  | 0 => by
    intros
    rename_i h
    exact absurd (show none = some _ from h) (by intro z; cases z)
  | fuel + 1 => by
    intro v1 v2 v3 v4 v5 sh I n e es h
    rw [fX1_both_b35] at h
    refine j_iload (pc := 35) (k0 := 5) F 5 rfl dX1_both_35 ?_
    refine j_sipush (pc := 37) F 144 dX1_both_37 (by decide) ?_
    refine j_icmp_ge (pc := 40) F 61 dX1_both_40 rfl (fun c => ?_) (fun c => ?_)
    · have h := iz_t c h
      refine j_iinc (pc := 61) (k1 := 3) (ls' := [(3, .int (v3 + 1)), (0, .ref this), (1, .int v1), (2, .ref v2), (4, .ref v4), (5, .int v5)]) F (v3 + 1) 3 rfl rfl rfl rfl dX1_both_61 ?_
      refine j_goto (pc := 64) F 8 dX1_both_64 rfl ?_
      refine j_sub [1, 2, 3, 0] rfl ?_
      exact hk8 h
    · have h := iz_f c h
      refine j_aload_n (pc := 43) (k0 := 2) F 2 rfl dX1_both_43 ?_
      refine j_iload (pc := 44) (k0 := 5) F 5 rfl dX1_both_44 ?_
      refine j_dup2 (pc := 46) F dX1_both_46 rfl rfl ?_
      obtain ⟨x1, hx1, h⟩ := ob h
      refine j_zald (pc := 47) F hx1 dX1_both_47 ?_
      refine j_aload (pc := 48) (k0 := 4) F 4 rfl dX1_both_48 ?_
      refine j_iload (pc := 50) (k0 := 5) F 5 rfl dX1_both_50 ?_
      obtain ⟨x2, hx2, h⟩ := ob h
      refine j_zald (pc := 52) F hx2 dX1_both_52 ?_
      refine j_iand (pc := 53) F dX1_both_53 ?_
      obtain ⟨i3, hi3, h⟩ := ob h
      refine j_zast (pc := 54) F hi3 dX1_both_54 ?_
      refine j_iinc (pc := 55) (k1 := 5) (ls' := [(5, .int (v5 + 1)), (0, .ref this), (1, .int v1), (2, .ref v2), (3, .int v3), (4, .ref v4)]) F (v5 + 1) 5 rfl rfl rfl rfl dX1_both_55 ?_
      refine j_goto (pc := 58) F 35 dX1_both_58 rfl ?_
      refine j_sub [1, 2, 3, 4, 5, 0] rfl ?_
      exact jbX1_both_35 G F hrc hk8 fuel _ _ _ _ _ _ _ _ _ _ h
set_option maxHeartbeats 4000000 in
set_option maxRecDepth 20000 in
theorem jbX1_both_8 (G : GT) {X : XT} {dR : Nat} {L : LH} {r : Nat} {sh' : SH} {I' : IH} {n' : Nat}  {this : Nat} {rc : (Nat → Int32 → SH → IH → Nat → Option ((Nat × Nat) × (Nat × SH × IH × Nat)))} (F : MF G X RX1 cX1_both 6 (dR + 10) (some (.array .boolean)) "both") (hrc : ∀ {sh : SH} {I : IH} {L : LH} {n : Nat} {this : Nat} {v1 : Int32} {r : Nat} {sh' : SH} {I' : IH} {n' : Nat} {e es : Nat} , isO sh 1 this → rc this v1 sh I n = some ((e, es), (r, sh', I', n')) → Ct G yX1_factor cX1_factor 4 (some (.array .boolean)) dR [.ref this, .int v1] sh I L n (some (.ref r)) sh' I' L n' e es) : ∀ (fuel : Nat) (v1 : Int32) (v2 : Nat) (v3 : Int32) (sh : SH) (I : IH) (n : Nat) (e es : Nat), fX1_both_b8 this rc fuel v1 v2 v3 sh I n = some ((e, es), (r, sh', I', n')) → J G X (QE G X (some (.ref r)) sh' I' L n') 6 sh I L n e es 8 [(0, .ref this), (1, .int v1), (2, .ref v2), (3, .int v3)] []
  | 0 => by
    intros
    rename_i h
    exact absurd (show none = some _ from h) (by intro z; cases z)
  | fuel + 1 => by
    intro v1 v2 v3 sh I n e es h
    rw [fX1_both_b8] at h
    refine j_iload_n (pc := 8) (k0 := 3) F 3 rfl dX1_both_8 ?_
    refine j_aload_n (pc := 9) (k0 := 0) F 0 rfl dX1_both_9 ?_
    obtain ⟨x1, hx1, h⟩ := ob h
    refine j_getI (pc := 10) F flX1_32 hx1 dX1_both_10 ?_
    refine j_icmp_ge (pc := 13) F 67 dX1_both_13 rfl (fun c => ?_) (fun c => ?_)
    · have h := iz_t c h
      refine j_aload_n (pc := 67) (k0 := 2) F 2 rfl dX1_both_67 ?_
      cases h
      exact j_aretR (pc := 68) F rfl (Or.inr ⟨_, rfl⟩) dX1_both_68
    · have h := iz_f c h
      refine j_aload_n (pc := 16) (k0 := 0) F 0 rfl dX1_both_16 ?_
      refine j_bipush (pc := 17) F 38 dX1_both_17 (by decide) ?_
      obtain ⟨u2, hu2, h⟩ := ob h
      have hou2 := ck_obt hu2
      obtain ⟨x3, i4, hx3, h⟩ := b2_obt h
      refine j_callV1 (pc := 19) (ci := 1) (As := [.int 38]) (st := []) (e1 := e) (es1 := es) F clX1_39 cwX1_passes rfl hou2 (ctX1_passes G hou2 hx3) (dok_of (by omega) (by decide)) rfl rfl rfl (Nat.zero_add _).symm (Nat.zero_add _).symm dX1_both_19 ?_
      refine j_if_eq (pc := 22) F 67 dX1_both_22 rfl (fun c => ?_) (fun c => ?_)
      · have h := iz_t c h
        refine j_aload_n (pc := 67) (k0 := 2) F 2 rfl dX1_both_67 ?_
        cases h
        exact j_aretR (pc := 68) F rfl (Or.inr ⟨_, rfl⟩) dX1_both_68
      · have h := iz_f c h
        refine j_aload_n (pc := 25) (k0 := 0) F 0 rfl dX1_both_25 ?_
        refine j_iload_n (pc := 26) (k0 := 1) F 1 rfl dX1_both_26 ?_
        obtain ⟨d9, ds10, x5, h6, i7, n8, e11, es12, hx5, h, he, hes⟩ := bE4_obt h
        refine j_callV1 (pc := 27) (ci := 1) (As := [.int v1]) (st := []) (e1 := e11) (es1 := es12) F clX1_98 cwX1_factor rfl hou2 (hrc hou2 hx5) (dok_of (by omega) (by decide)) rfl rfl rfl he hes dX1_both_27 ?_
        refine j_astore (pc := 30) (k1 := 4) (ls' := [(4, .ref x5), (0, .ref this), (1, .int v1), (2, .ref v2), (3, .int v3)]) F rfl rfl dX1_both_30 ?_
        refine j_iconst (pc := 32) F 0 dX1_both_32 (by decide) ?_
        refine j_istore (pc := 33) (k1 := 5) (ls' := [(5, .int 0), (4, .ref x5), (0, .ref this), (1, .int v1), (2, .ref v2), (3, .int v3)]) F rfl rfl dX1_both_33 ?_
        refine j_sub [2, 3, 4, 5, 1, 0] rfl ?_
        exact jbX1_both_35 G F hrc (fun h => jbX1_both_8 G F hrc fuel _ _ _ _ _ _ _ _ h) 1000 _ _ _ _ _ _ _ _ _ _ h
set_option maxHeartbeats 4000000 in
set_option maxRecDepth 20000 in
theorem jbX1_both_0 (G : GT) {X : XT} {dR : Nat} {L : LH} {r : Nat} {sh' : SH} {I' : IH} {n' : Nat}  {this : Nat} {rc : (Nat → Int32 → SH → IH → Nat → Option ((Nat × Nat) × (Nat × SH × IH × Nat)))} {v1 : Int32} {sh : SH} {I : IH} {n : Nat} {e es : Nat} (F : MF G X RX1 cX1_both 6 (dR + 10) (some (.array .boolean)) "both") (hth : isO sh 1 this) (hrc : ∀ {sh : SH} {I : IH} {L : LH} {n : Nat} {this : Nat} {v1 : Int32} {r : Nat} {sh' : SH} {I' : IH} {n' : Nat} {e es : Nat} , isO sh 1 this → rc this v1 sh I n = some ((e, es), (r, sh', I', n')) → Ct G yX1_factor cX1_factor 4 (some (.array .boolean)) dR [.ref this, .int v1] sh I L n (some (.ref r)) sh' I' L n' e es) (h : fX1_both_b0 this rc v1 sh I n = some ((e, es), (r, sh', I', n'))) : J G X (QE G X (some (.ref r)) sh' I' L n') 6 sh I L n e es 0 [(0, .ref this), (1, .int v1)] [] := by
  unfold fX1_both_b0 at h
  refine j_aload_n (pc := 0) (k0 := 0) F 0 rfl dX1_both_0 ?_
  refine j_iload_n (pc := 1) (k0 := 1) F 1 rfl dX1_both_1 ?_
  obtain ⟨d5, ds6, x1, h2, i3, n4, e7, es8, hx1, h, he, hes⟩ := bE4_obt h
  refine j_callV1 (pc := 2) (ci := 1) (As := [.int v1]) (st := []) (e1 := e7) (es1 := es8) F clX1_98 cwX1_factor rfl hth (hrc hth hx1) (dok_of (by omega) (by decide)) rfl rfl rfl he hes dX1_both_2 ?_
  refine j_astore_n (pc := 5) (k1 := 2) (ls' := [(2, .ref x1), (0, .ref this), (1, .int v1)]) F rfl rfl rfl dX1_both_5 ?_
  refine j_iconst (pc := 6) F 0 dX1_both_6 (by decide) ?_
  refine j_istore_n (pc := 7) (k1 := 3) (ls' := [(3, .int 0), (2, .ref x1), (0, .ref this), (1, .int v1)]) F rfl rfl rfl dX1_both_7 ?_
  refine j_sub [2, 3, 1, 0] rfl ?_
  exact jbX1_both_8 G F hrc 1000 _ _ _ _ _ _ _ _ h
theorem ctX1_both (G : GT) {rc : (Nat → Int32 → SH → IH → Nat → Option ((Nat × Nat) × (Nat × SH × IH × Nat)))} {dR : Nat} {sh : SH} {I : IH} {L : LH} {n : Nat} {this : Nat} {v1 : Int32} {r : Nat} {sh' : SH} {I' : IH} {n' : Nat} {e es : Nat}  (hth : isO sh 1 this) (hrc : ∀ {sh : SH} {I : IH} {L : LH} {n : Nat} {this : Nat} {v1 : Int32} {r : Nat} {sh' : SH} {I' : IH} {n' : Nat} {e es : Nat} , isO sh 1 this → rc this v1 sh I n = some ((e, es), (r, sh', I', n')) → Ct G yX1_factor cX1_factor 4 (some (.array .boolean)) dR [.ref this, .int v1] sh I L n (some (.ref r)) sh' I' L n' e es) (h : fX1_both this rc v1 sh I n = some ((e, es), (r, sh', I', n'))) : Ct G yX1_both cX1_both 6 (some (.array .boolean)) (dR + 10) [.ref this, .int v1] sh I L n (some (.ref r)) sh' I' L n' e es := by
  refine ct_of (y := yX1_both) (by decide +kernel) rfl (fun X F => ?_)
  exact jbX1_both_0 G F hth hrc h
theorem dX1_either_0 : decode cX1_either 0 = .ok (.aload_n 0, 1) := by decide +kernel
theorem dX1_either_1 : decode cX1_either 1 = .ok (.iload_n 1, 1) := by decide +kernel
theorem dX1_either_2 : decode cX1_either 2 = .ok (.invokevirtual 95, 3) := by decide +kernel
theorem dX1_either_5 : decode cX1_either 5 = .ok (.astore_n 2, 1) := by decide +kernel
theorem dX1_either_6 : decode cX1_either 6 = .ok (.iconst 0, 1) := by decide +kernel
theorem dX1_either_7 : decode cX1_either 7 = .ok (.istore_n 3, 1) := by decide +kernel
theorem dX1_either_8 : decode cX1_either 8 = .ok (.iload_n 3, 1) := by decide +kernel
theorem dX1_either_9 : decode cX1_either 9 = .ok (.aload_n 0, 1) := by decide +kernel
theorem dX1_either_10 : decode cX1_either 10 = .ok (.getfield 32, 3) := by decide +kernel
theorem dX1_either_13 : decode cX1_either 13 = .ok (.if_icmp .ge 54, 3) := by decide +kernel
theorem dX1_either_16 : decode cX1_either 16 = .ok (.aload_n 0, 1) := by decide +kernel
theorem dX1_either_17 : decode cX1_either 17 = .ok (.bipush 124, 2) := by decide +kernel
theorem dX1_either_19 : decode cX1_either 19 = .ok (.invokevirtual 39, 3) := by decide +kernel
theorem dX1_either_22 : decode cX1_either 22 = .ok (.ifCond .eq 45, 3) := by decide +kernel
theorem dX1_either_25 : decode cX1_either 25 = .ok (.aload_n 0, 1) := by decide +kernel
theorem dX1_either_26 : decode cX1_either 26 = .ok (.iload_n 1, 1) := by decide +kernel
theorem dX1_either_27 : decode cX1_either 27 = .ok (.invokevirtual 95, 3) := by decide +kernel
theorem dX1_either_30 : decode cX1_either 30 = .ok (.astore 4, 2) := by decide +kernel
theorem dX1_either_32 : decode cX1_either 32 = .ok (.iconst 0, 1) := by decide +kernel
theorem dX1_either_33 : decode cX1_either 33 = .ok (.istore 5, 2) := by decide +kernel
theorem dX1_either_35 : decode cX1_either 35 = .ok (.iload 5, 2) := by decide +kernel
theorem dX1_either_37 : decode cX1_either 37 = .ok (.sipush 144, 3) := by decide +kernel
theorem dX1_either_40 : decode cX1_either 40 = .ok (.if_icmp .ge 21, 3) := by decide +kernel
theorem dX1_either_43 : decode cX1_either 43 = .ok (.aload_n 2, 1) := by decide +kernel
theorem dX1_either_44 : decode cX1_either 44 = .ok (.iload 5, 2) := by decide +kernel
theorem dX1_either_46 : decode cX1_either 46 = .ok (.dup2, 1) := by decide +kernel
theorem dX1_either_47 : decode cX1_either 47 = .ok (.baload, 1) := by decide +kernel
theorem dX1_either_48 : decode cX1_either 48 = .ok (.aload 4, 2) := by decide +kernel
theorem dX1_either_50 : decode cX1_either 50 = .ok (.iload 5, 2) := by decide +kernel
theorem dX1_either_52 : decode cX1_either 52 = .ok (.baload, 1) := by decide +kernel
theorem dX1_either_53 : decode cX1_either 53 = .ok (.ior, 1) := by decide +kernel
theorem dX1_either_54 : decode cX1_either 54 = .ok (.bastore, 1) := by decide +kernel
theorem dX1_either_55 : decode cX1_either 55 = .ok (.iinc 5 1, 3) := by decide +kernel
theorem dX1_either_58 : decode cX1_either 58 = .ok (.goto (-23), 3) := by decide +kernel
theorem dX1_either_61 : decode cX1_either 61 = .ok (.iinc 3 1, 3) := by decide +kernel
theorem dX1_either_64 : decode cX1_either 64 = .ok (.goto (-56), 3) := by decide +kernel
theorem dX1_either_67 : decode cX1_either 67 = .ok (.aload_n 2, 1) := by decide +kernel
theorem dX1_either_68 : decode cX1_either 68 = .ok (.areturn, 1) := by decide +kernel
def fX1_either_b35 (this : Nat) (rc : (Nat → Int32 → SH → IH → Nat → Option ((Nat × Nat) × (Nat × SH × IH × Nat)))) (k8 : (Int32 → Nat → Int32 → SH → IH → Nat → Option ((Nat × Nat) × (Nat × SH × IH × Nat)))) : Nat → Int32 → Nat → Int32 → Nat → Int32 → SH → IH → Nat → Option ((Nat × Nat) × (Nat × SH × IH × Nat))
  | 0, _, _, _, _, _, _, _, _ => none
  | fuel + 1, v1, v2, v3, v4, v5, sh, I, n =>
    if 144 ≤ v5 then (
      k8 v1 v2 (v3 + 1) sh I n) else
    (aI sh I 1 v2 v5).bind fun x1 =>
    (aI sh I 1 v4 v5).bind fun x2 =>
    (sZ sh I v2 v5 (x1 ||| x2)).bind fun i3 =>
    fX1_either_b35 this rc k8 fuel v1 v2 v3 v4 (v5 + 1) sh i3 n
def fX1_either_b8 (this : Nat) (rc : (Nat → Int32 → SH → IH → Nat → Option ((Nat × Nat) × (Nat × SH × IH × Nat)))) : Nat → Int32 → Nat → Int32 → SH → IH → Nat → Option ((Nat × Nat) × (Nat × SH × IH × Nat))
  | 0, _, _, _, _, _, _ => none
  | fuel + 1, v1, v2, v3, sh, I, n =>
    (gI sh I 1 this 1).bind fun x1 =>
    if x1 ≤ v3 then (
      some ((0, 0), (v2, sh, I, n))) else
    (ck sh 1 this).bind fun u2 =>
    b2 (fX1_passes sh this 124 I) fun x3 i4 =>
    if x3 = 0 then (
      some ((0, 0), (v2, sh, i4, n))) else
    bE4 (fX1_both this rc v1 sh i4 n) fun x5 h6 i7 n8 =>
    fX1_either_b35 this rc (fX1_either_b8 this rc fuel) 1000 v1 v2 v3 x5 0 h6 i7 n8
def fX1_either_b0 (this : Nat) (rc : (Nat → Int32 → SH → IH → Nat → Option ((Nat × Nat) × (Nat × SH × IH × Nat)))) (v1 : Int32) (sh : SH) (I : IH) (n : Nat) : Option ((Nat × Nat) × (Nat × SH × IH × Nat)) :=
  bE4 (fX1_both this rc v1 sh I n) fun x1 h2 i3 n4 =>
  fX1_either_b8 this rc 1000 v1 x1 0 h2 i3 n4
def fX1_either (this : Nat) (rc : (Nat → Int32 → SH → IH → Nat → Option ((Nat × Nat) × (Nat × SH × IH × Nat)))) (v1 : Int32) (sh : SH) (I : IH) (n : Nat) : Option ((Nat × Nat) × (Nat × SH × IH × Nat)) := fX1_either_b0 this rc v1 sh I n
set_option maxHeartbeats 4000000 in
set_option maxRecDepth 20000 in
theorem jbX1_either_35 (G : GT) {X : XT} {dR : Nat} {L : LH} {r : Nat} {sh' : SH} {I' : IH} {n' : Nat}  {this : Nat} {k8 : (Int32 → Nat → Int32 → SH → IH → Nat → Option ((Nat × Nat) × (Nat × SH × IH × Nat)))} {rc : (Nat → Int32 → SH → IH → Nat → Option ((Nat × Nat) × (Nat × SH × IH × Nat)))} (F : MF G X RX1 cX1_either 6 (dR + 11) (some (.array .boolean)) "either") (hrc : ∀ {sh : SH} {I : IH} {L : LH} {n : Nat} {this : Nat} {v1 : Int32} {r : Nat} {sh' : SH} {I' : IH} {n' : Nat} {e es : Nat} , isO sh 1 this → rc this v1 sh I n = some ((e, es), (r, sh', I', n')) → Ct G yX1_factor cX1_factor 4 (some (.array .boolean)) dR [.ref this, .int v1] sh I L n (some (.ref r)) sh' I' L n' e es)
    (hk8 : ∀ {v1 : Int32} {v2 : Nat} {v3 : Int32} {sh : SH} {I : IH} {n : Nat} {e es : Nat}, k8 v1 v2 v3 sh I n = some ((e, es), (r, sh', I', n')) → J G X (QE G X (some (.ref r)) sh' I' L n') 6 sh I L n e es 8 [(0, .ref this), (1, .int v1), (2, .ref v2), (3, .int v3)] []) : ∀ (fuel : Nat) (v1 : Int32) (v2 : Nat) (v3 : Int32) (v4 : Nat) (v5 : Int32) (sh : SH) (I : IH) (n : Nat) (e es : Nat), fX1_either_b35 this rc k8 fuel v1 v2 v3 v4 v5 sh I n = some ((e, es), (r, sh', I', n')) → J G X (QE G X (some (.ref r)) sh' I' L n') 6 sh I L n e es 35 [(0, .ref this), (1, .int v1), (2, .ref v2), (3, .int v3), (4, .ref v4), (5, .int v5)] []
  | 0 => by
    intros
    rename_i h
    exact absurd (show none = some _ from h) (by intro z; cases z)
  | fuel + 1 => by
    intro v1 v2 v3 v4 v5 sh I n e es h
    rw [fX1_either_b35] at h
    refine j_iload (pc := 35) (k0 := 5) F 5 rfl dX1_either_35 ?_
    refine j_sipush (pc := 37) F 144 dX1_either_37 (by decide) ?_
    refine j_icmp_ge (pc := 40) F 61 dX1_either_40 rfl (fun c => ?_) (fun c => ?_)
    · have h := iz_t c h
      refine j_iinc (pc := 61) (k1 := 3) (ls' := [(3, .int (v3 + 1)), (0, .ref this), (1, .int v1), (2, .ref v2), (4, .ref v4), (5, .int v5)]) F (v3 + 1) 3 rfl rfl rfl rfl dX1_either_61 ?_
      refine j_goto (pc := 64) F 8 dX1_either_64 rfl ?_
      refine j_sub [1, 2, 3, 0] rfl ?_
      exact hk8 h
    · have h := iz_f c h
      refine j_aload_n (pc := 43) (k0 := 2) F 2 rfl dX1_either_43 ?_
      refine j_iload (pc := 44) (k0 := 5) F 5 rfl dX1_either_44 ?_
      refine j_dup2 (pc := 46) F dX1_either_46 rfl rfl ?_
      obtain ⟨x1, hx1, h⟩ := ob h
      refine j_zald (pc := 47) F hx1 dX1_either_47 ?_
      refine j_aload (pc := 48) (k0 := 4) F 4 rfl dX1_either_48 ?_
      refine j_iload (pc := 50) (k0 := 5) F 5 rfl dX1_either_50 ?_
      obtain ⟨x2, hx2, h⟩ := ob h
      refine j_zald (pc := 52) F hx2 dX1_either_52 ?_
      refine j_ior (pc := 53) F dX1_either_53 ?_
      obtain ⟨i3, hi3, h⟩ := ob h
      refine j_zast (pc := 54) F hi3 dX1_either_54 ?_
      refine j_iinc (pc := 55) (k1 := 5) (ls' := [(5, .int (v5 + 1)), (0, .ref this), (1, .int v1), (2, .ref v2), (3, .int v3), (4, .ref v4)]) F (v5 + 1) 5 rfl rfl rfl rfl dX1_either_55 ?_
      refine j_goto (pc := 58) F 35 dX1_either_58 rfl ?_
      refine j_sub [1, 2, 3, 4, 5, 0] rfl ?_
      exact jbX1_either_35 G F hrc hk8 fuel _ _ _ _ _ _ _ _ _ _ h
set_option maxHeartbeats 4000000 in
set_option maxRecDepth 20000 in
theorem jbX1_either_8 (G : GT) {X : XT} {dR : Nat} {L : LH} {r : Nat} {sh' : SH} {I' : IH} {n' : Nat}  {this : Nat} {rc : (Nat → Int32 → SH → IH → Nat → Option ((Nat × Nat) × (Nat × SH × IH × Nat)))} (F : MF G X RX1 cX1_either 6 (dR + 11) (some (.array .boolean)) "either") (hrc : ∀ {sh : SH} {I : IH} {L : LH} {n : Nat} {this : Nat} {v1 : Int32} {r : Nat} {sh' : SH} {I' : IH} {n' : Nat} {e es : Nat} , isO sh 1 this → rc this v1 sh I n = some ((e, es), (r, sh', I', n')) → Ct G yX1_factor cX1_factor 4 (some (.array .boolean)) dR [.ref this, .int v1] sh I L n (some (.ref r)) sh' I' L n' e es) : ∀ (fuel : Nat) (v1 : Int32) (v2 : Nat) (v3 : Int32) (sh : SH) (I : IH) (n : Nat) (e es : Nat), fX1_either_b8 this rc fuel v1 v2 v3 sh I n = some ((e, es), (r, sh', I', n')) → J G X (QE G X (some (.ref r)) sh' I' L n') 6 sh I L n e es 8 [(0, .ref this), (1, .int v1), (2, .ref v2), (3, .int v3)] []
  | 0 => by
    intros
    rename_i h
    exact absurd (show none = some _ from h) (by intro z; cases z)
  | fuel + 1 => by
    intro v1 v2 v3 sh I n e es h
    rw [fX1_either_b8] at h
    refine j_iload_n (pc := 8) (k0 := 3) F 3 rfl dX1_either_8 ?_
    refine j_aload_n (pc := 9) (k0 := 0) F 0 rfl dX1_either_9 ?_
    obtain ⟨x1, hx1, h⟩ := ob h
    refine j_getI (pc := 10) F flX1_32 hx1 dX1_either_10 ?_
    refine j_icmp_ge (pc := 13) F 67 dX1_either_13 rfl (fun c => ?_) (fun c => ?_)
    · have h := iz_t c h
      refine j_aload_n (pc := 67) (k0 := 2) F 2 rfl dX1_either_67 ?_
      cases h
      exact j_aretR (pc := 68) F rfl (Or.inr ⟨_, rfl⟩) dX1_either_68
    · have h := iz_f c h
      refine j_aload_n (pc := 16) (k0 := 0) F 0 rfl dX1_either_16 ?_
      refine j_bipush (pc := 17) F 124 dX1_either_17 (by decide) ?_
      obtain ⟨u2, hu2, h⟩ := ob h
      have hou2 := ck_obt hu2
      obtain ⟨x3, i4, hx3, h⟩ := b2_obt h
      refine j_callV1 (pc := 19) (ci := 1) (As := [.int 124]) (st := []) (e1 := e) (es1 := es) F clX1_39 cwX1_passes rfl hou2 (ctX1_passes G hou2 hx3) (dok_of (by omega) (by decide)) rfl rfl rfl (Nat.zero_add _).symm (Nat.zero_add _).symm dX1_either_19 ?_
      refine j_if_eq (pc := 22) F 67 dX1_either_22 rfl (fun c => ?_) (fun c => ?_)
      · have h := iz_t c h
        refine j_aload_n (pc := 67) (k0 := 2) F 2 rfl dX1_either_67 ?_
        cases h
        exact j_aretR (pc := 68) F rfl (Or.inr ⟨_, rfl⟩) dX1_either_68
      · have h := iz_f c h
        refine j_aload_n (pc := 25) (k0 := 0) F 0 rfl dX1_either_25 ?_
        refine j_iload_n (pc := 26) (k0 := 1) F 1 rfl dX1_either_26 ?_
        obtain ⟨d9, ds10, x5, h6, i7, n8, e11, es12, hx5, h, he, hes⟩ := bE4_obt h
        refine j_callV1 (pc := 27) (ci := 1) (As := [.int v1]) (st := []) (e1 := e11) (es1 := es12) F clX1_95 cwX1_both rfl hou2 (ctX1_both G hou2 hrc hx5) (dok_of (by omega) (by decide)) rfl rfl rfl he hes dX1_either_27 ?_
        refine j_astore (pc := 30) (k1 := 4) (ls' := [(4, .ref x5), (0, .ref this), (1, .int v1), (2, .ref v2), (3, .int v3)]) F rfl rfl dX1_either_30 ?_
        refine j_iconst (pc := 32) F 0 dX1_either_32 (by decide) ?_
        refine j_istore (pc := 33) (k1 := 5) (ls' := [(5, .int 0), (4, .ref x5), (0, .ref this), (1, .int v1), (2, .ref v2), (3, .int v3)]) F rfl rfl dX1_either_33 ?_
        refine j_sub [2, 3, 4, 5, 1, 0] rfl ?_
        exact jbX1_either_35 G F hrc (fun h => jbX1_either_8 G F hrc fuel _ _ _ _ _ _ _ _ h) 1000 _ _ _ _ _ _ _ _ _ _ h
set_option maxHeartbeats 4000000 in
set_option maxRecDepth 20000 in
theorem jbX1_either_0 (G : GT) {X : XT} {dR : Nat} {L : LH} {r : Nat} {sh' : SH} {I' : IH} {n' : Nat}  {this : Nat} {rc : (Nat → Int32 → SH → IH → Nat → Option ((Nat × Nat) × (Nat × SH × IH × Nat)))} {v1 : Int32} {sh : SH} {I : IH} {n : Nat} {e es : Nat} (F : MF G X RX1 cX1_either 6 (dR + 11) (some (.array .boolean)) "either") (hth : isO sh 1 this) (hrc : ∀ {sh : SH} {I : IH} {L : LH} {n : Nat} {this : Nat} {v1 : Int32} {r : Nat} {sh' : SH} {I' : IH} {n' : Nat} {e es : Nat} , isO sh 1 this → rc this v1 sh I n = some ((e, es), (r, sh', I', n')) → Ct G yX1_factor cX1_factor 4 (some (.array .boolean)) dR [.ref this, .int v1] sh I L n (some (.ref r)) sh' I' L n' e es) (h : fX1_either_b0 this rc v1 sh I n = some ((e, es), (r, sh', I', n'))) : J G X (QE G X (some (.ref r)) sh' I' L n') 6 sh I L n e es 0 [(0, .ref this), (1, .int v1)] [] := by
  unfold fX1_either_b0 at h
  refine j_aload_n (pc := 0) (k0 := 0) F 0 rfl dX1_either_0 ?_
  refine j_iload_n (pc := 1) (k0 := 1) F 1 rfl dX1_either_1 ?_
  obtain ⟨d5, ds6, x1, h2, i3, n4, e7, es8, hx1, h, he, hes⟩ := bE4_obt h
  refine j_callV1 (pc := 2) (ci := 1) (As := [.int v1]) (st := []) (e1 := e7) (es1 := es8) F clX1_95 cwX1_both rfl hth (ctX1_both G hth hrc hx1) (dok_of (by omega) (by decide)) rfl rfl rfl he hes dX1_either_2 ?_
  refine j_astore_n (pc := 5) (k1 := 2) (ls' := [(2, .ref x1), (0, .ref this), (1, .int v1)]) F rfl rfl rfl dX1_either_5 ?_
  refine j_iconst (pc := 6) F 0 dX1_either_6 (by decide) ?_
  refine j_istore_n (pc := 7) (k1 := 3) (ls' := [(3, .int 0), (2, .ref x1), (0, .ref this), (1, .int v1)]) F rfl rfl rfl dX1_either_7 ?_
  refine j_sub [2, 3, 1, 0] rfl ?_
  exact jbX1_either_8 G F hrc 1000 _ _ _ _ _ _ _ _ h
theorem ctX1_either (G : GT) {rc : (Nat → Int32 → SH → IH → Nat → Option ((Nat × Nat) × (Nat × SH × IH × Nat)))} {dR : Nat} {sh : SH} {I : IH} {L : LH} {n : Nat} {this : Nat} {v1 : Int32} {r : Nat} {sh' : SH} {I' : IH} {n' : Nat} {e es : Nat}  (hth : isO sh 1 this) (hrc : ∀ {sh : SH} {I : IH} {L : LH} {n : Nat} {this : Nat} {v1 : Int32} {r : Nat} {sh' : SH} {I' : IH} {n' : Nat} {e es : Nat} , isO sh 1 this → rc this v1 sh I n = some ((e, es), (r, sh', I', n')) → Ct G yX1_factor cX1_factor 4 (some (.array .boolean)) dR [.ref this, .int v1] sh I L n (some (.ref r)) sh' I' L n' e es) (h : fX1_either this rc v1 sh I n = some ((e, es), (r, sh', I', n'))) : Ct G yX1_either cX1_either 6 (some (.array .boolean)) (dR + 11) [.ref this, .int v1] sh I L n (some (.ref r)) sh' I' L n' e es := by
  refine ct_of (y := yX1_either) (by decide +kernel) rfl (fun X F => ?_)
  exact jbX1_either_0 G F hth hrc h
theorem dX1_factor_0 : decode cX1_factor 0 = .ok (.iload_n 1, 1) := by decide +kernel
theorem dX1_factor_1 : decode cX1_factor 1 = .ok (.iconst 4, 1) := by decide +kernel
theorem dX1_factor_2 : decode cX1_factor 2 = .ok (.if_icmp .ge 51, 3) := by decide +kernel
theorem dX1_factor_5 : decode cX1_factor 5 = .ok (.aload_n 0, 1) := by decide +kernel
theorem dX1_factor_6 : decode cX1_factor 6 = .ok (.bipush 33, 2) := by decide +kernel
theorem dX1_factor_8 : decode cX1_factor 8 = .ok (.invokevirtual 39, 3) := by decide +kernel
theorem dX1_factor_11 : decode cX1_factor 11 = .ok (.ifCond .eq 42, 3) := by decide +kernel
theorem dX1_factor_14 : decode cX1_factor 14 = .ok (.aload_n 0, 1) := by decide +kernel
theorem dX1_factor_15 : decode cX1_factor 15 = .ok (.iload_n 1, 1) := by decide +kernel
theorem dX1_factor_16 : decode cX1_factor 16 = .ok (.iconst 1, 1) := by decide +kernel
theorem dX1_factor_17 : decode cX1_factor 17 = .ok (.iadd, 1) := by decide +kernel
theorem dX1_factor_18 : decode cX1_factor 18 = .ok (.invokevirtual 98, 3) := by decide +kernel
theorem dX1_factor_21 : decode cX1_factor 21 = .ok (.astore_n 2, 1) := by decide +kernel
theorem dX1_factor_22 : decode cX1_factor 22 = .ok (.iconst 0, 1) := by decide +kernel
theorem dX1_factor_23 : decode cX1_factor 23 = .ok (.istore_n 3, 1) := by decide +kernel
theorem dX1_factor_24 : decode cX1_factor 24 = .ok (.iload_n 3, 1) := by decide +kernel
theorem dX1_factor_25 : decode cX1_factor 25 = .ok (.sipush 144, 3) := by decide +kernel
theorem dX1_factor_28 : decode cX1_factor 28 = .ok (.if_icmp .ge 23, 3) := by decide +kernel
theorem dX1_factor_31 : decode cX1_factor 31 = .ok (.aload_n 2, 1) := by decide +kernel
theorem dX1_factor_32 : decode cX1_factor 32 = .ok (.iload_n 3, 1) := by decide +kernel
theorem dX1_factor_33 : decode cX1_factor 33 = .ok (.aload_n 2, 1) := by decide +kernel
theorem dX1_factor_34 : decode cX1_factor 34 = .ok (.iload_n 3, 1) := by decide +kernel
theorem dX1_factor_35 : decode cX1_factor 35 = .ok (.baload, 1) := by decide +kernel
theorem dX1_factor_36 : decode cX1_factor 36 = .ok (.ifCond .ne 7, 3) := by decide +kernel
theorem dX1_factor_39 : decode cX1_factor 39 = .ok (.iconst 1, 1) := by decide +kernel
theorem dX1_factor_40 : decode cX1_factor 40 = .ok (.goto 4, 3) := by decide +kernel
theorem dX1_factor_43 : decode cX1_factor 43 = .ok (.iconst 0, 1) := by decide +kernel
theorem dX1_factor_44 : decode cX1_factor 44 = .ok (.bastore, 1) := by decide +kernel
theorem dX1_factor_45 : decode cX1_factor 45 = .ok (.iinc 3 1, 3) := by decide +kernel
theorem dX1_factor_48 : decode cX1_factor 48 = .ok (.goto (-24), 3) := by decide +kernel
theorem dX1_factor_51 : decode cX1_factor 51 = .ok (.aload_n 2, 1) := by decide +kernel
theorem dX1_factor_52 : decode cX1_factor 52 = .ok (.areturn, 1) := by decide +kernel
theorem dX1_factor_53 : decode cX1_factor 53 = .ok (.iload_n 1, 1) := by decide +kernel
theorem dX1_factor_54 : decode cX1_factor 54 = .ok (.iconst 4, 1) := by decide +kernel
theorem dX1_factor_55 : decode cX1_factor 55 = .ok (.if_icmp .ge 28, 3) := by decide +kernel
theorem dX1_factor_58 : decode cX1_factor 58 = .ok (.aload_n 0, 1) := by decide +kernel
theorem dX1_factor_59 : decode cX1_factor 59 = .ok (.bipush 40, 2) := by decide +kernel
theorem dX1_factor_61 : decode cX1_factor 61 = .ok (.invokevirtual 39, 3) := by decide +kernel
theorem dX1_factor_64 : decode cX1_factor 64 = .ok (.ifCond .eq 19, 3) := by decide +kernel
theorem dX1_factor_67 : decode cX1_factor 67 = .ok (.aload_n 0, 1) := by decide +kernel
theorem dX1_factor_68 : decode cX1_factor 68 = .ok (.iload_n 1, 1) := by decide +kernel
theorem dX1_factor_69 : decode cX1_factor 69 = .ok (.iconst 1, 1) := by decide +kernel
theorem dX1_factor_70 : decode cX1_factor 70 = .ok (.iadd, 1) := by decide +kernel
theorem dX1_factor_71 : decode cX1_factor 71 = .ok (.invokevirtual 57, 3) := by decide +kernel
theorem dX1_factor_74 : decode cX1_factor 74 = .ok (.astore_n 2, 1) := by decide +kernel
theorem dX1_factor_75 : decode cX1_factor 75 = .ok (.aload_n 0, 1) := by decide +kernel
theorem dX1_factor_76 : decode cX1_factor 76 = .ok (.bipush 41, 2) := by decide +kernel
theorem dX1_factor_78 : decode cX1_factor 78 = .ok (.invokevirtual 50, 3) := by decide +kernel
theorem dX1_factor_81 : decode cX1_factor 81 = .ok (.aload_n 2, 1) := by decide +kernel
theorem dX1_factor_82 : decode cX1_factor 82 = .ok (.areturn, 1) := by decide +kernel
theorem dX1_factor_83 : decode cX1_factor 83 = .ok (.aload_n 0, 1) := by decide +kernel
theorem dX1_factor_84 : decode cX1_factor 84 = .ok (.bipush 104, 2) := by decide +kernel
theorem dX1_factor_86 : decode cX1_factor 86 = .ok (.bipush 100, 2) := by decide +kernel
theorem dX1_factor_88 : decode cX1_factor 88 = .ok (.bipush 107, 2) := by decide +kernel
theorem dX1_factor_90 : decode cX1_factor 90 = .ok (.invokevirtual 101, 3) := by decide +kernel
theorem dX1_factor_93 : decode cX1_factor 93 = .ok (.istore_n 2, 1) := by decide +kernel
theorem dX1_factor_94 : decode cX1_factor 94 = .ok (.aload_n 0, 1) := by decide +kernel
theorem dX1_factor_95 : decode cX1_factor 95 = .ok (.bipush 60, 2) := by decide +kernel
theorem dX1_factor_97 : decode cX1_factor 97 = .ok (.bipush 61, 2) := by decide +kernel
theorem dX1_factor_99 : decode cX1_factor 99 = .ok (.bipush 62, 2) := by decide +kernel
theorem dX1_factor_101 : decode cX1_factor 101 = .ok (.invokevirtual 101, 3) := by decide +kernel
theorem dX1_factor_104 : decode cX1_factor 104 = .ok (.istore_n 3, 1) := by decide +kernel
theorem dX1_factor_105 : decode cX1_factor 105 = .ok (.iload_n 2, 1) := by decide +kernel
theorem dX1_factor_106 : decode cX1_factor 106 = .ok (.iload_n 3, 1) := by decide +kernel
theorem dX1_factor_107 : decode cX1_factor 107 = .ok (.aload_n 0, 1) := by decide +kernel
theorem dX1_factor_108 : decode cX1_factor 108 = .ok (.invokevirtual 54, 3) := by decide +kernel
theorem dX1_factor_111 : decode cX1_factor 111 = .ok (.invokestatic 105, 3) := by decide +kernel
theorem dX1_factor_114 : decode cX1_factor 114 = .ok (.areturn, 1) := by decide +kernel
def fX1_factor_b24 (this : Nat) (rc : (Nat → Int32 → SH → IH → Nat → Option ((Nat × Nat) × (Nat × SH × IH × Nat)))) : Nat → Nat → Int32 → SH → IH → Nat → Option ((Nat × Nat) × (Nat × SH × IH × Nat))
  | 0, _, _, _, _, _ => none
  | fuel + 1, v2, v3, sh, I, n =>
    if 144 ≤ v3 then (
      some ((0, 0), (v2, sh, I, n))) else
    (aI sh I 1 v2 v3).bind fun x1 =>
    if x1 = 0 then (
      (sZ sh I v2 v3 1).bind fun i3 =>
      fX1_factor_b24 this rc fuel v2 (v3 + 1) sh i3 n) else
    (sZ sh I v2 v3 0).bind fun i2 =>
    fX1_factor_b24 this rc fuel v2 (v3 + 1) sh i2 n
def fX1_factor_b83 (this : Nat) (rc : (Nat → Int32 → SH → IH → Nat → Option ((Nat × Nat) × (Nat × SH × IH × Nat)))) (sh : SH) (I : IH) (n : Nat) : Option ((Nat × Nat) × (Nat × SH × IH × Nat)) :=
  (ck sh 1 this).bind fun u1 =>
  b2 (fX1_oneOf sh this 104 100 107 I) fun x2 i3 =>
  b2 (fX1_oneOf sh this 60 61 62 i3) fun x4 i5 =>
  b2 (fX1_number sh this i5) fun x6 i7 =>
  bE4 (fX1_whereHolds x2 x4 x6 sh i7 n) fun x8 h9 i10 n11 =>
  some ((0, 0), (x8, h9, i10, n11))
def fX1_factor_b53 (this : Nat) (rc : (Nat → Int32 → SH → IH → Nat → Option ((Nat × Nat) × (Nat × SH × IH × Nat)))) (v1 : Int32) (sh : SH) (I : IH) (n : Nat) : Option ((Nat × Nat) × (Nat × SH × IH × Nat)) :=
  if 4 ≤ v1 then (
    fX1_factor_b83 this rc sh I n) else
  (ck sh 1 this).bind fun u1 =>
  b2 (fX1_passes sh this 40 I) fun x2 i3 =>
  if x2 = 0 then (
    fX1_factor_b83 this rc sh i3 n) else
  bE4 (fX1_either this rc (v1 + 1) sh i3 n) fun x4 h5 i6 n7 =>
  (ck h5 1 this).bind fun u12 =>
  (fX1_expect h5 this 41 i6).bind fun i13 =>
  some ((0, 0), (x4, h5, i13, n7))
def fX1_factor_b0 (this : Nat) (rc : (Nat → Int32 → SH → IH → Nat → Option ((Nat × Nat) × (Nat × SH × IH × Nat)))) (v1 : Int32) (sh : SH) (I : IH) (n : Nat) : Option ((Nat × Nat) × (Nat × SH × IH × Nat)) :=
  if 4 ≤ v1 then (
    fX1_factor_b53 this rc v1 sh I n) else
  b2 (fX1_passes sh this 33 I) fun x1 i2 =>
  if x1 = 0 then (
    fX1_factor_b53 this rc v1 sh i2 n) else
  bE4 (rc this (v1 + 1) sh i2 n) fun x3 h4 i5 n6 =>
  fX1_factor_b24 this rc 1000 x3 0 h4 i5 n6
def fX1_factor  : Nat → Nat → Int32 → SH → IH → Nat → Option ((Nat × Nat) × (Nat × SH × IH × Nat))
  | 0, _, _, _, _, _ => none
  | dp + 1, this, v1, sh, I, n => fX1_factor_b0 this (fX1_factor dp) v1 sh I n
set_option maxHeartbeats 4000000 in
set_option maxRecDepth 20000 in
theorem jbX1_factor_24 (G : GT) {X : XT} {dR : Nat} {L : LH} {r : Nat} {sh' : SH} {I' : IH} {n' : Nat}  {this : Nat} {rc : (Nat → Int32 → SH → IH → Nat → Option ((Nat × Nat) × (Nat × SH × IH × Nat)))} (F : MF G X RX1 cX1_factor 4 (dR + 12) (some (.array .boolean)) "factor") (hrc : ∀ {sh : SH} {I : IH} {L : LH} {n : Nat} {this : Nat} {v1 : Int32} {r : Nat} {sh' : SH} {I' : IH} {n' : Nat} {e es : Nat} , isO sh 1 this → rc this v1 sh I n = some ((e, es), (r, sh', I', n')) → Ct G yX1_factor cX1_factor 4 (some (.array .boolean)) dR [.ref this, .int v1] sh I L n (some (.ref r)) sh' I' L n' e es) (hb9 : 0 ≤ dR) : ∀ (fuel : Nat) (v2 : Nat) (v3 : Int32) (sh : SH) (I : IH) (n : Nat) (e es : Nat), fX1_factor_b24 this rc fuel v2 v3 sh I n = some ((e, es), (r, sh', I', n')) → J G X (QE G X (some (.ref r)) sh' I' L n') 4 sh I L n e es 24 [(0, .ref this), (2, .ref v2), (3, .int v3)] []
  | 0 => by
    intros
    rename_i h
    exact absurd (show none = some _ from h) (by intro z; cases z)
  | fuel + 1 => by
    intro v2 v3 sh I n e es h
    rw [fX1_factor_b24] at h
    refine j_iload_n (pc := 24) (k0 := 3) F 2 rfl dX1_factor_24 ?_
    refine j_sipush (pc := 25) F 144 dX1_factor_25 (by decide) ?_
    refine j_icmp_ge (pc := 28) F 51 dX1_factor_28 rfl (fun c => ?_) (fun c => ?_)
    · have h := iz_t c h
      refine j_aload_n (pc := 51) (k0 := 2) F 1 rfl dX1_factor_51 ?_
      cases h
      exact j_aretR (pc := 52) F rfl (Or.inr ⟨_, rfl⟩) dX1_factor_52
    · have h := iz_f c h
      refine j_aload_n (pc := 31) (k0 := 2) F 1 rfl dX1_factor_31 ?_
      refine j_iload_n (pc := 32) (k0 := 3) F 2 rfl dX1_factor_32 ?_
      refine j_aload_n (pc := 33) (k0 := 2) F 1 rfl dX1_factor_33 ?_
      refine j_iload_n (pc := 34) (k0 := 3) F 2 rfl dX1_factor_34 ?_
      obtain ⟨x1, hx1, h⟩ := ob h
      refine j_zald (pc := 35) F hx1 dX1_factor_35 ?_
      refine j_if_ne (pc := 36) F 43 dX1_factor_36 rfl (fun c => ?_) (fun c => ?_)
      · have h := iz_f c h
        refine j_iconst (pc := 43) F 0 dX1_factor_43 (by decide) ?_
        obtain ⟨i2, hi2, h⟩ := ob h
        refine j_zast (pc := 44) F hi2 dX1_factor_44 ?_
        refine j_iinc (pc := 45) (k1 := 3) (ls' := [(3, .int (v3 + 1)), (0, .ref this), (2, .ref v2)]) F (v3 + 1) 2 rfl rfl rfl rfl dX1_factor_45 ?_
        refine j_goto (pc := 48) F 24 dX1_factor_48 rfl ?_
        refine j_sub [1, 2, 0] rfl ?_
        exact jbX1_factor_24 G F hrc hb9 fuel _ _ _ _ _ _ _ h
      · have h := iz_t c h
        refine j_iconst (pc := 39) F 1 dX1_factor_39 (by decide) ?_
        refine j_goto (pc := 40) F 44 dX1_factor_40 rfl ?_
        obtain ⟨i3, hi3, h⟩ := ob h
        refine j_zast (pc := 44) F hi3 dX1_factor_44 ?_
        refine j_iinc (pc := 45) (k1 := 3) (ls' := [(3, .int (v3 + 1)), (0, .ref this), (2, .ref v2)]) F (v3 + 1) 2 rfl rfl rfl rfl dX1_factor_45 ?_
        refine j_goto (pc := 48) F 24 dX1_factor_48 rfl ?_
        refine j_sub [1, 2, 0] rfl ?_
        exact jbX1_factor_24 G F hrc hb9 fuel _ _ _ _ _ _ _ h
set_option maxHeartbeats 4000000 in
set_option maxRecDepth 20000 in
theorem jbX1_factor_83 (G : GT) {X : XT} {dR : Nat} {L : LH} {r : Nat} {sh' : SH} {I' : IH} {n' : Nat}  {this : Nat} {rc : (Nat → Int32 → SH → IH → Nat → Option ((Nat × Nat) × (Nat × SH × IH × Nat)))} {sh : SH} {I : IH} {n : Nat} {e es : Nat} (F : MF G X RX1 cX1_factor 4 (dR + 12) (some (.array .boolean)) "factor") (hrc : ∀ {sh : SH} {I : IH} {L : LH} {n : Nat} {this : Nat} {v1 : Int32} {r : Nat} {sh' : SH} {I' : IH} {n' : Nat} {e es : Nat} , isO sh 1 this → rc this v1 sh I n = some ((e, es), (r, sh', I', n')) → Ct G yX1_factor cX1_factor 4 (some (.array .boolean)) dR [.ref this, .int v1] sh I L n (some (.ref r)) sh' I' L n' e es) (hb9 : 0 ≤ dR) (h : fX1_factor_b83 this rc sh I n = some ((e, es), (r, sh', I', n'))) : J G X (QE G X (some (.ref r)) sh' I' L n') 4 sh I L n e es 83 [(0, .ref this)] [] := by
  unfold fX1_factor_b83 at h
  refine j_aload_n (pc := 83) (k0 := 0) F 0 rfl dX1_factor_83 ?_
  refine j_bipush (pc := 84) F 104 dX1_factor_84 (by decide) ?_
  refine j_bipush (pc := 86) F 100 dX1_factor_86 (by decide) ?_
  refine j_bipush (pc := 88) F 107 dX1_factor_88 (by decide) ?_
  obtain ⟨u1, hu1, h⟩ := ob h
  have hou1 := ck_obt hu1
  obtain ⟨x2, i3, hx2, h⟩ := b2_obt h
  refine j_callV1 (pc := 90) (ci := 1) (As := [.int 104, .int 100, .int 107]) (st := []) (e1 := e) (es1 := es) F clX1_101 cwX1_oneOf rfl hou1 (ctX1_oneOf G hou1 hx2) (dok_of (by omega) (by decide)) rfl rfl rfl (Nat.zero_add _).symm (Nat.zero_add _).symm dX1_factor_90 ?_
  refine j_istore_n (pc := 93) (k1 := 2) (ls' := [(2, .int x2), (0, .ref this)]) F rfl rfl rfl dX1_factor_93 ?_
  refine j_aload_n (pc := 94) (k0 := 0) F 1 rfl dX1_factor_94 ?_
  refine j_bipush (pc := 95) F 60 dX1_factor_95 (by decide) ?_
  refine j_bipush (pc := 97) F 61 dX1_factor_97 (by decide) ?_
  refine j_bipush (pc := 99) F 62 dX1_factor_99 (by decide) ?_
  obtain ⟨x4, i5, hx4, h⟩ := b2_obt h
  refine j_callV1 (pc := 101) (ci := 1) (As := [.int 60, .int 61, .int 62]) (st := []) (e1 := e) (es1 := es) F clX1_101 cwX1_oneOf rfl hou1 (ctX1_oneOf G hou1 hx4) (dok_of (by omega) (by decide)) rfl rfl rfl (Nat.zero_add _).symm (Nat.zero_add _).symm dX1_factor_101 ?_
  refine j_istore_n (pc := 104) (k1 := 3) (ls' := [(3, .int x4), (2, .int x2), (0, .ref this)]) F rfl rfl rfl dX1_factor_104 ?_
  refine j_iload_n (pc := 105) (k0 := 2) F 1 rfl dX1_factor_105 ?_
  refine j_iload_n (pc := 106) (k0 := 3) F 0 rfl dX1_factor_106 ?_
  refine j_aload_n (pc := 107) (k0 := 0) F 2 rfl dX1_factor_107 ?_
  obtain ⟨x6, i7, hx6, h⟩ := b2_obt h
  refine j_callV1 (pc := 108) (ci := 1) (As := []) (st := [.int x4, .int x2]) (e1 := e) (es1 := es) F clX1_54 cwX1_number rfl hou1 (ctX1_number G hou1 hx6) (dok_of (by omega) (by decide)) rfl rfl rfl (Nat.zero_add _).symm (Nat.zero_add _).symm dX1_factor_108 ?_
  obtain ⟨d12, ds13, x8, h9, i10, n11, e14, es15, hx8, h, he, hes⟩ := bE4_obt h
  refine j_callS1 (pc := 111) (As := [.int x2, .int x4, .int x6]) (st := []) (e1 := e14) (es1 := es15) F clX1_105 cwX1_whereHolds (ctX1_whereHolds G hx8) (dok_of (by omega) (by decide)) rfl rfl rfl he hes dX1_factor_111 ?_
  cases h
  exact j_aretR (pc := 114) F rfl (Or.inr ⟨_, rfl⟩) dX1_factor_114
set_option maxHeartbeats 4000000 in
set_option maxRecDepth 20000 in
theorem jbX1_factor_53 (G : GT) {X : XT} {dR : Nat} {L : LH} {r : Nat} {sh' : SH} {I' : IH} {n' : Nat}  {this : Nat} {rc : (Nat → Int32 → SH → IH → Nat → Option ((Nat × Nat) × (Nat × SH × IH × Nat)))} {v1 : Int32} {sh : SH} {I : IH} {n : Nat} {e es : Nat} (F : MF G X RX1 cX1_factor 4 (dR + 12) (some (.array .boolean)) "factor") (hrc : ∀ {sh : SH} {I : IH} {L : LH} {n : Nat} {this : Nat} {v1 : Int32} {r : Nat} {sh' : SH} {I' : IH} {n' : Nat} {e es : Nat} , isO sh 1 this → rc this v1 sh I n = some ((e, es), (r, sh', I', n')) → Ct G yX1_factor cX1_factor 4 (some (.array .boolean)) dR [.ref this, .int v1] sh I L n (some (.ref r)) sh' I' L n' e es) (hb9 : 0 ≤ dR) (h : fX1_factor_b53 this rc v1 sh I n = some ((e, es), (r, sh', I', n'))) : J G X (QE G X (some (.ref r)) sh' I' L n') 4 sh I L n e es 53 [(0, .ref this), (1, .int v1)] [] := by
  unfold fX1_factor_b53 at h
  refine j_iload_n (pc := 53) (k0 := 1) F 1 rfl dX1_factor_53 ?_
  refine j_iconst (pc := 54) F 4 dX1_factor_54 (by decide) ?_
  refine j_icmp_ge (pc := 55) F 83 dX1_factor_55 rfl (fun c => ?_) (fun c => ?_)
  · have h := iz_t c h
    refine j_sub [0] rfl ?_
    exact jbX1_factor_83 G F hrc hb9 h
  · have h := iz_f c h
    refine j_aload_n (pc := 58) (k0 := 0) F 0 rfl dX1_factor_58 ?_
    refine j_bipush (pc := 59) F 40 dX1_factor_59 (by decide) ?_
    obtain ⟨u1, hu1, h⟩ := ob h
    have hou1 := ck_obt hu1
    obtain ⟨x2, i3, hx2, h⟩ := b2_obt h
    refine j_callV1 (pc := 61) (ci := 1) (As := [.int 40]) (st := []) (e1 := e) (es1 := es) F clX1_39 cwX1_passes rfl hou1 (ctX1_passes G hou1 hx2) (dok_of (by omega) (by decide)) rfl rfl rfl (Nat.zero_add _).symm (Nat.zero_add _).symm dX1_factor_61 ?_
    refine j_if_eq (pc := 64) F 83 dX1_factor_64 rfl (fun c => ?_) (fun c => ?_)
    · have h := iz_t c h
      refine j_sub [0] rfl ?_
      exact jbX1_factor_83 G F hrc hb9 h
    · have h := iz_f c h
      refine j_aload_n (pc := 67) (k0 := 0) F 0 rfl dX1_factor_67 ?_
      refine j_iload_n (pc := 68) (k0 := 1) F 1 rfl dX1_factor_68 ?_
      refine j_iconst (pc := 69) F 1 dX1_factor_69 (by decide) ?_
      refine j_iadd (pc := 70) F dX1_factor_70 ?_
      obtain ⟨d8, ds9, x4, h5, i6, n7, e10, es11, hx4, h, he, hes⟩ := bE4_obt h
      refine j_callV1 (pc := 71) (ci := 1) (As := [.int (v1 + 1)]) (st := []) (e1 := e10) (es1 := es11) F clX1_57 cwX1_either rfl hou1 (ctX1_either G hou1 hrc hx4) (dok_of (by omega) (by decide)) rfl rfl rfl he hes dX1_factor_71 ?_
      refine j_astore_n (pc := 74) (k1 := 2) (ls' := [(2, .ref x4), (0, .ref this), (1, .int v1)]) F rfl rfl rfl dX1_factor_74 ?_
      refine j_aload_n (pc := 75) (k0 := 0) F 1 rfl dX1_factor_75 ?_
      refine j_bipush (pc := 76) F 41 dX1_factor_76 (by decide) ?_
      obtain ⟨u12, hu12, h⟩ := ob h
      have hou12 := ck_obt hu12
      obtain ⟨i13, hi13, h⟩ := ob h
      refine j_callV0 (pc := 78) (ci := 1) (As := [.int 41]) (st := []) (e1 := e10) (es1 := es11) F clX1_50 cwX1_expect rfl hou12 (ctX1_expect G hou12 hi13) (dok_of (by omega) (by decide)) rfl rfl rfl (Nat.zero_add _).symm (Nat.zero_add _).symm dX1_factor_78 ?_
      refine j_aload_n (pc := 81) (k0 := 2) F 0 rfl dX1_factor_81 ?_
      cases h
      exact j_aretR (pc := 82) F rfl (Or.inr ⟨_, rfl⟩) dX1_factor_82
set_option maxHeartbeats 4000000 in
set_option maxRecDepth 20000 in
theorem jbX1_factor_0 (G : GT) {X : XT} {dR : Nat} {L : LH} {r : Nat} {sh' : SH} {I' : IH} {n' : Nat}  {this : Nat} {rc : (Nat → Int32 → SH → IH → Nat → Option ((Nat × Nat) × (Nat × SH × IH × Nat)))} {v1 : Int32} {sh : SH} {I : IH} {n : Nat} {e es : Nat} (F : MF G X RX1 cX1_factor 4 (dR + 12) (some (.array .boolean)) "factor") (hth : isO sh 1 this) (hrc : ∀ {sh : SH} {I : IH} {L : LH} {n : Nat} {this : Nat} {v1 : Int32} {r : Nat} {sh' : SH} {I' : IH} {n' : Nat} {e es : Nat} , isO sh 1 this → rc this v1 sh I n = some ((e, es), (r, sh', I', n')) → Ct G yX1_factor cX1_factor 4 (some (.array .boolean)) dR [.ref this, .int v1] sh I L n (some (.ref r)) sh' I' L n' e es) (hb9 : 0 ≤ dR) (h : fX1_factor_b0 this rc v1 sh I n = some ((e, es), (r, sh', I', n'))) : J G X (QE G X (some (.ref r)) sh' I' L n') 4 sh I L n e es 0 [(0, .ref this), (1, .int v1)] [] := by
  unfold fX1_factor_b0 at h
  refine j_iload_n (pc := 0) (k0 := 1) F 1 rfl dX1_factor_0 ?_
  refine j_iconst (pc := 1) F 4 dX1_factor_1 (by decide) ?_
  refine j_icmp_ge (pc := 2) F 53 dX1_factor_2 rfl (fun c => ?_) (fun c => ?_)
  · have h := iz_t c h
    exact jbX1_factor_53 G F hrc hb9 h
  · have h := iz_f c h
    refine j_aload_n (pc := 5) (k0 := 0) F 0 rfl dX1_factor_5 ?_
    refine j_bipush (pc := 6) F 33 dX1_factor_6 (by decide) ?_
    obtain ⟨x1, i2, hx1, h⟩ := b2_obt h
    refine j_callV1 (pc := 8) (ci := 1) (As := [.int 33]) (st := []) (e1 := e) (es1 := es) F clX1_39 cwX1_passes rfl hth (ctX1_passes G hth hx1) (dok_of (by omega) (by decide)) rfl rfl rfl (Nat.zero_add _).symm (Nat.zero_add _).symm dX1_factor_8 ?_
    refine j_if_eq (pc := 11) F 53 dX1_factor_11 rfl (fun c => ?_) (fun c => ?_)
    · have h := iz_t c h
      exact jbX1_factor_53 G F hrc hb9 h
    · have h := iz_f c h
      refine j_aload_n (pc := 14) (k0 := 0) F 0 rfl dX1_factor_14 ?_
      refine j_iload_n (pc := 15) (k0 := 1) F 1 rfl dX1_factor_15 ?_
      refine j_iconst (pc := 16) F 1 dX1_factor_16 (by decide) ?_
      refine j_iadd (pc := 17) F dX1_factor_17 ?_
      obtain ⟨d7, ds8, x3, h4, i5, n6, e9, es10, hx3, h, he, hes⟩ := bE4_obt h
      refine j_callV1 (pc := 18) (ci := 1) (As := [.int (v1 + 1)]) (st := []) (e1 := e9) (es1 := es10) F clX1_98 cwX1_factor rfl hth (hrc hth hx3) (dok_of (by omega) (by decide)) rfl rfl rfl he hes dX1_factor_18 ?_
      refine j_astore_n (pc := 21) (k1 := 2) (ls' := [(2, .ref x3), (0, .ref this), (1, .int v1)]) F rfl rfl rfl dX1_factor_21 ?_
      refine j_iconst (pc := 22) F 0 dX1_factor_22 (by decide) ?_
      refine j_istore_n (pc := 23) (k1 := 3) (ls' := [(3, .int 0), (2, .ref x3), (0, .ref this), (1, .int v1)]) F rfl rfl rfl dX1_factor_23 ?_
      refine j_sub [2, 1, 0] rfl ?_
      exact jbX1_factor_24 G F hrc hb9 1000 _ _ _ _ _ _ _ h
theorem ctX1_factor (G : GT) : ∀ (dp : Nat) (sh : SH) (I : IH) (L : LH) (n : Nat) (this : Nat) (v1 : Int32) (r : Nat) (sh' : SH) (I' : IH) (n' : Nat) (e es : Nat) , isO sh 1 this → fX1_factor dp this v1 sh I n = some ((e, es), (r, sh', I', n')) → Ct G yX1_factor cX1_factor 4 (some (.array .boolean)) (0 + 12 * dp) [.ref this, .int v1] sh I L n (some (.ref r)) sh' I' L n' e es
  | 0 => by
    intros
    rename_i h
    exact absurd (show none = some _ from h) (by intro z; cases z)
  | dp + 1 => by
    intro sh I L n this v1 r sh' I' n' e es hth h
    refine ct_of (y := yX1_factor) (by decide +kernel) rfl (fun X F => ?_)
    exact jbX1_factor_0 G F hth (hrc := fun hth h => ctX1_factor G dp _ _ _ _ _ _ _ _ _ _ _ _ hth h) (Nat.le_add_right _ _) h
theorem dX4_melt_0 : decode cX4_melt 0 = .ok (.iconst 0, 1) := by decide +kernel
theorem dX4_melt_1 : decode cX4_melt 1 = .ok (.istore_n 3, 1) := by decide +kernel
theorem dX4_melt_2 : decode cX4_melt 2 = .ok (.iload_n 3, 1) := by decide +kernel
theorem dX4_melt_3 : decode cX4_melt 3 = .ok (.aload_n 0, 1) := by decide +kernel
theorem dX4_melt_4 : decode cX4_melt 4 = .ok (.getfield 16, 3) := by decide +kernel
theorem dX4_melt_7 : decode cX4_melt 7 = .ok (.arraylength, 1) := by decide +kernel
theorem dX4_melt_8 : decode cX4_melt 8 = .ok (.if_icmp .ge 31, 3) := by decide +kernel
theorem dX4_melt_11 : decode cX4_melt 11 = .ok (.iload_n 3, 1) := by decide +kernel
theorem dX4_melt_12 : decode cX4_melt 12 = .ok (.aload_n 2, 1) := by decide +kernel
theorem dX4_melt_13 : decode cX4_melt 13 = .ok (.arraylength, 1) := by decide +kernel
theorem dX4_melt_14 : decode cX4_melt 14 = .ok (.if_icmp .ge 25, 3) := by decide +kernel
theorem dX4_melt_17 : decode cX4_melt 17 = .ok (.aload_n 2, 1) := by decide +kernel
theorem dX4_melt_18 : decode cX4_melt 18 = .ok (.iload_n 3, 1) := by decide +kernel
theorem dX4_melt_19 : decode cX4_melt 19 = .ok (.baload, 1) := by decide +kernel
theorem dX4_melt_20 : decode cX4_melt 20 = .ok (.ifCond .eq 13, 3) := by decide +kernel
theorem dX4_melt_23 : decode cX4_melt 23 = .ok (.aload_n 0, 1) := by decide +kernel
theorem dX4_melt_24 : decode cX4_melt 24 = .ok (.getfield 16, 3) := by decide +kernel
theorem dX4_melt_27 : decode cX4_melt 27 = .ok (.iload_n 3, 1) := by decide +kernel
theorem dX4_melt_28 : decode cX4_melt 28 = .ok (.dup2, 1) := by decide +kernel
theorem dX4_melt_29 : decode cX4_melt 29 = .ok (.iaload, 1) := by decide +kernel
theorem dX4_melt_30 : decode cX4_melt 30 = .ok (.iload_n 1, 1) := by decide +kernel
theorem dX4_melt_31 : decode cX4_melt 31 = .ok (.iadd, 1) := by decide +kernel
theorem dX4_melt_32 : decode cX4_melt 32 = .ok (.iastore, 1) := by decide +kernel
theorem dX4_melt_33 : decode cX4_melt 33 = .ok (.iinc 3 1, 3) := by decide +kernel
theorem dX4_melt_36 : decode cX4_melt 36 = .ok (.goto (-34), 3) := by decide +kernel
theorem dX4_melt_39 : decode cX4_melt 39 = .ok (.return_, 1) := by decide +kernel
def fX4_melt_b2 (sh : SH) (this : Nat) : Nat → Int32 → Nat → Int32 → IH → Option (IH)
  | 0, _, _, _, _ => none
  | fuel + 1, v1, v2, v3, I =>
    (gR sh 4 this 1).bind fun x1 =>
    (aL sh x1).bind fun x2 =>
    if x2 ≤ v3 then (
      some I) else
    (aL sh v2).bind fun x3 =>
    if x3 ≤ v3 then (
      some I) else
    (aI sh I 1 v2 v3).bind fun x4 =>
    if x4 = 0 then (
      fX4_melt_b2 sh this fuel v1 v2 (v3 + 1) I) else
    (gR sh 4 this 1).bind fun x5 =>
    (aI sh I 0 x5 v3).bind fun x6 =>
    (sI sh I x5 v3 (x6 + v1)).bind fun i7 =>
    fX4_melt_b2 sh this fuel v1 v2 (v3 + 1) i7
def fX4_melt (sh : SH) (this : Nat) (v1 : Int32) (v2 : Nat) (I : IH) : Option (IH) :=
  fX4_melt_b2 sh this 1000 v1 v2 0 I
set_option maxHeartbeats 4000000 in
set_option maxRecDepth 20000 in
theorem jbX4_melt_2 (G : GT) {X : XT} {sh : SH} {L : LH} {n : Nat} {I' : IH}  {this : Nat}  (F : MF G X RX4 cX4_melt 4 0 none "melt") : ∀ (fuel : Nat) (v1 : Int32) (v2 : Nat) (v3 : Int32) (I : IH), fX4_melt_b2 sh this fuel v1 v2 v3 I = some I' → J G X (QE G X (none) sh I' L n) 4 sh I L n 0 0 2 [(0, .ref this), (1, .int v1), (2, .ref v2), (3, .int v3)] []
  | 0 => by
    intros
    rename_i h
    exact absurd (show none = some _ from h) (by intro z; cases z)
  | fuel + 1 => by
    intro v1 v2 v3 I h
    rw [fX4_melt_b2] at h
    refine j_iload_n (pc := 2) (k0 := 3) F 3 rfl dX4_melt_2 ?_
    refine j_aload_n (pc := 3) (k0 := 0) F 0 rfl dX4_melt_3 ?_
    obtain ⟨x1, hx1, h⟩ := ob h
    refine j_getR (pc := 4) F flX4_16 hx1 dX4_melt_4 ?_
    obtain ⟨x2, hx2, h⟩ := ob h
    refine j_alen (pc := 7) F hx2 dX4_melt_7 ?_
    refine j_icmp_ge (pc := 8) F 39 dX4_melt_8 rfl (fun c => ?_) (fun c => ?_)
    · have h := iz_t c h
      cases h
      exact j_vret (pc := 39) F dX4_melt_39
    · have h := iz_f c h
      refine j_iload_n (pc := 11) (k0 := 3) F 3 rfl dX4_melt_11 ?_
      refine j_aload_n (pc := 12) (k0 := 2) F 2 rfl dX4_melt_12 ?_
      obtain ⟨x3, hx3, h⟩ := ob h
      refine j_alen (pc := 13) F hx3 dX4_melt_13 ?_
      refine j_icmp_ge (pc := 14) F 39 dX4_melt_14 rfl (fun c => ?_) (fun c => ?_)
      · have h := iz_t c h
        cases h
        exact j_vret (pc := 39) F dX4_melt_39
      · have h := iz_f c h
        refine j_aload_n (pc := 17) (k0 := 2) F 2 rfl dX4_melt_17 ?_
        refine j_iload_n (pc := 18) (k0 := 3) F 3 rfl dX4_melt_18 ?_
        obtain ⟨x4, hx4, h⟩ := ob h
        refine j_zald (pc := 19) F hx4 dX4_melt_19 ?_
        refine j_if_eq (pc := 20) F 33 dX4_melt_20 rfl (fun c => ?_) (fun c => ?_)
        · have h := iz_t c h
          refine j_iinc (pc := 33) (k1 := 3) (ls' := [(3, .int (v3 + 1)), (0, .ref this), (1, .int v1), (2, .ref v2)]) F (v3 + 1) 3 rfl rfl rfl rfl dX4_melt_33 ?_
          refine j_goto (pc := 36) F 2 dX4_melt_36 rfl ?_
          refine j_sub [1, 2, 3, 0] rfl ?_
          exact jbX4_melt_2 G F fuel _ _ _ _ h
        · have h := iz_f c h
          refine j_aload_n (pc := 23) (k0 := 0) F 0 rfl dX4_melt_23 ?_
          obtain ⟨x5, hx5, h⟩ := ob h
          refine j_getR (pc := 24) F flX4_16 hx5 dX4_melt_24 ?_
          refine j_iload_n (pc := 27) (k0 := 3) F 3 rfl dX4_melt_27 ?_
          refine j_dup2 (pc := 28) F dX4_melt_28 rfl rfl ?_
          obtain ⟨x6, hx6, h⟩ := ob h
          refine j_iald (pc := 29) F hx6 dX4_melt_29 ?_
          refine j_iload_n (pc := 30) (k0 := 1) F 1 rfl dX4_melt_30 ?_
          refine j_iadd (pc := 31) F dX4_melt_31 ?_
          obtain ⟨i7, hi7, h⟩ := ob h
          refine j_iast (pc := 32) F hi7 dX4_melt_32 ?_
          refine j_iinc (pc := 33) (k1 := 3) (ls' := [(3, .int (v3 + 1)), (0, .ref this), (1, .int v1), (2, .ref v2)]) F (v3 + 1) 3 rfl rfl rfl rfl dX4_melt_33 ?_
          refine j_goto (pc := 36) F 2 dX4_melt_36 rfl ?_
          refine j_sub [1, 2, 3, 0] rfl ?_
          exact jbX4_melt_2 G F fuel _ _ _ _ h
set_option maxHeartbeats 4000000 in
set_option maxRecDepth 20000 in
theorem jbX4_melt_0 (G : GT) {X : XT} {sh : SH} {L : LH} {n : Nat} {I' : IH}  {this : Nat}  {v1 : Int32} {v2 : Nat} {I : IH} (F : MF G X RX4 cX4_melt 4 0 none "melt") (h : fX4_melt sh this v1 v2 I = some I') : J G X (QE G X (none) sh I' L n) 4 sh I L n 0 0 0 [(0, .ref this), (1, .int v1), (2, .ref v2)] [] := by
  unfold fX4_melt at h
  refine j_iconst (pc := 0) F 0 dX4_melt_0 (by decide) ?_
  refine j_istore_n (pc := 1) (k1 := 3) (ls' := [(3, .int 0), (0, .ref this), (1, .int v1), (2, .ref v2)]) F rfl rfl rfl dX4_melt_1 ?_
  refine j_sub [1, 2, 3, 0] rfl ?_
  exact jbX4_melt_2 G F 1000 _ _ _ _ h
theorem ctX4_melt (G : GT) {sh : SH} {I : IH} {L : LH} {n : Nat} {this : Nat} {v1 : Int32} {v2 : Nat} {I' : IH}  (h : fX4_melt sh this v1 v2 I = some I') : Ct G yX4_melt cX4_melt 4 none 0 [.ref this, .int v1, .ref v2] sh I L n (none) sh I' L n 0 0 := by
  refine ct_of (y := yX4_melt) (by decide +kernel) rfl (fun X F => ?_)
  exact jbX4_melt_0 G F h
end
