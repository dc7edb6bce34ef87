/-! decompiled: X7_takesAct, X7_plainTells, X7_tellsAct, X7_act, X7_trace, X7_taken, X7_count, X7_tape, X7_narrow, X7_item, X7_read, X7_shift -/
theorem dX7_takesAct_0 : decode cX7_takesAct 0 = .ok (.aload_n 0, 1) := by decide +kernel
theorem dX7_takesAct_1 : decode cX7_takesAct 1 = .ok (.getfield 23, 3) := by decide +kernel
theorem dX7_takesAct_4 : decode cX7_takesAct 4 = .ok (.iload_n 1, 1) := by decide +kernel
theorem dX7_takesAct_5 : decode cX7_takesAct 5 = .ok (.iaload, 1) := by decide +kernel
theorem dX7_takesAct_6 : decode cX7_takesAct 6 = .ok (.lookupswitch 78 #[(1, 34), (4, 41), (6, 56)], 34) := by decide +kernel
theorem dX7_takesAct_40 : decode cX7_takesAct 40 = .ok (.aload_n 0, 1) := by decide +kernel
theorem dX7_takesAct_41 : decode cX7_takesAct 41 = .ok (.iload_n 1, 1) := by decide +kernel
theorem dX7_takesAct_42 : decode cX7_takesAct 42 = .ok (.iload_n 2, 1) := by decide +kernel
theorem dX7_takesAct_43 : decode cX7_takesAct 43 = .ok (.invokevirtual 366, 3) := by decide +kernel
theorem dX7_takesAct_46 : decode cX7_takesAct 46 = .ok (.ireturn, 1) := by decide +kernel
theorem dX7_takesAct_47 : decode cX7_takesAct 47 = .ok (.aload_n 0, 1) := by decide +kernel
theorem dX7_takesAct_48 : decode cX7_takesAct 48 = .ok (.bipush 51, 2) := by decide +kernel
theorem dX7_takesAct_50 : decode cX7_takesAct 50 = .ok (.invokevirtual 354, 3) := by decide +kernel
theorem dX7_takesAct_53 : decode cX7_takesAct 53 = .ok (.aload_n 0, 1) := by decide +kernel
theorem dX7_takesAct_54 : decode cX7_takesAct 54 = .ok (.iload_n 1, 1) := by decide +kernel
theorem dX7_takesAct_55 : decode cX7_takesAct 55 = .ok (.iload_n 2, 1) := by decide +kernel
theorem dX7_takesAct_56 : decode cX7_takesAct 56 = .ok (.iconst 1, 1) := by decide +kernel
theorem dX7_takesAct_57 : decode cX7_takesAct 57 = .ok (.iadd, 1) := by decide +kernel
theorem dX7_takesAct_58 : decode cX7_takesAct 58 = .ok (.invokevirtual 366, 3) := by decide +kernel
theorem dX7_takesAct_61 : decode cX7_takesAct 61 = .ok (.ireturn, 1) := by decide +kernel
theorem dX7_takesAct_62 : decode cX7_takesAct 62 = .ok (.aload_n 0, 1) := by decide +kernel
theorem dX7_takesAct_63 : decode cX7_takesAct 63 = .ok (.bipush 70, 2) := by decide +kernel
theorem dX7_takesAct_65 : decode cX7_takesAct 65 = .ok (.invokevirtual 354, 3) := by decide +kernel
theorem dX7_takesAct_68 : decode cX7_takesAct 68 = .ok (.aload_n 0, 1) := by decide +kernel
theorem dX7_takesAct_69 : decode cX7_takesAct 69 = .ok (.iload_n 1, 1) := by decide +kernel
theorem dX7_takesAct_70 : decode cX7_takesAct 70 = .ok (.iload_n 2, 1) := by decide +kernel
theorem dX7_takesAct_71 : decode cX7_takesAct 71 = .ok (.invokevirtual 363, 3) := by decide +kernel
theorem dX7_takesAct_74 : decode cX7_takesAct 74 = .ok (.istore_n 3, 1) := by decide +kernel
theorem dX7_takesAct_75 : decode cX7_takesAct 75 = .ok (.iload_n 3, 1) := by decide +kernel
theorem dX7_takesAct_76 : decode cX7_takesAct 76 = .ok (.aload_n 0, 1) := by decide +kernel
theorem dX7_takesAct_77 : decode cX7_takesAct 77 = .ok (.iload_n 1, 1) := by decide +kernel
theorem dX7_takesAct_78 : decode cX7_takesAct 78 = .ok (.iconst 2, 1) := by decide +kernel
theorem dX7_takesAct_79 : decode cX7_takesAct 79 = .ok (.invokevirtual 357, 3) := by decide +kernel
theorem dX7_takesAct_82 : decode cX7_takesAct 82 = .ok (.iadd, 1) := by decide +kernel
theorem dX7_takesAct_83 : decode cX7_takesAct 83 = .ok (.ireturn, 1) := by decide +kernel
theorem dX7_takesAct_84 : decode cX7_takesAct 84 = .ok (.aload_n 0, 1) := by decide +kernel
theorem dX7_takesAct_85 : decode cX7_takesAct 85 = .ok (.iload_n 1, 1) := by decide +kernel
theorem dX7_takesAct_86 : decode cX7_takesAct 86 = .ok (.iload_n 2, 1) := by decide +kernel
theorem dX7_takesAct_87 : decode cX7_takesAct 87 = .ok (.invokevirtual 363, 3) := by decide +kernel
theorem dX7_takesAct_90 : decode cX7_takesAct 90 = .ok (.ireturn, 1) := by decide +kernel
def fX7_takesAct (sh : SH) (this : Nat) (v1 : Int32) (v2 : Int32) (I : IH) : Option (Int32 × IH) :=
  (gR sh 7 this 4).bind fun x1 =>
  (aI sh I 0 x1 v1).bind fun x2 =>
  if x2 = 1 then (
    b2 (fX7_clockTakes sh this v1 v2 I) fun x3 i4 =>
    some (x3, i4)) else
  if x2 = 4 then (
    (fX7_body sh this 51 I).bind fun i5 =>
    b2 (fX7_clockTakes sh this v1 (v2 + 1) i5) fun x6 i7 =>
    some (x6, i7)) else
  if x2 = 6 then (
    (fX7_body sh this 70 I).bind fun i8 =>
    b2 (fX7_plainTakes sh this v1 v2 i8) fun x9 i10 =>
    b2 (fX7_plainLets sh this v1 2 i10) fun x11 i12 =>
    some ((x9 + x11), i12)) else
  b2 (fX7_plainTakes sh this v1 v2 I) fun x13 i14 =>
  some (x13, i14)
set_option maxHeartbeats 4000000 in
set_option maxRecDepth 20000 in
theorem jbX7_takesAct_0 (G : GT) {X : XT} {sh : SH} {L : LH} {n : Nat} {r : Int32} {I' : IH}  {this : Nat}  {v1 : Int32} {v2 : Int32} {I : IH} (F : MF G X RX7 cX7_takesAct 4 5 (some .int) "takesAct") (hth : isO sh 7 this) (h : fX7_takesAct sh this v1 v2 I = some (r, I')) : J G X (QE G X (some (.int r)) sh I' L n) 4 sh I L n 0 0 0 [(0, .ref this), (1, .int v1), (2, .int v2)] [] := by
  unfold fX7_takesAct at h
  refine j_aload_n (pc := 0) (k0 := 0) F 0 rfl dX7_takesAct_0 ?_
  obtain ⟨x1, hx1, h⟩ := ob h
  refine j_getR (pc := 1) F flX7_23 hx1 dX7_takesAct_1 ?_
  refine j_iload_n (pc := 4) (k0 := 1) F 1 rfl dX7_takesAct_4 ?_
  obtain ⟨x2, hx2, h⟩ := ob h
  refine j_iald (pc := 5) F hx2 dX7_takesAct_5 ?_
  by_cases c1 : x2 = 1
  · have h := iz_t c1 h
    refine j_look (pc := 6) F 40 dX7_takesAct_6 rfl (by first | (rw [c1]; done) | (rw [c1]; rfl)) rfl ?_
    refine j_aload_n (pc := 40) (k0 := 0) F 0 rfl dX7_takesAct_40 ?_
    refine j_iload_n (pc := 41) (k0 := 1) F 1 rfl dX7_takesAct_41 ?_
    refine j_iload_n (pc := 42) (k0 := 2) F 2 rfl dX7_takesAct_42 ?_
    obtain ⟨x3, i4, hx3, h⟩ := b2_obt h
    refine j_callV1 (pc := 43) (ci := 7) (As := [.int v1, .int v2]) (st := []) (e1 := 0) (es1 := 0) F clX7_366 cwX7_clockTakes rfl hth (ctX7_clockTakes G hth hx3) rfl rfl rfl rfl rfl rfl dX7_takesAct_43 ?_
    have g1 := Option.some.inj h
    obtain ⟨q3, g2⟩ := Prod.mk.inj g1
    subst q3
    subst g2
    exact j_iret (pc := 46) F dX7_takesAct_46
  have h := iz_f c1 h
  by_cases c2 : x2 = 4
  · have h := iz_t c2 h
    refine j_look (pc := 6) F 47 dX7_takesAct_6 rfl ((lv_osw c1 rfl).trans (by first | (rw [c2]; done) | (rw [c2]; rfl))) rfl ?_
    refine j_aload_n (pc := 47) (k0 := 0) F 0 rfl dX7_takesAct_47 ?_
    refine j_bipush (pc := 48) F 51 dX7_takesAct_48 (by decide) ?_
    obtain ⟨i5, hi5, h⟩ := ob h
    refine j_callV0 (pc := 50) (ci := 7) (As := [.int 51]) (st := []) (e1 := 0) (es1 := 0) F clX7_354 cwX7_body rfl hth (ctX7_body G hi5) rfl rfl rfl rfl rfl rfl dX7_takesAct_50 ?_
    refine j_aload_n (pc := 53) (k0 := 0) F 0 rfl dX7_takesAct_53 ?_
    refine j_iload_n (pc := 54) (k0 := 1) F 1 rfl dX7_takesAct_54 ?_
    refine j_iload_n (pc := 55) (k0 := 2) F 2 rfl dX7_takesAct_55 ?_
    refine j_iconst (pc := 56) F 1 dX7_takesAct_56 (by decide) ?_
    refine j_iadd (pc := 57) F dX7_takesAct_57 ?_
    obtain ⟨x6, i7, hx6, h⟩ := b2_obt h
    refine j_callV1 (pc := 58) (ci := 7) (As := [.int v1, .int (v2 + 1)]) (st := []) (e1 := 0) (es1 := 0) F clX7_366 cwX7_clockTakes rfl hth (ctX7_clockTakes G hth hx6) rfl rfl rfl rfl rfl rfl dX7_takesAct_58 ?_
    have g1 := Option.some.inj h
    obtain ⟨q3, g2⟩ := Prod.mk.inj g1
    subst q3
    subst g2
    exact j_iret (pc := 61) F dX7_takesAct_61
  have h := iz_f c2 h
  by_cases c3 : x2 = 6
  · have h := iz_t c3 h
    refine j_look (pc := 6) F 62 dX7_takesAct_6 rfl ((lv_osw c1 rfl).trans ((lv_osw c2 rfl).trans (by first | (rw [c3]; done) | (rw [c3]; rfl)))) rfl ?_
    refine j_aload_n (pc := 62) (k0 := 0) F 0 rfl dX7_takesAct_62 ?_
    refine j_bipush (pc := 63) F 70 dX7_takesAct_63 (by decide) ?_
    obtain ⟨i8, hi8, h⟩ := ob h
    refine j_callV0 (pc := 65) (ci := 7) (As := [.int 70]) (st := []) (e1 := 0) (es1 := 0) F clX7_354 cwX7_body rfl hth (ctX7_body G hi8) rfl rfl rfl rfl rfl rfl dX7_takesAct_65 ?_
    refine j_aload_n (pc := 68) (k0 := 0) F 0 rfl dX7_takesAct_68 ?_
    refine j_iload_n (pc := 69) (k0 := 1) F 1 rfl dX7_takesAct_69 ?_
    refine j_iload_n (pc := 70) (k0 := 2) F 2 rfl dX7_takesAct_70 ?_
    obtain ⟨x9, i10, hx9, h⟩ := b2_obt h
    refine j_callV1 (pc := 71) (ci := 7) (As := [.int v1, .int v2]) (st := []) (e1 := 0) (es1 := 0) F clX7_363 cwX7_plainTakes rfl hth (ctX7_plainTakes G hth hx9) rfl rfl rfl rfl rfl rfl dX7_takesAct_71 ?_
    refine j_istore_n (pc := 74) (k1 := 3) (ls' := [(3, .int x9), (0, .ref this), (1, .int v1), (2, .int v2)]) F rfl rfl rfl dX7_takesAct_74 ?_
    refine j_iload_n (pc := 75) (k0 := 3) F 0 rfl dX7_takesAct_75 ?_
    refine j_aload_n (pc := 76) (k0 := 0) F 1 rfl dX7_takesAct_76 ?_
    refine j_iload_n (pc := 77) (k0 := 1) F 2 rfl dX7_takesAct_77 ?_
    refine j_iconst (pc := 78) F 2 dX7_takesAct_78 (by decide) ?_
    obtain ⟨x11, i12, hx11, h⟩ := b2_obt h
    refine j_callV1 (pc := 79) (ci := 7) (As := [.int v1, .int 2]) (st := [.int x9]) (e1 := 0) (es1 := 0) F clX7_357 cwX7_plainLets rfl hth (ctX7_plainLets G hth hx11) rfl rfl rfl rfl rfl rfl dX7_takesAct_79 ?_
    refine j_iadd (pc := 82) F dX7_takesAct_82 ?_
    have g1 := Option.some.inj h
    obtain ⟨q3, g2⟩ := Prod.mk.inj g1
    subst q3
    subst g2
    exact j_iret (pc := 83) F dX7_takesAct_83
  have h := iz_f c3 h
  refine j_look (pc := 6) F 84 dX7_takesAct_6 rfl ((lv_osw c1 rfl).trans ((lv_osw c2 rfl).trans ((lv_osw c3 rfl).trans (rfl)))) rfl ?_
  refine j_aload_n (pc := 84) (k0 := 0) F 0 rfl dX7_takesAct_84 ?_
  refine j_iload_n (pc := 85) (k0 := 1) F 1 rfl dX7_takesAct_85 ?_
  refine j_iload_n (pc := 86) (k0 := 2) F 2 rfl dX7_takesAct_86 ?_
  obtain ⟨x13, i14, hx13, h⟩ := b2_obt h
  refine j_callV1 (pc := 87) (ci := 7) (As := [.int v1, .int v2]) (st := []) (e1 := 0) (es1 := 0) F clX7_363 cwX7_plainTakes rfl hth (ctX7_plainTakes G hth hx13) rfl rfl rfl rfl rfl rfl dX7_takesAct_87 ?_
  have g1 := Option.some.inj h
  obtain ⟨q3, g2⟩ := Prod.mk.inj g1
  subst q3
  subst g2
  exact j_iret (pc := 90) F dX7_takesAct_90
theorem ctX7_takesAct (G : GT) {sh : SH} {I : IH} {L : LH} {n : Nat} {this : Nat} {v1 : Int32} {v2 : Int32} {r : Int32} {I' : IH}  (hth : isO sh 7 this) (h : fX7_takesAct sh this v1 v2 I = some (r, I')) : Ct G yX7_takesAct cX7_takesAct 4 (some .int) 5 [.ref this, .int v1, .int v2] sh I L n (some (.int r)) sh I' L n 0 0 := by
  refine ct_of (y := yX7_takesAct) (by decide +kernel) rfl (fun X F => ?_)
  exact jbX7_takesAct_0 G F hth h
theorem dX7_plainTells_0 : decode cX7_plainTells 0 = .ok (.aload_n 0, 1) := by decide +kernel
theorem dX7_plainTells_1 : decode cX7_plainTells 1 = .ok (.bipush 12, 2) := by decide +kernel
theorem dX7_plainTells_3 : decode cX7_plainTells 3 = .ok (.invokevirtual 354, 3) := by decide +kernel
theorem dX7_plainTells_6 : decode cX7_plainTells 6 = .ok (.aload_n 0, 1) := by decide +kernel
theorem dX7_plainTells_7 : decode cX7_plainTells 7 = .ok (.iload_n 1, 1) := by decide +kernel
theorem dX7_plainTells_8 : decode cX7_plainTells 8 = .ok (.iload_n 2, 1) := by decide +kernel
theorem dX7_plainTells_9 : decode cX7_plainTells 9 = .ok (.invokevirtual 369, 3) := by decide +kernel
theorem dX7_plainTells_12 : decode cX7_plainTells 12 = .ok (.iconst 2, 1) := by decide +kernel
theorem dX7_plainTells_13 : decode cX7_plainTells 13 = .ok (.imul, 1) := by decide +kernel
theorem dX7_plainTells_14 : decode cX7_plainTells 14 = .ok (.ireturn, 1) := by decide +kernel
def fX7_plainTells (sh : SH) (this : Nat) (v1 : Int32) (v2 : Int32) (I : IH) : Option (Int32 × IH) :=
  (fX7_body sh this 12 I).bind fun i1 =>
  b2 (fX7_takesAct sh this v1 v2 i1) fun x2 i3 =>
  some ((x2 * 2), i3)
set_option maxHeartbeats 4000000 in
set_option maxRecDepth 20000 in
theorem jbX7_plainTells_0 (G : GT) {X : XT} {sh : SH} {L : LH} {n : Nat} {r : Int32} {I' : IH}  {this : Nat}  {v1 : Int32} {v2 : Int32} {I : IH} (F : MF G X RX7 cX7_plainTells 3 6 (some .int) "plainTells") (hth : isO sh 7 this) (h : fX7_plainTells sh this v1 v2 I = some (r, I')) : J G X (QE G X (some (.int r)) sh I' L n) 3 sh I L n 0 0 0 [(0, .ref this), (1, .int v1), (2, .int v2)] [] := by
  unfold fX7_plainTells at h
  refine j_aload_n (pc := 0) (k0 := 0) F 0 rfl dX7_plainTells_0 ?_
  refine j_bipush (pc := 1) F 12 dX7_plainTells_1 (by decide) ?_
  obtain ⟨i1, hi1, h⟩ := ob h
  refine j_callV0 (pc := 3) (ci := 7) (As := [.int 12]) (st := []) (e1 := 0) (es1 := 0) F clX7_354 cwX7_body rfl hth (ctX7_body G hi1) rfl rfl rfl rfl rfl rfl dX7_plainTells_3 ?_
  refine j_aload_n (pc := 6) (k0 := 0) F 0 rfl dX7_plainTells_6 ?_
  refine j_iload_n (pc := 7) (k0 := 1) F 1 rfl dX7_plainTells_7 ?_
  refine j_iload_n (pc := 8) (k0 := 2) F 2 rfl dX7_plainTells_8 ?_
  obtain ⟨x2, i3, hx2, h⟩ := b2_obt h
  refine j_callV1 (pc := 9) (ci := 7) (As := [.int v1, .int v2]) (st := []) (e1 := 0) (es1 := 0) F clX7_369 cwX7_takesAct rfl hth (ctX7_takesAct G hth hx2) rfl rfl rfl rfl rfl rfl dX7_plainTells_9 ?_
  refine j_iconst (pc := 12) F 2 dX7_plainTells_12 (by decide) ?_
  refine j_imul (pc := 13) F dX7_plainTells_13 ?_
  have g1 := Option.some.inj h
  obtain ⟨q3, g2⟩ := Prod.mk.inj g1
  subst q3
  subst g2
  exact j_iret (pc := 14) F dX7_plainTells_14
theorem ctX7_plainTells (G : GT) {sh : SH} {I : IH} {L : LH} {n : Nat} {this : Nat} {v1 : Int32} {v2 : Int32} {r : Int32} {I' : IH}  (hth : isO sh 7 this) (h : fX7_plainTells sh this v1 v2 I = some (r, I')) : Ct G yX7_plainTells cX7_plainTells 3 (some .int) 6 [.ref this, .int v1, .int v2] sh I L n (some (.int r)) sh I' L n 0 0 := by
  refine ct_of (y := yX7_plainTells) (by decide +kernel) rfl (fun X F => ?_)
  exact jbX7_plainTells_0 G F hth h
theorem dX7_tellsAct_0 : decode cX7_tellsAct 0 = .ok (.aload_n 0, 1) := by decide +kernel
theorem dX7_tellsAct_1 : decode cX7_tellsAct 1 = .ok (.getfield 23, 3) := by decide +kernel
theorem dX7_tellsAct_4 : decode cX7_tellsAct 4 = .ok (.iload_n 1, 1) := by decide +kernel
theorem dX7_tellsAct_5 : decode cX7_tellsAct 5 = .ok (.iaload, 1) := by decide +kernel
theorem dX7_tellsAct_6 : decode cX7_tellsAct 6 = .ok (.tableswitch 67 3 6 #[30, 67, 52, 30], 30) := by decide +kernel
theorem dX7_tellsAct_36 : decode cX7_tellsAct 36 = .ok (.aload_n 0, 1) := by decide +kernel
theorem dX7_tellsAct_37 : decode cX7_tellsAct 37 = .ok (.bipush 40, 2) := by decide +kernel
theorem dX7_tellsAct_39 : decode cX7_tellsAct 39 = .ok (.invokevirtual 354, 3) := by decide +kernel
theorem dX7_tellsAct_42 : decode cX7_tellsAct 42 = .ok (.aload_n 0, 1) := by decide +kernel
theorem dX7_tellsAct_43 : decode cX7_tellsAct 43 = .ok (.iload_n 1, 1) := by decide +kernel
theorem dX7_tellsAct_44 : decode cX7_tellsAct 44 = .ok (.iload_n 2, 1) := by decide +kernel
theorem dX7_tellsAct_45 : decode cX7_tellsAct 45 = .ok (.invokevirtual 372, 3) := by decide +kernel
theorem dX7_tellsAct_48 : decode cX7_tellsAct 48 = .ok (.istore_n 3, 1) := by decide +kernel
theorem dX7_tellsAct_49 : decode cX7_tellsAct 49 = .ok (.iload_n 3, 1) := by decide +kernel
theorem dX7_tellsAct_50 : decode cX7_tellsAct 50 = .ok (.aload_n 0, 1) := by decide +kernel
theorem dX7_tellsAct_51 : decode cX7_tellsAct 51 = .ok (.iload_n 1, 1) := by decide +kernel
theorem dX7_tellsAct_52 : decode cX7_tellsAct 52 = .ok (.iconst 1, 1) := by decide +kernel
theorem dX7_tellsAct_53 : decode cX7_tellsAct 53 = .ok (.invokevirtual 369, 3) := by decide +kernel
theorem dX7_tellsAct_56 : decode cX7_tellsAct 56 = .ok (.iadd, 1) := by decide +kernel
theorem dX7_tellsAct_57 : decode cX7_tellsAct 57 = .ok (.ireturn, 1) := by decide +kernel
theorem dX7_tellsAct_58 : decode cX7_tellsAct 58 = .ok (.aload_n 0, 1) := by decide +kernel
theorem dX7_tellsAct_59 : decode cX7_tellsAct 59 = .ok (.bipush 60, 2) := by decide +kernel
theorem dX7_tellsAct_61 : decode cX7_tellsAct 61 = .ok (.invokevirtual 354, 3) := by decide +kernel
theorem dX7_tellsAct_64 : decode cX7_tellsAct 64 = .ok (.aload_n 0, 1) := by decide +kernel
theorem dX7_tellsAct_65 : decode cX7_tellsAct 65 = .ok (.iload_n 1, 1) := by decide +kernel
theorem dX7_tellsAct_66 : decode cX7_tellsAct 66 = .ok (.iload_n 2, 1) := by decide +kernel
theorem dX7_tellsAct_67 : decode cX7_tellsAct 67 = .ok (.iload_n 1, 1) := by decide +kernel
theorem dX7_tellsAct_68 : decode cX7_tellsAct 68 = .ok (.isub, 1) := by decide +kernel
theorem dX7_tellsAct_69 : decode cX7_tellsAct 69 = .ok (.invokevirtual 372, 3) := by decide +kernel
theorem dX7_tellsAct_72 : decode cX7_tellsAct 72 = .ok (.ireturn, 1) := by decide +kernel
theorem dX7_tellsAct_73 : decode cX7_tellsAct 73 = .ok (.aload_n 0, 1) := by decide +kernel
theorem dX7_tellsAct_74 : decode cX7_tellsAct 74 = .ok (.iload_n 1, 1) := by decide +kernel
theorem dX7_tellsAct_75 : decode cX7_tellsAct 75 = .ok (.iload_n 2, 1) := by decide +kernel
theorem dX7_tellsAct_76 : decode cX7_tellsAct 76 = .ok (.invokevirtual 372, 3) := by decide +kernel
theorem dX7_tellsAct_79 : decode cX7_tellsAct 79 = .ok (.ireturn, 1) := by decide +kernel
def fX7_tellsAct (sh : SH) (this : Nat) (v1 : Int32) (v2 : Int32) (I : IH) : Option (Int32 × IH) :=
  (gR sh 7 this 4).bind fun x1 =>
  (aI sh I 0 x1 v1).bind fun x2 =>
  if x2 = 3 then (
    (fX7_body sh this 40 I).bind fun i3 =>
    b2 (fX7_plainTells sh this v1 v2 i3) fun x4 i5 =>
    b2 (fX7_takesAct sh this v1 1 i5) fun x6 i7 =>
    some ((x4 + x6), i7)) else
  if x2 = 5 then (
    (fX7_body sh this 60 I).bind fun i8 =>
    b2 (fX7_plainTells sh this v1 (v2 - v1) i8) fun x9 i10 =>
    some (x9, i10)) else
  if x2 = 6 then (
    (fX7_body sh this 40 I).bind fun i11 =>
    b2 (fX7_plainTells sh this v1 v2 i11) fun x12 i13 =>
    b2 (fX7_takesAct sh this v1 1 i13) fun x14 i15 =>
    some ((x12 + x14), i15)) else
  b2 (fX7_plainTells sh this v1 v2 I) fun x16 i17 =>
  some (x16, i17)
set_option maxHeartbeats 4000000 in
set_option maxRecDepth 20000 in
theorem jbX7_tellsAct_0 (G : GT) {X : XT} {sh : SH} {L : LH} {n : Nat} {r : Int32} {I' : IH}  {this : Nat}  {v1 : Int32} {v2 : Int32} {I : IH} (F : MF G X RX7 cX7_tellsAct 4 7 (some .int) "tellsAct") (hth : isO sh 7 this) (h : fX7_tellsAct sh this v1 v2 I = some (r, I')) : J G X (QE G X (some (.int r)) sh I' L n) 4 sh I L n 0 0 0 [(0, .ref this), (1, .int v1), (2, .int v2)] [] := by
  unfold fX7_tellsAct at h
  refine j_aload_n (pc := 0) (k0 := 0) F 0 rfl dX7_tellsAct_0 ?_
  obtain ⟨x1, hx1, h⟩ := ob h
  refine j_getR (pc := 1) F flX7_23 hx1 dX7_tellsAct_1 ?_
  refine j_iload_n (pc := 4) (k0 := 1) F 1 rfl dX7_tellsAct_4 ?_
  obtain ⟨x2, hx2, h⟩ := ob h
  refine j_iald (pc := 5) F hx2 dX7_tellsAct_5 ?_
  by_cases c1 : x2 = 3
  · have h := iz_t c1 h
    refine j_tabIn (pc := 6) (k0 := 3) F 36 c1 dX7_tellsAct_6 (by decide) rfl rfl ?_
    refine j_aload_n (pc := 36) (k0 := 0) F 0 rfl dX7_tellsAct_36 ?_
    refine j_bipush (pc := 37) F 40 dX7_tellsAct_37 (by decide) ?_
    obtain ⟨i3, hi3, h⟩ := ob h
    refine j_callV0 (pc := 39) (ci := 7) (As := [.int 40]) (st := []) (e1 := 0) (es1 := 0) F clX7_354 cwX7_body rfl hth (ctX7_body G hi3) rfl rfl rfl rfl rfl rfl dX7_tellsAct_39 ?_
    refine j_aload_n (pc := 42) (k0 := 0) F 0 rfl dX7_tellsAct_42 ?_
    refine j_iload_n (pc := 43) (k0 := 1) F 1 rfl dX7_tellsAct_43 ?_
    refine j_iload_n (pc := 44) (k0 := 2) F 2 rfl dX7_tellsAct_44 ?_
    obtain ⟨x4, i5, hx4, h⟩ := b2_obt h
    refine j_callV1 (pc := 45) (ci := 7) (As := [.int v1, .int v2]) (st := []) (e1 := 0) (es1 := 0) F clX7_372 cwX7_plainTells rfl hth (ctX7_plainTells G hth hx4) rfl rfl rfl rfl rfl rfl dX7_tellsAct_45 ?_
    refine j_istore_n (pc := 48) (k1 := 3) (ls' := [(3, .int x4), (0, .ref this), (1, .int v1), (2, .int v2)]) F rfl rfl rfl dX7_tellsAct_48 ?_
    refine j_iload_n (pc := 49) (k0 := 3) F 0 rfl dX7_tellsAct_49 ?_
    refine j_aload_n (pc := 50) (k0 := 0) F 1 rfl dX7_tellsAct_50 ?_
    refine j_iload_n (pc := 51) (k0 := 1) F 2 rfl dX7_tellsAct_51 ?_
    refine j_iconst (pc := 52) F 1 dX7_tellsAct_52 (by decide) ?_
    obtain ⟨x6, i7, hx6, h⟩ := b2_obt h
    refine j_callV1 (pc := 53) (ci := 7) (As := [.int v1, .int 1]) (st := [.int x4]) (e1 := 0) (es1 := 0) F clX7_369 cwX7_takesAct rfl hth (ctX7_takesAct G hth hx6) rfl rfl rfl rfl rfl rfl dX7_tellsAct_53 ?_
    refine j_iadd (pc := 56) F dX7_tellsAct_56 ?_
    have g1 := Option.some.inj h
    obtain ⟨q3, g2⟩ := Prod.mk.inj g1
    subst q3
    subst g2
    exact j_iret (pc := 57) F dX7_tellsAct_57
  have h := iz_f c1 h
  by_cases c2 : x2 = 5
  · have h := iz_t c2 h
    refine j_tabIn (pc := 6) (k0 := 5) F 58 c2 dX7_tellsAct_6 (by decide) rfl rfl ?_
    refine j_aload_n (pc := 58) (k0 := 0) F 0 rfl dX7_tellsAct_58 ?_
    refine j_bipush (pc := 59) F 60 dX7_tellsAct_59 (by decide) ?_
    obtain ⟨i8, hi8, h⟩ := ob h
    refine j_callV0 (pc := 61) (ci := 7) (As := [.int 60]) (st := []) (e1 := 0) (es1 := 0) F clX7_354 cwX7_body rfl hth (ctX7_body G hi8) rfl rfl rfl rfl rfl rfl dX7_tellsAct_61 ?_
    refine j_aload_n (pc := 64) (k0 := 0) F 0 rfl dX7_tellsAct_64 ?_
    refine j_iload_n (pc := 65) (k0 := 1) F 1 rfl dX7_tellsAct_65 ?_
    refine j_iload_n (pc := 66) (k0 := 2) F 2 rfl dX7_tellsAct_66 ?_
    refine j_iload_n (pc := 67) (k0 := 1) F 1 rfl dX7_tellsAct_67 ?_
    refine j_isub (pc := 68) F dX7_tellsAct_68 ?_
    obtain ⟨x9, i10, hx9, h⟩ := b2_obt h
    refine j_callV1 (pc := 69) (ci := 7) (As := [.int v1, .int (v2 - v1)]) (st := []) (e1 := 0) (es1 := 0) F clX7_372 cwX7_plainTells rfl hth (ctX7_plainTells G hth hx9) rfl rfl rfl rfl rfl rfl dX7_tellsAct_69 ?_
    have g1 := Option.some.inj h
    obtain ⟨q3, g2⟩ := Prod.mk.inj g1
    subst q3
    subst g2
    exact j_iret (pc := 72) F dX7_tellsAct_72
  have h := iz_f c2 h
  by_cases c3 : x2 = 6
  · have h := iz_t c3 h
    refine j_tabIn (pc := 6) (k0 := 6) F 36 c3 dX7_tellsAct_6 (by decide) rfl rfl ?_
    refine j_aload_n (pc := 36) (k0 := 0) F 0 rfl dX7_tellsAct_36 ?_
    refine j_bipush (pc := 37) F 40 dX7_tellsAct_37 (by decide) ?_
    obtain ⟨i11, hi11, h⟩ := ob h
    refine j_callV0 (pc := 39) (ci := 7) (As := [.int 40]) (st := []) (e1 := 0) (es1 := 0) F clX7_354 cwX7_body rfl hth (ctX7_body G hi11) rfl rfl rfl rfl rfl rfl dX7_tellsAct_39 ?_
    refine j_aload_n (pc := 42) (k0 := 0) F 0 rfl dX7_tellsAct_42 ?_
    refine j_iload_n (pc := 43) (k0 := 1) F 1 rfl dX7_tellsAct_43 ?_
    refine j_iload_n (pc := 44) (k0 := 2) F 2 rfl dX7_tellsAct_44 ?_
    obtain ⟨x12, i13, hx12, h⟩ := b2_obt h
    refine j_callV1 (pc := 45) (ci := 7) (As := [.int v1, .int v2]) (st := []) (e1 := 0) (es1 := 0) F clX7_372 cwX7_plainTells rfl hth (ctX7_plainTells G hth hx12) rfl rfl rfl rfl rfl rfl dX7_tellsAct_45 ?_
    refine j_istore_n (pc := 48) (k1 := 3) (ls' := [(3, .int x12), (0, .ref this), (1, .int v1), (2, .int v2)]) F rfl rfl rfl dX7_tellsAct_48 ?_
    refine j_iload_n (pc := 49) (k0 := 3) F 0 rfl dX7_tellsAct_49 ?_
    refine j_aload_n (pc := 50) (k0 := 0) F 1 rfl dX7_tellsAct_50 ?_
    refine j_iload_n (pc := 51) (k0 := 1) F 2 rfl dX7_tellsAct_51 ?_
    refine j_iconst (pc := 52) F 1 dX7_tellsAct_52 (by decide) ?_
    obtain ⟨x14, i15, hx14, h⟩ := b2_obt h
    refine j_callV1 (pc := 53) (ci := 7) (As := [.int v1, .int 1]) (st := [.int x12]) (e1 := 0) (es1 := 0) F clX7_369 cwX7_takesAct rfl hth (ctX7_takesAct G hth hx14) rfl rfl rfl rfl rfl rfl dX7_tellsAct_53 ?_
    refine j_iadd (pc := 56) F dX7_tellsAct_56 ?_
    have g1 := Option.some.inj h
    obtain ⟨q3, g2⟩ := Prod.mk.inj g1
    subst q3
    subst g2
    exact j_iret (pc := 57) F dX7_tellsAct_57
  have h := iz_f c3 h
  by_cases d1 : x2 = 4
  · refine j_tabIn (pc := 6) (k0 := 4) F 73 d1 dX7_tellsAct_6 (by decide) rfl rfl ?_
    refine j_aload_n (pc := 73) (k0 := 0) F 0 rfl dX7_tellsAct_73 ?_
    refine j_iload_n (pc := 74) (k0 := 1) F 1 rfl dX7_tellsAct_74 ?_
    refine j_iload_n (pc := 75) (k0 := 2) F 2 rfl dX7_tellsAct_75 ?_
    obtain ⟨x16, i17, hx16, h⟩ := b2_obt h
    refine j_callV1 (pc := 76) (ci := 7) (As := [.int v1, .int v2]) (st := []) (e1 := 0) (es1 := 0) F clX7_372 cwX7_plainTells rfl hth (ctX7_plainTells G hth hx16) rfl rfl rfl rfl rfl rfl dX7_tellsAct_76 ?_
    have g1 := Option.some.inj h
    obtain ⟨q3, g2⟩ := Prod.mk.inj g1
    subst q3
    subst g2
    exact j_iret (pc := 79) F dX7_tellsAct_79
  have tc1 := lv_neT (a := 3) c1 (by decide)
  have tc2 := lv_neT (a := 5) c2 (by decide)
  have tc3 := lv_neT (a := 6) c3 (by decide)
  have td1 := lv_neT (a := 4) d1 (by decide)
  refine j_tabOut (pc := 6) F 73 dX7_tellsAct_6 (by omega) rfl ?_
  refine j_aload_n (pc := 73) (k0 := 0) F 0 rfl dX7_tellsAct_73 ?_
  refine j_iload_n (pc := 74) (k0 := 1) F 1 rfl dX7_tellsAct_74 ?_
  refine j_iload_n (pc := 75) (k0 := 2) F 2 rfl dX7_tellsAct_75 ?_
  obtain ⟨x16, i17, hx16, h⟩ := b2_obt h
  refine j_callV1 (pc := 76) (ci := 7) (As := [.int v1, .int v2]) (st := []) (e1 := 0) (es1 := 0) F clX7_372 cwX7_plainTells rfl hth (ctX7_plainTells G hth hx16) rfl rfl rfl rfl rfl rfl dX7_tellsAct_76 ?_
  have g1 := Option.some.inj h
  obtain ⟨q3, g2⟩ := Prod.mk.inj g1
  subst q3
  subst g2
  exact j_iret (pc := 79) F dX7_tellsAct_79
theorem ctX7_tellsAct (G : GT) {sh : SH} {I : IH} {L : LH} {n : Nat} {this : Nat} {v1 : Int32} {v2 : Int32} {r : Int32} {I' : IH}  (hth : isO sh 7 this) (h : fX7_tellsAct sh this v1 v2 I = some (r, I')) : Ct G yX7_tellsAct cX7_tellsAct 4 (some .int) 7 [.ref this, .int v1, .int v2] sh I L n (some (.int r)) sh I' L n 0 0 := by
  refine ct_of (y := yX7_tellsAct) (by decide +kernel) rfl (fun X F => ?_)
  exact jbX7_tellsAct_0 G F hth h
theorem dX7_act_0 : decode cX7_act 0 = .ok (.aload_n 0, 1) := by decide +kernel
theorem dX7_act_1 : decode cX7_act 1 = .ok (.iconst 0, 1) := by decide +kernel
theorem dX7_act_2 : decode cX7_act 2 = .ok (.putfield 196, 3) := by decide +kernel
theorem dX7_act_5 : decode cX7_act 5 = .ok (.aload_n 0, 1) := by decide +kernel
theorem dX7_act_6 : decode cX7_act 6 = .ok (.iload_n 1, 1) := by decide +kernel
theorem dX7_act_7 : decode cX7_act 7 = .ok (.invokevirtual 219, 3) := by decide +kernel
theorem dX7_act_10 : decode cX7_act 10 = .ok (.ifCond .eq 13, 3) := by decide +kernel
theorem dX7_act_13 : decode cX7_act 13 = .ok (.aload_n 0, 1) := by decide +kernel
theorem dX7_act_14 : decode cX7_act 14 = .ok (.iload_n 2, 1) := by decide +kernel
theorem dX7_act_15 : decode cX7_act 15 = .ok (.iconst 0, 1) := by decide +kernel
theorem dX7_act_16 : decode cX7_act 16 = .ok (.iconst 2, 1) := by decide +kernel
theorem dX7_act_17 : decode cX7_act 17 = .ok (.invokevirtual 215, 3) := by decide +kernel
theorem dX7_act_20 : decode cX7_act 20 = .ok (.ifCond .ne 5, 3) := by decide +kernel
theorem dX7_act_23 : decode cX7_act 23 = .ok (.iconst 0, 1) := by decide +kernel
theorem dX7_act_24 : decode cX7_act 24 = .ok (.ireturn, 1) := by decide +kernel
theorem dX7_act_25 : decode cX7_act 25 = .ok (.iload_n 2, 1) := by decide +kernel
theorem dX7_act_26 : decode cX7_act 26 = .ok (.ifCond .ne 12, 3) := by decide +kernel
theorem dX7_act_29 : decode cX7_act 29 = .ok (.aload_n 0, 1) := by decide +kernel
theorem dX7_act_30 : decode cX7_act 30 = .ok (.iload_n 1, 1) := by decide +kernel
theorem dX7_act_31 : decode cX7_act 31 = .ok (.iload_n 3, 1) := by decide +kernel
theorem dX7_act_32 : decode cX7_act 32 = .ok (.invokevirtual 360, 3) := by decide +kernel
theorem dX7_act_35 : decode cX7_act 35 = .ok (.goto 23, 3) := by decide +kernel
theorem dX7_act_38 : decode cX7_act 38 = .ok (.iload_n 2, 1) := by decide +kernel
theorem dX7_act_39 : decode cX7_act 39 = .ok (.iconst 1, 1) := by decide +kernel
theorem dX7_act_40 : decode cX7_act 40 = .ok (.if_icmp .ne 12, 3) := by decide +kernel
theorem dX7_act_43 : decode cX7_act 43 = .ok (.aload_n 0, 1) := by decide +kernel
theorem dX7_act_44 : decode cX7_act 44 = .ok (.iload_n 1, 1) := by decide +kernel
theorem dX7_act_45 : decode cX7_act 45 = .ok (.iload_n 3, 1) := by decide +kernel
theorem dX7_act_46 : decode cX7_act 46 = .ok (.invokevirtual 369, 3) := by decide +kernel
theorem dX7_act_49 : decode cX7_act 49 = .ok (.goto 9, 3) := by decide +kernel
theorem dX7_act_52 : decode cX7_act 52 = .ok (.aload_n 0, 1) := by decide +kernel
theorem dX7_act_53 : decode cX7_act 53 = .ok (.iload_n 1, 1) := by decide +kernel
theorem dX7_act_54 : decode cX7_act 54 = .ok (.iload_n 3, 1) := by decide +kernel
theorem dX7_act_55 : decode cX7_act 55 = .ok (.invokevirtual 375, 3) := by decide +kernel
theorem dX7_act_58 : decode cX7_act 58 = .ok (.ireturn, 1) := by decide +kernel
def fX7_act (sh : SH) (this : Nat) (v1 : Int32) (v2 : Int32) (v3 : Int32) (I : IH) : Option (Int32 × IH) :=
  (pI sh I 7 this 61 0).bind fun i1 =>
  if (fX7_isGate v1) = 0 then (
    some (0, i1)) else
  if (fX7_in v2 0 2) = 0 then (
    some (0, i1)) else
  if v2 = 0 then (
    b2 (fX7_letsAct sh this v1 v3 i1) fun x6 i7 =>
    some (x6, i7)) else
  if v2 = 1 then (
    b2 (fX7_takesAct sh this v1 v3 i1) fun x4 i5 =>
    some (x4, i5)) else
  b2 (fX7_tellsAct sh this v1 v3 i1) fun x2 i3 =>
  some (x2, i3)
set_option maxHeartbeats 4000000 in
set_option maxRecDepth 20000 in
theorem jbX7_act_0 (G : GT) {X : XT} {sh : SH} {L : LH} {n : Nat} {r : Int32} {I' : IH}  {this : Nat}  {v1 : Int32} {v2 : Int32} {v3 : Int32} {I : IH} (F : MF G X RX7 cX7_act 4 8 (some .int) "act") (hth : isO sh 7 this) (h : fX7_act sh this v1 v2 v3 I = some (r, I')) : J G X (QE G X (some (.int r)) sh I' L n) 4 sh I L n 0 0 0 [(0, .ref this), (1, .int v1), (2, .int v2), (3, .int v3)] [] := by
  unfold fX7_act at h
  refine j_aload_n (pc := 0) (k0 := 0) F 0 rfl dX7_act_0 ?_
  refine j_iconst (pc := 1) F 0 dX7_act_1 (by decide) ?_
  obtain ⟨i1, hi1, h⟩ := ob h
  refine j_putI (pc := 2) F flX7_196 fp7_61 (fun z => by cases z) hi1 dX7_act_2 ?_
  refine j_aload_n (pc := 5) (k0 := 0) F 0 rfl dX7_act_5 ?_
  refine j_iload_n (pc := 6) (k0 := 1) F 1 rfl dX7_act_6 ?_
  refine j_callV1 (pc := 7) (ci := 7) (As := [.int v1]) (st := []) (e1 := 0) (es1 := 0) F clX7_219 cwX7_isGate rfl hth (ctX7_isGate G hth) rfl rfl rfl rfl rfl rfl dX7_act_7 ?_
  refine j_if_eq (pc := 10) F 23 dX7_act_10 rfl (fun c => ?_) (fun c => ?_)
  · have h := iz_t c h
    refine j_iconst (pc := 23) F 0 dX7_act_23 (by decide) ?_
    have g1 := Option.some.inj h
    obtain ⟨q3, g2⟩ := Prod.mk.inj g1
    subst q3
    subst g2
    exact j_iret (pc := 24) F dX7_act_24
  · have h := iz_f c h
    refine j_aload_n (pc := 13) (k0 := 0) F 0 rfl dX7_act_13 ?_
    refine j_iload_n (pc := 14) (k0 := 2) F 2 rfl dX7_act_14 ?_
    refine j_iconst (pc := 15) F 0 dX7_act_15 (by decide) ?_
    refine j_iconst (pc := 16) F 2 dX7_act_16 (by decide) ?_
    refine j_callV1 (pc := 17) (ci := 7) (As := [.int v2, .int 0, .int 2]) (st := []) (e1 := 0) (es1 := 0) F clX7_215 cwX7_in rfl hth (ctX7_in G) rfl rfl rfl rfl rfl rfl dX7_act_17 ?_
    refine j_if_ne (pc := 20) F 25 dX7_act_20 rfl (fun c => ?_) (fun c => ?_)
    · have h := iz_f c h
      refine j_iload_n (pc := 25) (k0 := 2) F 2 rfl dX7_act_25 ?_
      refine j_if_ne (pc := 26) F 38 dX7_act_26 rfl (fun c => ?_) (fun c => ?_)
      · have h := iz_f c h
        refine j_iload_n (pc := 38) (k0 := 2) F 2 rfl dX7_act_38 ?_
        refine j_iconst (pc := 39) F 1 dX7_act_39 (by decide) ?_
        refine j_icmp_ne (pc := 40) F 52 dX7_act_40 rfl (fun c => ?_) (fun c => ?_)
        · have h := iz_f c h
          refine j_aload_n (pc := 52) (k0 := 0) F 0 rfl dX7_act_52 ?_
          refine j_iload_n (pc := 53) (k0 := 1) F 1 rfl dX7_act_53 ?_
          refine j_iload_n (pc := 54) (k0 := 3) F 3 rfl dX7_act_54 ?_
          obtain ⟨x2, i3, hx2, h⟩ := b2_obt h
          refine j_callV1 (pc := 55) (ci := 7) (As := [.int v1, .int v3]) (st := []) (e1 := 0) (es1 := 0) F clX7_375 cwX7_tellsAct rfl hth (ctX7_tellsAct G hth hx2) rfl rfl rfl rfl rfl rfl dX7_act_55 ?_
          have g1 := Option.some.inj h
          obtain ⟨q3, g2⟩ := Prod.mk.inj g1
          subst q3
          subst g2
          exact j_iret (pc := 58) F dX7_act_58
        · have h := iz_t c h
          refine j_aload_n (pc := 43) (k0 := 0) F 0 rfl dX7_act_43 ?_
          refine j_iload_n (pc := 44) (k0 := 1) F 1 rfl dX7_act_44 ?_
          refine j_iload_n (pc := 45) (k0 := 3) F 3 rfl dX7_act_45 ?_
          obtain ⟨x4, i5, hx4, h⟩ := b2_obt h
          refine j_callV1 (pc := 46) (ci := 7) (As := [.int v1, .int v3]) (st := []) (e1 := 0) (es1 := 0) F clX7_369 cwX7_takesAct rfl hth (ctX7_takesAct G hth hx4) rfl rfl rfl rfl rfl rfl dX7_act_46 ?_
          refine j_goto (pc := 49) F 58 dX7_act_49 rfl ?_
          have g1 := Option.some.inj h
          obtain ⟨q3, g2⟩ := Prod.mk.inj g1
          subst q3
          subst g2
          exact j_iret (pc := 58) F dX7_act_58
      · have h := iz_t c h
        refine j_aload_n (pc := 29) (k0 := 0) F 0 rfl dX7_act_29 ?_
        refine j_iload_n (pc := 30) (k0 := 1) F 1 rfl dX7_act_30 ?_
        refine j_iload_n (pc := 31) (k0 := 3) F 3 rfl dX7_act_31 ?_
        obtain ⟨x6, i7, hx6, h⟩ := b2_obt h
        refine j_callV1 (pc := 32) (ci := 7) (As := [.int v1, .int v3]) (st := []) (e1 := 0) (es1 := 0) F clX7_360 cwX7_letsAct rfl hth (ctX7_letsAct G hth hx6) rfl rfl rfl rfl rfl rfl dX7_act_32 ?_
        refine j_goto (pc := 35) F 58 dX7_act_35 rfl ?_
        have g1 := Option.some.inj h
        obtain ⟨q3, g2⟩ := Prod.mk.inj g1
        subst q3
        subst g2
        exact j_iret (pc := 58) F dX7_act_58
    · have h := iz_t c h
      refine j_iconst (pc := 23) F 0 dX7_act_23 (by decide) ?_
      have g1 := Option.some.inj h
      obtain ⟨q3, g2⟩ := Prod.mk.inj g1
      subst q3
      subst g2
      exact j_iret (pc := 24) F dX7_act_24
theorem ctX7_act (G : GT) {sh : SH} {I : IH} {L : LH} {n : Nat} {this : Nat} {v1 : Int32} {v2 : Int32} {v3 : Int32} {r : Int32} {I' : IH}  (hth : isO sh 7 this) (h : fX7_act sh this v1 v2 v3 I = some (r, I')) : Ct G yX7_act cX7_act 4 (some .int) 8 [.ref this, .int v1, .int v2, .int v3] sh I L n (some (.int r)) sh I' L n 0 0 := by
  refine ct_of (y := yX7_act) (by decide +kernel) rfl (fun X F => ?_)
  exact jbX7_act_0 G F hth h
theorem dX7_trace_0 : decode cX7_trace 0 = .ok (.aload_n 0, 1) := by decide +kernel
theorem dX7_trace_1 : decode cX7_trace 1 = .ok (.iload_n 1, 1) := by decide +kernel
theorem dX7_trace_2 : decode cX7_trace 2 = .ok (.iconst 0, 1) := by decide +kernel
theorem dX7_trace_3 : decode cX7_trace 3 = .ok (.bipush 19, 2) := by decide +kernel
theorem dX7_trace_5 : decode cX7_trace 5 = .ok (.invokevirtual 215, 3) := by decide +kernel
theorem dX7_trace_8 : decode cX7_trace 8 = .ok (.ifCond .eq 20, 3) := by decide +kernel
theorem dX7_trace_11 : decode cX7_trace 11 = .ok (.iload_n 1, 1) := by decide +kernel
theorem dX7_trace_12 : decode cX7_trace 12 = .ok (.aload_n 0, 1) := by decide +kernel
theorem dX7_trace_13 : decode cX7_trace 13 = .ok (.getfield 196, 3) := by decide +kernel
theorem dX7_trace_16 : decode cX7_trace 16 = .ok (.if_icmp .ge 12, 3) := by decide +kernel
theorem dX7_trace_19 : decode cX7_trace 19 = .ok (.aload_n 0, 1) := by decide +kernel
theorem dX7_trace_20 : decode cX7_trace 20 = .ok (.getfield 199, 3) := by decide +kernel
theorem dX7_trace_23 : decode cX7_trace 23 = .ok (.iload_n 1, 1) := by decide +kernel
theorem dX7_trace_24 : decode cX7_trace 24 = .ok (.iaload, 1) := by decide +kernel
theorem dX7_trace_25 : decode cX7_trace 25 = .ok (.goto 4, 3) := by decide +kernel
theorem dX7_trace_28 : decode cX7_trace 28 = .ok (.iconst (-1), 1) := by decide +kernel
theorem dX7_trace_29 : decode cX7_trace 29 = .ok (.ireturn, 1) := by decide +kernel
def fX7_trace (sh : SH) (I : IH) (this : Nat) (v1 : Int32) : Option (Int32) :=
  if (fX7_in v1 0 19) = 0 then (
    some (-1)) else
  (gI sh I 7 this 61).bind fun x1 =>
  if x1 ≤ v1 then (
    some (-1)) else
  (gR sh 7 this 62).bind fun x2 =>
  (aI sh I 0 x2 v1).bind fun x3 =>
  some x3
set_option maxHeartbeats 4000000 in
set_option maxRecDepth 20000 in
theorem jbX7_trace_0 (G : GT) {X : XT} {sh : SH} {I : IH} {L : LH} {n : Nat} {r : Int32}  {this : Nat}  {v1 : Int32} (F : MF G X RX7 cX7_trace 2 1 (some .int) "trace") (hth : isO sh 7 this) (h : fX7_trace sh I this v1 = some r) : J G X (QE G X (some (.int r)) sh I L n) 2 sh I L n 0 0 0 [(0, .ref this), (1, .int v1)] [] := by
  unfold fX7_trace at h
  refine j_aload_n (pc := 0) (k0 := 0) F 0 rfl dX7_trace_0 ?_
  refine j_iload_n (pc := 1) (k0 := 1) F 1 rfl dX7_trace_1 ?_
  refine j_iconst (pc := 2) F 0 dX7_trace_2 (by decide) ?_
  refine j_bipush (pc := 3) F 19 dX7_trace_3 (by decide) ?_
  refine j_callV1 (pc := 5) (ci := 7) (As := [.int v1, .int 0, .int 19]) (st := []) (e1 := 0) (es1 := 0) F clX7_215 cwX7_in rfl hth (ctX7_in G) rfl rfl rfl rfl rfl rfl dX7_trace_5 ?_
  refine j_if_eq (pc := 8) F 28 dX7_trace_8 rfl (fun c => ?_) (fun c => ?_)
  · have h := iz_t c h
    refine j_iconst (pc := 28) F (-1) dX7_trace_28 (by decide) ?_
    have g1 := Option.some.inj h
    subst g1
    exact j_iret (pc := 29) F dX7_trace_29
  · have h := iz_f c h
    refine j_iload_n (pc := 11) (k0 := 1) F 1 rfl dX7_trace_11 ?_
    refine j_aload_n (pc := 12) (k0 := 0) F 0 rfl dX7_trace_12 ?_
    obtain ⟨x1, hx1, h⟩ := ob h
    refine j_getI (pc := 13) F flX7_196 hx1 dX7_trace_13 ?_
    refine j_icmp_ge (pc := 16) F 28 dX7_trace_16 rfl (fun c => ?_) (fun c => ?_)
    · have h := iz_t c h
      refine j_iconst (pc := 28) F (-1) dX7_trace_28 (by decide) ?_
      have g1 := Option.some.inj h
      subst g1
      exact j_iret (pc := 29) F dX7_trace_29
    · have h := iz_f c h
      refine j_aload_n (pc := 19) (k0 := 0) F 0 rfl dX7_trace_19 ?_
      obtain ⟨x2, hx2, h⟩ := ob h
      refine j_getR (pc := 20) F flX7_199 hx2 dX7_trace_20 ?_
      refine j_iload_n (pc := 23) (k0 := 1) F 1 rfl dX7_trace_23 ?_
      obtain ⟨x3, hx3, h⟩ := ob h
      refine j_iald (pc := 24) F hx3 dX7_trace_24 ?_
      refine j_goto (pc := 25) F 29 dX7_trace_25 rfl ?_
      have g1 := Option.some.inj h
      subst g1
      exact j_iret (pc := 29) F dX7_trace_29
theorem ctX7_trace (G : GT) {sh : SH} {I : IH} {L : LH} {n : Nat} {this : Nat} {v1 : Int32} {r : Int32}  (hth : isO sh 7 this) (h : fX7_trace sh I this v1 = some r) : Ct G yX7_trace cX7_trace 2 (some .int) 1 [.ref this, .int v1] sh I L n (some (.int r)) sh I L n 0 0 := by
  refine ct_of (y := yX7_trace) (by decide +kernel) rfl (fun X F => ?_)
  exact jbX7_trace_0 G F hth h
theorem dX7_taken_0 : decode cX7_taken 0 = .ok (.aload_n 0, 1) := by decide +kernel
theorem dX7_taken_1 : decode cX7_taken 1 = .ok (.iload_n 2, 1) := by decide +kernel
theorem dX7_taken_2 : decode cX7_taken 2 = .ok (.iconst 0, 1) := by decide +kernel
theorem dX7_taken_3 : decode cX7_taken 3 = .ok (.bipush 6, 2) := by decide +kernel
theorem dX7_taken_5 : decode cX7_taken 5 = .ok (.invokevirtual 215, 3) := by decide +kernel
theorem dX7_taken_8 : decode cX7_taken 8 = .ok (.ifCond .ne 6, 3) := by decide +kernel
theorem dX7_taken_11 : decode cX7_taken 11 = .ok (.bipush (-2), 2) := by decide +kernel
theorem dX7_taken_13 : decode cX7_taken 13 = .ok (.ireturn, 1) := by decide +kernel
theorem dX7_taken_14 : decode cX7_taken 14 = .ok (.aload_n 0, 1) := by decide +kernel
theorem dX7_taken_15 : decode cX7_taken 15 = .ok (.iload_n 1, 1) := by decide +kernel
theorem dX7_taken_16 : decode cX7_taken 16 = .ok (.invokevirtual 219, 3) := by decide +kernel
theorem dX7_taken_19 : decode cX7_taken 19 = .ok (.ifCond .ne 6, 3) := by decide +kernel
theorem dX7_taken_22 : decode cX7_taken 22 = .ok (.bipush (-11), 2) := by decide +kernel
theorem dX7_taken_24 : decode cX7_taken 24 = .ok (.ireturn, 1) := by decide +kernel
theorem dX7_taken_25 : decode cX7_taken 25 = .ok (.aload_n 0, 1) := by decide +kernel
theorem dX7_taken_26 : decode cX7_taken 26 = .ok (.getfield 23, 3) := by decide +kernel
theorem dX7_taken_29 : decode cX7_taken 29 = .ok (.iload_n 1, 1) := by decide +kernel
theorem dX7_taken_30 : decode cX7_taken 30 = .ok (.iaload, 1) := by decide +kernel
theorem dX7_taken_31 : decode cX7_taken 31 = .ok (.istore_n 3, 1) := by decide +kernel
theorem dX7_taken_32 : decode cX7_taken 32 = .ok (.iload_n 2, 1) := by decide +kernel
theorem dX7_taken_33 : decode cX7_taken 33 = .ok (.ifCond .eq 39, 3) := by decide +kernel
theorem dX7_taken_36 : decode cX7_taken 36 = .ok (.iload_n 3, 1) := by decide +kernel
theorem dX7_taken_37 : decode cX7_taken 37 = .ok (.iload_n 2, 1) := by decide +kernel
theorem dX7_taken_38 : decode cX7_taken 38 = .ok (.if_icmp .eq 34, 3) := by decide +kernel
theorem dX7_taken_41 : decode cX7_taken 41 = .ok (.iload_n 2, 1) := by decide +kernel
theorem dX7_taken_42 : decode cX7_taken 42 = .ok (.iconst 1, 1) := by decide +kernel
theorem dX7_taken_43 : decode cX7_taken 43 = .ok (.if_icmp .ne 8, 3) := by decide +kernel
theorem dX7_taken_46 : decode cX7_taken 46 = .ok (.iload_n 3, 1) := by decide +kernel
theorem dX7_taken_47 : decode cX7_taken 47 = .ok (.iconst 4, 1) := by decide +kernel
theorem dX7_taken_48 : decode cX7_taken 48 = .ok (.if_icmp .eq 24, 3) := by decide +kernel
theorem dX7_taken_51 : decode cX7_taken 51 = .ok (.iload_n 2, 1) := by decide +kernel
theorem dX7_taken_52 : decode cX7_taken 52 = .ok (.iconst 2, 1) := by decide +kernel
theorem dX7_taken_53 : decode cX7_taken 53 = .ok (.if_icmp .ne 8, 3) := by decide +kernel
theorem dX7_taken_56 : decode cX7_taken 56 = .ok (.iload_n 3, 1) := by decide +kernel
theorem dX7_taken_57 : decode cX7_taken 57 = .ok (.iconst 5, 1) := by decide +kernel
theorem dX7_taken_58 : decode cX7_taken 58 = .ok (.if_icmp .eq 14, 3) := by decide +kernel
theorem dX7_taken_61 : decode cX7_taken 61 = .ok (.iload_n 2, 1) := by decide +kernel
theorem dX7_taken_62 : decode cX7_taken 62 = .ok (.iconst 3, 1) := by decide +kernel
theorem dX7_taken_63 : decode cX7_taken 63 = .ok (.if_icmp .ne 13, 3) := by decide +kernel
theorem dX7_taken_66 : decode cX7_taken 66 = .ok (.iload_n 3, 1) := by decide +kernel
theorem dX7_taken_67 : decode cX7_taken 67 = .ok (.bipush 6, 2) := by decide +kernel
theorem dX7_taken_69 : decode cX7_taken 69 = .ok (.if_icmp .ne 7, 3) := by decide +kernel
theorem dX7_taken_72 : decode cX7_taken 72 = .ok (.iload_n 3, 1) := by decide +kernel
theorem dX7_taken_73 : decode cX7_taken 73 = .ok (.goto 5, 3) := by decide +kernel
theorem dX7_taken_76 : decode cX7_taken 76 = .ok (.bipush (-12), 2) := by decide +kernel
theorem dX7_taken_78 : decode cX7_taken 78 = .ok (.ireturn, 1) := by decide +kernel
def fX7_taken_b61 (sh : SH) (I : IH) (this : Nat) (v2 : Int32) (v3 : Int32) : Option (Int32) :=
  if v2 = 3 then (
    if v3 = 6 then (
      some v3) else
    some (-12)) else
  some (-12)
def fX7_taken_b51 (sh : SH) (I : IH) (this : Nat) (v2 : Int32) (v3 : Int32) : Option (Int32) :=
  if v2 = 2 then (
    if v3 = 5 then (
      some v3) else
    fX7_taken_b61 sh I this v2 v3) else
  fX7_taken_b61 sh I this v2 v3
def fX7_taken (sh : SH) (I : IH) (this : Nat) (v1 : Int32) (v2 : Int32) : Option (Int32) :=
  if (fX7_in v2 0 6) = 0 then (
    some (-2)) else
  if (fX7_isGate v1) = 0 then (
    some (-11)) else
  (gR sh 7 this 4).bind fun x1 =>
  (aI sh I 0 x1 v1).bind fun x2 =>
  if v2 = 0 then (
    some x2) else
  if x2 = v2 then (
    some x2) else
  if v2 = 1 then (
    if x2 = 4 then (
      some x2) else
    fX7_taken_b51 sh I this v2 x2) else
  fX7_taken_b51 sh I this v2 x2
set_option maxHeartbeats 4000000 in
set_option maxRecDepth 20000 in
theorem jbX7_taken_61 (G : GT) {X : XT} {sh : SH} {I : IH} {L : LH} {n : Nat} {r : Int32}  {this : Nat}  {v2 : Int32} {v3 : Int32} (F : MF G X RX7 cX7_taken 4 2 (some .int) "taken") (hth : isO sh 7 this) (h : fX7_taken_b61 sh I this v2 v3 = some r) : J G X (QE G X (some (.int r)) sh I L n) 4 sh I L n 0 0 61 [(0, .ref this), (2, .int v2), (3, .int v3)] [] := by
  unfold fX7_taken_b61 at h
  refine j_iload_n (pc := 61) (k0 := 2) F 1 rfl dX7_taken_61 ?_
  refine j_iconst (pc := 62) F 3 dX7_taken_62 (by decide) ?_
  refine j_icmp_ne (pc := 63) F 76 dX7_taken_63 rfl (fun c => ?_) (fun c => ?_)
  · have h := iz_f c h
    refine j_bipush (pc := 76) F (-12) dX7_taken_76 (by decide) ?_
    have g1 := Option.some.inj h
    subst g1
    exact j_iret (pc := 78) F dX7_taken_78
  · have h := iz_t c h
    refine j_iload_n (pc := 66) (k0 := 3) F 2 rfl dX7_taken_66 ?_
    refine j_bipush (pc := 67) F 6 dX7_taken_67 (by decide) ?_
    refine j_icmp_ne (pc := 69) F 76 dX7_taken_69 rfl (fun c => ?_) (fun c => ?_)
    · have h := iz_f c h
      refine j_bipush (pc := 76) F (-12) dX7_taken_76 (by decide) ?_
      have g1 := Option.some.inj h
      subst g1
      exact j_iret (pc := 78) F dX7_taken_78
    · have h := iz_t c h
      refine j_iload_n (pc := 72) (k0 := 3) F 2 rfl dX7_taken_72 ?_
      refine j_goto (pc := 73) F 78 dX7_taken_73 rfl ?_
      have g1 := Option.some.inj h
      subst g1
      exact j_iret (pc := 78) F dX7_taken_78
set_option maxHeartbeats 4000000 in
set_option maxRecDepth 20000 in
theorem jbX7_taken_51 (G : GT) {X : XT} {sh : SH} {I : IH} {L : LH} {n : Nat} {r : Int32}  {this : Nat}  {v2 : Int32} {v3 : Int32} (F : MF G X RX7 cX7_taken 4 2 (some .int) "taken") (hth : isO sh 7 this) (h : fX7_taken_b51 sh I this v2 v3 = some r) : J G X (QE G X (some (.int r)) sh I L n) 4 sh I L n 0 0 51 [(0, .ref this), (2, .int v2), (3, .int v3)] [] := by
  unfold fX7_taken_b51 at h
  refine j_iload_n (pc := 51) (k0 := 2) F 1 rfl dX7_taken_51 ?_
  refine j_iconst (pc := 52) F 2 dX7_taken_52 (by decide) ?_
  refine j_icmp_ne (pc := 53) F 61 dX7_taken_53 rfl (fun c => ?_) (fun c => ?_)
  · have h := iz_f c h
    exact jbX7_taken_61 G F hth h
  · have h := iz_t c h
    refine j_iload_n (pc := 56) (k0 := 3) F 2 rfl dX7_taken_56 ?_
    refine j_iconst (pc := 57) F 5 dX7_taken_57 (by decide) ?_
    refine j_icmp_eq (pc := 58) F 72 dX7_taken_58 rfl (fun c => ?_) (fun c => ?_)
    · have h := iz_t c h
      refine j_iload_n (pc := 72) (k0 := 3) F 2 rfl dX7_taken_72 ?_
      refine j_goto (pc := 73) F 78 dX7_taken_73 rfl ?_
      have g1 := Option.some.inj h
      subst g1
      exact j_iret (pc := 78) F dX7_taken_78
    · have h := iz_f c h
      exact jbX7_taken_61 G F hth h
set_option maxHeartbeats 4000000 in
set_option maxRecDepth 20000 in
theorem jbX7_taken_0 (G : GT) {X : XT} {sh : SH} {I : IH} {L : LH} {n : Nat} {r : Int32}  {this : Nat}  {v1 : Int32} {v2 : Int32} (F : MF G X RX7 cX7_taken 4 2 (some .int) "taken") (hth : isO sh 7 this) (h : fX7_taken sh I this v1 v2 = some r) : J G X (QE G X (some (.int r)) sh I L n) 4 sh I L n 0 0 0 [(0, .ref this), (1, .int v1), (2, .int v2)] [] := by
  unfold fX7_taken at h
  refine j_aload_n (pc := 0) (k0 := 0) F 0 rfl dX7_taken_0 ?_
  refine j_iload_n (pc := 1) (k0 := 2) F 2 rfl dX7_taken_1 ?_
  refine j_iconst (pc := 2) F 0 dX7_taken_2 (by decide) ?_
  refine j_bipush (pc := 3) F 6 dX7_taken_3 (by decide) ?_
  refine j_callV1 (pc := 5) (ci := 7) (As := [.int v2, .int 0, .int 6]) (st := []) (e1 := 0) (es1 := 0) F clX7_215 cwX7_in rfl hth (ctX7_in G) rfl rfl rfl rfl rfl rfl dX7_taken_5 ?_
  refine j_if_ne (pc := 8) F 14 dX7_taken_8 rfl (fun c => ?_) (fun c => ?_)
  · have h := iz_f c h
    refine j_aload_n (pc := 14) (k0 := 0) F 0 rfl dX7_taken_14 ?_
    refine j_iload_n (pc := 15) (k0 := 1) F 1 rfl dX7_taken_15 ?_
    refine j_callV1 (pc := 16) (ci := 7) (As := [.int v1]) (st := []) (e1 := 0) (es1 := 0) F clX7_219 cwX7_isGate rfl hth (ctX7_isGate G hth) rfl rfl rfl rfl rfl rfl dX7_taken_16 ?_
    refine j_if_ne (pc := 19) F 25 dX7_taken_19 rfl (fun c => ?_) (fun c => ?_)
    · have h := iz_f c h
      refine j_aload_n (pc := 25) (k0 := 0) F 0 rfl dX7_taken_25 ?_
      obtain ⟨x1, hx1, h⟩ := ob h
      refine j_getR (pc := 26) F flX7_23 hx1 dX7_taken_26 ?_
      refine j_iload_n (pc := 29) (k0 := 1) F 1 rfl dX7_taken_29 ?_
      obtain ⟨x2, hx2, h⟩ := ob h
      refine j_iald (pc := 30) F hx2 dX7_taken_30 ?_
      refine j_istore_n (pc := 31) (k1 := 3) (ls' := [(3, .int x2), (0, .ref this), (1, .int v1), (2, .int v2)]) F rfl rfl rfl dX7_taken_31 ?_
      refine j_iload_n (pc := 32) (k0 := 2) F 3 rfl dX7_taken_32 ?_
      refine j_if_eq (pc := 33) F 72 dX7_taken_33 rfl (fun c => ?_) (fun c => ?_)
      · have h := iz_t c h
        refine j_iload_n (pc := 72) (k0 := 3) F 0 rfl dX7_taken_72 ?_
        refine j_goto (pc := 73) F 78 dX7_taken_73 rfl ?_
        have g1 := Option.some.inj h
        subst g1
        exact j_iret (pc := 78) F dX7_taken_78
      · have h := iz_f c h
        refine j_iload_n (pc := 36) (k0 := 3) F 0 rfl dX7_taken_36 ?_
        refine j_iload_n (pc := 37) (k0 := 2) F 3 rfl dX7_taken_37 ?_
        refine j_icmp_eq (pc := 38) F 72 dX7_taken_38 rfl (fun c => ?_) (fun c => ?_)
        · have h := iz_t c h
          refine j_iload_n (pc := 72) (k0 := 3) F 0 rfl dX7_taken_72 ?_
          refine j_goto (pc := 73) F 78 dX7_taken_73 rfl ?_
          have g1 := Option.some.inj h
          subst g1
          exact j_iret (pc := 78) F dX7_taken_78
        · have h := iz_f c h
          refine j_iload_n (pc := 41) (k0 := 2) F 3 rfl dX7_taken_41 ?_
          refine j_iconst (pc := 42) F 1 dX7_taken_42 (by decide) ?_
          refine j_icmp_ne (pc := 43) F 51 dX7_taken_43 rfl (fun c => ?_) (fun c => ?_)
          · have h := iz_f c h
            refine j_sub [1, 3, 0] rfl ?_
            exact jbX7_taken_51 G F hth h
          · have h := iz_t c h
            refine j_iload_n (pc := 46) (k0 := 3) F 0 rfl dX7_taken_46 ?_
            refine j_iconst (pc := 47) F 4 dX7_taken_47 (by decide) ?_
            refine j_icmp_eq (pc := 48) F 72 dX7_taken_48 rfl (fun c => ?_) (fun c => ?_)
            · have h := iz_t c h
              refine j_iload_n (pc := 72) (k0 := 3) F 0 rfl dX7_taken_72 ?_
              refine j_goto (pc := 73) F 78 dX7_taken_73 rfl ?_
              have g1 := Option.some.inj h
              subst g1
              exact j_iret (pc := 78) F dX7_taken_78
            · have h := iz_f c h
              refine j_sub [1, 3, 0] rfl ?_
              exact jbX7_taken_51 G F hth h
    · have h := iz_t c h
      refine j_bipush (pc := 22) F (-11) dX7_taken_22 (by decide) ?_
      have g1 := Option.some.inj h
      subst g1
      exact j_iret (pc := 24) F dX7_taken_24
  · have h := iz_t c h
    refine j_bipush (pc := 11) F (-2) dX7_taken_11 (by decide) ?_
    have g1 := Option.some.inj h
    subst g1
    exact j_iret (pc := 13) F dX7_taken_13
theorem ctX7_taken (G : GT) {sh : SH} {I : IH} {L : LH} {n : Nat} {this : Nat} {v1 : Int32} {v2 : Int32} {r : Int32}  (hth : isO sh 7 this) (h : fX7_taken sh I this v1 v2 = some r) : Ct G yX7_taken cX7_taken 4 (some .int) 2 [.ref this, .int v1, .int v2] sh I L n (some (.int r)) sh I L n 0 0 := by
  refine ct_of (y := yX7_taken) (by decide +kernel) rfl (fun X F => ?_)
  exact jbX7_taken_0 G F hth h
theorem dX7_count_0 : decode cX7_count 0 = .ok (.iload_n 1, 1) := by decide +kernel
theorem dX7_count_1 : decode cX7_count 1 = .ok (.tableswitch 69 0 5 #[39, 44, 49, 54, 59, 64], 39) := by decide +kernel
theorem dX7_count_40 : decode cX7_count 40 = .ok (.aload_n 0, 1) := by decide +kernel
theorem dX7_count_41 : decode cX7_count 41 = .ok (.getfield 7, 3) := by decide +kernel
theorem dX7_count_44 : decode cX7_count 44 = .ok (.ireturn, 1) := by decide +kernel
theorem dX7_count_45 : decode cX7_count 45 = .ok (.aload_n 0, 1) := by decide +kernel
theorem dX7_count_46 : decode cX7_count 46 = .ok (.getfield 129, 3) := by decide +kernel
theorem dX7_count_49 : decode cX7_count 49 = .ok (.ireturn, 1) := by decide +kernel
theorem dX7_count_50 : decode cX7_count 50 = .ok (.aload_n 0, 1) := by decide +kernel
theorem dX7_count_51 : decode cX7_count 51 = .ok (.getfield 32, 3) := by decide +kernel
theorem dX7_count_54 : decode cX7_count 54 = .ok (.ireturn, 1) := by decide +kernel
theorem dX7_count_55 : decode cX7_count 55 = .ok (.aload_n 0, 1) := by decide +kernel
theorem dX7_count_56 : decode cX7_count 56 = .ok (.getfield 87, 3) := by decide +kernel
theorem dX7_count_59 : decode cX7_count 59 = .ok (.ireturn, 1) := by decide +kernel
theorem dX7_count_60 : decode cX7_count 60 = .ok (.aload_n 0, 1) := by decide +kernel
theorem dX7_count_61 : decode cX7_count 61 = .ok (.getfield 38, 3) := by decide +kernel
theorem dX7_count_64 : decode cX7_count 64 = .ok (.ireturn, 1) := by decide +kernel
theorem dX7_count_65 : decode cX7_count 65 = .ok (.aload_n 0, 1) := by decide +kernel
theorem dX7_count_66 : decode cX7_count 66 = .ok (.getfield 196, 3) := by decide +kernel
theorem dX7_count_69 : decode cX7_count 69 = .ok (.ireturn, 1) := by decide +kernel
theorem dX7_count_70 : decode cX7_count 70 = .ok (.bipush (-2), 2) := by decide +kernel
theorem dX7_count_72 : decode cX7_count 72 = .ok (.ireturn, 1) := by decide +kernel
def fX7_count (sh : SH) (I : IH) (this : Nat) (v1 : Int32) : Option (Int32) :=
  if v1 = 0 then (
    (gI sh I 7 this 0).bind fun x1 =>
    some x1) else
  if v1 = 1 then (
    (gI sh I 7 this 39).bind fun x2 =>
    some x2) else
  if v1 = 2 then (
    (gI sh I 7 this 7).bind fun x3 =>
    some x3) else
  if v1 = 3 then (
    (gI sh I 7 this 25).bind fun x4 =>
    some x4) else
  if v1 = 4 then (
    (gI sh I 7 this 9).bind fun x5 =>
    some x5) else
  if v1 = 5 then (
    (gI sh I 7 this 61).bind fun x6 =>
    some x6) else
  some (-2)
set_option maxHeartbeats 4000000 in
set_option maxRecDepth 20000 in
theorem jbX7_count_0 (G : GT) {X : XT} {sh : SH} {I : IH} {L : LH} {n : Nat} {r : Int32}  {this : Nat}  {v1 : Int32} (F : MF G X RX7 cX7_count 2 0 (some .int) "count") (h : fX7_count sh I this v1 = some r) : J G X (QE G X (some (.int r)) sh I L n) 2 sh I L n 0 0 0 [(0, .ref this), (1, .int v1)] [] := by
  unfold fX7_count at h
  refine j_iload_n (pc := 0) (k0 := 1) F 1 rfl dX7_count_0 ?_
  by_cases c1 : v1 = 0
  · have h := iz_t c1 h
    refine j_tabIn (pc := 1) (k0 := 0) F 40 c1 dX7_count_1 (by decide) rfl rfl ?_
    refine j_aload_n (pc := 40) (k0 := 0) F 0 rfl dX7_count_40 ?_
    obtain ⟨x1, hx1, h⟩ := ob h
    refine j_getI (pc := 41) F flX7_7 hx1 dX7_count_41 ?_
    have g1 := Option.some.inj h
    subst g1
    exact j_iret (pc := 44) F dX7_count_44
  have h := iz_f c1 h
  by_cases c2 : v1 = 1
  · have h := iz_t c2 h
    refine j_tabIn (pc := 1) (k0 := 1) F 45 c2 dX7_count_1 (by decide) rfl rfl ?_
    refine j_aload_n (pc := 45) (k0 := 0) F 0 rfl dX7_count_45 ?_
    obtain ⟨x2, hx2, h⟩ := ob h
    refine j_getI (pc := 46) F flX7_129 hx2 dX7_count_46 ?_
    have g1 := Option.some.inj h
    subst g1
    exact j_iret (pc := 49) F dX7_count_49
  have h := iz_f c2 h
  by_cases c3 : v1 = 2
  · have h := iz_t c3 h
    refine j_tabIn (pc := 1) (k0 := 2) F 50 c3 dX7_count_1 (by decide) rfl rfl ?_
    refine j_aload_n (pc := 50) (k0 := 0) F 0 rfl dX7_count_50 ?_
    obtain ⟨x3, hx3, h⟩ := ob h
    refine j_getI (pc := 51) F flX7_32 hx3 dX7_count_51 ?_
    have g1 := Option.some.inj h
    subst g1
    exact j_iret (pc := 54) F dX7_count_54
  have h := iz_f c3 h
  by_cases c4 : v1 = 3
  · have h := iz_t c4 h
    refine j_tabIn (pc := 1) (k0 := 3) F 55 c4 dX7_count_1 (by decide) rfl rfl ?_
    refine j_aload_n (pc := 55) (k0 := 0) F 0 rfl dX7_count_55 ?_
    obtain ⟨x4, hx4, h⟩ := ob h
    refine j_getI (pc := 56) F flX7_87 hx4 dX7_count_56 ?_
    have g1 := Option.some.inj h
    subst g1
    exact j_iret (pc := 59) F dX7_count_59
  have h := iz_f c4 h
  by_cases c5 : v1 = 4
  · have h := iz_t c5 h
    refine j_tabIn (pc := 1) (k0 := 4) F 60 c5 dX7_count_1 (by decide) rfl rfl ?_
    refine j_aload_n (pc := 60) (k0 := 0) F 0 rfl dX7_count_60 ?_
    obtain ⟨x5, hx5, h⟩ := ob h
    refine j_getI (pc := 61) F flX7_38 hx5 dX7_count_61 ?_
    have g1 := Option.some.inj h
    subst g1
    exact j_iret (pc := 64) F dX7_count_64
  have h := iz_f c5 h
  by_cases c6 : v1 = 5
  · have h := iz_t c6 h
    refine j_tabIn (pc := 1) (k0 := 5) F 65 c6 dX7_count_1 (by decide) rfl rfl ?_
    refine j_aload_n (pc := 65) (k0 := 0) F 0 rfl dX7_count_65 ?_
    obtain ⟨x6, hx6, h⟩ := ob h
    refine j_getI (pc := 66) F flX7_196 hx6 dX7_count_66 ?_
    have g1 := Option.some.inj h
    subst g1
    exact j_iret (pc := 69) F dX7_count_69
  have h := iz_f c6 h
  have tc1 := lv_neT (a := 0) c1 (by decide)
  have tc2 := lv_neT (a := 1) c2 (by decide)
  have tc3 := lv_neT (a := 2) c3 (by decide)
  have tc4 := lv_neT (a := 3) c4 (by decide)
  have tc5 := lv_neT (a := 4) c5 (by decide)
  have tc6 := lv_neT (a := 5) c6 (by decide)
  refine j_tabOut (pc := 1) F 70 dX7_count_1 (by omega) rfl ?_
  refine j_bipush (pc := 70) F (-2) dX7_count_70 (by decide) ?_
  have g1 := Option.some.inj h
  subst g1
  exact j_iret (pc := 72) F dX7_count_72
theorem ctX7_count (G : GT) {sh : SH} {I : IH} {L : LH} {n : Nat} {this : Nat} {v1 : Int32} {r : Int32}  (h : fX7_count sh I this v1 = some r) : Ct G yX7_count cX7_count 2 (some .int) 0 [.ref this, .int v1] sh I L n (some (.int r)) sh I L n 0 0 := by
  refine ct_of (y := yX7_count) (by decide +kernel) rfl (fun X F => ?_)
  exact jbX7_count_0 G F h
theorem dX7_tape_0 : decode cX7_tape 0 = .ok (.aload_n 0, 1) := by decide +kernel
theorem dX7_tape_1 : decode cX7_tape 1 = .ok (.iload_n 1, 1) := by decide +kernel
theorem dX7_tape_2 : decode cX7_tape 2 = .ok (.invokevirtual 347, 3) := by decide +kernel
theorem dX7_tape_5 : decode cX7_tape 5 = .ok (.ifCond .ne 5, 3) := by decide +kernel
theorem dX7_tape_8 : decode cX7_tape 8 = .ok (.iconst (-1), 1) := by decide +kernel
theorem dX7_tape_9 : decode cX7_tape 9 = .ok (.ireturn, 1) := by decide +kernel
theorem dX7_tape_10 : decode cX7_tape 10 = .ok (.aload_n 0, 1) := by decide +kernel
theorem dX7_tape_11 : decode cX7_tape 11 = .ok (.iload_n 2, 1) := by decide +kernel
theorem dX7_tape_12 : decode cX7_tape 12 = .ok (.iconst (-1), 1) := by decide +kernel
theorem dX7_tape_13 : decode cX7_tape 13 = .ok (.iconst 4, 1) := by decide +kernel
theorem dX7_tape_14 : decode cX7_tape 14 = .ok (.invokevirtual 215, 3) := by decide +kernel
theorem dX7_tape_17 : decode cX7_tape 17 = .ok (.ifCond .eq 13, 3) := by decide +kernel
theorem dX7_tape_20 : decode cX7_tape 20 = .ok (.iload_n 2, 1) := by decide +kernel
theorem dX7_tape_21 : decode cX7_tape 21 = .ok (.ifCond .lt 12, 3) := by decide +kernel
theorem dX7_tape_24 : decode cX7_tape 24 = .ok (.iload_n 3, 1) := by decide +kernel
theorem dX7_tape_25 : decode cX7_tape 25 = .ok (.bipush 60, 2) := by decide +kernel
theorem dX7_tape_27 : decode cX7_tape 27 = .ok (.if_icmp .le 6, 3) := by decide +kernel
theorem dX7_tape_30 : decode cX7_tape 30 = .ok (.bipush (-2), 2) := by decide +kernel
theorem dX7_tape_32 : decode cX7_tape 32 = .ok (.ireturn, 1) := by decide +kernel
theorem dX7_tape_33 : decode cX7_tape 33 = .ok (.iload_n 2, 1) := by decide +kernel
theorem dX7_tape_34 : decode cX7_tape 34 = .ok (.ifCond .lt 10, 3) := by decide +kernel
theorem dX7_tape_37 : decode cX7_tape 37 = .ok (.iload_n 3, 1) := by decide +kernel
theorem dX7_tape_38 : decode cX7_tape 38 = .ok (.ifCond .ge 6, 3) := by decide +kernel
theorem dX7_tape_41 : decode cX7_tape 41 = .ok (.bipush (-14), 2) := by decide +kernel
theorem dX7_tape_43 : decode cX7_tape 43 = .ok (.ireturn, 1) := by decide +kernel
theorem dX7_tape_44 : decode cX7_tape 44 = .ok (.aload_n 0, 1) := by decide +kernel
theorem dX7_tape_45 : decode cX7_tape 45 = .ok (.getfield 202, 3) := by decide +kernel
theorem dX7_tape_48 : decode cX7_tape 48 = .ok (.iload_n 1, 1) := by decide +kernel
theorem dX7_tape_49 : decode cX7_tape 49 = .ok (.iload_n 2, 1) := by decide +kernel
theorem dX7_tape_50 : decode cX7_tape 50 = .ok (.iastore, 1) := by decide +kernel
theorem dX7_tape_51 : decode cX7_tape 51 = .ok (.aload_n 0, 1) := by decide +kernel
theorem dX7_tape_52 : decode cX7_tape 52 = .ok (.getfield 205, 3) := by decide +kernel
theorem dX7_tape_55 : decode cX7_tape 55 = .ok (.iload_n 1, 1) := by decide +kernel
theorem dX7_tape_56 : decode cX7_tape 56 = .ok (.iload_n 2, 1) := by decide +kernel
theorem dX7_tape_57 : decode cX7_tape 57 = .ok (.ifCond .ge 7, 3) := by decide +kernel
theorem dX7_tape_60 : decode cX7_tape 60 = .ok (.iconst 0, 1) := by decide +kernel
theorem dX7_tape_61 : decode cX7_tape 61 = .ok (.goto 4, 3) := by decide +kernel
theorem dX7_tape_64 : decode cX7_tape 64 = .ok (.iload_n 3, 1) := by decide +kernel
theorem dX7_tape_65 : decode cX7_tape 65 = .ok (.iastore, 1) := by decide +kernel
theorem dX7_tape_66 : decode cX7_tape 66 = .ok (.iconst 0, 1) := by decide +kernel
theorem dX7_tape_67 : decode cX7_tape 67 = .ok (.istore 4, 2) := by decide +kernel
theorem dX7_tape_69 : decode cX7_tape 69 = .ok (.iload 4, 2) := by decide +kernel
theorem dX7_tape_71 : decode cX7_tape 71 = .ok (.bipush 60, 2) := by decide +kernel
theorem dX7_tape_73 : decode cX7_tape 73 = .ok (.if_icmp .ge 22, 3) := by decide +kernel
theorem dX7_tape_76 : decode cX7_tape 76 = .ok (.aload_n 0, 1) := by decide +kernel
theorem dX7_tape_77 : decode cX7_tape 77 = .ok (.getfield 208, 3) := by decide +kernel
theorem dX7_tape_80 : decode cX7_tape 80 = .ok (.bipush 60, 2) := by decide +kernel
theorem dX7_tape_82 : decode cX7_tape 82 = .ok (.iload_n 1, 1) := by decide +kernel
theorem dX7_tape_83 : decode cX7_tape 83 = .ok (.imul, 1) := by decide +kernel
theorem dX7_tape_84 : decode cX7_tape 84 = .ok (.iload 4, 2) := by decide +kernel
theorem dX7_tape_86 : decode cX7_tape 86 = .ok (.iadd, 1) := by decide +kernel
theorem dX7_tape_87 : decode cX7_tape 87 = .ok (.lconst 0, 1) := by decide +kernel
theorem dX7_tape_88 : decode cX7_tape 88 = .ok (.lastore, 1) := by decide +kernel
theorem dX7_tape_89 : decode cX7_tape 89 = .ok (.iinc 4 1, 3) := by decide +kernel
theorem dX7_tape_92 : decode cX7_tape 92 = .ok (.goto (-23), 3) := by decide +kernel
theorem dX7_tape_95 : decode cX7_tape 95 = .ok (.iconst 1, 1) := by decide +kernel
theorem dX7_tape_96 : decode cX7_tape 96 = .ok (.ireturn, 1) := by decide +kernel
def fX7_tape_b69 (sh : SH) (this : Nat) : Nat → Int32 → Int32 → IH → LH → Option (Int32 × IH × LH)
  | 0, _, _, _, _ => none
  | fuel + 1, v1, v4, I, L =>
    if 60 ≤ v4 then (
      some (1, I, L)) else
    (gR sh 7 this 65).bind fun x1 =>
    (sJ sh L x1 ((60 * v1) + v4) 0).bind fun l2 =>
    fX7_tape_b69 sh this fuel v1 (v4 + 1) I l2
def fX7_tape_b44 (sh : SH) (this : Nat) (v1 : Int32) (v2 : Int32) (v3 : Int32) (I : IH) (L : LH) : Option (Int32 × IH × LH) :=
  (gR sh 7 this 63).bind fun x1 =>
  (sI sh I x1 v1 v2).bind fun i2 =>
  (gR sh 7 this 64).bind fun x3 =>
  if 0 ≤ v2 then (
    (sI sh i2 x3 v1 v3).bind fun i4 =>
    fX7_tape_b69 sh this 1000 v1 0 i4 L) else
  (sI sh i2 x3 v1 0).bind fun i5 =>
  fX7_tape_b69 sh this 1000 v1 0 i5 L
def fX7_tape_b33 (sh : SH) (this : Nat) (v1 : Int32) (v2 : Int32) (v3 : Int32) (I : IH) (L : LH) : Option (Int32 × IH × LH) :=
  if v2 < 0 then (
    fX7_tape_b44 sh this v1 v2 v3 I L) else
  if 0 ≤ v3 then (
    fX7_tape_b44 sh this v1 v2 v3 I L) else
  some ((-14), I, L)
def fX7_tape (sh : SH) (this : Nat) (v1 : Int32) (v2 : Int32) (v3 : Int32) (I : IH) (L : LH) : Option (Int32 × IH × LH) :=
  if (fX7_isTape v1) = 0 then (
    some ((-1), I, L)) else
  if (fX7_in v2 (-1) 4) = 0 then (
    some ((-2), I, L)) else
  if v2 < 0 then (
    fX7_tape_b33 sh this v1 v2 v3 I L) else
  if v3 ≤ 60 then (
    fX7_tape_b33 sh this v1 v2 v3 I L) else
  some ((-2), I, L)
set_option maxHeartbeats 4000000 in
set_option maxRecDepth 20000 in
theorem jbX7_tape_69 (G : GT) {X : XT} {sh : SH} {n : Nat} {r : Int32} {I' : IH} {L' : LH}  {this : Nat}  (F : MF G X RX7 cX7_tape 5 2 (some .int) "tape") (hth : isO sh 7 this) : ∀ (fuel : Nat) (v1 : Int32) (v4 : Int32) (I : IH) (L : LH), fX7_tape_b69 sh this fuel v1 v4 I L = some (r, I', L') → J G X (QE G X (some (.int r)) sh I' L' n) 5 sh I L n 0 0 69 [(0, .ref this), (1, .int v1), (4, .int v4)] []
  | 0 => by
    intros
    rename_i h
    exact absurd (show none = some _ from h) (by intro z; cases z)
  | fuel + 1 => by
    intro v1 v4 I L h
    rw [fX7_tape_b69] at h
    refine j_iload (pc := 69) (k0 := 4) F 2 rfl dX7_tape_69 ?_
    refine j_bipush (pc := 71) F 60 dX7_tape_71 (by decide) ?_
    refine j_icmp_ge (pc := 73) F 95 dX7_tape_73 rfl (fun c => ?_) (fun c => ?_)
    · have h := iz_t c h
      refine j_iconst (pc := 95) F 1 dX7_tape_95 (by decide) ?_
      have g1 := Option.some.inj h
      obtain ⟨q3, g2⟩ := Prod.mk.inj g1
      obtain ⟨q4, g3⟩ := Prod.mk.inj g2
      subst q3
      subst q4
      subst g3
      exact j_iret (pc := 96) F dX7_tape_96
    · have h := iz_f c h
      refine j_aload_n (pc := 76) (k0 := 0) F 0 rfl dX7_tape_76 ?_
      obtain ⟨x1, hx1, h⟩ := ob h
      refine j_getR (pc := 77) F flX7_208 hx1 dX7_tape_77 ?_
      refine j_bipush (pc := 80) F 60 dX7_tape_80 (by decide) ?_
      refine j_iload_n (pc := 82) (k0 := 1) F 1 rfl dX7_tape_82 ?_
      refine j_imul (pc := 83) F dX7_tape_83 ?_
      refine j_iload (pc := 84) (k0 := 4) F 2 rfl dX7_tape_84 ?_
      refine j_iadd (pc := 86) F dX7_tape_86 ?_
      refine j_lconst (pc := 87) F 0 dX7_tape_87 (by decide) ?_
      obtain ⟨l2, hl2, h⟩ := ob h
      refine j_last (pc := 88) F hl2 dX7_tape_88 ?_
      refine j_iinc (pc := 89) (k1 := 4) (ls' := [(4, .int (v4 + 1)), (0, .ref this), (1, .int v1)]) F (v4 + 1) 2 rfl rfl rfl rfl dX7_tape_89 ?_
      refine j_goto (pc := 92) F 69 dX7_tape_92 rfl ?_
      refine j_sub [1, 2, 0] rfl ?_
      exact jbX7_tape_69 G F hth fuel _ _ _ _ h
set_option maxHeartbeats 4000000 in
set_option maxRecDepth 20000 in
theorem jbX7_tape_44 (G : GT) {X : XT} {sh : SH} {n : Nat} {r : Int32} {I' : IH} {L' : LH}  {this : Nat}  {v1 : Int32} {v2 : Int32} {v3 : Int32} {I : IH} {L : LH} (F : MF G X RX7 cX7_tape 5 2 (some .int) "tape") (hth : isO sh 7 this) (h : fX7_tape_b44 sh this v1 v2 v3 I L = some (r, I', L')) : J G X (QE G X (some (.int r)) sh I' L' n) 5 sh I L n 0 0 44 [(0, .ref this), (1, .int v1), (2, .int v2), (3, .int v3)] [] := by
  unfold fX7_tape_b44 at h
  refine j_aload_n (pc := 44) (k0 := 0) F 0 rfl dX7_tape_44 ?_
  obtain ⟨x1, hx1, h⟩ := ob h
  refine j_getR (pc := 45) F flX7_202 hx1 dX7_tape_45 ?_
  refine j_iload_n (pc := 48) (k0 := 1) F 1 rfl dX7_tape_48 ?_
  refine j_iload_n (pc := 49) (k0 := 2) F 2 rfl dX7_tape_49 ?_
  obtain ⟨i2, hi2, h⟩ := ob h
  refine j_iast (pc := 50) F hi2 dX7_tape_50 ?_
  refine j_aload_n (pc := 51) (k0 := 0) F 0 rfl dX7_tape_51 ?_
  obtain ⟨x3, hx3, h⟩ := ob h
  refine j_getR (pc := 52) F flX7_205 hx3 dX7_tape_52 ?_
  refine j_iload_n (pc := 55) (k0 := 1) F 1 rfl dX7_tape_55 ?_
  refine j_iload_n (pc := 56) (k0 := 2) F 2 rfl dX7_tape_56 ?_
  refine j_if_ge (pc := 57) F 64 dX7_tape_57 rfl (fun c => ?_) (fun c => ?_)
  · have h := iz_t c h
    refine j_iload_n (pc := 64) (k0 := 3) F 3 rfl dX7_tape_64 ?_
    obtain ⟨i4, hi4, h⟩ := ob h
    refine j_iast (pc := 65) F hi4 dX7_tape_65 ?_
    refine j_iconst (pc := 66) F 0 dX7_tape_66 (by decide) ?_
    refine j_istore (pc := 67) (k1 := 4) (ls' := [(4, .int 0), (0, .ref this), (1, .int v1), (2, .int v2), (3, .int v3)]) F rfl rfl dX7_tape_67 ?_
    refine j_sub [1, 2, 0] rfl ?_
    exact jbX7_tape_69 G F hth 1000 _ _ _ _ h
  · have h := iz_f c h
    refine j_iconst (pc := 60) F 0 dX7_tape_60 (by decide) ?_
    refine j_goto (pc := 61) F 65 dX7_tape_61 rfl ?_
    obtain ⟨i5, hi5, h⟩ := ob h
    refine j_iast (pc := 65) F hi5 dX7_tape_65 ?_
    refine j_iconst (pc := 66) F 0 dX7_tape_66 (by decide) ?_
    refine j_istore (pc := 67) (k1 := 4) (ls' := [(4, .int 0), (0, .ref this), (1, .int v1), (2, .int v2), (3, .int v3)]) F rfl rfl dX7_tape_67 ?_
    refine j_sub [1, 2, 0] rfl ?_
    exact jbX7_tape_69 G F hth 1000 _ _ _ _ h
set_option maxHeartbeats 4000000 in
set_option maxRecDepth 20000 in
theorem jbX7_tape_33 (G : GT) {X : XT} {sh : SH} {n : Nat} {r : Int32} {I' : IH} {L' : LH}  {this : Nat}  {v1 : Int32} {v2 : Int32} {v3 : Int32} {I : IH} {L : LH} (F : MF G X RX7 cX7_tape 5 2 (some .int) "tape") (hth : isO sh 7 this) (h : fX7_tape_b33 sh this v1 v2 v3 I L = some (r, I', L')) : J G X (QE G X (some (.int r)) sh I' L' n) 5 sh I L n 0 0 33 [(0, .ref this), (1, .int v1), (2, .int v2), (3, .int v3)] [] := by
  unfold fX7_tape_b33 at h
  refine j_iload_n (pc := 33) (k0 := 2) F 2 rfl dX7_tape_33 ?_
  refine j_if_lt (pc := 34) F 44 dX7_tape_34 rfl (fun c => ?_) (fun c => ?_)
  · have h := iz_t c h
    exact jbX7_tape_44 G F hth h
  · have h := iz_f c h
    refine j_iload_n (pc := 37) (k0 := 3) F 3 rfl dX7_tape_37 ?_
    refine j_if_ge (pc := 38) F 44 dX7_tape_38 rfl (fun c => ?_) (fun c => ?_)
    · have h := iz_t c h
      exact jbX7_tape_44 G F hth h
    · have h := iz_f c h
      refine j_bipush (pc := 41) F (-14) dX7_tape_41 (by decide) ?_
      have g1 := Option.some.inj h
      obtain ⟨q3, g2⟩ := Prod.mk.inj g1
      obtain ⟨q4, g3⟩ := Prod.mk.inj g2
      subst q3
      subst q4
      subst g3
      exact j_iret (pc := 43) F dX7_tape_43
set_option maxHeartbeats 4000000 in
set_option maxRecDepth 20000 in
theorem jbX7_tape_0 (G : GT) {X : XT} {sh : SH} {n : Nat} {r : Int32} {I' : IH} {L' : LH}  {this : Nat}  {v1 : Int32} {v2 : Int32} {v3 : Int32} {I : IH} {L : LH} (F : MF G X RX7 cX7_tape 5 2 (some .int) "tape") (hth : isO sh 7 this) (h : fX7_tape sh this v1 v2 v3 I L = some (r, I', L')) : J G X (QE G X (some (.int r)) sh I' L' n) 5 sh I L n 0 0 0 [(0, .ref this), (1, .int v1), (2, .int v2), (3, .int v3)] [] := by
  unfold fX7_tape at h
  refine j_aload_n (pc := 0) (k0 := 0) F 0 rfl dX7_tape_0 ?_
  refine j_iload_n (pc := 1) (k0 := 1) F 1 rfl dX7_tape_1 ?_
  refine j_callV1 (pc := 2) (ci := 7) (As := [.int v1]) (st := []) (e1 := 0) (es1 := 0) F clX7_347 cwX7_isTape rfl hth (ctX7_isTape G hth) rfl rfl rfl rfl rfl rfl dX7_tape_2 ?_
  refine j_if_ne (pc := 5) F 10 dX7_tape_5 rfl (fun c => ?_) (fun c => ?_)
  · have h := iz_f c h
    refine j_aload_n (pc := 10) (k0 := 0) F 0 rfl dX7_tape_10 ?_
    refine j_iload_n (pc := 11) (k0 := 2) F 2 rfl dX7_tape_11 ?_
    refine j_iconst (pc := 12) F (-1) dX7_tape_12 (by decide) ?_
    refine j_iconst (pc := 13) F 4 dX7_tape_13 (by decide) ?_
    refine j_callV1 (pc := 14) (ci := 7) (As := [.int v2, .int (-1), .int 4]) (st := []) (e1 := 0) (es1 := 0) F clX7_215 cwX7_in rfl hth (ctX7_in G) rfl rfl rfl rfl rfl rfl dX7_tape_14 ?_
    refine j_if_eq (pc := 17) F 30 dX7_tape_17 rfl (fun c => ?_) (fun c => ?_)
    · have h := iz_t c h
      refine j_bipush (pc := 30) F (-2) dX7_tape_30 (by decide) ?_
      have g1 := Option.some.inj h
      obtain ⟨q3, g2⟩ := Prod.mk.inj g1
      obtain ⟨q4, g3⟩ := Prod.mk.inj g2
      subst q3
      subst q4
      subst g3
      exact j_iret (pc := 32) F dX7_tape_32
    · have h := iz_f c h
      refine j_iload_n (pc := 20) (k0 := 2) F 2 rfl dX7_tape_20 ?_
      refine j_if_lt (pc := 21) F 33 dX7_tape_21 rfl (fun c => ?_) (fun c => ?_)
      · have h := iz_t c h
        exact jbX7_tape_33 G F hth h
      · have h := iz_f c h
        refine j_iload_n (pc := 24) (k0 := 3) F 3 rfl dX7_tape_24 ?_
        refine j_bipush (pc := 25) F 60 dX7_tape_25 (by decide) ?_
        refine j_icmp_le (pc := 27) F 33 dX7_tape_27 rfl (fun c => ?_) (fun c => ?_)
        · have h := iz_t c h
          exact jbX7_tape_33 G F hth h
        · have h := iz_f c h
          refine j_bipush (pc := 30) F (-2) dX7_tape_30 (by decide) ?_
          have g1 := Option.some.inj h
          obtain ⟨q3, g2⟩ := Prod.mk.inj g1
          obtain ⟨q4, g3⟩ := Prod.mk.inj g2
          subst q3
          subst q4
          subst g3
          exact j_iret (pc := 32) F dX7_tape_32
  · have h := iz_t c h
    refine j_iconst (pc := 8) F (-1) dX7_tape_8 (by decide) ?_
    have g1 := Option.some.inj h
    obtain ⟨q3, g2⟩ := Prod.mk.inj g1
    obtain ⟨q4, g3⟩ := Prod.mk.inj g2
    subst q3
    subst q4
    subst g3
    exact j_iret (pc := 9) F dX7_tape_9
theorem ctX7_tape (G : GT) {sh : SH} {I : IH} {L : LH} {n : Nat} {this : Nat} {v1 : Int32} {v2 : Int32} {v3 : Int32} {r : Int32} {I' : IH} {L' : LH}  (hth : isO sh 7 this) (h : fX7_tape sh this v1 v2 v3 I L = some (r, I', L')) : Ct G yX7_tape cX7_tape 5 (some .int) 2 [.ref this, .int v1, .int v2, .int v3] sh I L n (some (.int r)) sh I' L' n 0 0 := by
  refine ct_of (y := yX7_tape) (by decide +kernel) rfl (fun X F => ?_)
  exact jbX7_tape_0 G F hth h
theorem dX7_narrow_0 : decode cX7_narrow 0 = .ok (.iload_n 1, 1) := by decide +kernel
theorem dX7_narrow_1 : decode cX7_narrow 1 = .ok (.ifCond .ne 10, 3) := by decide +kernel
theorem dX7_narrow_4 : decode cX7_narrow 4 = .ok (.lload_n 2, 1) := by decide +kernel
theorem dX7_narrow_5 : decode cX7_narrow 5 = .ok (.l2i, 1) := by decide +kernel
theorem dX7_narrow_6 : decode cX7_narrow 6 = .ok (.i2b, 1) := by decide +kernel
theorem dX7_narrow_7 : decode cX7_narrow 7 = .ok (.i2l, 1) := by decide +kernel
theorem dX7_narrow_8 : decode cX7_narrow 8 = .ok (.goto 46, 3) := by decide +kernel
theorem dX7_narrow_11 : decode cX7_narrow 11 = .ok (.iload_n 1, 1) := by decide +kernel
theorem dX7_narrow_12 : decode cX7_narrow 12 = .ok (.iconst 1, 1) := by decide +kernel
theorem dX7_narrow_13 : decode cX7_narrow 13 = .ok (.if_icmp .ne 10, 3) := by decide +kernel
theorem dX7_narrow_16 : decode cX7_narrow 16 = .ok (.lload_n 2, 1) := by decide +kernel
theorem dX7_narrow_17 : decode cX7_narrow 17 = .ok (.l2i, 1) := by decide +kernel
theorem dX7_narrow_18 : decode cX7_narrow 18 = .ok (.i2s, 1) := by decide +kernel
theorem dX7_narrow_19 : decode cX7_narrow 19 = .ok (.i2l, 1) := by decide +kernel
theorem dX7_narrow_20 : decode cX7_narrow 20 = .ok (.goto 34, 3) := by decide +kernel
theorem dX7_narrow_23 : decode cX7_narrow 23 = .ok (.iload_n 1, 1) := by decide +kernel
theorem dX7_narrow_24 : decode cX7_narrow 24 = .ok (.iconst 2, 1) := by decide +kernel
theorem dX7_narrow_25 : decode cX7_narrow 25 = .ok (.if_icmp .ne 9, 3) := by decide +kernel
theorem dX7_narrow_28 : decode cX7_narrow 28 = .ok (.lload_n 2, 1) := by decide +kernel
theorem dX7_narrow_29 : decode cX7_narrow 29 = .ok (.l2i, 1) := by decide +kernel
theorem dX7_narrow_30 : decode cX7_narrow 30 = .ok (.i2l, 1) := by decide +kernel
theorem dX7_narrow_31 : decode cX7_narrow 31 = .ok (.goto 23, 3) := by decide +kernel
theorem dX7_narrow_34 : decode cX7_narrow 34 = .ok (.iload_n 1, 1) := by decide +kernel
theorem dX7_narrow_35 : decode cX7_narrow 35 = .ok (.iconst 4, 1) := by decide +kernel
theorem dX7_narrow_36 : decode cX7_narrow 36 = .ok (.if_icmp .ne 17, 3) := by decide +kernel
theorem dX7_narrow_39 : decode cX7_narrow 39 = .ok (.lload_n 2, 1) := by decide +kernel
theorem dX7_narrow_40 : decode cX7_narrow 40 = .ok (.lconst 0, 1) := by decide +kernel
theorem dX7_narrow_41 : decode cX7_narrow 41 = .ok (.lcmp, 1) := by decide +kernel
theorem dX7_narrow_42 : decode cX7_narrow 42 = .ok (.ifCond .eq 7, 3) := by decide +kernel
theorem dX7_narrow_45 : decode cX7_narrow 45 = .ok (.lconst 1, 1) := by decide +kernel
theorem dX7_narrow_46 : decode cX7_narrow 46 = .ok (.goto 8, 3) := by decide +kernel
theorem dX7_narrow_49 : decode cX7_narrow 49 = .ok (.lconst 0, 1) := by decide +kernel
theorem dX7_narrow_50 : decode cX7_narrow 50 = .ok (.goto 4, 3) := by decide +kernel
theorem dX7_narrow_53 : decode cX7_narrow 53 = .ok (.lload_n 2, 1) := by decide +kernel
theorem dX7_narrow_54 : decode cX7_narrow 54 = .ok (.lreturn, 1) := by decide +kernel
def fX7_narrow (v1 : Int32) (v2 : Int64) : Int64 :=
  if v1 = 0 then (
    v2.toInt32.toInt8.toInt32.toInt64) else
  if v1 = 1 then (
    v2.toInt32.toInt16.toInt32.toInt64) else
  if v1 = 2 then (
    v2.toInt32.toInt64) else
  if v1 = 4 then (
    if (lg_cmp v2 0) = 0 then (
      0) else
    1) else
  v2
set_option maxHeartbeats 4000000 in
set_option maxRecDepth 20000 in
theorem jbX7_narrow_0 (G : GT) {X : XT} {sh : SH} {I : IH} {L : LH} {n : Nat} {r : Int64}  {this : Nat}  {v1 : Int32} {v2 : Int64} (F : MF G X RX7 cX7_narrow 4 0 (some .long) "narrow") (h : fX7_narrow v1 v2 = r) : J G X (QE G X (some (.long r)) sh I L n) 4 sh I L n 0 0 0 [(0, .ref this), (1, .int v1), (2, .long v2)] [] := by
  unfold fX7_narrow at h
  refine j_iload_n (pc := 0) (k0 := 1) F 1 rfl dX7_narrow_0 ?_
  refine j_if_ne (pc := 1) F 11 dX7_narrow_1 rfl (fun c => ?_) (fun c => ?_)
  · have h := iz_f c h
    refine j_iload_n (pc := 11) (k0 := 1) F 1 rfl dX7_narrow_11 ?_
    refine j_iconst (pc := 12) F 1 dX7_narrow_12 (by decide) ?_
    refine j_icmp_ne (pc := 13) F 23 dX7_narrow_13 rfl (fun c => ?_) (fun c => ?_)
    · have h := iz_f c h
      refine j_iload_n (pc := 23) (k0 := 1) F 1 rfl dX7_narrow_23 ?_
      refine j_iconst (pc := 24) F 2 dX7_narrow_24 (by decide) ?_
      refine j_icmp_ne (pc := 25) F 34 dX7_narrow_25 rfl (fun c => ?_) (fun c => ?_)
      · have h := iz_f c h
        refine j_iload_n (pc := 34) (k0 := 1) F 1 rfl dX7_narrow_34 ?_
        refine j_iconst (pc := 35) F 4 dX7_narrow_35 (by decide) ?_
        refine j_icmp_ne (pc := 36) F 53 dX7_narrow_36 rfl (fun c => ?_) (fun c => ?_)
        · have h := iz_f c h
          refine j_lload_n (pc := 53) (k0 := 2) F 2 rfl dX7_narrow_53 ?_
          subst h
          exact j_lret (pc := 54) F dX7_narrow_54
        · have h := iz_t c h
          refine j_lload_n (pc := 39) (k0 := 2) F 2 rfl dX7_narrow_39 ?_
          refine j_lconst (pc := 40) F 0 dX7_narrow_40 (by decide) ?_
          refine j_lcmp (pc := 41) F dX7_narrow_41 ?_
          refine j_if_eq (pc := 42) F 49 dX7_narrow_42 rfl (fun c => ?_) (fun c => ?_)
          · have h := iz_t c h
            refine j_lconst (pc := 49) F 0 dX7_narrow_49 (by decide) ?_
            refine j_goto (pc := 50) F 54 dX7_narrow_50 rfl ?_
            subst h
            exact j_lret (pc := 54) F dX7_narrow_54
          · have h := iz_f c h
            refine j_lconst (pc := 45) F 1 dX7_narrow_45 (by decide) ?_
            refine j_goto (pc := 46) F 54 dX7_narrow_46 rfl ?_
            subst h
            exact j_lret (pc := 54) F dX7_narrow_54
      · have h := iz_t c h
        refine j_lload_n (pc := 28) (k0 := 2) F 2 rfl dX7_narrow_28 ?_
        refine j_l2i (pc := 29) F dX7_narrow_29 ?_
        refine j_i2l (pc := 30) F dX7_narrow_30 ?_
        refine j_goto (pc := 31) F 54 dX7_narrow_31 rfl ?_
        subst h
        exact j_lret (pc := 54) F dX7_narrow_54
    · have h := iz_t c h
      refine j_lload_n (pc := 16) (k0 := 2) F 2 rfl dX7_narrow_16 ?_
      refine j_l2i (pc := 17) F dX7_narrow_17 ?_
      refine j_i2s (pc := 18) F dX7_narrow_18 ?_
      refine j_i2l (pc := 19) F dX7_narrow_19 ?_
      refine j_goto (pc := 20) F 54 dX7_narrow_20 rfl ?_
      subst h
      exact j_lret (pc := 54) F dX7_narrow_54
  · have h := iz_t c h
    refine j_lload_n (pc := 4) (k0 := 2) F 2 rfl dX7_narrow_4 ?_
    refine j_l2i (pc := 5) F dX7_narrow_5 ?_
    refine j_i2b (pc := 6) F dX7_narrow_6 ?_
    refine j_i2l (pc := 7) F dX7_narrow_7 ?_
    refine j_goto (pc := 8) F 54 dX7_narrow_8 rfl ?_
    subst h
    exact j_lret (pc := 54) F dX7_narrow_54
theorem ctX7_narrow (G : GT) {sh : SH} {I : IH} {L : LH} {n : Nat} {this : Nat} {v1 : Int32} {v2 : Int64} : Ct G yX7_narrow cX7_narrow 4 (some .long) 0 [.ref this, .int v1, .long v2] sh I L n (some (.long (fX7_narrow v1 v2))) sh I L n 0 0 := by
  refine ct_of (y := yX7_narrow) (by decide +kernel) rfl (fun X F => ?_)
  exact jbX7_narrow_0 G F rfl
theorem dX7_item_0 : decode cX7_item 0 = .ok (.aload_n 0, 1) := by decide +kernel
theorem dX7_item_1 : decode cX7_item 1 = .ok (.iload_n 1, 1) := by decide +kernel
theorem dX7_item_2 : decode cX7_item 2 = .ok (.invokevirtual 347, 3) := by decide +kernel
theorem dX7_item_5 : decode cX7_item 5 = .ok (.ifCond .ne 5, 3) := by decide +kernel
theorem dX7_item_8 : decode cX7_item 8 = .ok (.iconst (-1), 1) := by decide +kernel
theorem dX7_item_9 : decode cX7_item 9 = .ok (.ireturn, 1) := by decide +kernel
theorem dX7_item_10 : decode cX7_item 10 = .ok (.aload_n 0, 1) := by decide +kernel
theorem dX7_item_11 : decode cX7_item 11 = .ok (.getfield 202, 3) := by decide +kernel
theorem dX7_item_14 : decode cX7_item 14 = .ok (.iload_n 1, 1) := by decide +kernel
theorem dX7_item_15 : decode cX7_item 15 = .ok (.iaload, 1) := by decide +kernel
theorem dX7_item_16 : decode cX7_item 16 = .ok (.ifCond .ge 6, 3) := by decide +kernel
theorem dX7_item_19 : decode cX7_item 19 = .ok (.bipush (-11), 2) := by decide +kernel
theorem dX7_item_21 : decode cX7_item 21 = .ok (.ireturn, 1) := by decide +kernel
theorem dX7_item_22 : decode cX7_item 22 = .ok (.aload_n 0, 1) := by decide +kernel
theorem dX7_item_23 : decode cX7_item 23 = .ok (.iload_n 2, 1) := by decide +kernel
theorem dX7_item_24 : decode cX7_item 24 = .ok (.iconst 0, 1) := by decide +kernel
theorem dX7_item_25 : decode cX7_item 25 = .ok (.aload_n 0, 1) := by decide +kernel
theorem dX7_item_26 : decode cX7_item 26 = .ok (.getfield 205, 3) := by decide +kernel
theorem dX7_item_29 : decode cX7_item 29 = .ok (.iload_n 1, 1) := by decide +kernel
theorem dX7_item_30 : decode cX7_item 30 = .ok (.iaload, 1) := by decide +kernel
theorem dX7_item_31 : decode cX7_item 31 = .ok (.iconst 1, 1) := by decide +kernel
theorem dX7_item_32 : decode cX7_item 32 = .ok (.isub, 1) := by decide +kernel
theorem dX7_item_33 : decode cX7_item 33 = .ok (.invokevirtual 215, 3) := by decide +kernel
theorem dX7_item_36 : decode cX7_item 36 = .ok (.ifCond .ne 6, 3) := by decide +kernel
theorem dX7_item_39 : decode cX7_item 39 = .ok (.bipush (-13), 2) := by decide +kernel
theorem dX7_item_41 : decode cX7_item 41 = .ok (.ireturn, 1) := by decide +kernel
theorem dX7_item_42 : decode cX7_item 42 = .ok (.aload_n 0, 1) := by decide +kernel
theorem dX7_item_43 : decode cX7_item 43 = .ok (.getfield 208, 3) := by decide +kernel
theorem dX7_item_46 : decode cX7_item 46 = .ok (.bipush 60, 2) := by decide +kernel
theorem dX7_item_48 : decode cX7_item 48 = .ok (.iload_n 1, 1) := by decide +kernel
theorem dX7_item_49 : decode cX7_item 49 = .ok (.imul, 1) := by decide +kernel
theorem dX7_item_50 : decode cX7_item 50 = .ok (.iload_n 2, 1) := by decide +kernel
theorem dX7_item_51 : decode cX7_item 51 = .ok (.iadd, 1) := by decide +kernel
theorem dX7_item_52 : decode cX7_item 52 = .ok (.aload_n 0, 1) := by decide +kernel
theorem dX7_item_53 : decode cX7_item 53 = .ok (.aload_n 0, 1) := by decide +kernel
theorem dX7_item_54 : decode cX7_item 54 = .ok (.getfield 202, 3) := by decide +kernel
theorem dX7_item_57 : decode cX7_item 57 = .ok (.iload_n 1, 1) := by decide +kernel
theorem dX7_item_58 : decode cX7_item 58 = .ok (.iaload, 1) := by decide +kernel
theorem dX7_item_59 : decode cX7_item 59 = .ok (.lload_n 3, 1) := by decide +kernel
theorem dX7_item_60 : decode cX7_item 60 = .ok (.invokevirtual 378, 3) := by decide +kernel
theorem dX7_item_63 : decode cX7_item 63 = .ok (.lastore, 1) := by decide +kernel
theorem dX7_item_64 : decode cX7_item 64 = .ok (.iconst 1, 1) := by decide +kernel
theorem dX7_item_65 : decode cX7_item 65 = .ok (.ireturn, 1) := by decide +kernel
def fX7_item (sh : SH) (I : IH) (this : Nat) (v1 : Int32) (v2 : Int32) (v3 : Int64) (L : LH) : Option (Int32 × LH) :=
  if (fX7_isTape v1) = 0 then (
    some ((-1), L)) else
  (gR sh 7 this 63).bind fun x1 =>
  (aI sh I 0 x1 v1).bind fun x2 =>
  if 0 ≤ x2 then (
    (gR sh 7 this 64).bind fun x3 =>
    (aI sh I 0 x3 v1).bind fun x4 =>
    if (fX7_in v2 0 (x4 - 1)) = 0 then (
      some ((-13), L)) else
    (gR sh 7 this 65).bind fun x5 =>
    (gR sh 7 this 63).bind fun x6 =>
    (aI sh I 0 x6 v1).bind fun x7 =>
    (sJ sh L x5 ((60 * v1) + v2) (fX7_narrow x7 v3)).bind fun l8 =>
    some (1, l8)) else
  some ((-11), L)
set_option maxHeartbeats 4000000 in
set_option maxRecDepth 20000 in
theorem jbX7_item_0 (G : GT) {X : XT} {sh : SH} {I : IH} {n : Nat} {r : Int32} {L' : LH}  {this : Nat}  {v1 : Int32} {v2 : Int32} {v3 : Int64} {L : LH} (F : MF G X RX7 cX7_item 5 2 (some .int) "item") (hth : isO sh 7 this) (h : fX7_item sh I this v1 v2 v3 L = some (r, L')) : J G X (QE G X (some (.int r)) sh I L' n) 5 sh I L n 0 0 0 [(0, .ref this), (1, .int v1), (2, .int v2), (3, .long v3)] [] := by
  unfold fX7_item at h
  refine j_aload_n (pc := 0) (k0 := 0) F 0 rfl dX7_item_0 ?_
  refine j_iload_n (pc := 1) (k0 := 1) F 1 rfl dX7_item_1 ?_
  refine j_callV1 (pc := 2) (ci := 7) (As := [.int v1]) (st := []) (e1 := 0) (es1 := 0) F clX7_347 cwX7_isTape rfl hth (ctX7_isTape G hth) rfl rfl rfl rfl rfl rfl dX7_item_2 ?_
  refine j_if_ne (pc := 5) F 10 dX7_item_5 rfl (fun c => ?_) (fun c => ?_)
  · have h := iz_f c h
    refine j_aload_n (pc := 10) (k0 := 0) F 0 rfl dX7_item_10 ?_
    obtain ⟨x1, hx1, h⟩ := ob h
    refine j_getR (pc := 11) F flX7_202 hx1 dX7_item_11 ?_
    refine j_iload_n (pc := 14) (k0 := 1) F 1 rfl dX7_item_14 ?_
    obtain ⟨x2, hx2, h⟩ := ob h
    refine j_iald (pc := 15) F hx2 dX7_item_15 ?_
    refine j_if_ge (pc := 16) F 22 dX7_item_16 rfl (fun c => ?_) (fun c => ?_)
    · have h := iz_t c h
      refine j_aload_n (pc := 22) (k0 := 0) F 0 rfl dX7_item_22 ?_
      refine j_iload_n (pc := 23) (k0 := 2) F 2 rfl dX7_item_23 ?_
      refine j_iconst (pc := 24) F 0 dX7_item_24 (by decide) ?_
      refine j_aload_n (pc := 25) (k0 := 0) F 0 rfl dX7_item_25 ?_
      obtain ⟨x3, hx3, h⟩ := ob h
      refine j_getR (pc := 26) F flX7_205 hx3 dX7_item_26 ?_
      refine j_iload_n (pc := 29) (k0 := 1) F 1 rfl dX7_item_29 ?_
      obtain ⟨x4, hx4, h⟩ := ob h
      refine j_iald (pc := 30) F hx4 dX7_item_30 ?_
      refine j_iconst (pc := 31) F 1 dX7_item_31 (by decide) ?_
      refine j_isub (pc := 32) F dX7_item_32 ?_
      refine j_callV1 (pc := 33) (ci := 7) (As := [.int v2, .int 0, .int (x4 - 1)]) (st := []) (e1 := 0) (es1 := 0) F clX7_215 cwX7_in rfl hth (ctX7_in G) rfl rfl rfl rfl rfl rfl dX7_item_33 ?_
      refine j_if_ne (pc := 36) F 42 dX7_item_36 rfl (fun c => ?_) (fun c => ?_)
      · have h := iz_f c h
        refine j_aload_n (pc := 42) (k0 := 0) F 0 rfl dX7_item_42 ?_
        obtain ⟨x5, hx5, h⟩ := ob h
        refine j_getR (pc := 43) F flX7_208 hx5 dX7_item_43 ?_
        refine j_bipush (pc := 46) F 60 dX7_item_46 (by decide) ?_
        refine j_iload_n (pc := 48) (k0 := 1) F 1 rfl dX7_item_48 ?_
        refine j_imul (pc := 49) F dX7_item_49 ?_
        refine j_iload_n (pc := 50) (k0 := 2) F 2 rfl dX7_item_50 ?_
        refine j_iadd (pc := 51) F dX7_item_51 ?_
        refine j_aload_n (pc := 52) (k0 := 0) F 0 rfl dX7_item_52 ?_
        refine j_aload_n (pc := 53) (k0 := 0) F 0 rfl dX7_item_53 ?_
        obtain ⟨x6, hx6, h⟩ := ob h
        refine j_getR (pc := 54) F flX7_202 hx6 dX7_item_54 ?_
        refine j_iload_n (pc := 57) (k0 := 1) F 1 rfl dX7_item_57 ?_
        obtain ⟨x7, hx7, h⟩ := ob h
        refine j_iald (pc := 58) F hx7 dX7_item_58 ?_
        refine j_lload_n (pc := 59) (k0 := 3) F 3 rfl dX7_item_59 ?_
        refine j_callV1 (pc := 60) (ci := 7) (As := [.int x7, .long v3]) (st := [.int ((60 * v1) + v2), .ref x5]) (e1 := 0) (es1 := 0) F clX7_378 cwX7_narrow rfl hth (ctX7_narrow G) rfl rfl rfl rfl rfl rfl dX7_item_60 ?_
        obtain ⟨l8, hl8, h⟩ := ob h
        refine j_last (pc := 63) F hl8 dX7_item_63 ?_
        refine j_iconst (pc := 64) F 1 dX7_item_64 (by decide) ?_
        have g1 := Option.some.inj h
        obtain ⟨q3, g2⟩ := Prod.mk.inj g1
        subst q3
        subst g2
        exact j_iret (pc := 65) F dX7_item_65
      · have h := iz_t c h
        refine j_bipush (pc := 39) F (-13) dX7_item_39 (by decide) ?_
        have g1 := Option.some.inj h
        obtain ⟨q3, g2⟩ := Prod.mk.inj g1
        subst q3
        subst g2
        exact j_iret (pc := 41) F dX7_item_41
    · have h := iz_f c h
      refine j_bipush (pc := 19) F (-11) dX7_item_19 (by decide) ?_
      have g1 := Option.some.inj h
      obtain ⟨q3, g2⟩ := Prod.mk.inj g1
      subst q3
      subst g2
      exact j_iret (pc := 21) F dX7_item_21
  · have h := iz_t c h
    refine j_iconst (pc := 8) F (-1) dX7_item_8 (by decide) ?_
    have g1 := Option.some.inj h
    obtain ⟨q3, g2⟩ := Prod.mk.inj g1
    subst q3
    subst g2
    exact j_iret (pc := 9) F dX7_item_9
theorem ctX7_item (G : GT) {sh : SH} {I : IH} {L : LH} {n : Nat} {this : Nat} {v1 : Int32} {v2 : Int32} {v3 : Int64} {r : Int32} {L' : LH}  (hth : isO sh 7 this) (h : fX7_item sh I this v1 v2 v3 L = some (r, L')) : Ct G yX7_item cX7_item 5 (some .int) 2 [.ref this, .int v1, .int v2, .long v3] sh I L n (some (.int r)) sh I L' n 0 0 := by
  refine ct_of (y := yX7_item) (by decide +kernel) rfl (fun X F => ?_)
  exact jbX7_item_0 G F hth h
theorem dX7_read_0 : decode cX7_read 0 = .ok (.aload_n 0, 1) := by decide +kernel
theorem dX7_read_1 : decode cX7_read 1 = .ok (.iload_n 1, 1) := by decide +kernel
theorem dX7_read_2 : decode cX7_read 2 = .ok (.invokevirtual 347, 3) := by decide +kernel
theorem dX7_read_5 : decode cX7_read 5 = .ok (.ifCond .eq 29, 3) := by decide +kernel
theorem dX7_read_8 : decode cX7_read 8 = .ok (.aload_n 0, 1) := by decide +kernel
theorem dX7_read_9 : decode cX7_read 9 = .ok (.getfield 202, 3) := by decide +kernel
theorem dX7_read_12 : decode cX7_read 12 = .ok (.iload_n 1, 1) := by decide +kernel
theorem dX7_read_13 : decode cX7_read 13 = .ok (.iaload, 1) := by decide +kernel
theorem dX7_read_14 : decode cX7_read 14 = .ok (.ifCond .lt 20, 3) := by decide +kernel
theorem dX7_read_17 : decode cX7_read 17 = .ok (.aload_n 0, 1) := by decide +kernel
theorem dX7_read_18 : decode cX7_read 18 = .ok (.iload_n 2, 1) := by decide +kernel
theorem dX7_read_19 : decode cX7_read 19 = .ok (.iconst 0, 1) := by decide +kernel
theorem dX7_read_20 : decode cX7_read 20 = .ok (.aload_n 0, 1) := by decide +kernel
theorem dX7_read_21 : decode cX7_read 21 = .ok (.getfield 205, 3) := by decide +kernel
theorem dX7_read_24 : decode cX7_read 24 = .ok (.iload_n 1, 1) := by decide +kernel
theorem dX7_read_25 : decode cX7_read 25 = .ok (.iaload, 1) := by decide +kernel
theorem dX7_read_26 : decode cX7_read 26 = .ok (.iconst 1, 1) := by decide +kernel
theorem dX7_read_27 : decode cX7_read 27 = .ok (.isub, 1) := by decide +kernel
theorem dX7_read_28 : decode cX7_read 28 = .ok (.invokevirtual 215, 3) := by decide +kernel
theorem dX7_read_31 : decode cX7_read 31 = .ok (.ifCond .ne 9, 3) := by decide +kernel
theorem dX7_read_34 : decode cX7_read 34 = .ok (.ldc2_w 332, 3) := by decide +kernel
theorem dX7_read_37 : decode cX7_read 37 = .ok (.goto 14, 3) := by decide +kernel
theorem dX7_read_40 : decode cX7_read 40 = .ok (.aload_n 0, 1) := by decide +kernel
theorem dX7_read_41 : decode cX7_read 41 = .ok (.getfield 208, 3) := by decide +kernel
theorem dX7_read_44 : decode cX7_read 44 = .ok (.bipush 60, 2) := by decide +kernel
theorem dX7_read_46 : decode cX7_read 46 = .ok (.iload_n 1, 1) := by decide +kernel
theorem dX7_read_47 : decode cX7_read 47 = .ok (.imul, 1) := by decide +kernel
theorem dX7_read_48 : decode cX7_read 48 = .ok (.iload_n 2, 1) := by decide +kernel
theorem dX7_read_49 : decode cX7_read 49 = .ok (.iadd, 1) := by decide +kernel
theorem dX7_read_50 : decode cX7_read 50 = .ok (.laload, 1) := by decide +kernel
theorem dX7_read_51 : decode cX7_read 51 = .ok (.lreturn, 1) := by decide +kernel
def fX7_read (sh : SH) (I : IH) (L : LH) (this : Nat) (v1 : Int32) (v2 : Int32) : Option (Int64) :=
  if (fX7_isTape v1) = 0 then (
    some (-9223372036854775808)) else
  (gR sh 7 this 63).bind fun x1 =>
  (aI sh I 0 x1 v1).bind fun x2 =>
  if x2 < 0 then (
    some (-9223372036854775808)) else
  (gR sh 7 this 64).bind fun x3 =>
  (aI sh I 0 x3 v1).bind fun x4 =>
  if (fX7_in v2 0 (x4 - 1)) = 0 then (
    some (-9223372036854775808)) else
  (gR sh 7 this 65).bind fun x5 =>
  (aJ sh L x5 ((60 * v1) + v2)).bind fun x6 =>
  some x6
set_option maxHeartbeats 4000000 in
set_option maxRecDepth 20000 in
theorem jbX7_read_0 (G : GT) {X : XT} {sh : SH} {I : IH} {L : LH} {n : Nat} {r : Int64}  {this : Nat}  {v1 : Int32} {v2 : Int32} (F : MF G X RX7 cX7_read 3 2 (some .long) "read") (hth : isO sh 7 this) (h : fX7_read sh I L this v1 v2 = some r) : J G X (QE G X (some (.long r)) sh I L n) 3 sh I L n 0 0 0 [(0, .ref this), (1, .int v1), (2, .int v2)] [] := by
  unfold fX7_read at h
  refine j_aload_n (pc := 0) (k0 := 0) F 0 rfl dX7_read_0 ?_
  refine j_iload_n (pc := 1) (k0 := 1) F 1 rfl dX7_read_1 ?_
  refine j_callV1 (pc := 2) (ci := 7) (As := [.int v1]) (st := []) (e1 := 0) (es1 := 0) F clX7_347 cwX7_isTape rfl hth (ctX7_isTape G hth) rfl rfl rfl rfl rfl rfl dX7_read_2 ?_
  refine j_if_eq (pc := 5) F 34 dX7_read_5 rfl (fun c => ?_) (fun c => ?_)
  · have h := iz_t c h
    refine j_ldc2 (pc := 34) (v := (-9223372036854775808)) F (good_of 1169 (by decide +kernel) (by decide +kernel)) dX7_read_34 ?_
    refine j_goto (pc := 37) F 51 dX7_read_37 rfl ?_
    have g1 := Option.some.inj h
    subst g1
    exact j_lret (pc := 51) F dX7_read_51
  · have h := iz_f c h
    refine j_aload_n (pc := 8) (k0 := 0) F 0 rfl dX7_read_8 ?_
    obtain ⟨x1, hx1, h⟩ := ob h
    refine j_getR (pc := 9) F flX7_202 hx1 dX7_read_9 ?_
    refine j_iload_n (pc := 12) (k0 := 1) F 1 rfl dX7_read_12 ?_
    obtain ⟨x2, hx2, h⟩ := ob h
    refine j_iald (pc := 13) F hx2 dX7_read_13 ?_
    refine j_if_lt (pc := 14) F 34 dX7_read_14 rfl (fun c => ?_) (fun c => ?_)
    · have h := iz_t c h
      refine j_ldc2 (pc := 34) (v := (-9223372036854775808)) F (good_of 1169 (by decide +kernel) (by decide +kernel)) dX7_read_34 ?_
      refine j_goto (pc := 37) F 51 dX7_read_37 rfl ?_
      have g1 := Option.some.inj h
      subst g1
      exact j_lret (pc := 51) F dX7_read_51
    · have h := iz_f c h
      refine j_aload_n (pc := 17) (k0 := 0) F 0 rfl dX7_read_17 ?_
      refine j_iload_n (pc := 18) (k0 := 2) F 2 rfl dX7_read_18 ?_
      refine j_iconst (pc := 19) F 0 dX7_read_19 (by decide) ?_
      refine j_aload_n (pc := 20) (k0 := 0) F 0 rfl dX7_read_20 ?_
      obtain ⟨x3, hx3, h⟩ := ob h
      refine j_getR (pc := 21) F flX7_205 hx3 dX7_read_21 ?_
      refine j_iload_n (pc := 24) (k0 := 1) F 1 rfl dX7_read_24 ?_
      obtain ⟨x4, hx4, h⟩ := ob h
      refine j_iald (pc := 25) F hx4 dX7_read_25 ?_
      refine j_iconst (pc := 26) F 1 dX7_read_26 (by decide) ?_
      refine j_isub (pc := 27) F dX7_read_27 ?_
      refine j_callV1 (pc := 28) (ci := 7) (As := [.int v2, .int 0, .int (x4 - 1)]) (st := []) (e1 := 0) (es1 := 0) F clX7_215 cwX7_in rfl hth (ctX7_in G) rfl rfl rfl rfl rfl rfl dX7_read_28 ?_
      refine j_if_ne (pc := 31) F 40 dX7_read_31 rfl (fun c => ?_) (fun c => ?_)
      · have h := iz_f c h
        refine j_aload_n (pc := 40) (k0 := 0) F 0 rfl dX7_read_40 ?_
        obtain ⟨x5, hx5, h⟩ := ob h
        refine j_getR (pc := 41) F flX7_208 hx5 dX7_read_41 ?_
        refine j_bipush (pc := 44) F 60 dX7_read_44 (by decide) ?_
        refine j_iload_n (pc := 46) (k0 := 1) F 1 rfl dX7_read_46 ?_
        refine j_imul (pc := 47) F dX7_read_47 ?_
        refine j_iload_n (pc := 48) (k0 := 2) F 2 rfl dX7_read_48 ?_
        refine j_iadd (pc := 49) F dX7_read_49 ?_
        obtain ⟨x6, hx6, h⟩ := ob h
        refine j_lald (pc := 50) F hx6 dX7_read_50 ?_
        have g1 := Option.some.inj h
        subst g1
        exact j_lret (pc := 51) F dX7_read_51
      · have h := iz_t c h
        refine j_ldc2 (pc := 34) (v := (-9223372036854775808)) F (good_of 1169 (by decide +kernel) (by decide +kernel)) dX7_read_34 ?_
        refine j_goto (pc := 37) F 51 dX7_read_37 rfl ?_
        have g1 := Option.some.inj h
        subst g1
        exact j_lret (pc := 51) F dX7_read_51
theorem ctX7_read (G : GT) {sh : SH} {I : IH} {L : LH} {n : Nat} {this : Nat} {v1 : Int32} {v2 : Int32} {r : Int64}  (hth : isO sh 7 this) (h : fX7_read sh I L this v1 v2 = some r) : Ct G yX7_read cX7_read 3 (some .long) 2 [.ref this, .int v1, .int v2] sh I L n (some (.long r)) sh I L n 0 0 := by
  refine ct_of (y := yX7_read) (by decide +kernel) rfl (fun X F => ?_)
  exact jbX7_read_0 G F hth h
theorem dX7_shift_0 : decode cX7_shift 0 = .ok (.aload_n 0, 1) := by decide +kernel
theorem dX7_shift_1 : decode cX7_shift 1 = .ok (.iload_n 1, 1) := by decide +kernel
theorem dX7_shift_2 : decode cX7_shift 2 = .ok (.invokevirtual 347, 3) := by decide +kernel
theorem dX7_shift_5 : decode cX7_shift 5 = .ok (.ifCond .eq 11, 3) := by decide +kernel
theorem dX7_shift_8 : decode cX7_shift 8 = .ok (.aload_n 0, 1) := by decide +kernel
theorem dX7_shift_9 : decode cX7_shift 9 = .ok (.iload_n 3, 1) := by decide +kernel
theorem dX7_shift_10 : decode cX7_shift 10 = .ok (.invokevirtual 347, 3) := by decide +kernel
theorem dX7_shift_13 : decode cX7_shift 13 = .ok (.ifCond .ne 5, 3) := by decide +kernel
theorem dX7_shift_16 : decode cX7_shift 16 = .ok (.iconst (-1), 1) := by decide +kernel
theorem dX7_shift_17 : decode cX7_shift 17 = .ok (.ireturn, 1) := by decide +kernel
theorem dX7_shift_18 : decode cX7_shift 18 = .ok (.aload_n 0, 1) := by decide +kernel
theorem dX7_shift_19 : decode cX7_shift 19 = .ok (.getfield 202, 3) := by decide +kernel
theorem dX7_shift_22 : decode cX7_shift 22 = .ok (.iload_n 1, 1) := by decide +kernel
theorem dX7_shift_23 : decode cX7_shift 23 = .ok (.iaload, 1) := by decide +kernel
theorem dX7_shift_24 : decode cX7_shift 24 = .ok (.ifCond .lt 12, 3) := by decide +kernel
theorem dX7_shift_27 : decode cX7_shift 27 = .ok (.aload_n 0, 1) := by decide +kernel
theorem dX7_shift_28 : decode cX7_shift 28 = .ok (.getfield 202, 3) := by decide +kernel
theorem dX7_shift_31 : decode cX7_shift 31 = .ok (.iload_n 3, 1) := by decide +kernel
theorem dX7_shift_32 : decode cX7_shift 32 = .ok (.iaload, 1) := by decide +kernel
theorem dX7_shift_33 : decode cX7_shift 33 = .ok (.ifCond .ge 6, 3) := by decide +kernel
theorem dX7_shift_36 : decode cX7_shift 36 = .ok (.bipush (-11), 2) := by decide +kernel
theorem dX7_shift_38 : decode cX7_shift 38 = .ok (.ireturn, 1) := by decide +kernel
theorem dX7_shift_39 : decode cX7_shift 39 = .ok (.aload_n 0, 1) := by decide +kernel
theorem dX7_shift_40 : decode cX7_shift 40 = .ok (.getfield 202, 3) := by decide +kernel
theorem dX7_shift_43 : decode cX7_shift 43 = .ok (.iload_n 1, 1) := by decide +kernel
theorem dX7_shift_44 : decode cX7_shift 44 = .ok (.iaload, 1) := by decide +kernel
theorem dX7_shift_45 : decode cX7_shift 45 = .ok (.aload_n 0, 1) := by decide +kernel
theorem dX7_shift_46 : decode cX7_shift 46 = .ok (.getfield 202, 3) := by decide +kernel
theorem dX7_shift_49 : decode cX7_shift 49 = .ok (.iload_n 3, 1) := by decide +kernel
theorem dX7_shift_50 : decode cX7_shift 50 = .ok (.iaload, 1) := by decide +kernel
theorem dX7_shift_51 : decode cX7_shift 51 = .ok (.if_icmp .eq 6, 3) := by decide +kernel
theorem dX7_shift_54 : decode cX7_shift 54 = .ok (.bipush (-12), 2) := by decide +kernel
theorem dX7_shift_56 : decode cX7_shift 56 = .ok (.ireturn, 1) := by decide +kernel
theorem dX7_shift_57 : decode cX7_shift 57 = .ok (.iload 5, 2) := by decide +kernel
theorem dX7_shift_59 : decode cX7_shift 59 = .ok (.ifCond .lt 39, 3) := by decide +kernel
theorem dX7_shift_62 : decode cX7_shift 62 = .ok (.iload_n 2, 1) := by decide +kernel
theorem dX7_shift_63 : decode cX7_shift 63 = .ok (.ifCond .lt 35, 3) := by decide +kernel
theorem dX7_shift_66 : decode cX7_shift 66 = .ok (.iload 4, 2) := by decide +kernel
theorem dX7_shift_68 : decode cX7_shift 68 = .ok (.ifCond .lt 30, 3) := by decide +kernel
theorem dX7_shift_71 : decode cX7_shift 71 = .ok (.iload_n 2, 1) := by decide +kernel
theorem dX7_shift_72 : decode cX7_shift 72 = .ok (.aload_n 0, 1) := by decide +kernel
theorem dX7_shift_73 : decode cX7_shift 73 = .ok (.getfield 205, 3) := by decide +kernel
theorem dX7_shift_76 : decode cX7_shift 76 = .ok (.iload_n 1, 1) := by decide +kernel
theorem dX7_shift_77 : decode cX7_shift 77 = .ok (.iaload, 1) := by decide +kernel
theorem dX7_shift_78 : decode cX7_shift 78 = .ok (.iload 5, 2) := by decide +kernel
theorem dX7_shift_80 : decode cX7_shift 80 = .ok (.isub, 1) := by decide +kernel
theorem dX7_shift_81 : decode cX7_shift 81 = .ok (.if_icmp .gt 17, 3) := by decide +kernel
theorem dX7_shift_84 : decode cX7_shift 84 = .ok (.iload 4, 2) := by decide +kernel
theorem dX7_shift_86 : decode cX7_shift 86 = .ok (.aload_n 0, 1) := by decide +kernel
theorem dX7_shift_87 : decode cX7_shift 87 = .ok (.getfield 205, 3) := by decide +kernel
theorem dX7_shift_90 : decode cX7_shift 90 = .ok (.iload_n 3, 1) := by decide +kernel
theorem dX7_shift_91 : decode cX7_shift 91 = .ok (.iaload, 1) := by decide +kernel
theorem dX7_shift_92 : decode cX7_shift 92 = .ok (.iload 5, 2) := by decide +kernel
theorem dX7_shift_94 : decode cX7_shift 94 = .ok (.isub, 1) := by decide +kernel
theorem dX7_shift_95 : decode cX7_shift 95 = .ok (.if_icmp .le 6, 3) := by decide +kernel
theorem dX7_shift_98 : decode cX7_shift 98 = .ok (.bipush (-13), 2) := by decide +kernel
theorem dX7_shift_100 : decode cX7_shift 100 = .ok (.ireturn, 1) := by decide +kernel
theorem dX7_shift_101 : decode cX7_shift 101 = .ok (.iconst 0, 1) := by decide +kernel
theorem dX7_shift_102 : decode cX7_shift 102 = .ok (.istore 6, 2) := by decide +kernel
theorem dX7_shift_104 : decode cX7_shift 104 = .ok (.iload 6, 2) := by decide +kernel
theorem dX7_shift_106 : decode cX7_shift 106 = .ok (.iload 5, 2) := by decide +kernel
theorem dX7_shift_108 : decode cX7_shift 108 = .ok (.if_icmp .ge 30, 3) := by decide +kernel
theorem dX7_shift_111 : decode cX7_shift 111 = .ok (.aload_n 0, 1) := by decide +kernel
theorem dX7_shift_112 : decode cX7_shift 112 = .ok (.getfield 212, 3) := by decide +kernel
theorem dX7_shift_115 : decode cX7_shift 115 = .ok (.iload 6, 2) := by decide +kernel
theorem dX7_shift_117 : decode cX7_shift 117 = .ok (.aload_n 0, 1) := by decide +kernel
theorem dX7_shift_118 : decode cX7_shift 118 = .ok (.getfield 208, 3) := by decide +kernel
theorem dX7_shift_121 : decode cX7_shift 121 = .ok (.bipush 60, 2) := by decide +kernel
theorem dX7_shift_123 : decode cX7_shift 123 = .ok (.iload_n 1, 1) := by decide +kernel
theorem dX7_shift_124 : decode cX7_shift 124 = .ok (.imul, 1) := by decide +kernel
theorem dX7_shift_125 : decode cX7_shift 125 = .ok (.iload_n 2, 1) := by decide +kernel
theorem dX7_shift_126 : decode cX7_shift 126 = .ok (.iadd, 1) := by decide +kernel
theorem dX7_shift_127 : decode cX7_shift 127 = .ok (.iload 6, 2) := by decide +kernel
theorem dX7_shift_129 : decode cX7_shift 129 = .ok (.iadd, 1) := by decide +kernel
theorem dX7_shift_130 : decode cX7_shift 130 = .ok (.laload, 1) := by decide +kernel
theorem dX7_shift_131 : decode cX7_shift 131 = .ok (.lastore, 1) := by decide +kernel
theorem dX7_shift_132 : decode cX7_shift 132 = .ok (.iinc 6 1, 3) := by decide +kernel
theorem dX7_shift_135 : decode cX7_shift 135 = .ok (.goto (-31), 3) := by decide +kernel
theorem dX7_shift_138 : decode cX7_shift 138 = .ok (.iconst 0, 1) := by decide +kernel
theorem dX7_shift_139 : decode cX7_shift 139 = .ok (.istore 6, 2) := by decide +kernel
theorem dX7_shift_141 : decode cX7_shift 141 = .ok (.iload 6, 2) := by decide +kernel
theorem dX7_shift_143 : decode cX7_shift 143 = .ok (.iload 5, 2) := by decide +kernel
theorem dX7_shift_145 : decode cX7_shift 145 = .ok (.if_icmp .ge 31, 3) := by decide +kernel
theorem dX7_shift_148 : decode cX7_shift 148 = .ok (.aload_n 0, 1) := by decide +kernel
theorem dX7_shift_149 : decode cX7_shift 149 = .ok (.getfield 208, 3) := by decide +kernel
theorem dX7_shift_152 : decode cX7_shift 152 = .ok (.bipush 60, 2) := by decide +kernel
theorem dX7_shift_154 : decode cX7_shift 154 = .ok (.iload_n 3, 1) := by decide +kernel
theorem dX7_shift_155 : decode cX7_shift 155 = .ok (.imul, 1) := by decide +kernel
theorem dX7_shift_156 : decode cX7_shift 156 = .ok (.iload 4, 2) := by decide +kernel
theorem dX7_shift_158 : decode cX7_shift 158 = .ok (.iadd, 1) := by decide +kernel
theorem dX7_shift_159 : decode cX7_shift 159 = .ok (.iload 6, 2) := by decide +kernel
theorem dX7_shift_161 : decode cX7_shift 161 = .ok (.iadd, 1) := by decide +kernel
theorem dX7_shift_162 : decode cX7_shift 162 = .ok (.aload_n 0, 1) := by decide +kernel
theorem dX7_shift_163 : decode cX7_shift 163 = .ok (.getfield 212, 3) := by decide +kernel
theorem dX7_shift_166 : decode cX7_shift 166 = .ok (.iload 6, 2) := by decide +kernel
theorem dX7_shift_168 : decode cX7_shift 168 = .ok (.laload, 1) := by decide +kernel
theorem dX7_shift_169 : decode cX7_shift 169 = .ok (.lastore, 1) := by decide +kernel
theorem dX7_shift_170 : decode cX7_shift 170 = .ok (.iinc 6 1, 3) := by decide +kernel
theorem dX7_shift_173 : decode cX7_shift 173 = .ok (.goto (-32), 3) := by decide +kernel
theorem dX7_shift_176 : decode cX7_shift 176 = .ok (.iload 5, 2) := by decide +kernel
theorem dX7_shift_178 : decode cX7_shift 178 = .ok (.ireturn, 1) := by decide +kernel
def fX7_shift_b104 (sh : SH) (I : IH) (this : Nat) (k141 : (Int32 → Int32 → Int32 → Int32 → LH → Option (Int32 × LH))) : Nat → Int32 → Int32 → Int32 → Int32 → Int32 → Int32 → LH → Option (Int32 × LH)
  | 0, _, _, _, _, _, _, _ => none
  | fuel + 1, v1, v2, v3, v4, v5, v6, L =>
    if v5 ≤ v6 then (
      k141 v3 v4 v5 0 L) else
    (gR sh 7 this 66).bind fun x1 =>
    (gR sh 7 this 65).bind fun x2 =>
    (aJ sh L x2 (((60 * v1) + v2) + v6)).bind fun x3 =>
    (sJ sh L x1 v6 x3).bind fun l4 =>
    fX7_shift_b104 sh I this k141 fuel v1 v2 v3 v4 v5 (v6 + 1) l4
def fX7_shift_b141 (sh : SH) (I : IH) (this : Nat) : Nat → Int32 → Int32 → Int32 → Int32 → LH → Option (Int32 × LH)
  | 0, _, _, _, _, _ => none
  | fuel + 1, v3, v4, v5, v6, L =>
    if v5 ≤ v6 then (
      some (v5, L)) else
    (gR sh 7 this 65).bind fun x1 =>
    (gR sh 7 this 66).bind fun x2 =>
    (aJ sh L x2 v6).bind fun x3 =>
    (sJ sh L x1 (((60 * v3) + v4) + v6) x3).bind fun l4 =>
    fX7_shift_b141 sh I this fuel v3 v4 v5 (v6 + 1) l4
def fX7_shift (sh : SH) (I : IH) (this : Nat) (v1 : Int32) (v2 : Int32) (v3 : Int32) (v4 : Int32) (v5 : Int32) (L : LH) : Option (Int32 × LH) :=
  if (fX7_isTape v1) = 0 then (
    some ((-1), L)) else
  if (fX7_isTape v3) = 0 then (
    some ((-1), L)) else
  (gR sh 7 this 63).bind fun x1 =>
  (aI sh I 0 x1 v1).bind fun x2 =>
  if x2 < 0 then (
    some ((-11), L)) else
  (gR sh 7 this 63).bind fun x3 =>
  (aI sh I 0 x3 v3).bind fun x4 =>
  if 0 ≤ x4 then (
    (gR sh 7 this 63).bind fun x5 =>
    (aI sh I 0 x5 v1).bind fun x6 =>
    (gR sh 7 this 63).bind fun x7 =>
    (aI sh I 0 x7 v3).bind fun x8 =>
    if x6 = x8 then (
      if v5 < 0 then (
        some ((-13), L)) else
      if v2 < 0 then (
        some ((-13), L)) else
      if v4 < 0 then (
        some ((-13), L)) else
      (gR sh 7 this 64).bind fun x9 =>
      (aI sh I 0 x9 v1).bind fun x10 =>
      if (x10 - v5) < v2 then (
        some ((-13), L)) else
      (gR sh 7 this 64).bind fun x11 =>
      (aI sh I 0 x11 v3).bind fun x12 =>
      if v4 ≤ (x12 - v5) then (
        fX7_shift_b104 sh I this (fX7_shift_b141 sh I this 1000) 1000 v1 v2 v3 v4 v5 0 L) else
      some ((-13), L)) else
    some ((-12), L)) else
  some ((-11), L)
set_option maxHeartbeats 4000000 in
set_option maxRecDepth 20000 in
theorem jbX7_shift_104 (G : GT) {X : XT} {sh : SH} {I : IH} {n : Nat} {r : Int32} {L' : LH}  {this : Nat} {k141 : (Int32 → Int32 → Int32 → Int32 → LH → Option (Int32 × LH))} (F : MF G X RX7 cX7_shift 7 2 (some .int) "shift") (hth : isO sh 7 this)
    (hk141 : ∀ {v3 : Int32} {v4 : Int32} {v5 : Int32} {v6 : Int32} {L : LH}, k141 v3 v4 v5 v6 L = some (r, L') → J G X (QE G X (some (.int r)) sh I L' n) 7 sh I L n 0 0 141 [(0, .ref this), (3, .int v3), (4, .int v4), (5, .int v5), (6, .int v6)] []) : ∀ (fuel : Nat) (v1 : Int32) (v2 : Int32) (v3 : Int32) (v4 : Int32) (v5 : Int32) (v6 : Int32) (L : LH), fX7_shift_b104 sh I this k141 fuel v1 v2 v3 v4 v5 v6 L = some (r, L') → J G X (QE G X (some (.int r)) sh I L' n) 7 sh I L n 0 0 104 [(0, .ref this), (1, .int v1), (2, .int v2), (3, .int v3), (4, .int v4), (5, .int v5), (6, .int v6)] []
  | 0 => by
    intros
    rename_i h
    exact absurd (show none = some _ from h) (by intro z; cases z)
  | fuel + 1 => by
    intro v1 v2 v3 v4 v5 v6 L h
    rw [fX7_shift_b104] at h
    refine j_iload (pc := 104) (k0 := 6) F 6 rfl dX7_shift_104 ?_
    refine j_iload (pc := 106) (k0 := 5) F 5 rfl dX7_shift_106 ?_
    refine j_icmp_ge (pc := 108) F 138 dX7_shift_108 rfl (fun c => ?_) (fun c => ?_)
    · have h := iz_t c h
      refine j_iconst (pc := 138) F 0 dX7_shift_138 (by decide) ?_
      refine j_istore (pc := 139) (k1 := 6) (ls' := [(6, .int 0), (0, .ref this), (1, .int v1), (2, .int v2), (3, .int v3), (4, .int v4), (5, .int v5)]) F rfl rfl dX7_shift_139 ?_
      refine j_sub [1, 4, 5, 6, 0] rfl ?_
      exact hk141 h
    · have h := iz_f c h
      refine j_aload_n (pc := 111) (k0 := 0) F 0 rfl dX7_shift_111 ?_
      obtain ⟨x1, hx1, h⟩ := ob h
      refine j_getR (pc := 112) F flX7_212 hx1 dX7_shift_112 ?_
      refine j_iload (pc := 115) (k0 := 6) F 6 rfl dX7_shift_115 ?_
      refine j_aload_n (pc := 117) (k0 := 0) F 0 rfl dX7_shift_117 ?_
      obtain ⟨x2, hx2, h⟩ := ob h
      refine j_getR (pc := 118) F flX7_208 hx2 dX7_shift_118 ?_
      refine j_bipush (pc := 121) F 60 dX7_shift_121 (by decide) ?_
      refine j_iload_n (pc := 123) (k0 := 1) F 1 rfl dX7_shift_123 ?_
      refine j_imul (pc := 124) F dX7_shift_124 ?_
      refine j_iload_n (pc := 125) (k0 := 2) F 2 rfl dX7_shift_125 ?_
      refine j_iadd (pc := 126) F dX7_shift_126 ?_
      refine j_iload (pc := 127) (k0 := 6) F 6 rfl dX7_shift_127 ?_
      refine j_iadd (pc := 129) F dX7_shift_129 ?_
      obtain ⟨x3, hx3, h⟩ := ob h
      refine j_lald (pc := 130) F hx3 dX7_shift_130 ?_
      obtain ⟨l4, hl4, h⟩ := ob h
      refine j_last (pc := 131) F hl4 dX7_shift_131 ?_
      refine j_iinc (pc := 132) (k1 := 6) (ls' := [(6, .int (v6 + 1)), (0, .ref this), (1, .int v1), (2, .int v2), (3, .int v3), (4, .int v4), (5, .int v5)]) F (v6 + 1) 6 rfl rfl rfl rfl dX7_shift_132 ?_
      refine j_goto (pc := 135) F 104 dX7_shift_135 rfl ?_
      refine j_sub [1, 2, 3, 4, 5, 6, 0] rfl ?_
      exact jbX7_shift_104 G F hth hk141 fuel _ _ _ _ _ _ _ h
set_option maxHeartbeats 4000000 in
set_option maxRecDepth 20000 in
theorem jbX7_shift_141 (G : GT) {X : XT} {sh : SH} {I : IH} {n : Nat} {r : Int32} {L' : LH}  {this : Nat}  (F : MF G X RX7 cX7_shift 7 2 (some .int) "shift") (hth : isO sh 7 this) : ∀ (fuel : Nat) (v3 : Int32) (v4 : Int32) (v5 : Int32) (v6 : Int32) (L : LH), fX7_shift_b141 sh I this fuel v3 v4 v5 v6 L = some (r, L') → J G X (QE G X (some (.int r)) sh I L' n) 7 sh I L n 0 0 141 [(0, .ref this), (3, .int v3), (4, .int v4), (5, .int v5), (6, .int v6)] []
  | 0 => by
    intros
    rename_i h
    exact absurd (show none = some _ from h) (by intro z; cases z)
  | fuel + 1 => by
    intro v3 v4 v5 v6 L h
    rw [fX7_shift_b141] at h
    refine j_iload (pc := 141) (k0 := 6) F 4 rfl dX7_shift_141 ?_
    refine j_iload (pc := 143) (k0 := 5) F 3 rfl dX7_shift_143 ?_
    refine j_icmp_ge (pc := 145) F 176 dX7_shift_145 rfl (fun c => ?_) (fun c => ?_)
    · have h := iz_t c h
      refine j_iload (pc := 176) (k0 := 5) F 3 rfl dX7_shift_176 ?_
      have g1 := Option.some.inj h
      obtain ⟨q3, g2⟩ := Prod.mk.inj g1
      subst q3
      subst g2
      exact j_iret (pc := 178) F dX7_shift_178
    · have h := iz_f c h
      refine j_aload_n (pc := 148) (k0 := 0) F 0 rfl dX7_shift_148 ?_
      obtain ⟨x1, hx1, h⟩ := ob h
      refine j_getR (pc := 149) F flX7_208 hx1 dX7_shift_149 ?_
      refine j_bipush (pc := 152) F 60 dX7_shift_152 (by decide) ?_
      refine j_iload_n (pc := 154) (k0 := 3) F 1 rfl dX7_shift_154 ?_
      refine j_imul (pc := 155) F dX7_shift_155 ?_
      refine j_iload (pc := 156) (k0 := 4) F 2 rfl dX7_shift_156 ?_
      refine j_iadd (pc := 158) F dX7_shift_158 ?_
      refine j_iload (pc := 159) (k0 := 6) F 4 rfl dX7_shift_159 ?_
      refine j_iadd (pc := 161) F dX7_shift_161 ?_
      refine j_aload_n (pc := 162) (k0 := 0) F 0 rfl dX7_shift_162 ?_
      obtain ⟨x2, hx2, h⟩ := ob h
      refine j_getR (pc := 163) F flX7_212 hx2 dX7_shift_163 ?_
      refine j_iload (pc := 166) (k0 := 6) F 4 rfl dX7_shift_166 ?_
      obtain ⟨x3, hx3, h⟩ := ob h
      refine j_lald (pc := 168) F hx3 dX7_shift_168 ?_
      obtain ⟨l4, hl4, h⟩ := ob h
      refine j_last (pc := 169) F hl4 dX7_shift_169 ?_
      refine j_iinc (pc := 170) (k1 := 6) (ls' := [(6, .int (v6 + 1)), (0, .ref this), (3, .int v3), (4, .int v4), (5, .int v5)]) F (v6 + 1) 4 rfl rfl rfl rfl dX7_shift_170 ?_
      refine j_goto (pc := 173) F 141 dX7_shift_173 rfl ?_
      refine j_sub [1, 2, 3, 4, 0] rfl ?_
      exact jbX7_shift_141 G F hth fuel _ _ _ _ _ h
set_option maxHeartbeats 4000000 in
set_option maxRecDepth 20000 in
theorem jbX7_shift_0 (G : GT) {X : XT} {sh : SH} {I : IH} {n : Nat} {r : Int32} {L' : LH}  {this : Nat}  {v1 : Int32} {v2 : Int32} {v3 : Int32} {v4 : Int32} {v5 : Int32} {L : LH} (F : MF G X RX7 cX7_shift 7 2 (some .int) "shift") (hth : isO sh 7 this) (h : fX7_shift sh I this v1 v2 v3 v4 v5 L = some (r, L')) : J G X (QE G X (some (.int r)) sh I L' n) 7 sh I L n 0 0 0 [(0, .ref this), (1, .int v1), (2, .int v2), (3, .int v3), (4, .int v4), (5, .int v5)] [] := by
  unfold fX7_shift at h
  refine j_aload_n (pc := 0) (k0 := 0) F 0 rfl dX7_shift_0 ?_
  refine j_iload_n (pc := 1) (k0 := 1) F 1 rfl dX7_shift_1 ?_
  refine j_callV1 (pc := 2) (ci := 7) (As := [.int v1]) (st := []) (e1 := 0) (es1 := 0) F clX7_347 cwX7_isTape rfl hth (ctX7_isTape G hth) rfl rfl rfl rfl rfl rfl dX7_shift_2 ?_
  refine j_if_eq (pc := 5) F 16 dX7_shift_5 rfl (fun c => ?_) (fun c => ?_)
  · have h := iz_t c h
    refine j_iconst (pc := 16) F (-1) dX7_shift_16 (by decide) ?_
    have g1 := Option.some.inj h
    obtain ⟨q3, g2⟩ := Prod.mk.inj g1
    subst q3
    subst g2
    exact j_iret (pc := 17) F dX7_shift_17
  · have h := iz_f c h
    refine j_aload_n (pc := 8) (k0 := 0) F 0 rfl dX7_shift_8 ?_
    refine j_iload_n (pc := 9) (k0 := 3) F 3 rfl dX7_shift_9 ?_
    refine j_callV1 (pc := 10) (ci := 7) (As := [.int v3]) (st := []) (e1 := 0) (es1 := 0) F clX7_347 cwX7_isTape rfl hth (ctX7_isTape G hth) rfl rfl rfl rfl rfl rfl dX7_shift_10 ?_
    refine j_if_ne (pc := 13) F 18 dX7_shift_13 rfl (fun c => ?_) (fun c => ?_)
    · have h := iz_f c h
      refine j_aload_n (pc := 18) (k0 := 0) F 0 rfl dX7_shift_18 ?_
      obtain ⟨x1, hx1, h⟩ := ob h
      refine j_getR (pc := 19) F flX7_202 hx1 dX7_shift_19 ?_
      refine j_iload_n (pc := 22) (k0 := 1) F 1 rfl dX7_shift_22 ?_
      obtain ⟨x2, hx2, h⟩ := ob h
      refine j_iald (pc := 23) F hx2 dX7_shift_23 ?_
      refine j_if_lt (pc := 24) F 36 dX7_shift_24 rfl (fun c => ?_) (fun c => ?_)
      · have h := iz_t c h
        refine j_bipush (pc := 36) F (-11) dX7_shift_36 (by decide) ?_
        have g1 := Option.some.inj h
        obtain ⟨q3, g2⟩ := Prod.mk.inj g1
        subst q3
        subst g2
        exact j_iret (pc := 38) F dX7_shift_38
      · have h := iz_f c h
        refine j_aload_n (pc := 27) (k0 := 0) F 0 rfl dX7_shift_27 ?_
        obtain ⟨x3, hx3, h⟩ := ob h
        refine j_getR (pc := 28) F flX7_202 hx3 dX7_shift_28 ?_
        refine j_iload_n (pc := 31) (k0 := 3) F 3 rfl dX7_shift_31 ?_
        obtain ⟨x4, hx4, h⟩ := ob h
        refine j_iald (pc := 32) F hx4 dX7_shift_32 ?_
        refine j_if_ge (pc := 33) F 39 dX7_shift_33 rfl (fun c => ?_) (fun c => ?_)
        · have h := iz_t c h
          refine j_aload_n (pc := 39) (k0 := 0) F 0 rfl dX7_shift_39 ?_
          obtain ⟨x5, hx5, h⟩ := ob h
          refine j_getR (pc := 40) F flX7_202 hx5 dX7_shift_40 ?_
          refine j_iload_n (pc := 43) (k0 := 1) F 1 rfl dX7_shift_43 ?_
          obtain ⟨x6, hx6, h⟩ := ob h
          refine j_iald (pc := 44) F hx6 dX7_shift_44 ?_
          refine j_aload_n (pc := 45) (k0 := 0) F 0 rfl dX7_shift_45 ?_
          obtain ⟨x7, hx7, h⟩ := ob h
          refine j_getR (pc := 46) F flX7_202 hx7 dX7_shift_46 ?_
          refine j_iload_n (pc := 49) (k0 := 3) F 3 rfl dX7_shift_49 ?_
          obtain ⟨x8, hx8, h⟩ := ob h
          refine j_iald (pc := 50) F hx8 dX7_shift_50 ?_
          refine j_icmp_eq (pc := 51) F 57 dX7_shift_51 rfl (fun c => ?_) (fun c => ?_)
          · have h := iz_t c h
            refine j_iload (pc := 57) (k0 := 5) F 5 rfl dX7_shift_57 ?_
            refine j_if_lt (pc := 59) F 98 dX7_shift_59 rfl (fun c => ?_) (fun c => ?_)
            · have h := iz_t c h
              refine j_bipush (pc := 98) F (-13) dX7_shift_98 (by decide) ?_
              have g1 := Option.some.inj h
              obtain ⟨q3, g2⟩ := Prod.mk.inj g1
              subst q3
              subst g2
              exact j_iret (pc := 100) F dX7_shift_100
            · have h := iz_f c h
              refine j_iload_n (pc := 62) (k0 := 2) F 2 rfl dX7_shift_62 ?_
              refine j_if_lt (pc := 63) F 98 dX7_shift_63 rfl (fun c => ?_) (fun c => ?_)
              · have h := iz_t c h
                refine j_bipush (pc := 98) F (-13) dX7_shift_98 (by decide) ?_
                have g1 := Option.some.inj h
                obtain ⟨q3, g2⟩ := Prod.mk.inj g1
                subst q3
                subst g2
                exact j_iret (pc := 100) F dX7_shift_100
              · have h := iz_f c h
                refine j_iload (pc := 66) (k0 := 4) F 4 rfl dX7_shift_66 ?_
                refine j_if_lt (pc := 68) F 98 dX7_shift_68 rfl (fun c => ?_) (fun c => ?_)
                · have h := iz_t c h
                  refine j_bipush (pc := 98) F (-13) dX7_shift_98 (by decide) ?_
                  have g1 := Option.some.inj h
                  obtain ⟨q3, g2⟩ := Prod.mk.inj g1
                  subst q3
                  subst g2
                  exact j_iret (pc := 100) F dX7_shift_100
                · have h := iz_f c h
                  refine j_iload_n (pc := 71) (k0 := 2) F 2 rfl dX7_shift_71 ?_
                  refine j_aload_n (pc := 72) (k0 := 0) F 0 rfl dX7_shift_72 ?_
                  obtain ⟨x9, hx9, h⟩ := ob h
                  refine j_getR (pc := 73) F flX7_205 hx9 dX7_shift_73 ?_
                  refine j_iload_n (pc := 76) (k0 := 1) F 1 rfl dX7_shift_76 ?_
                  obtain ⟨x10, hx10, h⟩ := ob h
                  refine j_iald (pc := 77) F hx10 dX7_shift_77 ?_
                  refine j_iload (pc := 78) (k0 := 5) F 5 rfl dX7_shift_78 ?_
                  refine j_isub (pc := 80) F dX7_shift_80 ?_
                  refine j_icmp_gt (pc := 81) F 98 dX7_shift_81 rfl (fun c => ?_) (fun c => ?_)
                  · have h := iz_t c h
                    refine j_bipush (pc := 98) F (-13) dX7_shift_98 (by decide) ?_
                    have g1 := Option.some.inj h
                    obtain ⟨q3, g2⟩ := Prod.mk.inj g1
                    subst q3
                    subst g2
                    exact j_iret (pc := 100) F dX7_shift_100
                  · have h := iz_f c h
                    refine j_iload (pc := 84) (k0 := 4) F 4 rfl dX7_shift_84 ?_
                    refine j_aload_n (pc := 86) (k0 := 0) F 0 rfl dX7_shift_86 ?_
                    obtain ⟨x11, hx11, h⟩ := ob h
                    refine j_getR (pc := 87) F flX7_205 hx11 dX7_shift_87 ?_
                    refine j_iload_n (pc := 90) (k0 := 3) F 3 rfl dX7_shift_90 ?_
                    obtain ⟨x12, hx12, h⟩ := ob h
                    refine j_iald (pc := 91) F hx12 dX7_shift_91 ?_
                    refine j_iload (pc := 92) (k0 := 5) F 5 rfl dX7_shift_92 ?_
                    refine j_isub (pc := 94) F dX7_shift_94 ?_
                    refine j_icmp_le (pc := 95) F 101 dX7_shift_95 rfl (fun c => ?_) (fun c => ?_)
                    · have h := iz_t c h
                      refine j_iconst (pc := 101) F 0 dX7_shift_101 (by decide) ?_
                      refine j_istore (pc := 102) (k1 := 6) (ls' := [(6, .int 0), (0, .ref this), (1, .int v1), (2, .int v2), (3, .int v3), (4, .int v4), (5, .int v5)]) F rfl rfl dX7_shift_102 ?_
                      refine j_sub [1, 2, 3, 4, 5, 6, 0] rfl ?_
                      exact jbX7_shift_104 G F hth (fun h => jbX7_shift_141 G F hth 1000 _ _ _ _ _ h) 1000 _ _ _ _ _ _ _ h
                    · have h := iz_f c h
                      refine j_bipush (pc := 98) F (-13) dX7_shift_98 (by decide) ?_
                      have g1 := Option.some.inj h
                      obtain ⟨q3, g2⟩ := Prod.mk.inj g1
                      subst q3
                      subst g2
                      exact j_iret (pc := 100) F dX7_shift_100
          · have h := iz_f c h
            refine j_bipush (pc := 54) F (-12) dX7_shift_54 (by decide) ?_
            have g1 := Option.some.inj h
            obtain ⟨q3, g2⟩ := Prod.mk.inj g1
            subst q3
            subst g2
            exact j_iret (pc := 56) F dX7_shift_56
        · have h := iz_f c h
          refine j_bipush (pc := 36) F (-11) dX7_shift_36 (by decide) ?_
          have g1 := Option.some.inj h
          obtain ⟨q3, g2⟩ := Prod.mk.inj g1
          subst q3
          subst g2
          exact j_iret (pc := 38) F dX7_shift_38
    · have h := iz_t c h
      refine j_iconst (pc := 16) F (-1) dX7_shift_16 (by decide) ?_
      have g1 := Option.some.inj h
      obtain ⟨q3, g2⟩ := Prod.mk.inj g1
      subst q3
      subst g2
      exact j_iret (pc := 17) F dX7_shift_17
theorem ctX7_shift (G : GT) {sh : SH} {I : IH} {L : LH} {n : Nat} {this : Nat} {v1 : Int32} {v2 : Int32} {v3 : Int32} {v4 : Int32} {v5 : Int32} {r : Int32} {L' : LH}  (hth : isO sh 7 this) (h : fX7_shift sh I this v1 v2 v3 v4 v5 L = some (r, L')) : Ct G yX7_shift cX7_shift 7 (some .int) 2 [.ref this, .int v1, .int v2, .int v3, .int v4, .int v5] sh I L n (some (.int r)) sh I L' n 0 0 := by
  refine ct_of (y := yX7_shift) (by decide +kernel) rfl (fun X F => ?_)
  exact jbX7_shift_0 G F hth h
