/-! decompiled: X1_figure, X4_tell, X1_clause, X1_isValley, X2_init, X6_copy, X6_copyRows, X2_become, X2_isPlace, X2_isWant, X2_melting, X3_init, J7_fill_d0a16, X3_become, X3_asItem, X5_init, X5_load, X5_meltUnder, X5_going, X5_arriving, X5_come, J9_max_7cf53, X5_takes -/
theorem dX1_figure_0 : decode cX1_figure 0 = .ok (.aload_n 0, 1) := by decide +kernel
theorem dX1_figure_1 : decode cX1_figure 1 = .ok (.invokevirtual 109, 3) := by decide +kernel
theorem dX1_figure_4 : decode cX1_figure 4 = .ok (.bipush 48, 2) := by decide +kernel
theorem dX1_figure_6 : decode cX1_figure 6 = .ok (.isub, 1) := by decide +kernel
theorem dX1_figure_7 : decode cX1_figure 7 = .ok (.istore_n 2, 1) := by decide +kernel
theorem dX1_figure_8 : decode cX1_figure 8 = .ok (.iload_n 2, 1) := by decide +kernel
theorem dX1_figure_9 : decode cX1_figure 9 = .ok (.ifCond .lt 8, 3) := by decide +kernel
theorem dX1_figure_12 : decode cX1_figure 12 = .ok (.iload_n 2, 1) := by decide +kernel
theorem dX1_figure_13 : decode cX1_figure 13 = .ok (.iload_n 1, 1) := by decide +kernel
theorem dX1_figure_14 : decode cX1_figure 14 = .ok (.if_icmp .le 10, 3) := by decide +kernel
theorem dX1_figure_17 : decode cX1_figure 17 = .ok (.aload_n 0, 1) := by decide +kernel
theorem dX1_figure_18 : decode cX1_figure 18 = .ok (.iconst 0, 1) := by decide +kernel
theorem dX1_figure_19 : decode cX1_figure 19 = .ok (.putfield 9, 3) := by decide +kernel
theorem dX1_figure_22 : decode cX1_figure 22 = .ok (.iconst 0, 1) := by decide +kernel
theorem dX1_figure_23 : decode cX1_figure 23 = .ok (.ireturn, 1) := by decide +kernel
theorem dX1_figure_24 : decode cX1_figure 24 = .ok (.aload_n 0, 1) := by decide +kernel
theorem dX1_figure_25 : decode cX1_figure 25 = .ok (.dup, 1) := by decide +kernel
theorem dX1_figure_26 : decode cX1_figure 26 = .ok (.getfield 43, 3) := by decide +kernel
theorem dX1_figure_29 : decode cX1_figure 29 = .ok (.iconst 1, 1) := by decide +kernel
theorem dX1_figure_30 : decode cX1_figure 30 = .ok (.iadd, 1) := by decide +kernel
theorem dX1_figure_31 : decode cX1_figure 31 = .ok (.putfield 43, 3) := by decide +kernel
theorem dX1_figure_34 : decode cX1_figure 34 = .ok (.iload_n 2, 1) := by decide +kernel
theorem dX1_figure_35 : decode cX1_figure 35 = .ok (.ireturn, 1) := by decide +kernel
def fX1_figure (sh : SH) (this : Nat) (v1 : Int32) (I : IH) : Option (Int32 × IH) :=
  (fX1_next sh I this).bind fun x1 =>
  if (x1 - 48) < 0 then (
    (pI sh I 1 this 2 0).bind fun i2 =>
    some (0, i2)) else
  if (x1 - 48) ≤ v1 then (
    (gI sh I 1 this 3).bind fun x3 =>
    (pI sh I 1 this 3 (x3 + 1)).bind fun i4 =>
    some ((x1 - 48), i4)) else
  (pI sh I 1 this 2 0).bind fun i5 =>
  some (0, i5)
set_option maxHeartbeats 4000000 in
set_option maxRecDepth 20000 in
theorem jbX1_figure_0 (G : GT) {X : XT} {sh : SH} {L : LH} {n : Nat} {r : Int32} {I' : IH}  {this : Nat}  {v1 : Int32} {I : IH} (F : MF G X RX1 cX1_figure 3 1 (some .int) "figure") (hth : isO sh 1 this) (h : fX1_figure sh this v1 I = some (r, I')) : J G X (QE G X (some (.int r)) sh I' L n) 3 sh I L n 0 0 0 [(0, .ref this), (1, .int v1)] [] := by
  unfold fX1_figure at h
  refine j_aload_n (pc := 0) (k0 := 0) F 0 rfl dX1_figure_0 ?_
  obtain ⟨x1, hx1, h⟩ := ob h
  refine j_callV1 (pc := 1) (ci := 1) (As := []) (st := []) (e1 := 0) (es1 := 0) F clX1_109 cwX1_next rfl hth (ctX1_next G hx1) rfl rfl rfl rfl rfl rfl dX1_figure_1 ?_
  refine j_bipush (pc := 4) F 48 dX1_figure_4 (by decide) ?_
  refine j_isub (pc := 6) F dX1_figure_6 ?_
  refine j_istore_n (pc := 7) (k1 := 2) (ls' := [(2, .int (x1 - 48)), (0, .ref this), (1, .int v1)]) F rfl rfl rfl dX1_figure_7 ?_
  refine j_iload_n (pc := 8) (k0 := 2) F 0 rfl dX1_figure_8 ?_
  refine j_if_lt (pc := 9) F 17 dX1_figure_9 rfl (fun c => ?_) (fun c => ?_)
  · have h := iz_t c h
    refine j_aload_n (pc := 17) (k0 := 0) F 1 rfl dX1_figure_17 ?_
    refine j_iconst (pc := 18) F 0 dX1_figure_18 (by decide) ?_
    obtain ⟨i2, hi2, h⟩ := ob h
    refine j_putZ (pc := 19) F (Or.inl rfl) flX1_9 fp1_2 (fun z => by cases z) hi2 dX1_figure_19 ?_
    refine j_iconst (pc := 22) F 0 dX1_figure_22 (by decide) ?_
    have g1 := Option.some.inj h
    obtain ⟨q3, g2⟩ := Prod.mk.inj g1
    subst q3
    subst g2
    exact j_iret (pc := 23) F dX1_figure_23
  · have h := iz_f c h
    refine j_iload_n (pc := 12) (k0 := 2) F 0 rfl dX1_figure_12 ?_
    refine j_iload_n (pc := 13) (k0 := 1) F 2 rfl dX1_figure_13 ?_
    refine j_icmp_le (pc := 14) F 24 dX1_figure_14 rfl (fun c => ?_) (fun c => ?_)
    · have h := iz_t c h
      refine j_aload_n (pc := 24) (k0 := 0) F 1 rfl dX1_figure_24 ?_
      refine j_dup (pc := 25) F dX1_figure_25 rfl ?_
      obtain ⟨x3, hx3, h⟩ := ob h
      refine j_getI (pc := 26) F flX1_43 hx3 dX1_figure_26 ?_
      refine j_iconst (pc := 29) F 1 dX1_figure_29 (by decide) ?_
      refine j_iadd (pc := 30) F dX1_figure_30 ?_
      obtain ⟨i4, hi4, h⟩ := ob h
      refine j_putI (pc := 31) F flX1_43 fp1_3 (fun z => by cases z) hi4 dX1_figure_31 ?_
      refine j_iload_n (pc := 34) (k0 := 2) F 0 rfl dX1_figure_34 ?_
      have g1 := Option.some.inj h
      obtain ⟨q3, g2⟩ := Prod.mk.inj g1
      subst q3
      subst g2
      exact j_iret (pc := 35) F dX1_figure_35
    · have h := iz_f c h
      refine j_aload_n (pc := 17) (k0 := 0) F 1 rfl dX1_figure_17 ?_
      refine j_iconst (pc := 18) F 0 dX1_figure_18 (by decide) ?_
      obtain ⟨i5, hi5, h⟩ := ob h
      refine j_putZ (pc := 19) F (Or.inl rfl) flX1_9 fp1_2 (fun z => by cases z) hi5 dX1_figure_19 ?_
      refine j_iconst (pc := 22) F 0 dX1_figure_22 (by decide) ?_
      have g1 := Option.some.inj h
      obtain ⟨q3, g2⟩ := Prod.mk.inj g1
      subst q3
      subst g2
      exact j_iret (pc := 23) F dX1_figure_23
theorem ctX1_figure (G : GT) {sh : SH} {I : IH} {L : LH} {n : Nat} {this : Nat} {v1 : Int32} {r : Int32} {I' : IH}  (hth : isO sh 1 this) (h : fX1_figure sh this v1 I = some (r, I')) : Ct G yX1_figure cX1_figure 3 (some .int) 1 [.ref this, .int v1] sh I L n (some (.int r)) sh I' L n 0 0 := by
  refine ct_of (y := yX1_figure) (by decide +kernel) rfl (fun X F => ?_)
  exact jbX1_figure_0 G F hth h
theorem dX4_tell_0 : decode cX4_tell 0 = .ok (.iload_n 1, 1) := by decide +kernel
theorem dX4_tell_1 : decode cX4_tell 1 = .ok (.iconst 4, 1) := by decide +kernel
theorem dX4_tell_2 : decode cX4_tell 2 = .ok (.invokestatic 26, 3) := by decide +kernel
theorem dX4_tell_5 : decode cX4_tell 5 = .ok (.ifCond .eq 33, 3) := by decide +kernel
theorem dX4_tell_8 : decode cX4_tell 8 = .ok (.iload_n 2, 1) := by decide +kernel
theorem dX4_tell_9 : decode cX4_tell 9 = .ok (.iconst 5, 1) := by decide +kernel
theorem dX4_tell_10 : decode cX4_tell 10 = .ok (.invokestatic 26, 3) := by decide +kernel
theorem dX4_tell_13 : decode cX4_tell 13 = .ok (.ifCond .eq 25, 3) := by decide +kernel
theorem dX4_tell_16 : decode cX4_tell 16 = .ok (.aload_n 0, 1) := by decide +kernel
theorem dX4_tell_17 : decode cX4_tell 17 = .ok (.getfield 11, 3) := by decide +kernel
theorem dX4_tell_20 : decode cX4_tell 20 = .ok (.iload_n 1, 1) := by decide +kernel
theorem dX4_tell_21 : decode cX4_tell 21 = .ok (.aaload, 1) := by decide +kernel
theorem dX4_tell_22 : decode cX4_tell 22 = .ok (.iload_n 2, 1) := by decide +kernel
theorem dX4_tell_23 : decode cX4_tell 23 = .ok (.iload_n 1, 1) := by decide +kernel
theorem dX4_tell_24 : decode cX4_tell 24 = .ok (.ifCond .ne 12, 3) := by decide +kernel
theorem dX4_tell_27 : decode cX4_tell 27 = .ok (.iload_n 3, 1) := by decide +kernel
theorem dX4_tell_28 : decode cX4_tell 28 = .ok (.bipush 20, 2) := by decide +kernel
theorem dX4_tell_30 : decode cX4_tell 30 = .ok (.invokestatic 30, 3) := by decide +kernel
theorem dX4_tell_33 : decode cX4_tell 33 = .ok (.goto 4, 3) := by decide +kernel
theorem dX4_tell_36 : decode cX4_tell 36 = .ok (.iload_n 3, 1) := by decide +kernel
theorem dX4_tell_37 : decode cX4_tell 37 = .ok (.iastore, 1) := by decide +kernel
theorem dX4_tell_38 : decode cX4_tell 38 = .ok (.return_, 1) := by decide +kernel
def fX4_tell (sh : SH) (this : Nat) (v1 : Int32) (v2 : Int32) (v3 : Int32) (I : IH) : Option (IH) :=
  if (fX6_isUnder v1 4) = 0 then (
    some I) else
  if (fX6_isUnder v2 5) = 0 then (
    some I) else
  (gR sh 4 this 0).bind fun x1 =>
  (aR sh 4 x1 v1).bind fun x2 =>
  if v1 = 0 then (
    (sI sh I x2 v2 (fJ9_min_7cf53 v3 20)).bind fun i4 =>
    some i4) else
  (sI sh I x2 v2 v3).bind fun i3 =>
  some i3
set_option maxHeartbeats 4000000 in
set_option maxRecDepth 20000 in
theorem jbX4_tell_0 (G : GT) {X : XT} {sh : SH} {L : LH} {n : Nat} {I' : IH}  {this : Nat}  {v1 : Int32} {v2 : Int32} {v3 : Int32} {I : IH} (F : MF G X RX4 cX4_tell 4 1 none "tell") (h : fX4_tell sh this v1 v2 v3 I = some I') : J G X (QE G X (none) sh I' L n) 4 sh I L n 0 0 0 [(0, .ref this), (1, .int v1), (2, .int v2), (3, .int v3)] [] := by
  unfold fX4_tell at h
  refine j_iload_n (pc := 0) (k0 := 1) F 1 rfl dX4_tell_0 ?_
  refine j_iconst (pc := 1) F 4 dX4_tell_1 (by decide) ?_
  refine j_callSN1 (pc := 2) (As := [.int v1, .int 4]) (st := []) (e1 := 0) (es1 := 0) F clX4_26 cwX6_isUnder (ctX6_isUnder G) rfl rfl rfl rfl rfl rfl dX4_tell_2 ?_
  refine j_if_eq (pc := 5) F 38 dX4_tell_5 rfl (fun c => ?_) (fun c => ?_)
  · have h := iz_t c h
    have g1 := Option.some.inj h
    subst g1
    exact j_vret (pc := 38) F dX4_tell_38
  · have h := iz_f c h
    refine j_iload_n (pc := 8) (k0 := 2) F 2 rfl dX4_tell_8 ?_
    refine j_iconst (pc := 9) F 5 dX4_tell_9 (by decide) ?_
    refine j_callSN1 (pc := 10) (As := [.int v2, .int 5]) (st := []) (e1 := 0) (es1 := 0) F clX4_26 cwX6_isUnder (ctX6_isUnder G) rfl rfl rfl rfl rfl rfl dX4_tell_10 ?_
    refine j_if_eq (pc := 13) F 38 dX4_tell_13 rfl (fun c => ?_) (fun c => ?_)
    · have h := iz_t c h
      have g1 := Option.some.inj h
      subst g1
      exact j_vret (pc := 38) F dX4_tell_38
    · have h := iz_f c h
      refine j_aload_n (pc := 16) (k0 := 0) F 0 rfl dX4_tell_16 ?_
      obtain ⟨x1, hx1, h⟩ := ob h
      refine j_getR (pc := 17) F flX4_11 hx1 dX4_tell_17 ?_
      refine j_iload_n (pc := 20) (k0 := 1) F 1 rfl dX4_tell_20 ?_
      obtain ⟨x2, hx2, h⟩ := ob h
      refine j_aald (pc := 21) F (Or.inr rfl) hx2 dX4_tell_21 ?_
      refine j_iload_n (pc := 22) (k0 := 2) F 2 rfl dX4_tell_22 ?_
      refine j_iload_n (pc := 23) (k0 := 1) F 1 rfl dX4_tell_23 ?_
      refine j_if_ne (pc := 24) F 36 dX4_tell_24 rfl (fun c => ?_) (fun c => ?_)
      · have h := iz_f c h
        refine j_iload_n (pc := 36) (k0 := 3) F 3 rfl dX4_tell_36 ?_
        obtain ⟨i3, hi3, h⟩ := ob h
        refine j_iast (pc := 37) F hi3 dX4_tell_37 ?_
        have g1 := Option.some.inj h
        subst g1
        exact j_vret (pc := 38) F dX4_tell_38
      · have h := iz_t c h
        refine j_iload_n (pc := 27) (k0 := 3) F 3 rfl dX4_tell_27 ?_
        refine j_bipush (pc := 28) F 20 dX4_tell_28 (by decide) ?_
        refine j_callS1 (pc := 30) (As := [.int v3, .int 20]) (st := [.int v2, .ref x2]) (e1 := 0) (es1 := 0) F clX4_30 cwJ9_min_7cf53 (ctJ9_min_7cf53 G) rfl rfl rfl rfl rfl rfl dX4_tell_30 ?_
        refine j_goto (pc := 33) F 37 dX4_tell_33 rfl ?_
        obtain ⟨i4, hi4, h⟩ := ob h
        refine j_iast (pc := 37) F hi4 dX4_tell_37 ?_
        have g1 := Option.some.inj h
        subst g1
        exact j_vret (pc := 38) F dX4_tell_38
theorem ctX4_tell (G : GT) {sh : SH} {I : IH} {L : LH} {n : Nat} {this : Nat} {v1 : Int32} {v2 : Int32} {v3 : Int32} {I' : IH}  (h : fX4_tell sh this v1 v2 v3 I = some I') : Ct G yX4_tell cX4_tell 4 none 1 [.ref this, .int v1, .int v2, .int v3] sh I L n (none) sh I' L n 0 0 := by
  refine ct_of (y := yX4_tell) (by decide +kernel) rfl (fun X F => ?_)
  exact jbX4_tell_0 G F h
theorem dX1_clause_0 : decode cX1_clause 0 = .ok (.aload_n 0, 1) := by decide +kernel
theorem dX1_clause_1 : decode cX1_clause 1 = .ok (.invokevirtual 46, 3) := by decide +kernel
theorem dX1_clause_4 : decode cX1_clause 4 = .ok (.istore_n 1, 1) := by decide +kernel
theorem dX1_clause_5 : decode cX1_clause 5 = .ok (.aload_n 0, 1) := by decide +kernel
theorem dX1_clause_6 : decode cX1_clause 6 = .ok (.bipush 32, 2) := by decide +kernel
theorem dX1_clause_8 : decode cX1_clause 8 = .ok (.invokevirtual 50, 3) := by decide +kernel
theorem dX1_clause_11 : decode cX1_clause 11 = .ok (.iload_n 1, 1) := by decide +kernel
theorem dX1_clause_12 : decode cX1_clause 12 = .ok (.iconst 4, 1) := by decide +kernel
theorem dX1_clause_13 : decode cX1_clause 13 = .ok (.if_icmp .ne 37, 3) := by decide +kernel
theorem dX1_clause_16 : decode cX1_clause 16 = .ok (.aload_n 0, 1) := by decide +kernel
theorem dX1_clause_17 : decode cX1_clause 17 = .ok (.invokevirtual 54, 3) := by decide +kernel
theorem dX1_clause_20 : decode cX1_clause 20 = .ok (.istore_n 2, 1) := by decide +kernel
theorem dX1_clause_21 : decode cX1_clause 21 = .ok (.aload_n 0, 1) := by decide +kernel
theorem dX1_clause_22 : decode cX1_clause 22 = .ok (.bipush 32, 2) := by decide +kernel
theorem dX1_clause_24 : decode cX1_clause 24 = .ok (.invokevirtual 50, 3) := by decide +kernel
theorem dX1_clause_27 : decode cX1_clause 27 = .ok (.aload_n 0, 1) := by decide +kernel
theorem dX1_clause_28 : decode cX1_clause 28 = .ok (.iconst 0, 1) := by decide +kernel
theorem dX1_clause_29 : decode cX1_clause 29 = .ok (.invokevirtual 57, 3) := by decide +kernel
theorem dX1_clause_32 : decode cX1_clause 32 = .ok (.astore_n 3, 1) := by decide +kernel
theorem dX1_clause_33 : decode cX1_clause 33 = .ok (.aload_n 0, 1) := by decide +kernel
theorem dX1_clause_34 : decode cX1_clause 34 = .ok (.getfield 9, 3) := by decide +kernel
theorem dX1_clause_37 : decode cX1_clause 37 = .ok (.ifCond .eq 12, 3) := by decide +kernel
theorem dX1_clause_40 : decode cX1_clause 40 = .ok (.aload_n 0, 1) := by decide +kernel
theorem dX1_clause_41 : decode cX1_clause 41 = .ok (.getfield 18, 3) := by decide +kernel
theorem dX1_clause_44 : decode cX1_clause 44 = .ok (.iload_n 2, 1) := by decide +kernel
theorem dX1_clause_45 : decode cX1_clause 45 = .ok (.aload_n 3, 1) := by decide +kernel
theorem dX1_clause_46 : decode cX1_clause 46 = .ok (.invokevirtual 61, 3) := by decide +kernel
theorem dX1_clause_49 : decode cX1_clause 49 = .ok (.return_, 1) := by decide +kernel
theorem dX1_clause_50 : decode cX1_clause 50 = .ok (.aload_n 0, 1) := by decide +kernel
theorem dX1_clause_51 : decode cX1_clause 51 = .ok (.iconst 4, 1) := by decide +kernel
theorem dX1_clause_52 : decode cX1_clause 52 = .ok (.invokevirtual 65, 3) := by decide +kernel
theorem dX1_clause_55 : decode cX1_clause 55 = .ok (.istore_n 2, 1) := by decide +kernel
theorem dX1_clause_56 : decode cX1_clause 56 = .ok (.aload_n 0, 1) := by decide +kernel
theorem dX1_clause_57 : decode cX1_clause 57 = .ok (.bipush 32, 2) := by decide +kernel
theorem dX1_clause_59 : decode cX1_clause 59 = .ok (.invokevirtual 50, 3) := by decide +kernel
theorem dX1_clause_62 : decode cX1_clause 62 = .ok (.aload_n 0, 1) := by decide +kernel
theorem dX1_clause_63 : decode cX1_clause 63 = .ok (.invokevirtual 54, 3) := by decide +kernel
theorem dX1_clause_66 : decode cX1_clause 66 = .ok (.istore_n 3, 1) := by decide +kernel
theorem dX1_clause_67 : decode cX1_clause 67 = .ok (.aload_n 0, 1) := by decide +kernel
theorem dX1_clause_68 : decode cX1_clause 68 = .ok (.getfield 9, 3) := by decide +kernel
theorem dX1_clause_71 : decode cX1_clause 71 = .ok (.ifCond .eq 13, 3) := by decide +kernel
theorem dX1_clause_74 : decode cX1_clause 74 = .ok (.aload_n 0, 1) := by decide +kernel
theorem dX1_clause_75 : decode cX1_clause 75 = .ok (.getfield 18, 3) := by decide +kernel
theorem dX1_clause_78 : decode cX1_clause 78 = .ok (.iload_n 1, 1) := by decide +kernel
theorem dX1_clause_79 : decode cX1_clause 79 = .ok (.iload_n 2, 1) := by decide +kernel
theorem dX1_clause_80 : decode cX1_clause 80 = .ok (.iload_n 3, 1) := by decide +kernel
theorem dX1_clause_81 : decode cX1_clause 81 = .ok (.invokevirtual 69, 3) := by decide +kernel
theorem dX1_clause_84 : decode cX1_clause 84 = .ok (.return_, 1) := by decide +kernel
def fX1_clause (this : Nat) (sh : SH) (I : IH) (n : Nat) : Option ((Nat × Nat) × (SH × IH × Nat)) :=
  b2 (fX1_word sh this I) fun x1 i2 =>
  (fX1_expect sh this 32 i2).bind fun i3 =>
  if x1 = 4 then (
    b2 (fX1_number sh this i3) fun x13 i14 =>
    (fX1_expect sh this 32 i14).bind fun i15 =>
    bE4 (fX1_either this (fX1_factor 8) 0 sh i15 n) fun x16 h17 i18 n19 =>
    (gI h17 i18 1 this 2).bind fun x24 =>
    if x24 = 0 then (
      some ((0, 0), (h17, i18, n19))) else
    (gR h17 1 this 4).bind fun x25 =>
    (ck h17 4 x25).bind fun u26 =>
    (fX4_melt h17 x25 x13 x16 i18).bind fun i27 =>
    some ((0, 0), (h17, i27, n19))) else
  b2 (fX1_figure sh this 4 i3) fun x4 i5 =>
  (fX1_expect sh this 32 i5).bind fun i6 =>
  b2 (fX1_number sh this i6) fun x7 i8 =>
  (gI sh i8 1 this 2).bind fun x9 =>
  if x9 = 0 then (
    some ((0, 0), (sh, i8, n))) else
  (gR sh 1 this 4).bind fun x10 =>
  (ck sh 4 x10).bind fun u11 =>
  (fX4_tell sh x10 x1 x4 x7 i8).bind fun i12 =>
  some ((0, 0), (sh, i12, n))
set_option maxHeartbeats 4000000 in
set_option maxRecDepth 20000 in
theorem jbX1_clause_0 (G : GT) {X : XT} {L : LH} {sh' : SH} {I' : IH} {n' : Nat}  {this : Nat}  {sh : SH} {I : IH} {n : Nat} {e es : Nat} (F : MF G X RX1 cX1_clause 4 108 none "clause") (hth : isO sh 1 this) (h : fX1_clause this sh I n = some ((e, es), (sh', I', n'))) : J G X (QE G X (none) sh' I' L n') 4 sh I L n e es 0 [(0, .ref this)] [] := by
  unfold fX1_clause at h
  refine j_aload_n (pc := 0) (k0 := 0) F 0 rfl dX1_clause_0 ?_
  obtain ⟨x1, i2, hx1, h⟩ := b2_obt h
  refine j_callV1 (pc := 1) (ci := 1) (As := []) (st := []) (e1 := e) (es1 := es) F clX1_46 cwX1_word rfl hth (ctX1_word G hth hx1) rfl rfl rfl rfl (Nat.zero_add _).symm (Nat.zero_add _).symm dX1_clause_1 ?_
  refine j_istore_n (pc := 4) (k1 := 1) (ls' := [(1, .int x1), (0, .ref this)]) F rfl rfl rfl dX1_clause_4 ?_
  refine j_aload_n (pc := 5) (k0 := 0) F 1 rfl dX1_clause_5 ?_
  refine j_bipush (pc := 6) F 32 dX1_clause_6 (by decide) ?_
  obtain ⟨i3, hi3, h⟩ := ob h
  refine j_callV0 (pc := 8) (ci := 1) (As := [.int 32]) (st := []) (e1 := e) (es1 := es) F clX1_50 cwX1_expect rfl hth (ctX1_expect G hth hi3) rfl rfl rfl rfl (Nat.zero_add _).symm (Nat.zero_add _).symm dX1_clause_8 ?_
  refine j_iload_n (pc := 11) (k0 := 1) F 0 rfl dX1_clause_11 ?_
  refine j_iconst (pc := 12) F 4 dX1_clause_12 (by decide) ?_
  refine j_icmp_ne (pc := 13) F 50 dX1_clause_13 rfl (fun c => ?_) (fun c => ?_)
  · have h := iz_f c h
    refine j_aload_n (pc := 50) (k0 := 0) F 1 rfl dX1_clause_50 ?_
    refine j_iconst (pc := 51) F 4 dX1_clause_51 (by decide) ?_
    obtain ⟨x4, i5, hx4, h⟩ := b2_obt h
    refine j_callV1 (pc := 52) (ci := 1) (As := [.int 4]) (st := []) (e1 := e) (es1 := es) F clX1_65 cwX1_figure rfl hth (ctX1_figure G hth hx4) rfl rfl rfl rfl (Nat.zero_add _).symm (Nat.zero_add _).symm dX1_clause_52 ?_
    refine j_istore_n (pc := 55) (k1 := 2) (ls' := [(2, .int x4), (1, .int x1), (0, .ref this)]) F rfl rfl rfl dX1_clause_55 ?_
    refine j_aload_n (pc := 56) (k0 := 0) F 2 rfl dX1_clause_56 ?_
    refine j_bipush (pc := 57) F 32 dX1_clause_57 (by decide) ?_
    obtain ⟨i6, hi6, h⟩ := ob h
    refine j_callV0 (pc := 59) (ci := 1) (As := [.int 32]) (st := []) (e1 := e) (es1 := es) F clX1_50 cwX1_expect rfl hth (ctX1_expect G hth hi6) rfl rfl rfl rfl (Nat.zero_add _).symm (Nat.zero_add _).symm dX1_clause_59 ?_
    refine j_aload_n (pc := 62) (k0 := 0) F 2 rfl dX1_clause_62 ?_
    obtain ⟨x7, i8, hx7, h⟩ := b2_obt h
    refine j_callV1 (pc := 63) (ci := 1) (As := []) (st := []) (e1 := e) (es1 := es) F clX1_54 cwX1_number rfl hth (ctX1_number G hth hx7) rfl rfl rfl rfl (Nat.zero_add _).symm (Nat.zero_add _).symm dX1_clause_63 ?_
    refine j_istore_n (pc := 66) (k1 := 3) (ls' := [(3, .int x7), (2, .int x4), (1, .int x1), (0, .ref this)]) F rfl rfl rfl dX1_clause_66 ?_
    refine j_aload_n (pc := 67) (k0 := 0) F 3 rfl dX1_clause_67 ?_
    obtain ⟨x9, hx9, h⟩ := ob h
    refine j_getI (pc := 68) F flX1_9 hx9 dX1_clause_68 ?_
    refine j_if_eq (pc := 71) F 84 dX1_clause_71 rfl (fun c => ?_) (fun c => ?_)
    · have h := iz_t c h
      have g0 := Option.some.inj h
      obtain ⟨hq, g1⟩ := Prod.mk.inj g0
      obtain ⟨q1, q2⟩ := Prod.mk.inj hq
      obtain ⟨q3, g2⟩ := Prod.mk.inj g1
      obtain ⟨q4, g3⟩ := Prod.mk.inj g2
      subst q1
      subst q2
      subst q3
      subst q4
      subst g3
      exact j_vret (pc := 84) F dX1_clause_84
    · have h := iz_f c h
      refine j_aload_n (pc := 74) (k0 := 0) F 3 rfl dX1_clause_74 ?_
      obtain ⟨x10, hx10, h⟩ := ob h
      refine j_getR (pc := 75) F flX1_18 hx10 dX1_clause_75 ?_
      refine j_iload_n (pc := 78) (k0 := 1) F 2 rfl dX1_clause_78 ?_
      refine j_iload_n (pc := 79) (k0 := 2) F 1 rfl dX1_clause_79 ?_
      refine j_iload_n (pc := 80) (k0 := 3) F 0 rfl dX1_clause_80 ?_
      obtain ⟨u11, hu11, h⟩ := ob h
      have hou11 := ck_obt hu11
      obtain ⟨i12, hi12, h⟩ := ob h
      refine j_callV0 (pc := 81) (ci := 4) (As := [.int x1, .int x4, .int x7]) (st := []) (e1 := e) (es1 := es) F clX1_69 cwX4_tell rfl hou11 (ctX4_tell G hi12) rfl rfl rfl rfl (Nat.zero_add _).symm (Nat.zero_add _).symm dX1_clause_81 ?_
      have g0 := Option.some.inj h
      obtain ⟨hq, g1⟩ := Prod.mk.inj g0
      obtain ⟨q1, q2⟩ := Prod.mk.inj hq
      obtain ⟨q3, g2⟩ := Prod.mk.inj g1
      obtain ⟨q4, g3⟩ := Prod.mk.inj g2
      subst q1
      subst q2
      subst q3
      subst q4
      subst g3
      exact j_vret (pc := 84) F dX1_clause_84
  · have h := iz_t c h
    refine j_aload_n (pc := 16) (k0 := 0) F 1 rfl dX1_clause_16 ?_
    obtain ⟨x13, i14, hx13, h⟩ := b2_obt h
    refine j_callV1 (pc := 17) (ci := 1) (As := []) (st := []) (e1 := e) (es1 := es) F clX1_54 cwX1_number rfl hth (ctX1_number G hth hx13) rfl rfl rfl rfl (Nat.zero_add _).symm (Nat.zero_add _).symm dX1_clause_17 ?_
    refine j_istore_n (pc := 20) (k1 := 2) (ls' := [(2, .int x13), (1, .int x1), (0, .ref this)]) F rfl rfl rfl dX1_clause_20 ?_
    refine j_aload_n (pc := 21) (k0 := 0) F 2 rfl dX1_clause_21 ?_
    refine j_bipush (pc := 22) F 32 dX1_clause_22 (by decide) ?_
    obtain ⟨i15, hi15, h⟩ := ob h
    refine j_callV0 (pc := 24) (ci := 1) (As := [.int 32]) (st := []) (e1 := e) (es1 := es) F clX1_50 cwX1_expect rfl hth (ctX1_expect G hth hi15) rfl rfl rfl rfl (Nat.zero_add _).symm (Nat.zero_add _).symm dX1_clause_24 ?_
    refine j_aload_n (pc := 27) (k0 := 0) F 2 rfl dX1_clause_27 ?_
    refine j_iconst (pc := 28) F 0 dX1_clause_28 (by decide) ?_
    obtain ⟨d20, ds21, x16, h17, i18, n19, e22, es23, hx16, h, he, hes⟩ := bE4_obt h
    refine j_callV1 (pc := 29) (ci := 1) (As := [.int 0]) (st := []) (e1 := e22) (es1 := es23) F clX1_57 cwX1_either rfl hth (ctX1_either G hth (fun hi h => ctX1_factor G 8 _ _ _ _ _ _ _ _ _ _ _ _ hi h) hx16) rfl rfl rfl rfl he hes dX1_clause_29 ?_
    refine j_astore_n (pc := 32) (k1 := 3) (ls' := [(3, .ref x16), (2, .int x13), (1, .int x1), (0, .ref this)]) F rfl rfl rfl dX1_clause_32 ?_
    refine j_aload_n (pc := 33) (k0 := 0) F 3 rfl dX1_clause_33 ?_
    obtain ⟨x24, hx24, h⟩ := ob h
    refine j_getI (pc := 34) F flX1_9 hx24 dX1_clause_34 ?_
    refine j_if_eq (pc := 37) F 49 dX1_clause_37 rfl (fun c => ?_) (fun c => ?_)
    · have h := iz_t c h
      have g0 := Option.some.inj h
      obtain ⟨hq, g1⟩ := Prod.mk.inj g0
      obtain ⟨q1, q2⟩ := Prod.mk.inj hq
      obtain ⟨q3, g2⟩ := Prod.mk.inj g1
      obtain ⟨q4, g3⟩ := Prod.mk.inj g2
      subst q1
      subst q2
      subst q3
      subst q4
      subst g3
      exact j_vret (pc := 49) F dX1_clause_49
    · have h := iz_f c h
      refine j_aload_n (pc := 40) (k0 := 0) F 3 rfl dX1_clause_40 ?_
      obtain ⟨x25, hx25, h⟩ := ob h
      refine j_getR (pc := 41) F flX1_18 hx25 dX1_clause_41 ?_
      refine j_iload_n (pc := 44) (k0 := 2) F 1 rfl dX1_clause_44 ?_
      refine j_aload_n (pc := 45) (k0 := 3) F 0 rfl dX1_clause_45 ?_
      obtain ⟨u26, hu26, h⟩ := ob h
      have hou26 := ck_obt hu26
      obtain ⟨i27, hi27, h⟩ := ob h
      refine j_callV0 (pc := 46) (ci := 4) (As := [.int x13, .ref x16]) (st := []) (e1 := e22) (es1 := es23) F clX1_61 cwX4_melt rfl hou26 (ctX4_melt G hi27) rfl rfl rfl rfl (Nat.zero_add _).symm (Nat.zero_add _).symm dX1_clause_46 ?_
      have g0 := Option.some.inj h
      obtain ⟨hq, g1⟩ := Prod.mk.inj g0
      obtain ⟨q1, q2⟩ := Prod.mk.inj hq
      obtain ⟨q3, g2⟩ := Prod.mk.inj g1
      obtain ⟨q4, g3⟩ := Prod.mk.inj g2
      subst q1
      subst q2
      subst q3
      subst q4
      subst g3
      exact j_vret (pc := 49) F dX1_clause_49
theorem ctX1_clause (G : GT) {sh : SH} {I : IH} {L : LH} {n : Nat} {this : Nat} {sh' : SH} {I' : IH} {n' : Nat} {e es : Nat}  (hth : isO sh 1 this) (h : fX1_clause this sh I n = some ((e, es), (sh', I', n'))) : Ct G yX1_clause cX1_clause 4 none 108 [.ref this] sh I L n (none) sh' I' L n' e es := by
  refine ct_of (y := yX1_clause) (by decide +kernel) rfl (fun X F => ?_)
  exact jbX1_clause_0 G F hth h
theorem dX1_isValley_0 : decode cX1_isValley 0 = .ok (.iconst 0, 1) := by decide +kernel
theorem dX1_isValley_1 : decode cX1_isValley 1 = .ok (.istore_n 1, 1) := by decide +kernel
theorem dX1_isValley_2 : decode cX1_isValley 2 = .ok (.aload_n 0, 1) := by decide +kernel
theorem dX1_isValley_3 : decode cX1_isValley 3 = .ok (.invokevirtual 36, 3) := by decide +kernel
theorem dX1_isValley_6 : decode cX1_isValley 6 = .ok (.iinc 1 1, 3) := by decide +kernel
theorem dX1_isValley_9 : decode cX1_isValley 9 = .ok (.iload_n 1, 1) := by decide +kernel
theorem dX1_isValley_10 : decode cX1_isValley 10 = .ok (.bipush 12, 2) := by decide +kernel
theorem dX1_isValley_12 : decode cX1_isValley 12 = .ok (.if_icmp .ge 12, 3) := by decide +kernel
theorem dX1_isValley_15 : decode cX1_isValley 15 = .ok (.aload_n 0, 1) := by decide +kernel
theorem dX1_isValley_16 : decode cX1_isValley 16 = .ok (.bipush 59, 2) := by decide +kernel
theorem dX1_isValley_18 : decode cX1_isValley 18 = .ok (.invokevirtual 39, 3) := by decide +kernel
theorem dX1_isValley_21 : decode cX1_isValley 21 = .ok (.ifCond .ne (-19), 3) := by decide +kernel
theorem dX1_isValley_24 : decode cX1_isValley 24 = .ok (.aload_n 0, 1) := by decide +kernel
theorem dX1_isValley_25 : decode cX1_isValley 25 = .ok (.getfield 9, 3) := by decide +kernel
theorem dX1_isValley_28 : decode cX1_isValley 28 = .ok (.ifCond .eq 18, 3) := by decide +kernel
theorem dX1_isValley_31 : decode cX1_isValley 31 = .ok (.aload_n 0, 1) := by decide +kernel
theorem dX1_isValley_32 : decode cX1_isValley 32 = .ok (.getfield 43, 3) := by decide +kernel
theorem dX1_isValley_35 : decode cX1_isValley 35 = .ok (.aload_n 0, 1) := by decide +kernel
theorem dX1_isValley_36 : decode cX1_isValley 36 = .ok (.getfield 32, 3) := by decide +kernel
theorem dX1_isValley_39 : decode cX1_isValley 39 = .ok (.if_icmp .ne 7, 3) := by decide +kernel
theorem dX1_isValley_42 : decode cX1_isValley 42 = .ok (.iconst 1, 1) := by decide +kernel
theorem dX1_isValley_43 : decode cX1_isValley 43 = .ok (.goto 4, 3) := by decide +kernel
theorem dX1_isValley_46 : decode cX1_isValley 46 = .ok (.iconst 0, 1) := by decide +kernel
theorem dX1_isValley_47 : decode cX1_isValley 47 = .ok (.ireturn, 1) := by decide +kernel
def fX1_isValley_b2 (this : Nat) (k24 : (SH → IH → Nat → Option ((Nat × Nat) × (Int32 × SH × IH × Nat)))) : Nat → Int32 → SH → IH → Nat → Option ((Nat × Nat) × (Int32 × SH × IH × Nat))
  | 0, _, _, _, _ => none
  | fuel + 1, v1, sh, I, n =>
    (ck sh 1 this).bind fun u1 =>
    bE3 (fX1_clause this sh I n) fun h2 i3 n4 =>
    if 12 ≤ (v1 + 1) then (
      k24 h2 i3 n4) else
    (ck h2 1 this).bind fun u9 =>
    b2 (fX1_passes h2 this 59 i3) fun x10 i11 =>
    if x10 = 0 then (
      k24 h2 i11 n4) else
    fX1_isValley_b2 this k24 fuel (v1 + 1) h2 i11 n4
def fX1_isValley_b24 (this : Nat) (sh : SH) (I : IH) (n : Nat) : Option ((Nat × Nat) × (Int32 × SH × IH × Nat)) :=
  (gI sh I 1 this 2).bind fun x1 =>
  if x1 = 0 then (
    some ((0, 0), (0, sh, I, n))) else
  (gI sh I 1 this 3).bind fun x2 =>
  (gI sh I 1 this 1).bind fun x3 =>
  if x2 = x3 then (
    some ((0, 0), (1, sh, I, n))) else
  some ((0, 0), (0, sh, I, n))
def fX1_isValley (this : Nat) (sh : SH) (I : IH) (n : Nat) : Option ((Nat × Nat) × (Int32 × SH × IH × Nat)) :=
  fX1_isValley_b2 this (fX1_isValley_b24 this) 1000 0 sh I n
set_option maxHeartbeats 4000000 in
set_option maxRecDepth 20000 in
theorem jbX1_isValley_2 (G : GT) {X : XT} {L : LH} {r : Int32} {sh' : SH} {I' : IH} {n' : Nat}  {this : Nat} {k24 : (SH → IH → Nat → Option ((Nat × Nat) × (Int32 × SH × IH × Nat)))} (F : MF G X RX1 cX1_isValley 2 109 (some .boolean) "isValley")
    (hk24 : ∀ {sh : SH} {I : IH} {n : Nat} {e es : Nat}, k24 sh I n = some ((e, es), (r, sh', I', n')) → J G X (QE G X (some (.int r)) sh' I' L n') 2 sh I L n e es 24 [(0, .ref this)] []) : ∀ (fuel : Nat) (v1 : Int32) (sh : SH) (I : IH) (n : Nat) (e es : Nat), fX1_isValley_b2 this k24 fuel v1 sh I n = some ((e, es), (r, sh', I', n')) → J G X (QE G X (some (.int r)) sh' I' L n') 2 sh I L n e es 2 [(0, .ref this), (1, .int v1)] []
  | 0 => by
    intros
    rename_i h
    exact absurd (show none = some _ from h) (by intro z; cases z)
  | fuel + 1 => by
    intro v1 sh I n e es h
    rw [fX1_isValley_b2] at h
    refine j_aload_n (pc := 2) (k0 := 0) F 0 rfl dX1_isValley_2 ?_
    obtain ⟨u1, hu1, h⟩ := ob h
    have hou1 := ck_obt hu1
    obtain ⟨d5, ds6, h2, i3, n4, e7, es8, hh2, h, he, hes⟩ := bE3_obt h
    refine j_callV0 (pc := 3) (ci := 1) (As := []) (st := []) (e1 := e7) (es1 := es8) F clX1_36 cwX1_clause rfl hou1 (ctX1_clause G hou1 hh2) rfl rfl rfl rfl he hes dX1_isValley_3 ?_
    refine j_iinc (pc := 6) (k1 := 1) (ls' := [(1, .int (v1 + 1)), (0, .ref this)]) F (v1 + 1) 1 rfl rfl rfl rfl dX1_isValley_6 ?_
    refine j_iload_n (pc := 9) (k0 := 1) F 0 rfl dX1_isValley_9 ?_
    refine j_bipush (pc := 10) F 12 dX1_isValley_10 (by decide) ?_
    refine j_icmp_ge (pc := 12) F 24 dX1_isValley_12 rfl (fun c => ?_) (fun c => ?_)
    · have h := iz_t c h
      refine j_sub [1] rfl ?_
      exact hk24 h
    · have h := iz_f c h
      refine j_aload_n (pc := 15) (k0 := 0) F 1 rfl dX1_isValley_15 ?_
      refine j_bipush (pc := 16) F 59 dX1_isValley_16 (by decide) ?_
      obtain ⟨u9, hu9, h⟩ := ob h
      have hou9 := ck_obt hu9
      obtain ⟨x10, i11, hx10, h⟩ := b2_obt h
      refine j_callV1 (pc := 18) (ci := 1) (As := [.int 59]) (st := []) (e1 := e7) (es1 := es8) F clX1_39 cwX1_passes rfl hou9 (ctX1_passes G hou9 hx10) rfl rfl rfl rfl (Nat.zero_add _).symm (Nat.zero_add _).symm dX1_isValley_18 ?_
      refine j_if_ne (pc := 21) F 2 dX1_isValley_21 rfl (fun c => ?_) (fun c => ?_)
      · have h := iz_f c h
        refine j_sub [1, 0] rfl ?_
        exact jbX1_isValley_2 G F hk24 fuel _ _ _ _ _ _ h
      · have h := iz_t c h
        refine j_sub [1] rfl ?_
        exact hk24 h
set_option maxHeartbeats 4000000 in
set_option maxRecDepth 20000 in
theorem jbX1_isValley_24 (G : GT) {X : XT} {L : LH} {r : Int32} {sh' : SH} {I' : IH} {n' : Nat}  {this : Nat}  {sh : SH} {I : IH} {n : Nat} {e es : Nat} (F : MF G X RX1 cX1_isValley 2 109 (some .boolean) "isValley") (h : fX1_isValley_b24 this sh I n = some ((e, es), (r, sh', I', n'))) : J G X (QE G X (some (.int r)) sh' I' L n') 2 sh I L n e es 24 [(0, .ref this)] [] := by
  unfold fX1_isValley_b24 at h
  refine j_aload_n (pc := 24) (k0 := 0) F 0 rfl dX1_isValley_24 ?_
  obtain ⟨x1, hx1, h⟩ := ob h
  refine j_getI (pc := 25) F flX1_9 hx1 dX1_isValley_25 ?_
  refine j_if_eq (pc := 28) F 46 dX1_isValley_28 rfl (fun c => ?_) (fun c => ?_)
  · have h := iz_t c h
    refine j_iconst (pc := 46) F 0 dX1_isValley_46 (by decide) ?_
    have g0 := Option.some.inj h
    obtain ⟨hq, g1⟩ := Prod.mk.inj g0
    obtain ⟨q1, q2⟩ := Prod.mk.inj hq
    obtain ⟨q3, g2⟩ := Prod.mk.inj g1
    obtain ⟨q4, g3⟩ := Prod.mk.inj g2
    obtain ⟨q5, g4⟩ := Prod.mk.inj g3
    subst q1
    subst q2
    subst q3
    subst q4
    subst q5
    subst g4
    exact j_zret (pc := 47) F (Or.inl rfl) dX1_isValley_47
  · have h := iz_f c h
    refine j_aload_n (pc := 31) (k0 := 0) F 0 rfl dX1_isValley_31 ?_
    obtain ⟨x2, hx2, h⟩ := ob h
    refine j_getI (pc := 32) F flX1_43 hx2 dX1_isValley_32 ?_
    refine j_aload_n (pc := 35) (k0 := 0) F 0 rfl dX1_isValley_35 ?_
    obtain ⟨x3, hx3, h⟩ := ob h
    refine j_getI (pc := 36) F flX1_32 hx3 dX1_isValley_36 ?_
    refine j_icmp_ne (pc := 39) F 46 dX1_isValley_39 rfl (fun c => ?_) (fun c => ?_)
    · have h := iz_f c h
      refine j_iconst (pc := 46) F 0 dX1_isValley_46 (by decide) ?_
      have g0 := Option.some.inj h
      obtain ⟨hq, g1⟩ := Prod.mk.inj g0
      obtain ⟨q1, q2⟩ := Prod.mk.inj hq
      obtain ⟨q3, g2⟩ := Prod.mk.inj g1
      obtain ⟨q4, g3⟩ := Prod.mk.inj g2
      obtain ⟨q5, g4⟩ := Prod.mk.inj g3
      subst q1
      subst q2
      subst q3
      subst q4
      subst q5
      subst g4
      exact j_zret (pc := 47) F (Or.inl rfl) dX1_isValley_47
    · have h := iz_t c h
      refine j_iconst (pc := 42) F 1 dX1_isValley_42 (by decide) ?_
      refine j_goto (pc := 43) F 47 dX1_isValley_43 rfl ?_
      have g0 := Option.some.inj h
      obtain ⟨hq, g1⟩ := Prod.mk.inj g0
      obtain ⟨q1, q2⟩ := Prod.mk.inj hq
      obtain ⟨q3, g2⟩ := Prod.mk.inj g1
      obtain ⟨q4, g3⟩ := Prod.mk.inj g2
      obtain ⟨q5, g4⟩ := Prod.mk.inj g3
      subst q1
      subst q2
      subst q3
      subst q4
      subst q5
      subst g4
      exact j_zret (pc := 47) F (Or.inr rfl) dX1_isValley_47
set_option maxHeartbeats 4000000 in
set_option maxRecDepth 20000 in
theorem jbX1_isValley_0 (G : GT) {X : XT} {L : LH} {r : Int32} {sh' : SH} {I' : IH} {n' : Nat}  {this : Nat}  {sh : SH} {I : IH} {n : Nat} {e es : Nat} (F : MF G X RX1 cX1_isValley 2 109 (some .boolean) "isValley") (hth : isO sh 1 this) (h : fX1_isValley this sh I n = some ((e, es), (r, sh', I', n'))) : J G X (QE G X (some (.int r)) sh' I' L n') 2 sh I L n e es 0 [(0, .ref this)] [] := by
  unfold fX1_isValley at h
  refine j_iconst (pc := 0) F 0 dX1_isValley_0 (by decide) ?_
  refine j_istore_n (pc := 1) (k1 := 1) (ls' := [(1, .int 0), (0, .ref this)]) F rfl rfl rfl dX1_isValley_1 ?_
  refine j_sub [1, 0] rfl ?_
  exact jbX1_isValley_2 G F (fun h => jbX1_isValley_24 G F h) 1000 _ _ _ _ _ _ h
theorem ctX1_isValley (G : GT) {sh : SH} {I : IH} {L : LH} {n : Nat} {this : Nat} {r : Int32} {sh' : SH} {I' : IH} {n' : Nat} {e es : Nat}  (hth : isO sh 1 this) (h : fX1_isValley this sh I n = some ((e, es), (r, sh', I', n'))) : Ct G yX1_isValley cX1_isValley 2 (some .boolean) 109 [.ref this] sh I L n (some (.int r)) sh' I' L n' e es := by
  refine ct_of (y := yX1_isValley) (by decide +kernel) rfl (fun X F => ?_)
  exact jbX1_isValley_0 G F hth h
theorem dX2_init_0 : decode cX2_init 0 = .ok (.aload_n 0, 1) := by decide +kernel
theorem dX2_init_1 : decode cX2_init 1 = .ok (.invokespecial 3, 3) := by decide +kernel
theorem dX2_init_4 : decode cX2_init 4 = .ok (.aload_n 0, 1) := by decide +kernel
theorem dX2_init_5 : decode cX2_init 5 = .ok (.iconst 3, 1) := by decide +kernel
theorem dX2_init_6 : decode cX2_init 6 = .ok (.putfield 9, 3) := by decide +kernel
theorem dX2_init_9 : decode cX2_init 9 = .ok (.aload_n 0, 1) := by decide +kernel
theorem dX2_init_10 : decode cX2_init 10 = .ok (.iconst 2, 1) := by decide +kernel
theorem dX2_init_11 : decode cX2_init 11 = .ok (.newarray .int, 2) := by decide +kernel
theorem dX2_init_13 : decode cX2_init 13 = .ok (.putfield 15, 3) := by decide +kernel
theorem dX2_init_16 : decode cX2_init 16 = .ok (.aload_n 0, 1) := by decide +kernel
theorem dX2_init_17 : decode cX2_init 17 = .ok (.iconst 3, 1) := by decide +kernel
theorem dX2_init_18 : decode cX2_init 18 = .ok (.newarray .int, 2) := by decide +kernel
theorem dX2_init_20 : decode cX2_init 20 = .ok (.dup, 1) := by decide +kernel
theorem dX2_init_21 : decode cX2_init 21 = .ok (.iconst 0, 1) := by decide +kernel
theorem dX2_init_22 : decode cX2_init 22 = .ok (.bipush 10, 2) := by decide +kernel
theorem dX2_init_24 : decode cX2_init 24 = .ok (.iastore, 1) := by decide +kernel
theorem dX2_init_25 : decode cX2_init 25 = .ok (.dup, 1) := by decide +kernel
theorem dX2_init_26 : decode cX2_init 26 = .ok (.iconst 1, 1) := by decide +kernel
theorem dX2_init_27 : decode cX2_init 27 = .ok (.iconst 0, 1) := by decide +kernel
theorem dX2_init_28 : decode cX2_init 28 = .ok (.iastore, 1) := by decide +kernel
theorem dX2_init_29 : decode cX2_init 29 = .ok (.dup, 1) := by decide +kernel
theorem dX2_init_30 : decode cX2_init 30 = .ok (.iconst 2, 1) := by decide +kernel
theorem dX2_init_31 : decode cX2_init 31 = .ok (.iconst 0, 1) := by decide +kernel
theorem dX2_init_32 : decode cX2_init 32 = .ok (.iastore, 1) := by decide +kernel
theorem dX2_init_33 : decode cX2_init 33 = .ok (.putfield 19, 3) := by decide +kernel
theorem dX2_init_36 : decode cX2_init 36 = .ok (.aload_n 0, 1) := by decide +kernel
theorem dX2_init_37 : decode cX2_init 37 = .ok (.iconst 5, 1) := by decide +kernel
theorem dX2_init_38 : decode cX2_init 38 = .ok (.iconst 3, 1) := by decide +kernel
theorem dX2_init_39 : decode cX2_init 39 = .ok (.multianewarray 22 2, 4) := by decide +kernel
theorem dX2_init_43 : decode cX2_init 43 = .ok (.putfield 24, 3) := by decide +kernel
theorem dX2_init_46 : decode cX2_init 46 = .ok (.aload_n 0, 1) := by decide +kernel
theorem dX2_init_47 : decode cX2_init 47 = .ok (.bipush 10, 2) := by decide +kernel
theorem dX2_init_49 : decode cX2_init 49 = .ok (.iconst 4, 1) := by decide +kernel
theorem dX2_init_50 : decode cX2_init 50 = .ok (.multianewarray 22 2, 4) := by decide +kernel
theorem dX2_init_54 : decode cX2_init 54 = .ok (.putfield 27, 3) := by decide +kernel
theorem dX2_init_57 : decode cX2_init 57 = .ok (.aload_n 0, 1) := by decide +kernel
theorem dX2_init_58 : decode cX2_init 58 = .ok (.bipush 24, 2) := by decide +kernel
theorem dX2_init_60 : decode cX2_init 60 = .ok (.newarray .int, 2) := by decide +kernel
theorem dX2_init_62 : decode cX2_init 62 = .ok (.putfield 30, 3) := by decide +kernel
theorem dX2_init_65 : decode cX2_init 65 = .ok (.aload_n 0, 1) := by decide +kernel
theorem dX2_init_66 : decode cX2_init 66 = .ok (.aload_n 1, 1) := by decide +kernel
theorem dX2_init_67 : decode cX2_init 67 = .ok (.putfield 33, 3) := by decide +kernel
theorem dX2_init_70 : decode cX2_init 70 = .ok (.return_, 1) := by decide +kernel
def fX2_init (this : Nat) (v1 : Nat) (sh : SH) (I : IH) (n : Nat) : Option ((Nat × Nat) × (SH × IH × Nat)) :=
  (pI sh I 2 this 0 3).bind fun i1 =>
  b2 (nAI sh i1 n 0 2) fun h2 i3 =>
  addE 1 (2 : Int32).toNatClampNeg (
  (pR h2 2 this 1 n).bind fun h6 =>
  b2 (nAI h6 i3 (n + 1) 0 3) fun h7 i8 =>
  addE 1 (3 : Int32).toNatClampNeg (
  (sI h7 i8 (n + 1) 0 10).bind fun i11 =>
  (sI h7 i11 (n + 1) 1 0).bind fun i12 =>
  (sI h7 i12 (n + 1) 2 0).bind fun i13 =>
  (pR h7 2 this 2 (n + 1)).bind fun h14 =>
  b2 (nM h14 i13 ((n + 1) + 1) 5 3) fun h15 i16 =>
  addE (1 + (5 : Int32).toNatClampNeg) ((5 : Int32).toNatClampNeg + (5 : Int32).toNatClampNeg * (3 : Int32).toNatClampNeg) (
  (pR h15 2 this 3 ((n + 1) + 1)).bind fun h19 =>
  b2 (nM h19 i16 (((n + 1) + 1) + (1 + (5 : Int32).toNatClampNeg)) 10 4) fun h20 i21 =>
  addE (1 + (10 : Int32).toNatClampNeg) ((10 : Int32).toNatClampNeg + (10 : Int32).toNatClampNeg * (4 : Int32).toNatClampNeg) (
  (pR h20 2 this 4 (((n + 1) + 1) + (1 + (5 : Int32).toNatClampNeg))).bind fun h24 =>
  b2 (nAI h24 i21 ((((n + 1) + 1) + (1 + (5 : Int32).toNatClampNeg)) + (1 + (10 : Int32).toNatClampNeg)) 0 24) fun h25 i26 =>
  addE 1 (24 : Int32).toNatClampNeg (
  (pR h25 2 this 6 ((((n + 1) + 1) + (1 + (5 : Int32).toNatClampNeg)) + (1 + (10 : Int32).toNatClampNeg))).bind fun h29 =>
  (pR h29 2 this 8 v1).bind fun h30 =>
  some ((0, 0), (h30, i26, (((((n + 1) + 1) + (1 + (5 : Int32).toNatClampNeg)) + (1 + (10 : Int32).toNatClampNeg)) + 1))))))))
set_option maxHeartbeats 4000000 in
set_option maxRecDepth 20000 in
theorem jbX2_init_0 (G : GT) {X : XT} {L : LH} {sh' : SH} {I' : IH} {n' : Nat}  {this : Nat}  {v1 : Nat} {sh : SH} {I : IH} {n : Nat} {e es : Nat} (F : MF G X RX2 cX2_init 2 1 none "<init>") (h : fX2_init this v1 sh I n = some ((e, es), (sh', I', n'))) : J G X (QE G X (none) sh' I' L n') 2 sh I L n e es 0 [(0, .ref this), (1, .ref v1)] [] := by
  unfold fX2_init at h
  refine j_aload_n (pc := 0) (k0 := 0) F 0 rfl dX2_init_0 ?_
  refine j_objInit (pc := 1) F (good_of 122 (by decide +kernel) (by decide +kernel)) rfl rfl dX2_init_1 ?_
  refine j_aload_n (pc := 4) (k0 := 0) F 0 rfl dX2_init_4 ?_
  refine j_iconst (pc := 5) F 3 dX2_init_5 (by decide) ?_
  obtain ⟨i1, hi1, h⟩ := ob h
  refine j_putI (pc := 6) F flX2_9 fp2_0 (fun z => by cases z) hi1 dX2_init_6 ?_
  refine j_aload_n (pc := 9) (k0 := 0) F 0 rfl dX2_init_9 ?_
  refine j_iconst (pc := 10) F 2 dX2_init_10 (by decide) ?_
  obtain ⟨h2, i3, hh2, h⟩ := b2_obt h
  obtain ⟨e4, es5, h, he, hes⟩ := addE_obt h
  refine j_newI (pc := 11) F (Or.inl ⟨rfl, rfl⟩) aw_int hh2 he hes dX2_init_11 ?_
  obtain ⟨h6, hh6, h⟩ := ob h
  refine j_putR (pc := 13) (ty := (.array .int)) F ⟨rfl, rfl⟩ flX2_15 fp2_1 (fun _ => ⟨rfl, rfl⟩) hh6 dX2_init_13 ?_
  refine j_aload_n (pc := 16) (k0 := 0) F 0 rfl dX2_init_16 ?_
  refine j_iconst (pc := 17) F 3 dX2_init_17 (by decide) ?_
  obtain ⟨h7, i8, hh7, h⟩ := b2_obt h
  obtain ⟨e9, es10, h, he, hes⟩ := addE_obt h
  refine j_newI (pc := 18) F (Or.inl ⟨rfl, rfl⟩) aw_int hh7 he hes dX2_init_18 ?_
  refine j_dup (pc := 20) F dX2_init_20 rfl ?_
  refine j_iconst (pc := 21) F 0 dX2_init_21 (by decide) ?_
  refine j_bipush (pc := 22) F 10 dX2_init_22 (by decide) ?_
  obtain ⟨i11, hi11, h⟩ := ob h
  refine j_iast (pc := 24) F hi11 dX2_init_24 ?_
  refine j_dup (pc := 25) F dX2_init_25 rfl ?_
  refine j_iconst (pc := 26) F 1 dX2_init_26 (by decide) ?_
  refine j_iconst (pc := 27) F 0 dX2_init_27 (by decide) ?_
  obtain ⟨i12, hi12, h⟩ := ob h
  refine j_iast (pc := 28) F hi12 dX2_init_28 ?_
  refine j_dup (pc := 29) F dX2_init_29 rfl ?_
  refine j_iconst (pc := 30) F 2 dX2_init_30 (by decide) ?_
  refine j_iconst (pc := 31) F 0 dX2_init_31 (by decide) ?_
  obtain ⟨i13, hi13, h⟩ := ob h
  refine j_iast (pc := 32) F hi13 dX2_init_32 ?_
  obtain ⟨h14, hh14, h⟩ := ob h
  refine j_putR (pc := 33) (ty := (.array .int)) F ⟨rfl, rfl⟩ flX2_19 fp2_2 (fun _ => ⟨rfl, rfl⟩) hh14 dX2_init_33 ?_
  refine j_aload_n (pc := 36) (k0 := 0) F 0 rfl dX2_init_36 ?_
  refine j_iconst (pc := 37) F 5 dX2_init_37 (by decide) ?_
  refine j_iconst (pc := 38) F 3 dX2_init_38 (by decide) ?_
  obtain ⟨h15, i16, hh15, h⟩ := b2_obt h
  obtain ⟨e17, es18, h, he, hes⟩ := addE_obt h
  refine j_multi (pc := 39) F (good_of 123 (by decide +kernel) (by decide +kernel)) aw_int hh15 he hes dX2_init_39 ?_
  obtain ⟨h19, hh19, h⟩ := ob h
  refine j_putR (pc := 43) (ty := (.array (.array .int))) F ⟨rfl, rfl⟩ flX2_24 fp2_3 (fun _ => ⟨rfl, rfl⟩) hh19 dX2_init_43 ?_
  refine j_aload_n (pc := 46) (k0 := 0) F 0 rfl dX2_init_46 ?_
  refine j_bipush (pc := 47) F 10 dX2_init_47 (by decide) ?_
  refine j_iconst (pc := 49) F 4 dX2_init_49 (by decide) ?_
  obtain ⟨h20, i21, hh20, h⟩ := b2_obt h
  obtain ⟨e22, es23, h, he, hes⟩ := addE_obt h
  refine j_multi (pc := 50) F (good_of 123 (by decide +kernel) (by decide +kernel)) aw_int hh20 he hes dX2_init_50 ?_
  obtain ⟨h24, hh24, h⟩ := ob h
  refine j_putR (pc := 54) (ty := (.array (.array .int))) F ⟨rfl, rfl⟩ flX2_27 fp2_4 (fun _ => ⟨rfl, rfl⟩) hh24 dX2_init_54 ?_
  refine j_aload_n (pc := 57) (k0 := 0) F 0 rfl dX2_init_57 ?_
  refine j_bipush (pc := 58) F 24 dX2_init_58 (by decide) ?_
  obtain ⟨h25, i26, hh25, h⟩ := b2_obt h
  obtain ⟨e27, es28, h, he, hes⟩ := addE_obt h
  refine j_newI (pc := 60) F (Or.inl ⟨rfl, rfl⟩) aw_int hh25 he hes dX2_init_60 ?_
  obtain ⟨h29, hh29, h⟩ := ob h
  refine j_putR (pc := 62) (ty := (.array .int)) F ⟨rfl, rfl⟩ flX2_30 fp2_6 (fun _ => ⟨rfl, rfl⟩) hh29 dX2_init_62 ?_
  refine j_aload_n (pc := 65) (k0 := 0) F 0 rfl dX2_init_65 ?_
  refine j_aload_n (pc := 66) (k0 := 1) F 1 rfl dX2_init_66 ?_
  obtain ⟨h30, hh30, h⟩ := ob h
  refine j_putR (pc := 67) (ty := (.object "MeltHours$Valley")) F ⟨rfl, rfl⟩ flX2_33 fp2_8 (fun z => by cases z) hh30 dX2_init_67 ?_
  have g0 := Option.some.inj h
  obtain ⟨hq, g1⟩ := Prod.mk.inj g0
  obtain ⟨q1, q2⟩ := Prod.mk.inj hq
  obtain ⟨q3, g2⟩ := Prod.mk.inj g1
  obtain ⟨q4, g3⟩ := Prod.mk.inj g2
  subst q1
  subst q2
  subst q3
  subst q4
  subst g3
  exact j_vret (pc := 70) F dX2_init_70
theorem ctX2_init (G : GT) {sh : SH} {I : IH} {L : LH} {n : Nat} {this : Nat} {v1 : Nat} {sh' : SH} {I' : IH} {n' : Nat} {e es : Nat}  (h : fX2_init this v1 sh I n = some ((e, es), (sh', I', n'))) : Ct G yX2_init cX2_init 2 none 1 [.ref this, .ref v1] sh I L n (none) sh' I' L n' e es := by
  refine ct_of (y := yX2_init) (by decide +kernel) rfl (fun X F => ?_)
  exact jbX2_init_0 G F h
theorem dX6_copy_0 : decode cX6_copy 0 = .ok (.aload_n 0, 1) := by decide +kernel
theorem dX6_copy_1 : decode cX6_copy 1 = .ok (.iconst 0, 1) := by decide +kernel
theorem dX6_copy_2 : decode cX6_copy 2 = .ok (.aload_n 1, 1) := by decide +kernel
theorem dX6_copy_3 : decode cX6_copy 3 = .ok (.iconst 0, 1) := by decide +kernel
theorem dX6_copy_4 : decode cX6_copy 4 = .ok (.aload_n 0, 1) := by decide +kernel
theorem dX6_copy_5 : decode cX6_copy 5 = .ok (.arraylength, 1) := by decide +kernel
theorem dX6_copy_6 : decode cX6_copy 6 = .ok (.aload_n 1, 1) := by decide +kernel
theorem dX6_copy_7 : decode cX6_copy 7 = .ok (.arraylength, 1) := by decide +kernel
theorem dX6_copy_8 : decode cX6_copy 8 = .ok (.invokestatic 207, 3) := by decide +kernel
theorem dX6_copy_11 : decode cX6_copy 11 = .ok (.invokestatic 249, 3) := by decide +kernel
theorem dX6_copy_14 : decode cX6_copy 14 = .ok (.return_, 1) := by decide +kernel
def fX6_copy (sh : SH) (v0 : Nat) (v1 : Nat) (I : IH) : Option (IH) :=
  (aL sh v0).bind fun x1 =>
  (aL sh v1).bind fun x2 =>
  (cpI sh I v0 0 v1 0 (fJ9_min_7cf53 x1 x2)).bind fun i3 =>
  some i3
set_option maxHeartbeats 4000000 in
set_option maxRecDepth 20000 in
theorem jbX6_copy_0 (G : GT) {X : XT} {sh : SH} {L : LH} {n : Nat} {I' : IH}   {v0 : Nat} {v1 : Nat} {I : IH} (F : MF G X RX6 cX6_copy 2 1 none "copy") (h : fX6_copy sh v0 v1 I = some I') : J G X (QE G X (none) sh I' L n) 2 sh I L n 0 0 0 [(0, .ref v0), (1, .ref v1)] [] := by
  unfold fX6_copy at h
  refine j_aload_n (pc := 0) (k0 := 0) F 0 rfl dX6_copy_0 ?_
  refine j_iconst (pc := 1) F 0 dX6_copy_1 (by decide) ?_
  refine j_aload_n (pc := 2) (k0 := 1) F 1 rfl dX6_copy_2 ?_
  refine j_iconst (pc := 3) F 0 dX6_copy_3 (by decide) ?_
  refine j_aload_n (pc := 4) (k0 := 0) F 0 rfl dX6_copy_4 ?_
  obtain ⟨x1, hx1, h⟩ := ob h
  refine j_alen (pc := 5) F hx1 dX6_copy_5 ?_
  refine j_aload_n (pc := 6) (k0 := 1) F 1 rfl dX6_copy_6 ?_
  obtain ⟨x2, hx2, h⟩ := ob h
  refine j_alen (pc := 7) F hx2 dX6_copy_7 ?_
  refine j_callS1 (pc := 8) (As := [.int x1, .int x2]) (st := [.int 0, .ref v1, .int 0, .ref v0]) (e1 := 0) (es1 := 0) F clX6_207 cwJ9_min_7cf53 (ctJ9_min_7cf53 G) rfl rfl rfl rfl rfl rfl dX6_copy_8 ?_
  obtain ⟨i3, hi3, h⟩ := ob h
  refine j_cpI (pc := 11) F (good_of 500 (by decide +kernel) (by decide +kernel)) hi3 rfl rfl dX6_copy_11 ?_
  have g1 := Option.some.inj h
  subst g1
  exact j_vret (pc := 14) F dX6_copy_14
theorem ctX6_copy (G : GT) {sh : SH} {I : IH} {L : LH} {n : Nat} {v0 : Nat} {v1 : Nat} {I' : IH}  (h : fX6_copy sh v0 v1 I = some I') : Ct G yX6_copy cX6_copy 2 none 1 [.ref v0, .ref v1] sh I L n (none) sh I' L n 0 0 := by
  refine ct_of (y := yX6_copy) (by decide +kernel) rfl (fun X F => ?_)
  exact jbX6_copy_0 G F h
theorem dX6_copyRows_0 : decode cX6_copyRows 0 = .ok (.iconst 0, 1) := by decide +kernel
theorem dX6_copyRows_1 : decode cX6_copyRows 1 = .ok (.istore_n 2, 1) := by decide +kernel
theorem dX6_copyRows_2 : decode cX6_copyRows 2 = .ok (.iload_n 2, 1) := by decide +kernel
theorem dX6_copyRows_3 : decode cX6_copyRows 3 = .ok (.aload_n 0, 1) := by decide +kernel
theorem dX6_copyRows_4 : decode cX6_copyRows 4 = .ok (.arraylength, 1) := by decide +kernel
theorem dX6_copyRows_5 : decode cX6_copyRows 5 = .ok (.if_icmp .ge 24, 3) := by decide +kernel
theorem dX6_copyRows_8 : decode cX6_copyRows 8 = .ok (.iload_n 2, 1) := by decide +kernel
theorem dX6_copyRows_9 : decode cX6_copyRows 9 = .ok (.aload_n 1, 1) := by decide +kernel
theorem dX6_copyRows_10 : decode cX6_copyRows 10 = .ok (.arraylength, 1) := by decide +kernel
theorem dX6_copyRows_11 : decode cX6_copyRows 11 = .ok (.if_icmp .ge 18, 3) := by decide +kernel
theorem dX6_copyRows_14 : decode cX6_copyRows 14 = .ok (.aload_n 0, 1) := by decide +kernel
theorem dX6_copyRows_15 : decode cX6_copyRows 15 = .ok (.iload_n 2, 1) := by decide +kernel
theorem dX6_copyRows_16 : decode cX6_copyRows 16 = .ok (.aaload, 1) := by decide +kernel
theorem dX6_copyRows_17 : decode cX6_copyRows 17 = .ok (.aload_n 1, 1) := by decide +kernel
theorem dX6_copyRows_18 : decode cX6_copyRows 18 = .ok (.iload_n 2, 1) := by decide +kernel
theorem dX6_copyRows_19 : decode cX6_copyRows 19 = .ok (.aaload, 1) := by decide +kernel
theorem dX6_copyRows_20 : decode cX6_copyRows 20 = .ok (.invokestatic 261, 3) := by decide +kernel
theorem dX6_copyRows_23 : decode cX6_copyRows 23 = .ok (.iinc 2 1, 3) := by decide +kernel
theorem dX6_copyRows_26 : decode cX6_copyRows 26 = .ok (.goto (-24), 3) := by decide +kernel
theorem dX6_copyRows_29 : decode cX6_copyRows 29 = .ok (.return_, 1) := by decide +kernel
def fX6_copyRows_b2 (sh : SH) : Nat → Nat → Nat → Int32 → IH → Option (IH)
  | 0, _, _, _, _ => none
  | fuel + 1, v0, v1, v2, I =>
    (aL sh v0).bind fun x1 =>
    if x1 ≤ v2 then (
      some I) else
    (aL sh v1).bind fun x2 =>
    if x2 ≤ v2 then (
      some I) else
    (aR sh 4 v0 v2).bind fun x3 =>
    (aR sh 4 v1 v2).bind fun x4 =>
    (fX6_copy sh x3 x4 I).bind fun i5 =>
    fX6_copyRows_b2 sh fuel v0 v1 (v2 + 1) i5
def fX6_copyRows (sh : SH) (v0 : Nat) (v1 : Nat) (I : IH) : Option (IH) :=
  fX6_copyRows_b2 sh 1000 v0 v1 0 I
set_option maxHeartbeats 4000000 in
set_option maxRecDepth 20000 in
theorem jbX6_copyRows_2 (G : GT) {X : XT} {sh : SH} {L : LH} {n : Nat} {I' : IH}   (F : MF G X RX6 cX6_copyRows 3 2 none "copyRows") : ∀ (fuel : Nat) (v0 : Nat) (v1 : Nat) (v2 : Int32) (I : IH), fX6_copyRows_b2 sh fuel v0 v1 v2 I = some I' → J G X (QE G X (none) sh I' L n) 3 sh I L n 0 0 2 [(0, .ref v0), (1, .ref v1), (2, .int v2)] []
  | 0 => by
    intros
    rename_i h
    exact absurd (show none = some _ from h) (by intro z; cases z)
  | fuel + 1 => by
    intro v0 v1 v2 I h
    rw [fX6_copyRows_b2] at h
    refine j_iload_n (pc := 2) (k0 := 2) F 2 rfl dX6_copyRows_2 ?_
    refine j_aload_n (pc := 3) (k0 := 0) F 0 rfl dX6_copyRows_3 ?_
    obtain ⟨x1, hx1, h⟩ := ob h
    refine j_alen (pc := 4) F hx1 dX6_copyRows_4 ?_
    refine j_icmp_ge (pc := 5) F 29 dX6_copyRows_5 rfl (fun c => ?_) (fun c => ?_)
    · have h := iz_t c h
      have g1 := Option.some.inj h
      subst g1
      exact j_vret (pc := 29) F dX6_copyRows_29
    · have h := iz_f c h
      refine j_iload_n (pc := 8) (k0 := 2) F 2 rfl dX6_copyRows_8 ?_
      refine j_aload_n (pc := 9) (k0 := 1) F 1 rfl dX6_copyRows_9 ?_
      obtain ⟨x2, hx2, h⟩ := ob h
      refine j_alen (pc := 10) F hx2 dX6_copyRows_10 ?_
      refine j_icmp_ge (pc := 11) F 29 dX6_copyRows_11 rfl (fun c => ?_) (fun c => ?_)
      · have h := iz_t c h
        have g1 := Option.some.inj h
        subst g1
        exact j_vret (pc := 29) F dX6_copyRows_29
      · have h := iz_f c h
        refine j_aload_n (pc := 14) (k0 := 0) F 0 rfl dX6_copyRows_14 ?_
        refine j_iload_n (pc := 15) (k0 := 2) F 2 rfl dX6_copyRows_15 ?_
        obtain ⟨x3, hx3, h⟩ := ob h
        refine j_aald (pc := 16) F (Or.inr rfl) hx3 dX6_copyRows_16 ?_
        refine j_aload_n (pc := 17) (k0 := 1) F 1 rfl dX6_copyRows_17 ?_
        refine j_iload_n (pc := 18) (k0 := 2) F 2 rfl dX6_copyRows_18 ?_
        obtain ⟨x4, hx4, h⟩ := ob h
        refine j_aald (pc := 19) F (Or.inr rfl) hx4 dX6_copyRows_19 ?_
        obtain ⟨i5, hi5, h⟩ := ob h
        refine j_callS0 (pc := 20) (As := [.ref x3, .ref x4]) (st := []) (e1 := 0) (es1 := 0) F clX6_261 cwX6_copy (ctX6_copy G hi5) rfl rfl rfl rfl rfl rfl dX6_copyRows_20 ?_
        refine j_iinc (pc := 23) (k1 := 2) (ls' := [(2, .int (v2 + 1)), (0, .ref v0), (1, .ref v1)]) F (v2 + 1) 2 rfl rfl rfl rfl dX6_copyRows_23 ?_
        refine j_goto (pc := 26) F 2 dX6_copyRows_26 rfl ?_
        refine j_sub [1, 2, 0] rfl ?_
        exact jbX6_copyRows_2 G F fuel _ _ _ _ h
set_option maxHeartbeats 4000000 in
set_option maxRecDepth 20000 in
theorem jbX6_copyRows_0 (G : GT) {X : XT} {sh : SH} {L : LH} {n : Nat} {I' : IH}   {v0 : Nat} {v1 : Nat} {I : IH} (F : MF G X RX6 cX6_copyRows 3 2 none "copyRows") (h : fX6_copyRows sh v0 v1 I = some I') : J G X (QE G X (none) sh I' L n) 3 sh I L n 0 0 0 [(0, .ref v0), (1, .ref v1)] [] := by
  unfold fX6_copyRows at h
  refine j_iconst (pc := 0) F 0 dX6_copyRows_0 (by decide) ?_
  refine j_istore_n (pc := 1) (k1 := 2) (ls' := [(2, .int 0), (0, .ref v0), (1, .ref v1)]) F rfl rfl rfl dX6_copyRows_1 ?_
  refine j_sub [1, 2, 0] rfl ?_
  exact jbX6_copyRows_2 G F 1000 _ _ _ _ h
theorem ctX6_copyRows (G : GT) {sh : SH} {I : IH} {L : LH} {n : Nat} {v0 : Nat} {v1 : Nat} {I' : IH}  (h : fX6_copyRows sh v0 v1 I = some I') : Ct G yX6_copyRows cX6_copyRows 3 none 2 [.ref v0, .ref v1] sh I L n (none) sh I' L n 0 0 := by
  refine ct_of (y := yX6_copyRows) (by decide +kernel) rfl (fun X F => ?_)
  exact jbX6_copyRows_0 G F h
theorem dX2_become_0 : decode cX2_become 0 = .ok (.aload_n 0, 1) := by decide +kernel
theorem dX2_become_1 : decode cX2_become 1 = .ok (.aload_n 1, 1) := by decide +kernel
theorem dX2_become_2 : decode cX2_become 2 = .ok (.getfield 9, 3) := by decide +kernel
theorem dX2_become_5 : decode cX2_become 5 = .ok (.putfield 9, 3) := by decide +kernel
theorem dX2_become_8 : decode cX2_become 8 = .ok (.aload_n 1, 1) := by decide +kernel
theorem dX2_become_9 : decode cX2_become 9 = .ok (.getfield 15, 3) := by decide +kernel
theorem dX2_become_12 : decode cX2_become 12 = .ok (.aload_n 0, 1) := by decide +kernel
theorem dX2_become_13 : decode cX2_become 13 = .ok (.getfield 15, 3) := by decide +kernel
theorem dX2_become_16 : decode cX2_become 16 = .ok (.invokestatic 37, 3) := by decide +kernel
theorem dX2_become_19 : decode cX2_become 19 = .ok (.aload_n 1, 1) := by decide +kernel
theorem dX2_become_20 : decode cX2_become 20 = .ok (.getfield 19, 3) := by decide +kernel
theorem dX2_become_23 : decode cX2_become 23 = .ok (.aload_n 0, 1) := by decide +kernel
theorem dX2_become_24 : decode cX2_become 24 = .ok (.getfield 19, 3) := by decide +kernel
theorem dX2_become_27 : decode cX2_become 27 = .ok (.invokestatic 37, 3) := by decide +kernel
theorem dX2_become_30 : decode cX2_become 30 = .ok (.aload_n 1, 1) := by decide +kernel
theorem dX2_become_31 : decode cX2_become 31 = .ok (.getfield 24, 3) := by decide +kernel
theorem dX2_become_34 : decode cX2_become 34 = .ok (.aload_n 0, 1) := by decide +kernel
theorem dX2_become_35 : decode cX2_become 35 = .ok (.getfield 24, 3) := by decide +kernel
theorem dX2_become_38 : decode cX2_become 38 = .ok (.invokestatic 41, 3) := by decide +kernel
theorem dX2_become_41 : decode cX2_become 41 = .ok (.aload_n 1, 1) := by decide +kernel
theorem dX2_become_42 : decode cX2_become 42 = .ok (.getfield 27, 3) := by decide +kernel
theorem dX2_become_45 : decode cX2_become 45 = .ok (.aload_n 0, 1) := by decide +kernel
theorem dX2_become_46 : decode cX2_become 46 = .ok (.getfield 27, 3) := by decide +kernel
theorem dX2_become_49 : decode cX2_become 49 = .ok (.invokestatic 41, 3) := by decide +kernel
theorem dX2_become_52 : decode cX2_become 52 = .ok (.aload_n 0, 1) := by decide +kernel
theorem dX2_become_53 : decode cX2_become 53 = .ok (.aload_n 1, 1) := by decide +kernel
theorem dX2_become_54 : decode cX2_become 54 = .ok (.getfield 45, 3) := by decide +kernel
theorem dX2_become_57 : decode cX2_become 57 = .ok (.putfield 45, 3) := by decide +kernel
theorem dX2_become_60 : decode cX2_become 60 = .ok (.aload_n 1, 1) := by decide +kernel
theorem dX2_become_61 : decode cX2_become 61 = .ok (.getfield 30, 3) := by decide +kernel
theorem dX2_become_64 : decode cX2_become 64 = .ok (.aload_n 0, 1) := by decide +kernel
theorem dX2_become_65 : decode cX2_become 65 = .ok (.getfield 30, 3) := by decide +kernel
theorem dX2_become_68 : decode cX2_become 68 = .ok (.invokestatic 37, 3) := by decide +kernel
theorem dX2_become_71 : decode cX2_become 71 = .ok (.aload_n 0, 1) := by decide +kernel
theorem dX2_become_72 : decode cX2_become 72 = .ok (.aload_n 1, 1) := by decide +kernel
theorem dX2_become_73 : decode cX2_become 73 = .ok (.getfield 48, 3) := by decide +kernel
theorem dX2_become_76 : decode cX2_become 76 = .ok (.putfield 48, 3) := by decide +kernel
theorem dX2_become_79 : decode cX2_become 79 = .ok (.aload_n 0, 1) := by decide +kernel
theorem dX2_become_80 : decode cX2_become 80 = .ok (.aload_n 1, 1) := by decide +kernel
theorem dX2_become_81 : decode cX2_become 81 = .ok (.getfield 33, 3) := by decide +kernel
theorem dX2_become_84 : decode cX2_become 84 = .ok (.putfield 33, 3) := by decide +kernel
theorem dX2_become_87 : decode cX2_become 87 = .ok (.return_, 1) := by decide +kernel
def fX2_become (this : Nat) (v1 : Nat) (sh : SH) (I : IH) : Option (SH × IH) :=
  (gI sh I 2 v1 0).bind fun x1 =>
  (pI sh I 2 this 0 x1).bind fun i2 =>
  (gR sh 2 v1 1).bind fun x3 =>
  (gR sh 2 this 1).bind fun x4 =>
  (fX6_copy sh x3 x4 i2).bind fun i5 =>
  (gR sh 2 v1 2).bind fun x6 =>
  (gR sh 2 this 2).bind fun x7 =>
  (fX6_copy sh x6 x7 i5).bind fun i8 =>
  (gR sh 2 v1 3).bind fun x9 =>
  (gR sh 2 this 3).bind fun x10 =>
  (fX6_copyRows sh x9 x10 i8).bind fun i11 =>
  (gR sh 2 v1 4).bind fun x12 =>
  (gR sh 2 this 4).bind fun x13 =>
  (fX6_copyRows sh x12 x13 i11).bind fun i14 =>
  (gI sh i14 2 v1 5).bind fun x15 =>
  (pI sh i14 2 this 5 x15).bind fun i16 =>
  (gR sh 2 v1 6).bind fun x17 =>
  (gR sh 2 this 6).bind fun x18 =>
  (fX6_copy sh x17 x18 i16).bind fun i19 =>
  (gI sh i19 2 v1 7).bind fun x20 =>
  (pI sh i19 2 this 7 x20).bind fun i21 =>
  (gR sh 2 v1 8).bind fun x22 =>
  (pR sh 2 this 8 x22).bind fun h23 =>
  some (h23, i21)
set_option maxHeartbeats 4000000 in
set_option maxRecDepth 20000 in
theorem jbX2_become_0 (G : GT) {X : XT} {L : LH} {n : Nat} {sh' : SH} {I' : IH}  {this : Nat}  {v1 : Nat} {sh : SH} {I : IH} (F : MF G X RX2 cX2_become 2 3 none "become") (h : fX2_become this v1 sh I = some (sh', I')) : J G X (QE G X (none) sh' I' L n) 2 sh I L n 0 0 0 [(0, .ref this), (1, .ref v1)] [] := by
  unfold fX2_become at h
  refine j_aload_n (pc := 0) (k0 := 0) F 0 rfl dX2_become_0 ?_
  refine j_aload_n (pc := 1) (k0 := 1) F 1 rfl dX2_become_1 ?_
  obtain ⟨x1, hx1, h⟩ := ob h
  refine j_getI (pc := 2) F flX2_9 hx1 dX2_become_2 ?_
  obtain ⟨i2, hi2, h⟩ := ob h
  refine j_putI (pc := 5) F flX2_9 fp2_0 (fun z => by cases z) hi2 dX2_become_5 ?_
  refine j_aload_n (pc := 8) (k0 := 1) F 1 rfl dX2_become_8 ?_
  obtain ⟨x3, hx3, h⟩ := ob h
  refine j_getR (pc := 9) F flX2_15 hx3 dX2_become_9 ?_
  refine j_aload_n (pc := 12) (k0 := 0) F 0 rfl dX2_become_12 ?_
  obtain ⟨x4, hx4, h⟩ := ob h
  refine j_getR (pc := 13) F flX2_15 hx4 dX2_become_13 ?_
  obtain ⟨i5, hi5, h⟩ := ob h
  refine j_callSN0 (pc := 16) (As := [.ref x3, .ref x4]) (st := []) (e1 := 0) (es1 := 0) F clX2_37 cwX6_copy (ctX6_copy G hi5) rfl rfl rfl rfl rfl rfl dX2_become_16 ?_
  refine j_aload_n (pc := 19) (k0 := 1) F 1 rfl dX2_become_19 ?_
  obtain ⟨x6, hx6, h⟩ := ob h
  refine j_getR (pc := 20) F flX2_19 hx6 dX2_become_20 ?_
  refine j_aload_n (pc := 23) (k0 := 0) F 0 rfl dX2_become_23 ?_
  obtain ⟨x7, hx7, h⟩ := ob h
  refine j_getR (pc := 24) F flX2_19 hx7 dX2_become_24 ?_
  obtain ⟨i8, hi8, h⟩ := ob h
  refine j_callSN0 (pc := 27) (As := [.ref x6, .ref x7]) (st := []) (e1 := 0) (es1 := 0) F clX2_37 cwX6_copy (ctX6_copy G hi8) rfl rfl rfl rfl rfl rfl dX2_become_27 ?_
  refine j_aload_n (pc := 30) (k0 := 1) F 1 rfl dX2_become_30 ?_
  obtain ⟨x9, hx9, h⟩ := ob h
  refine j_getR (pc := 31) F flX2_24 hx9 dX2_become_31 ?_
  refine j_aload_n (pc := 34) (k0 := 0) F 0 rfl dX2_become_34 ?_
  obtain ⟨x10, hx10, h⟩ := ob h
  refine j_getR (pc := 35) F flX2_24 hx10 dX2_become_35 ?_
  obtain ⟨i11, hi11, h⟩ := ob h
  refine j_callSN0 (pc := 38) (As := [.ref x9, .ref x10]) (st := []) (e1 := 0) (es1 := 0) F clX2_41 cwX6_copyRows (ctX6_copyRows G hi11) rfl rfl rfl rfl rfl rfl dX2_become_38 ?_
  refine j_aload_n (pc := 41) (k0 := 1) F 1 rfl dX2_become_41 ?_
  obtain ⟨x12, hx12, h⟩ := ob h
  refine j_getR (pc := 42) F flX2_27 hx12 dX2_become_42 ?_
  refine j_aload_n (pc := 45) (k0 := 0) F 0 rfl dX2_become_45 ?_
  obtain ⟨x13, hx13, h⟩ := ob h
  refine j_getR (pc := 46) F flX2_27 hx13 dX2_become_46 ?_
  obtain ⟨i14, hi14, h⟩ := ob h
  refine j_callSN0 (pc := 49) (As := [.ref x12, .ref x13]) (st := []) (e1 := 0) (es1 := 0) F clX2_41 cwX6_copyRows (ctX6_copyRows G hi14) rfl rfl rfl rfl rfl rfl dX2_become_49 ?_
  refine j_aload_n (pc := 52) (k0 := 0) F 0 rfl dX2_become_52 ?_
  refine j_aload_n (pc := 53) (k0 := 1) F 1 rfl dX2_become_53 ?_
  obtain ⟨x15, hx15, h⟩ := ob h
  refine j_getI (pc := 54) F flX2_45 hx15 dX2_become_54 ?_
  obtain ⟨i16, hi16, h⟩ := ob h
  refine j_putI (pc := 57) F flX2_45 fp2_5 (fun z => by cases z) hi16 dX2_become_57 ?_
  refine j_aload_n (pc := 60) (k0 := 1) F 1 rfl dX2_become_60 ?_
  obtain ⟨x17, hx17, h⟩ := ob h
  refine j_getR (pc := 61) F flX2_30 hx17 dX2_become_61 ?_
  refine j_aload_n (pc := 64) (k0 := 0) F 0 rfl dX2_become_64 ?_
  obtain ⟨x18, hx18, h⟩ := ob h
  refine j_getR (pc := 65) F flX2_30 hx18 dX2_become_65 ?_
  obtain ⟨i19, hi19, h⟩ := ob h
  refine j_callSN0 (pc := 68) (As := [.ref x17, .ref x18]) (st := []) (e1 := 0) (es1 := 0) F clX2_37 cwX6_copy (ctX6_copy G hi19) rfl rfl rfl rfl rfl rfl dX2_become_68 ?_
  refine j_aload_n (pc := 71) (k0 := 0) F 0 rfl dX2_become_71 ?_
  refine j_aload_n (pc := 72) (k0 := 1) F 1 rfl dX2_become_72 ?_
  obtain ⟨x20, hx20, h⟩ := ob h
  refine j_getI (pc := 73) F flX2_48 hx20 dX2_become_73 ?_
  obtain ⟨i21, hi21, h⟩ := ob h
  refine j_putI (pc := 76) F flX2_48 fp2_7 (fun z => by cases z) hi21 dX2_become_76 ?_
  refine j_aload_n (pc := 79) (k0 := 0) F 0 rfl dX2_become_79 ?_
  refine j_aload_n (pc := 80) (k0 := 1) F 1 rfl dX2_become_80 ?_
  obtain ⟨x22, hx22, h⟩ := ob h
  refine j_getR (pc := 81) F flX2_33 hx22 dX2_become_81 ?_
  obtain ⟨h23, hh23, h⟩ := ob h
  refine j_putR (pc := 84) (ty := (.object "MeltHours$Valley")) F ⟨rfl, rfl⟩ flX2_33 fp2_8 (fun z => by cases z) hh23 dX2_become_84 ?_
  have g1 := Option.some.inj h
  obtain ⟨q3, g2⟩ := Prod.mk.inj g1
  subst q3
  subst g2
  exact j_vret (pc := 87) F dX2_become_87
theorem ctX2_become (G : GT) {sh : SH} {I : IH} {L : LH} {n : Nat} {this : Nat} {v1 : Nat} {sh' : SH} {I' : IH}  (h : fX2_become this v1 sh I = some (sh', I')) : Ct G yX2_become cX2_become 2 none 3 [.ref this, .ref v1] sh I L n (none) sh' I' L n 0 0 := by
  refine ct_of (y := yX2_become) (by decide +kernel) rfl (fun X F => ?_)
  exact jbX2_become_0 G F h
theorem dX2_isPlace_0 : decode cX2_isPlace 0 = .ok (.iload_n 1, 1) := by decide +kernel
theorem dX2_isPlace_1 : decode cX2_isPlace 1 = .ok (.iconst 5, 1) := by decide +kernel
theorem dX2_isPlace_2 : decode cX2_isPlace 2 = .ok (.invokestatic 51, 3) := by decide +kernel
theorem dX2_isPlace_5 : decode cX2_isPlace 5 = .ok (.ifCond .eq 15, 3) := by decide +kernel
theorem dX2_isPlace_8 : decode cX2_isPlace 8 = .ok (.iload_n 1, 1) := by decide +kernel
theorem dX2_isPlace_9 : decode cX2_isPlace 9 = .ok (.aload_n 0, 1) := by decide +kernel
theorem dX2_isPlace_10 : decode cX2_isPlace 10 = .ok (.getfield 9, 3) := by decide +kernel
theorem dX2_isPlace_13 : decode cX2_isPlace 13 = .ok (.if_icmp .ge 7, 3) := by decide +kernel
theorem dX2_isPlace_16 : decode cX2_isPlace 16 = .ok (.iconst 1, 1) := by decide +kernel
theorem dX2_isPlace_17 : decode cX2_isPlace 17 = .ok (.goto 4, 3) := by decide +kernel
theorem dX2_isPlace_20 : decode cX2_isPlace 20 = .ok (.iconst 0, 1) := by decide +kernel
theorem dX2_isPlace_21 : decode cX2_isPlace 21 = .ok (.ireturn, 1) := by decide +kernel
def fX2_isPlace (sh : SH) (I : IH) (this : Nat) (v1 : Int32) : Option (Int32) :=
  if (fX6_isUnder v1 5) = 0 then (
    some 0) else
  (gI sh I 2 this 0).bind fun x1 =>
  if x1 ≤ v1 then (
    some 0) else
  some 1
set_option maxHeartbeats 4000000 in
set_option maxRecDepth 20000 in
theorem jbX2_isPlace_0 (G : GT) {X : XT} {sh : SH} {I : IH} {L : LH} {n : Nat} {r : Int32}  {this : Nat}  {v1 : Int32} (F : MF G X RX2 cX2_isPlace 2 1 (some .boolean) "isPlace") (h : fX2_isPlace sh I this v1 = some r) : J G X (QE G X (some (.int r)) sh I L n) 2 sh I L n 0 0 0 [(0, .ref this), (1, .int v1)] [] := by
  unfold fX2_isPlace at h
  refine j_iload_n (pc := 0) (k0 := 1) F 1 rfl dX2_isPlace_0 ?_
  refine j_iconst (pc := 1) F 5 dX2_isPlace_1 (by decide) ?_
  refine j_callSN1 (pc := 2) (As := [.int v1, .int 5]) (st := []) (e1 := 0) (es1 := 0) F clX2_51 cwX6_isUnder (ctX6_isUnder G) rfl rfl rfl rfl rfl rfl dX2_isPlace_2 ?_
  refine j_if_eq (pc := 5) F 20 dX2_isPlace_5 rfl (fun c => ?_) (fun c => ?_)
  · have h := iz_t c h
    refine j_iconst (pc := 20) F 0 dX2_isPlace_20 (by decide) ?_
    have g1 := Option.some.inj h
    subst g1
    exact j_zret (pc := 21) F (Or.inl rfl) dX2_isPlace_21
  · have h := iz_f c h
    refine j_iload_n (pc := 8) (k0 := 1) F 1 rfl dX2_isPlace_8 ?_
    refine j_aload_n (pc := 9) (k0 := 0) F 0 rfl dX2_isPlace_9 ?_
    obtain ⟨x1, hx1, h⟩ := ob h
    refine j_getI (pc := 10) F flX2_9 hx1 dX2_isPlace_10 ?_
    refine j_icmp_ge (pc := 13) F 20 dX2_isPlace_13 rfl (fun c => ?_) (fun c => ?_)
    · have h := iz_t c h
      refine j_iconst (pc := 20) F 0 dX2_isPlace_20 (by decide) ?_
      have g1 := Option.some.inj h
      subst g1
      exact j_zret (pc := 21) F (Or.inl rfl) dX2_isPlace_21
    · have h := iz_f c h
      refine j_iconst (pc := 16) F 1 dX2_isPlace_16 (by decide) ?_
      refine j_goto (pc := 17) F 21 dX2_isPlace_17 rfl ?_
      have g1 := Option.some.inj h
      subst g1
      exact j_zret (pc := 21) F (Or.inr rfl) dX2_isPlace_21
theorem ctX2_isPlace (G : GT) {sh : SH} {I : IH} {L : LH} {n : Nat} {this : Nat} {v1 : Int32} {r : Int32}  (h : fX2_isPlace sh I this v1 = some r) : Ct G yX2_isPlace cX2_isPlace 2 (some .boolean) 1 [.ref this, .int v1] sh I L n (some (.int r)) sh I L n 0 0 := by
  refine ct_of (y := yX2_isPlace) (by decide +kernel) rfl (fun X F => ?_)
  exact jbX2_isPlace_0 G F h
theorem dX2_isWant_0 : decode cX2_isWant 0 = .ok (.iload_n 1, 1) := by decide +kernel
theorem dX2_isWant_1 : decode cX2_isWant 1 = .ok (.bipush 10, 2) := by decide +kernel
theorem dX2_isWant_3 : decode cX2_isWant 3 = .ok (.invokestatic 51, 3) := by decide +kernel
theorem dX2_isWant_6 : decode cX2_isWant 6 = .ok (.ifCond .eq 15, 3) := by decide +kernel
theorem dX2_isWant_9 : decode cX2_isWant 9 = .ok (.iload_n 1, 1) := by decide +kernel
theorem dX2_isWant_10 : decode cX2_isWant 10 = .ok (.aload_n 0, 1) := by decide +kernel
theorem dX2_isWant_11 : decode cX2_isWant 11 = .ok (.getfield 45, 3) := by decide +kernel
theorem dX2_isWant_14 : decode cX2_isWant 14 = .ok (.if_icmp .ge 7, 3) := by decide +kernel
theorem dX2_isWant_17 : decode cX2_isWant 17 = .ok (.iconst 1, 1) := by decide +kernel
theorem dX2_isWant_18 : decode cX2_isWant 18 = .ok (.goto 4, 3) := by decide +kernel
theorem dX2_isWant_21 : decode cX2_isWant 21 = .ok (.iconst 0, 1) := by decide +kernel
theorem dX2_isWant_22 : decode cX2_isWant 22 = .ok (.ireturn, 1) := by decide +kernel
def fX2_isWant (sh : SH) (I : IH) (this : Nat) (v1 : Int32) : Option (Int32) :=
  if (fX6_isUnder v1 10) = 0 then (
    some 0) else
  (gI sh I 2 this 5).bind fun x1 =>
  if x1 ≤ v1 then (
    some 0) else
  some 1
set_option maxHeartbeats 4000000 in
set_option maxRecDepth 20000 in
theorem jbX2_isWant_0 (G : GT) {X : XT} {sh : SH} {I : IH} {L : LH} {n : Nat} {r : Int32}  {this : Nat}  {v1 : Int32} (F : MF G X RX2 cX2_isWant 2 1 (some .boolean) "isWant") (h : fX2_isWant sh I this v1 = some r) : J G X (QE G X (some (.int r)) sh I L n) 2 sh I L n 0 0 0 [(0, .ref this), (1, .int v1)] [] := by
  unfold fX2_isWant at h
  refine j_iload_n (pc := 0) (k0 := 1) F 1 rfl dX2_isWant_0 ?_
  refine j_bipush (pc := 1) F 10 dX2_isWant_1 (by decide) ?_
  refine j_callSN1 (pc := 3) (As := [.int v1, .int 10]) (st := []) (e1 := 0) (es1 := 0) F clX2_51 cwX6_isUnder (ctX6_isUnder G) rfl rfl rfl rfl rfl rfl dX2_isWant_3 ?_
  refine j_if_eq (pc := 6) F 21 dX2_isWant_6 rfl (fun c => ?_) (fun c => ?_)
  · have h := iz_t c h
    refine j_iconst (pc := 21) F 0 dX2_isWant_21 (by decide) ?_
    have g1 := Option.some.inj h
    subst g1
    exact j_zret (pc := 22) F (Or.inl rfl) dX2_isWant_22
  · have h := iz_f c h
    refine j_iload_n (pc := 9) (k0 := 1) F 1 rfl dX2_isWant_9 ?_
    refine j_aload_n (pc := 10) (k0 := 0) F 0 rfl dX2_isWant_10 ?_
    obtain ⟨x1, hx1, h⟩ := ob h
    refine j_getI (pc := 11) F flX2_45 hx1 dX2_isWant_11 ?_
    refine j_icmp_ge (pc := 14) F 21 dX2_isWant_14 rfl (fun c => ?_) (fun c => ?_)
    · have h := iz_t c h
      refine j_iconst (pc := 21) F 0 dX2_isWant_21 (by decide) ?_
      have g1 := Option.some.inj h
      subst g1
      exact j_zret (pc := 22) F (Or.inl rfl) dX2_isWant_22
    · have h := iz_f c h
      refine j_iconst (pc := 17) F 1 dX2_isWant_17 (by decide) ?_
      refine j_goto (pc := 18) F 22 dX2_isWant_18 rfl ?_
      have g1 := Option.some.inj h
      subst g1
      exact j_zret (pc := 22) F (Or.inr rfl) dX2_isWant_22
theorem ctX2_isWant (G : GT) {sh : SH} {I : IH} {L : LH} {n : Nat} {this : Nat} {v1 : Int32} {r : Int32}  (h : fX2_isWant sh I this v1 = some r) : Ct G yX2_isWant cX2_isWant 2 (some .boolean) 1 [.ref this, .int v1] sh I L n (some (.int r)) sh I L n 0 0 := by
  refine ct_of (y := yX2_isWant) (by decide +kernel) rfl (fun X F => ?_)
  exact jbX2_isWant_0 G F h
theorem dX2_melting_0 : decode cX2_melting 0 = .ok (.iload_n 1, 1) := by decide +kernel
theorem dX2_melting_1 : decode cX2_melting 1 = .ok (.aload_n 0, 1) := by decide +kernel
theorem dX2_melting_2 : decode cX2_melting 2 = .ok (.getfield 48, 3) := by decide +kernel
theorem dX2_melting_5 : decode cX2_melting 5 = .ok (.aload_n 0, 1) := by decide +kernel
theorem dX2_melting_6 : decode cX2_melting 6 = .ok (.getfield 30, 3) := by decide +kernel
theorem dX2_melting_9 : decode cX2_melting 9 = .ok (.arraylength, 1) := by decide +kernel
theorem dX2_melting_10 : decode cX2_melting 10 = .ok (.invokestatic 55, 3) := by decide +kernel
theorem dX2_melting_13 : decode cX2_melting 13 = .ok (.invokestatic 51, 3) := by decide +kernel
theorem dX2_melting_16 : decode cX2_melting 16 = .ok (.ifCond .eq 10, 3) := by decide +kernel
theorem dX2_melting_19 : decode cX2_melting 19 = .ok (.aload_n 0, 1) := by decide +kernel
theorem dX2_melting_20 : decode cX2_melting 20 = .ok (.getfield 30, 3) := by decide +kernel
theorem dX2_melting_23 : decode cX2_melting 23 = .ok (.iload_n 1, 1) := by decide +kernel
theorem dX2_melting_24 : decode cX2_melting 24 = .ok (.iaload, 1) := by decide +kernel
theorem dX2_melting_25 : decode cX2_melting 25 = .ok (.ireturn, 1) := by decide +kernel
theorem dX2_melting_26 : decode cX2_melting 26 = .ok (.iload_n 1, 1) := by decide +kernel
theorem dX2_melting_27 : decode cX2_melting 27 = .ok (.bipush 24, 2) := by decide +kernel
theorem dX2_melting_29 : decode cX2_melting 29 = .ok (.idiv, 1) := by decide +kernel
theorem dX2_melting_30 : decode cX2_melting 30 = .ok (.iconst 3, 1) := by decide +kernel
theorem dX2_melting_31 : decode cX2_melting 31 = .ok (.imul, 1) := by decide +kernel
theorem dX2_melting_32 : decode cX2_melting 32 = .ok (.iload_n 2, 1) := by decide +kernel
theorem dX2_melting_33 : decode cX2_melting 33 = .ok (.iadd, 1) := by decide +kernel
theorem dX2_melting_34 : decode cX2_melting 34 = .ok (.bipush 24, 2) := by decide +kernel
theorem dX2_melting_36 : decode cX2_melting 36 = .ok (.imul, 1) := by decide +kernel
theorem dX2_melting_37 : decode cX2_melting 37 = .ok (.iload_n 1, 1) := by decide +kernel
theorem dX2_melting_38 : decode cX2_melting 38 = .ok (.bipush 24, 2) := by decide +kernel
theorem dX2_melting_40 : decode cX2_melting 40 = .ok (.irem, 1) := by decide +kernel
theorem dX2_melting_41 : decode cX2_melting 41 = .ok (.iadd, 1) := by decide +kernel
theorem dX2_melting_42 : decode cX2_melting 42 = .ok (.istore_n 3, 1) := by decide +kernel
theorem dX2_melting_43 : decode cX2_melting 43 = .ok (.iload_n 3, 1) := by decide +kernel
theorem dX2_melting_44 : decode cX2_melting 44 = .ok (.sipush 144, 3) := by decide +kernel
theorem dX2_melting_47 : decode cX2_melting 47 = .ok (.invokestatic 51, 3) := by decide +kernel
theorem dX2_melting_50 : decode cX2_melting 50 = .ok (.ifCond .eq 15, 3) := by decide +kernel
theorem dX2_melting_53 : decode cX2_melting 53 = .ok (.aload_n 0, 1) := by decide +kernel
theorem dX2_melting_54 : decode cX2_melting 54 = .ok (.getfield 33, 3) := by decide +kernel
theorem dX2_melting_57 : decode cX2_melting 57 = .ok (.getfield 61, 3) := by decide +kernel
theorem dX2_melting_60 : decode cX2_melting 60 = .ok (.iload_n 3, 1) := by decide +kernel
theorem dX2_melting_61 : decode cX2_melting 61 = .ok (.iaload, 1) := by decide +kernel
theorem dX2_melting_62 : decode cX2_melting 62 = .ok (.goto 4, 3) := by decide +kernel
theorem dX2_melting_65 : decode cX2_melting 65 = .ok (.iconst 0, 1) := by decide +kernel
theorem dX2_melting_66 : decode cX2_melting 66 = .ok (.ireturn, 1) := by decide +kernel
def fX2_melting (sh : SH) (I : IH) (this : Nat) (v1 : Int32) (v2 : Int32) : Option (Int32) :=
  (gI sh I 2 this 7).bind fun x1 =>
  (gR sh 2 this 6).bind fun x2 =>
  (aL sh x2).bind fun x3 =>
  if (fX6_isUnder v1 (fJ9_min_7cf53 x1 x3)) = 0 then (
    if (fX6_isUnder (((((v1 / 24) * 3) + v2) * 24) + (v1 - v1 / 24 * 24)) 144) = 0 then (
      some 0) else
    (gR sh 2 this 8).bind fun x4 =>
    (gR sh 4 x4 1).bind fun x5 =>
    (aI sh I 0 x5 (((((v1 / 24) * 3) + v2) * 24) + (v1 - v1 / 24 * 24))).bind fun x6 =>
    some x6) else
  (gR sh 2 this 6).bind fun x7 =>
  (aI sh I 0 x7 v1).bind fun x8 =>
  some x8
set_option maxHeartbeats 4000000 in
set_option maxRecDepth 20000 in
theorem jbX2_melting_0 (G : GT) {X : XT} {sh : SH} {I : IH} {L : LH} {n : Nat} {r : Int32}  {this : Nat}  {v1 : Int32} {v2 : Int32} (F : MF G X RX2 cX2_melting 4 1 (some .int) "melting") (h : fX2_melting sh I this v1 v2 = some r) : J G X (QE G X (some (.int r)) sh I L n) 4 sh I L n 0 0 0 [(0, .ref this), (1, .int v1), (2, .int v2)] [] := by
  unfold fX2_melting at h
  refine j_iload_n (pc := 0) (k0 := 1) F 1 rfl dX2_melting_0 ?_
  refine j_aload_n (pc := 1) (k0 := 0) F 0 rfl dX2_melting_1 ?_
  obtain ⟨x1, hx1, h⟩ := ob h
  refine j_getI (pc := 2) F flX2_48 hx1 dX2_melting_2 ?_
  refine j_aload_n (pc := 5) (k0 := 0) F 0 rfl dX2_melting_5 ?_
  obtain ⟨x2, hx2, h⟩ := ob h
  refine j_getR (pc := 6) F flX2_30 hx2 dX2_melting_6 ?_
  obtain ⟨x3, hx3, h⟩ := ob h
  refine j_alen (pc := 9) F hx3 dX2_melting_9 ?_
  refine j_callS1 (pc := 10) (As := [.int x1, .int x3]) (st := [.int v1]) (e1 := 0) (es1 := 0) F clX2_55 cwJ9_min_7cf53 (ctJ9_min_7cf53 G) rfl rfl rfl rfl rfl rfl dX2_melting_10 ?_
  refine j_callSN1 (pc := 13) (As := [.int v1, .int (fJ9_min_7cf53 x1 x3)]) (st := []) (e1 := 0) (es1 := 0) F clX2_51 cwX6_isUnder (ctX6_isUnder G) rfl rfl rfl rfl rfl rfl dX2_melting_13 ?_
  refine j_if_eq (pc := 16) F 26 dX2_melting_16 rfl (fun c => ?_) (fun c => ?_)
  · have h := iz_t c h
    refine j_iload_n (pc := 26) (k0 := 1) F 1 rfl dX2_melting_26 ?_
    refine j_bipush (pc := 27) F 24 dX2_melting_27 (by decide) ?_
    refine j_idiv (pc := 29) F (by decide) dX2_melting_29 ?_
    refine j_iconst (pc := 30) F 3 dX2_melting_30 (by decide) ?_
    refine j_imul (pc := 31) F dX2_melting_31 ?_
    refine j_iload_n (pc := 32) (k0 := 2) F 2 rfl dX2_melting_32 ?_
    refine j_iadd (pc := 33) F dX2_melting_33 ?_
    refine j_bipush (pc := 34) F 24 dX2_melting_34 (by decide) ?_
    refine j_imul (pc := 36) F dX2_melting_36 ?_
    refine j_iload_n (pc := 37) (k0 := 1) F 1 rfl dX2_melting_37 ?_
    refine j_bipush (pc := 38) F 24 dX2_melting_38 (by decide) ?_
    refine j_irem (pc := 40) F (by decide) dX2_melting_40 ?_
    refine j_iadd (pc := 41) F dX2_melting_41 ?_
    refine j_istore_n (pc := 42) (k1 := 3) (ls' := [(3, .int (((((v1 / 24) * 3) + v2) * 24) + (v1 - v1 / 24 * 24))), (0, .ref this), (1, .int v1), (2, .int v2)]) F rfl rfl rfl dX2_melting_42 ?_
    refine j_iload_n (pc := 43) (k0 := 3) F 0 rfl dX2_melting_43 ?_
    refine j_sipush (pc := 44) F 144 dX2_melting_44 (by decide) ?_
    refine j_callSN1 (pc := 47) (As := [.int (((((v1 / 24) * 3) + v2) * 24) + (v1 - v1 / 24 * 24)), .int 144]) (st := []) (e1 := 0) (es1 := 0) F clX2_51 cwX6_isUnder (ctX6_isUnder G) rfl rfl rfl rfl rfl rfl dX2_melting_47 ?_
    refine j_if_eq (pc := 50) F 65 dX2_melting_50 rfl (fun c => ?_) (fun c => ?_)
    · have h := iz_t c h
      refine j_iconst (pc := 65) F 0 dX2_melting_65 (by decide) ?_
      have g1 := Option.some.inj h
      subst g1
      exact j_iret (pc := 66) F dX2_melting_66
    · have h := iz_f c h
      refine j_aload_n (pc := 53) (k0 := 0) F 1 rfl dX2_melting_53 ?_
      obtain ⟨x4, hx4, h⟩ := ob h
      refine j_getR (pc := 54) F flX2_33 hx4 dX2_melting_54 ?_
      obtain ⟨x5, hx5, h⟩ := ob h
      refine j_getR (pc := 57) F flX2_61 hx5 dX2_melting_57 ?_
      refine j_iload_n (pc := 60) (k0 := 3) F 0 rfl dX2_melting_60 ?_
      obtain ⟨x6, hx6, h⟩ := ob h
      refine j_iald (pc := 61) F hx6 dX2_melting_61 ?_
      refine j_goto (pc := 62) F 66 dX2_melting_62 rfl ?_
      have g1 := Option.some.inj h
      subst g1
      exact j_iret (pc := 66) F dX2_melting_66
  · have h := iz_f c h
    refine j_aload_n (pc := 19) (k0 := 0) F 0 rfl dX2_melting_19 ?_
    obtain ⟨x7, hx7, h⟩ := ob h
    refine j_getR (pc := 20) F flX2_30 hx7 dX2_melting_20 ?_
    refine j_iload_n (pc := 23) (k0 := 1) F 1 rfl dX2_melting_23 ?_
    obtain ⟨x8, hx8, h⟩ := ob h
    refine j_iald (pc := 24) F hx8 dX2_melting_24 ?_
    have g1 := Option.some.inj h
    subst g1
    exact j_iret (pc := 25) F dX2_melting_25
theorem ctX2_melting (G : GT) {sh : SH} {I : IH} {L : LH} {n : Nat} {this : Nat} {v1 : Int32} {v2 : Int32} {r : Int32}  (h : fX2_melting sh I this v1 v2 = some r) : Ct G yX2_melting cX2_melting 4 (some .int) 1 [.ref this, .int v1, .int v2] sh I L n (some (.int r)) sh I L n 0 0 := by
  refine ct_of (y := yX2_melting) (by decide +kernel) rfl (fun X F => ?_)
  exact jbX2_melting_0 G F h
theorem dX3_init_0 : decode cX3_init 0 = .ok (.aload_n 0, 1) := by decide +kernel
theorem dX3_init_1 : decode cX3_init 1 = .ok (.invokespecial 3, 3) := by decide +kernel
theorem dX3_init_4 : decode cX3_init 4 = .ok (.aload_n 0, 1) := by decide +kernel
theorem dX3_init_5 : decode cX3_init 5 = .ok (.iconst (-1), 1) := by decide +kernel
theorem dX3_init_6 : decode cX3_init 6 = .ok (.putfield 9, 3) := by decide +kernel
theorem dX3_init_9 : decode cX3_init 9 = .ok (.aload_n 0, 1) := by decide +kernel
theorem dX3_init_10 : decode cX3_init 10 = .ok (.bipush 60, 2) := by decide +kernel
theorem dX3_init_12 : decode cX3_init 12 = .ok (.newarray .long, 2) := by decide +kernel
theorem dX3_init_14 : decode cX3_init 14 = .ok (.putfield 15, 3) := by decide +kernel
theorem dX3_init_17 : decode cX3_init 17 = .ok (.return_, 1) := by decide +kernel
def fX3_init (this : Nat) (sh : SH) (I : IH) (L : LH) (n : Nat) : Option ((Nat × Nat) × (SH × IH × LH × Nat)) :=
  (pI sh I 3 this 0 (-1)).bind fun i1 =>
  b2 (nAL sh L n 60) fun h2 l3 =>
  addE 1 (60 : Int32).toNatClampNeg (
  (pR h2 3 this 2 n).bind fun h6 =>
  some ((0, 0), (h6, i1, l3, (n + 1))))
set_option maxHeartbeats 4000000 in
set_option maxRecDepth 20000 in
theorem jbX3_init_0 (G : GT) {X : XT}  {sh' : SH} {I' : IH} {L' : LH} {n' : Nat}  {this : Nat}  {sh : SH} {I : IH} {L : LH} {n : Nat} {e es : Nat} (F : MF G X RX3 cX3_init 1 1 none "<init>") (h : fX3_init this sh I L n = some ((e, es), (sh', I', L', n'))) : J G X (QE G X (none) sh' I' L' n') 1 sh I L n e es 0 [(0, .ref this)] [] := by
  unfold fX3_init at h
  refine j_aload_n (pc := 0) (k0 := 0) F 0 rfl dX3_init_0 ?_
  refine j_objInit (pc := 1) F (good_of 242 (by decide +kernel) (by decide +kernel)) rfl rfl dX3_init_1 ?_
  refine j_aload_n (pc := 4) (k0 := 0) F 0 rfl dX3_init_4 ?_
  refine j_iconst (pc := 5) F (-1) dX3_init_5 (by decide) ?_
  obtain ⟨i1, hi1, h⟩ := ob h
  refine j_putI (pc := 6) F flX3_9 fp3_0 (fun z => by cases z) hi1 dX3_init_6 ?_
  refine j_aload_n (pc := 9) (k0 := 0) F 0 rfl dX3_init_9 ?_
  refine j_bipush (pc := 10) F 60 dX3_init_10 (by decide) ?_
  obtain ⟨h2, l3, hh2, h⟩ := b2_obt h
  obtain ⟨e4, es5, h, he, hes⟩ := addE_obt h
  refine j_newL (pc := 12) F rfl aw_long hh2 he hes dX3_init_12 ?_
  obtain ⟨h6, hh6, h⟩ := ob h
  refine j_putR (pc := 14) (ty := (.array .long)) F ⟨rfl, rfl⟩ flX3_15 fp3_2 (fun _ => ⟨rfl, rfl⟩) hh6 dX3_init_14 ?_
  have g0 := Option.some.inj h
  obtain ⟨hq, g1⟩ := Prod.mk.inj g0
  obtain ⟨q1, q2⟩ := Prod.mk.inj hq
  obtain ⟨q3, g2⟩ := Prod.mk.inj g1
  obtain ⟨q4, g3⟩ := Prod.mk.inj g2
  obtain ⟨q5, g4⟩ := Prod.mk.inj g3
  subst q1
  subst q2
  subst q3
  subst q4
  subst q5
  subst g4
  exact j_vret (pc := 17) F dX3_init_17
theorem ctX3_init (G : GT) {sh : SH} {I : IH} {L : LH} {n : Nat} {this : Nat} {sh' : SH} {I' : IH} {L' : LH} {n' : Nat} {e es : Nat}  (h : fX3_init this sh I L n = some ((e, es), (sh', I', L', n'))) : Ct G yX3_init cX3_init 1 none 1 [.ref this] sh I L n (none) sh' I' L' n' e es := by
  refine ct_of (y := yX3_init) (by decide +kernel) rfl (fun X F => ?_)
  exact jbX3_init_0 G F h
theorem dJ7_fill_d0a16_0 : decode cJ7_fill_d0a16 0 = .ok (.iconst 0, 1) := by decide +kernel
theorem dJ7_fill_d0a16_1 : decode cJ7_fill_d0a16 1 = .ok (.istore_n 3, 1) := by decide +kernel
theorem dJ7_fill_d0a16_2 : decode cJ7_fill_d0a16 2 = .ok (.aload_n 0, 1) := by decide +kernel
theorem dJ7_fill_d0a16_3 : decode cJ7_fill_d0a16 3 = .ok (.arraylength, 1) := by decide +kernel
theorem dJ7_fill_d0a16_4 : decode cJ7_fill_d0a16 4 = .ok (.istore 4, 2) := by decide +kernel
theorem dJ7_fill_d0a16_6 : decode cJ7_fill_d0a16 6 = .ok (.iload_n 3, 1) := by decide +kernel
theorem dJ7_fill_d0a16_7 : decode cJ7_fill_d0a16 7 = .ok (.iload 4, 2) := by decide +kernel
theorem dJ7_fill_d0a16_9 : decode cJ7_fill_d0a16 9 = .ok (.if_icmp .ge 13, 3) := by decide +kernel
theorem dJ7_fill_d0a16_12 : decode cJ7_fill_d0a16 12 = .ok (.aload_n 0, 1) := by decide +kernel
theorem dJ7_fill_d0a16_13 : decode cJ7_fill_d0a16 13 = .ok (.iload_n 3, 1) := by decide +kernel
theorem dJ7_fill_d0a16_14 : decode cJ7_fill_d0a16 14 = .ok (.lload_n 1, 1) := by decide +kernel
theorem dJ7_fill_d0a16_15 : decode cJ7_fill_d0a16 15 = .ok (.lastore, 1) := by decide +kernel
theorem dJ7_fill_d0a16_16 : decode cJ7_fill_d0a16 16 = .ok (.iinc 3 1, 3) := by decide +kernel
theorem dJ7_fill_d0a16_19 : decode cJ7_fill_d0a16 19 = .ok (.goto (-13), 3) := by decide +kernel
theorem dJ7_fill_d0a16_22 : decode cJ7_fill_d0a16 22 = .ok (.return_, 1) := by decide +kernel
def fJ7_fill_d0a16_b6 (sh : SH) : Nat → Nat → Int64 → Int32 → Int32 → LH → Option (LH)
  | 0, _, _, _, _, _ => none
  | fuel + 1, v0, v1, v3, v4, L =>
    if v4 ≤ v3 then (
      some L) else
    (sJ sh L v0 v3 v1).bind fun l1 =>
    fJ7_fill_d0a16_b6 sh fuel v0 v1 (v3 + 1) v4 l1
def fJ7_fill_d0a16 (sh : SH) (v0 : Nat) (v1 : Int64) (L : LH) : Option (LH) :=
  (aL sh v0).bind fun x1 =>
  fJ7_fill_d0a16_b6 sh 1000 v0 v1 0 x1 L
set_option maxHeartbeats 4000000 in
set_option maxRecDepth 20000 in
theorem jbJ7_fill_d0a16_6 (G : GT) {X : XT} {sh : SH} {I : IH} {n : Nat} {L' : LH}   (F : MF G X RJ7 cJ7_fill_d0a16 5 0 none "fill") : ∀ (fuel : Nat) (v0 : Nat) (v1 : Int64) (v3 : Int32) (v4 : Int32) (L : LH), fJ7_fill_d0a16_b6 sh fuel v0 v1 v3 v4 L = some L' → J G X (QE G X (none) sh I L' n) 5 sh I L n 0 0 6 [(0, .ref v0), (1, .long v1), (3, .int v3), (4, .int v4)] []
  | 0 => by
    intros
    rename_i h
    exact absurd (show none = some _ from h) (by intro z; cases z)
  | fuel + 1 => by
    intro v0 v1 v3 v4 L h
    rw [fJ7_fill_d0a16_b6] at h
    refine j_iload_n (pc := 6) (k0 := 3) F 2 rfl dJ7_fill_d0a16_6 ?_
    refine j_iload (pc := 7) (k0 := 4) F 3 rfl dJ7_fill_d0a16_7 ?_
    refine j_icmp_ge (pc := 9) F 22 dJ7_fill_d0a16_9 rfl (fun c => ?_) (fun c => ?_)
    · have h := iz_t c h
      have g1 := Option.some.inj h
      subst g1
      exact j_vret (pc := 22) F dJ7_fill_d0a16_22
    · have h := iz_f c h
      refine j_aload_n (pc := 12) (k0 := 0) F 0 rfl dJ7_fill_d0a16_12 ?_
      refine j_iload_n (pc := 13) (k0 := 3) F 2 rfl dJ7_fill_d0a16_13 ?_
      refine j_lload_n (pc := 14) (k0 := 1) F 1 rfl dJ7_fill_d0a16_14 ?_
      obtain ⟨l1, hl1, h⟩ := ob h
      refine j_last (pc := 15) F hl1 dJ7_fill_d0a16_15 ?_
      refine j_iinc (pc := 16) (k1 := 3) (ls' := [(3, .int (v3 + 1)), (0, .ref v0), (1, .long v1), (4, .int v4)]) F (v3 + 1) 2 rfl rfl rfl rfl dJ7_fill_d0a16_16 ?_
      refine j_goto (pc := 19) F 6 dJ7_fill_d0a16_19 rfl ?_
      refine j_sub [1, 2, 0, 3] rfl ?_
      exact jbJ7_fill_d0a16_6 G F fuel _ _ _ _ _ h
set_option maxHeartbeats 4000000 in
set_option maxRecDepth 20000 in
theorem jbJ7_fill_d0a16_0 (G : GT) {X : XT} {sh : SH} {I : IH} {n : Nat} {L' : LH}   {v0 : Nat} {v1 : Int64} {L : LH} (F : MF G X RJ7 cJ7_fill_d0a16 5 0 none "fill") (h : fJ7_fill_d0a16 sh v0 v1 L = some L') : J G X (QE G X (none) sh I L' n) 5 sh I L n 0 0 0 [(0, .ref v0), (1, .long v1)] [] := by
  unfold fJ7_fill_d0a16 at h
  refine j_iconst (pc := 0) F 0 dJ7_fill_d0a16_0 (by decide) ?_
  refine j_istore_n (pc := 1) (k1 := 3) (ls' := [(3, .int 0), (0, .ref v0), (1, .long v1)]) F rfl rfl rfl dJ7_fill_d0a16_1 ?_
  refine j_aload_n (pc := 2) (k0 := 0) F 1 rfl dJ7_fill_d0a16_2 ?_
  obtain ⟨x1, hx1, h⟩ := ob h
  refine j_alen (pc := 3) F hx1 dJ7_fill_d0a16_3 ?_
  refine j_istore (pc := 4) (k1 := 4) (ls' := [(4, .int x1), (3, .int 0), (0, .ref v0), (1, .long v1)]) F rfl rfl dJ7_fill_d0a16_4 ?_
  refine j_sub [2, 3, 1, 0] rfl ?_
  exact jbJ7_fill_d0a16_6 G F 1000 _ _ _ _ _ h
theorem ctJ7_fill_d0a16 (G : GT) {sh : SH} {I : IH} {L : LH} {n : Nat} {v0 : Nat} {v1 : Int64} {L' : LH}  (h : fJ7_fill_d0a16 sh v0 v1 L = some L') : Ct G yJ7_fill_d0a16 cJ7_fill_d0a16 5 none 0 [.ref v0, .long v1] sh I L n (none) sh I L' n 0 0 := by
  refine ct_ofJ (y := yJ7_fill_d0a16) (by decide +kernel) rfl (fun X F => ?_)
  exact jbJ7_fill_d0a16_0 G F h
theorem dX3_become_0 : decode cX3_become 0 = .ok (.aload_n 0, 1) := by decide +kernel
theorem dX3_become_1 : decode cX3_become 1 = .ok (.iload_n 1, 1) := by decide +kernel
theorem dX3_become_2 : decode cX3_become 2 = .ok (.putfield 9, 3) := by decide +kernel
theorem dX3_become_5 : decode cX3_become 5 = .ok (.aload_n 0, 1) := by decide +kernel
theorem dX3_become_6 : decode cX3_become 6 = .ok (.iload_n 2, 1) := by decide +kernel
theorem dX3_become_7 : decode cX3_become 7 = .ok (.aload_n 0, 1) := by decide +kernel
theorem dX3_become_8 : decode cX3_become 8 = .ok (.getfield 15, 3) := by decide +kernel
theorem dX3_become_11 : decode cX3_become 11 = .ok (.arraylength, 1) := by decide +kernel
theorem dX3_become_12 : decode cX3_become 12 = .ok (.invokestatic 19, 3) := by decide +kernel
theorem dX3_become_15 : decode cX3_become 15 = .ok (.putfield 25, 3) := by decide +kernel
theorem dX3_become_18 : decode cX3_become 18 = .ok (.aload_n 0, 1) := by decide +kernel
theorem dX3_become_19 : decode cX3_become 19 = .ok (.getfield 15, 3) := by decide +kernel
theorem dX3_become_22 : decode cX3_become 22 = .ok (.lconst 0, 1) := by decide +kernel
theorem dX3_become_23 : decode cX3_become 23 = .ok (.invokestatic 28, 3) := by decide +kernel
theorem dX3_become_26 : decode cX3_become 26 = .ok (.return_, 1) := by decide +kernel
def fX3_become (sh : SH) (this : Nat) (v1 : Int32) (v2 : Int32) (I : IH) (L : LH) : Option (IH × LH) :=
  (pI sh I 3 this 0 v1).bind fun i1 =>
  (gR sh 3 this 2).bind fun x2 =>
  (aL sh x2).bind fun x3 =>
  (pI sh i1 3 this 1 (fJ9_min_7cf53 v2 x3)).bind fun i4 =>
  (gR sh 3 this 2).bind fun x5 =>
  (fJ7_fill_d0a16 sh x5 0 L).bind fun l6 =>
  some (i4, l6)
set_option maxHeartbeats 4000000 in
set_option maxRecDepth 20000 in
theorem jbX3_become_0 (G : GT) {X : XT} {sh : SH} {n : Nat} {I' : IH} {L' : LH}  {this : Nat}  {v1 : Int32} {v2 : Int32} {I : IH} {L : LH} (F : MF G X RX3 cX3_become 3 1 none "become") (h : fX3_become sh this v1 v2 I L = some (I', L')) : J G X (QE G X (none) sh I' L' n) 3 sh I L n 0 0 0 [(0, .ref this), (1, .int v1), (2, .int v2)] [] := by
  unfold fX3_become at h
  refine j_aload_n (pc := 0) (k0 := 0) F 0 rfl dX3_become_0 ?_
  refine j_iload_n (pc := 1) (k0 := 1) F 1 rfl dX3_become_1 ?_
  obtain ⟨i1, hi1, h⟩ := ob h
  refine j_putI (pc := 2) F flX3_9 fp3_0 (fun z => by cases z) hi1 dX3_become_2 ?_
  refine j_aload_n (pc := 5) (k0 := 0) F 0 rfl dX3_become_5 ?_
  refine j_iload_n (pc := 6) (k0 := 2) F 2 rfl dX3_become_6 ?_
  refine j_aload_n (pc := 7) (k0 := 0) F 0 rfl dX3_become_7 ?_
  obtain ⟨x2, hx2, h⟩ := ob h
  refine j_getR (pc := 8) F flX3_15 hx2 dX3_become_8 ?_
  obtain ⟨x3, hx3, h⟩ := ob h
  refine j_alen (pc := 11) F hx3 dX3_become_11 ?_
  refine j_callS1 (pc := 12) (As := [.int v2, .int x3]) (st := [.ref this]) (e1 := 0) (es1 := 0) F clX3_19 cwJ9_min_7cf53 (ctJ9_min_7cf53 G) rfl rfl rfl rfl rfl rfl dX3_become_12 ?_
  obtain ⟨i4, hi4, h⟩ := ob h
  refine j_putI (pc := 15) F flX3_25 fp3_1 (fun z => by cases z) hi4 dX3_become_15 ?_
  refine j_aload_n (pc := 18) (k0 := 0) F 0 rfl dX3_become_18 ?_
  obtain ⟨x5, hx5, h⟩ := ob h
  refine j_getR (pc := 19) F flX3_15 hx5 dX3_become_19 ?_
  refine j_lconst (pc := 22) F 0 dX3_become_22 (by decide) ?_
  obtain ⟨l6, hl6, h⟩ := ob h
  refine j_callS0 (pc := 23) (As := [.ref x5, .long 0]) (st := []) (e1 := 0) (es1 := 0) F clX3_28 cwJ7_fill_d0a16 (ctJ7_fill_d0a16 G hl6) rfl rfl rfl rfl rfl rfl dX3_become_23 ?_
  have g1 := Option.some.inj h
  obtain ⟨q3, g2⟩ := Prod.mk.inj g1
  subst q3
  subst g2
  exact j_vret (pc := 26) F dX3_become_26
theorem ctX3_become (G : GT) {sh : SH} {I : IH} {L : LH} {n : Nat} {this : Nat} {v1 : Int32} {v2 : Int32} {I' : IH} {L' : LH}  (h : fX3_become sh this v1 v2 I L = some (I', L')) : Ct G yX3_become cX3_become 3 none 1 [.ref this, .int v1, .int v2] sh I L n (none) sh I' L' n 0 0 := by
  refine ct_of (y := yX3_become) (by decide +kernel) rfl (fun X F => ?_)
  exact jbX3_become_0 G F h
theorem dX3_asItem_0 : decode cX3_asItem 0 = .ok (.aload_n 0, 1) := by decide +kernel
theorem dX3_asItem_1 : decode cX3_asItem 1 = .ok (.getfield 9, 3) := by decide +kernel
theorem dX3_asItem_4 : decode cX3_asItem 4 = .ok (.tableswitch 62 0 4 #[36, 41, 46, 62, 50], 36) := by decide +kernel
theorem dX3_asItem_40 : decode cX3_asItem 40 = .ok (.lload_n 1, 1) := by decide +kernel
theorem dX3_asItem_41 : decode cX3_asItem 41 = .ok (.l2i, 1) := by decide +kernel
theorem dX3_asItem_42 : decode cX3_asItem 42 = .ok (.i2b, 1) := by decide +kernel
theorem dX3_asItem_43 : decode cX3_asItem 43 = .ok (.i2l, 1) := by decide +kernel
theorem dX3_asItem_44 : decode cX3_asItem 44 = .ok (.lreturn, 1) := by decide +kernel
theorem dX3_asItem_45 : decode cX3_asItem 45 = .ok (.lload_n 1, 1) := by decide +kernel
theorem dX3_asItem_46 : decode cX3_asItem 46 = .ok (.l2i, 1) := by decide +kernel
theorem dX3_asItem_47 : decode cX3_asItem 47 = .ok (.i2s, 1) := by decide +kernel
theorem dX3_asItem_48 : decode cX3_asItem 48 = .ok (.i2l, 1) := by decide +kernel
theorem dX3_asItem_49 : decode cX3_asItem 49 = .ok (.lreturn, 1) := by decide +kernel
theorem dX3_asItem_50 : decode cX3_asItem 50 = .ok (.lload_n 1, 1) := by decide +kernel
theorem dX3_asItem_51 : decode cX3_asItem 51 = .ok (.l2i, 1) := by decide +kernel
theorem dX3_asItem_52 : decode cX3_asItem 52 = .ok (.i2l, 1) := by decide +kernel
theorem dX3_asItem_53 : decode cX3_asItem 53 = .ok (.lreturn, 1) := by decide +kernel
theorem dX3_asItem_54 : decode cX3_asItem 54 = .ok (.lload_n 1, 1) := by decide +kernel
theorem dX3_asItem_55 : decode cX3_asItem 55 = .ok (.lconst 0, 1) := by decide +kernel
theorem dX3_asItem_56 : decode cX3_asItem 56 = .ok (.lcmp, 1) := by decide +kernel
theorem dX3_asItem_57 : decode cX3_asItem 57 = .ok (.ifCond .eq 7, 3) := by decide +kernel
theorem dX3_asItem_60 : decode cX3_asItem 60 = .ok (.lconst 1, 1) := by decide +kernel
theorem dX3_asItem_61 : decode cX3_asItem 61 = .ok (.goto 4, 3) := by decide +kernel
theorem dX3_asItem_64 : decode cX3_asItem 64 = .ok (.lconst 0, 1) := by decide +kernel
theorem dX3_asItem_65 : decode cX3_asItem 65 = .ok (.lreturn, 1) := by decide +kernel
theorem dX3_asItem_66 : decode cX3_asItem 66 = .ok (.lload_n 1, 1) := by decide +kernel
theorem dX3_asItem_67 : decode cX3_asItem 67 = .ok (.lreturn, 1) := by decide +kernel
def fX3_asItem (sh : SH) (I : IH) (this : Nat) (v1 : Int64) : Option (Int64) :=
  (gI sh I 3 this 0).bind fun x1 =>
  if x1 = 0 then (
    some v1.toInt32.toInt8.toInt32.toInt64) else
  if x1 = 1 then (
    some v1.toInt32.toInt16.toInt32.toInt64) else
  if x1 = 2 then (
    some v1.toInt32.toInt64) else
  if x1 = 4 then (
    if (lg_cmp v1 0) = 0 then (
      some 0) else
    some 1) else
  some v1
set_option maxHeartbeats 4000000 in
set_option maxRecDepth 20000 in
theorem jbX3_asItem_0 (G : GT) {X : XT} {sh : SH} {I : IH} {L : LH} {n : Nat} {r : Int64}  {this : Nat}  {v1 : Int64} (F : MF G X RX3 cX3_asItem 3 0 (some .long) "asItem") (h : fX3_asItem sh I this v1 = some r) : J G X (QE G X (some (.long r)) sh I L n) 3 sh I L n 0 0 0 [(0, .ref this), (1, .long v1)] [] := by
  unfold fX3_asItem at h
  refine j_aload_n (pc := 0) (k0 := 0) F 0 rfl dX3_asItem_0 ?_
  obtain ⟨x1, hx1, h⟩ := ob h
  refine j_getI (pc := 1) F flX3_9 hx1 dX3_asItem_1 ?_
  by_cases c1 : x1 = 0
  · have h := iz_t c1 h
    refine j_tabIn (pc := 4) (k0 := 0) F 40 c1 dX3_asItem_4 (by decide) rfl rfl ?_
    refine j_lload_n (pc := 40) (k0 := 1) F 1 rfl dX3_asItem_40 ?_
    refine j_l2i (pc := 41) F dX3_asItem_41 ?_
    refine j_i2b (pc := 42) F dX3_asItem_42 ?_
    refine j_i2l (pc := 43) F dX3_asItem_43 ?_
    have g1 := Option.some.inj h
    subst g1
    exact j_lret (pc := 44) F dX3_asItem_44
  have h := iz_f c1 h
  by_cases c2 : x1 = 1
  · have h := iz_t c2 h
    refine j_tabIn (pc := 4) (k0 := 1) F 45 c2 dX3_asItem_4 (by decide) rfl rfl ?_
    refine j_lload_n (pc := 45) (k0 := 1) F 1 rfl dX3_asItem_45 ?_
    refine j_l2i (pc := 46) F dX3_asItem_46 ?_
    refine j_i2s (pc := 47) F dX3_asItem_47 ?_
    refine j_i2l (pc := 48) F dX3_asItem_48 ?_
    have g1 := Option.some.inj h
    subst g1
    exact j_lret (pc := 49) F dX3_asItem_49
  have h := iz_f c2 h
  by_cases c3 : x1 = 2
  · have h := iz_t c3 h
    refine j_tabIn (pc := 4) (k0 := 2) F 50 c3 dX3_asItem_4 (by decide) rfl rfl ?_
    refine j_lload_n (pc := 50) (k0 := 1) F 1 rfl dX3_asItem_50 ?_
    refine j_l2i (pc := 51) F dX3_asItem_51 ?_
    refine j_i2l (pc := 52) F dX3_asItem_52 ?_
    have g1 := Option.some.inj h
    subst g1
    exact j_lret (pc := 53) F dX3_asItem_53
  have h := iz_f c3 h
  by_cases c4 : x1 = 4
  · have h := iz_t c4 h
    refine j_tabIn (pc := 4) (k0 := 4) F 54 c4 dX3_asItem_4 (by decide) rfl rfl ?_
    refine j_lload_n (pc := 54) (k0 := 1) F 1 rfl dX3_asItem_54 ?_
    refine j_lconst (pc := 55) F 0 dX3_asItem_55 (by decide) ?_
    refine j_lcmp (pc := 56) F dX3_asItem_56 ?_
    refine j_if_eq (pc := 57) F 64 dX3_asItem_57 rfl (fun c => ?_) (fun c => ?_)
    · have h := iz_t c h
      refine j_lconst (pc := 64) F 0 dX3_asItem_64 (by decide) ?_
      have g1 := Option.some.inj h
      subst g1
      exact j_lret (pc := 65) F dX3_asItem_65
    · have h := iz_f c h
      refine j_lconst (pc := 60) F 1 dX3_asItem_60 (by decide) ?_
      refine j_goto (pc := 61) F 65 dX3_asItem_61 rfl ?_
      have g1 := Option.some.inj h
      subst g1
      exact j_lret (pc := 65) F dX3_asItem_65
  have h := iz_f c4 h
  by_cases d1 : x1 = 3
  · refine j_tabIn (pc := 4) (k0 := 3) F 66 d1 dX3_asItem_4 (by decide) rfl rfl ?_
    refine j_lload_n (pc := 66) (k0 := 1) F 1 rfl dX3_asItem_66 ?_
    have g1 := Option.some.inj h
    subst g1
    exact j_lret (pc := 67) F dX3_asItem_67
  have tc1 := lv_neT (a := 0) c1 (by decide)
  have tc2 := lv_neT (a := 1) c2 (by decide)
  have tc3 := lv_neT (a := 2) c3 (by decide)
  have tc4 := lv_neT (a := 4) c4 (by decide)
  have td1 := lv_neT (a := 3) d1 (by decide)
  refine j_tabOut (pc := 4) F 66 dX3_asItem_4 (by omega) rfl ?_
  refine j_lload_n (pc := 66) (k0 := 1) F 1 rfl dX3_asItem_66 ?_
  have g1 := Option.some.inj h
  subst g1
  exact j_lret (pc := 67) F dX3_asItem_67
theorem ctX3_asItem (G : GT) {sh : SH} {I : IH} {L : LH} {n : Nat} {this : Nat} {v1 : Int64} {r : Int64}  (h : fX3_asItem sh I this v1 = some r) : Ct G yX3_asItem cX3_asItem 3 (some .long) 0 [.ref this, .long v1] sh I L n (some (.long r)) sh I L n 0 0 := by
  refine ct_of (y := yX3_asItem) (by decide +kernel) rfl (fun X F => ?_)
  exact jbX3_asItem_0 G F h
theorem dX5_init_0 : decode cX5_init 0 = .ok (.aload_n 0, 1) := by decide +kernel
theorem dX5_init_1 : decode cX5_init 1 = .ok (.invokespecial 3, 3) := by decide +kernel
theorem dX5_init_4 : decode cX5_init 4 = .ok (.aload_n 0, 1) := by decide +kernel
theorem dX5_init_5 : decode cX5_init 5 = .ok (.bipush 48, 2) := by decide +kernel
theorem dX5_init_7 : decode cX5_init 7 = .ok (.newarray .int, 2) := by decide +kernel
theorem dX5_init_9 : decode cX5_init 9 = .ok (.putfield 9, 3) := by decide +kernel
theorem dX5_init_12 : decode cX5_init 12 = .ok (.aload_n 0, 1) := by decide +kernel
theorem dX5_init_13 : decode cX5_init 13 = .ok (.iconst 4, 1) := by decide +kernel
theorem dX5_init_14 : decode cX5_init 14 = .ok (.iconst 5, 1) := by decide +kernel
theorem dX5_init_15 : decode cX5_init 15 = .ok (.multianewarray 15 2, 4) := by decide +kernel
theorem dX5_init_19 : decode cX5_init 19 = .ok (.putfield 17, 3) := by decide +kernel
theorem dX5_init_22 : decode cX5_init 22 = .ok (.aload_n 0, 1) := by decide +kernel
theorem dX5_init_23 : decode cX5_init 23 = .ok (.iconst 5, 1) := by decide +kernel
theorem dX5_init_24 : decode cX5_init 24 = .ok (.iconst 3, 1) := by decide +kernel
theorem dX5_init_25 : decode cX5_init 25 = .ok (.multianewarray 15 2, 4) := by decide +kernel
theorem dX5_init_29 : decode cX5_init 29 = .ok (.putfield 20, 3) := by decide +kernel
theorem dX5_init_32 : decode cX5_init 32 = .ok (.aload_n 0, 1) := by decide +kernel
theorem dX5_init_33 : decode cX5_init 33 = .ok (.iconst 5, 1) := by decide +kernel
theorem dX5_init_34 : decode cX5_init 34 = .ok (.bipush 48, 2) := by decide +kernel
theorem dX5_init_36 : decode cX5_init 36 = .ok (.multianewarray 15 2, 4) := by decide +kernel
theorem dX5_init_40 : decode cX5_init 40 = .ok (.putfield 23, 3) := by decide +kernel
theorem dX5_init_43 : decode cX5_init 43 = .ok (.aload_n 0, 1) := by decide +kernel
theorem dX5_init_44 : decode cX5_init 44 = .ok (.iconst 5, 1) := by decide +kernel
theorem dX5_init_45 : decode cX5_init 45 = .ok (.bipush 48, 2) := by decide +kernel
theorem dX5_init_47 : decode cX5_init 47 = .ok (.multianewarray 15 2, 4) := by decide +kernel
theorem dX5_init_51 : decode cX5_init 51 = .ok (.putfield 26, 3) := by decide +kernel
theorem dX5_init_54 : decode cX5_init 54 = .ok (.aload_n 0, 1) := by decide +kernel
theorem dX5_init_55 : decode cX5_init 55 = .ok (.iconst 5, 1) := by decide +kernel
theorem dX5_init_56 : decode cX5_init 56 = .ok (.bipush 48, 2) := by decide +kernel
theorem dX5_init_58 : decode cX5_init 58 = .ok (.multianewarray 15 2, 4) := by decide +kernel
theorem dX5_init_62 : decode cX5_init 62 = .ok (.putfield 29, 3) := by decide +kernel
theorem dX5_init_65 : decode cX5_init 65 = .ok (.aload_n 0, 1) := by decide +kernel
theorem dX5_init_66 : decode cX5_init 66 = .ok (.iconst 5, 1) := by decide +kernel
theorem dX5_init_67 : decode cX5_init 67 = .ok (.bipush 48, 2) := by decide +kernel
theorem dX5_init_69 : decode cX5_init 69 = .ok (.multianewarray 15 2, 4) := by decide +kernel
theorem dX5_init_73 : decode cX5_init 73 = .ok (.putfield 32, 3) := by decide +kernel
theorem dX5_init_76 : decode cX5_init 76 = .ok (.aload_n 0, 1) := by decide +kernel
theorem dX5_init_77 : decode cX5_init 77 = .ok (.iconst 5, 1) := by decide +kernel
theorem dX5_init_78 : decode cX5_init 78 = .ok (.bipush 48, 2) := by decide +kernel
theorem dX5_init_80 : decode cX5_init 80 = .ok (.multianewarray 15 2, 4) := by decide +kernel
theorem dX5_init_84 : decode cX5_init 84 = .ok (.putfield 35, 3) := by decide +kernel
theorem dX5_init_87 : decode cX5_init 87 = .ok (.aload_n 0, 1) := by decide +kernel
theorem dX5_init_88 : decode cX5_init 88 = .ok (.bipush 10, 2) := by decide +kernel
theorem dX5_init_90 : decode cX5_init 90 = .ok (.newarray .int, 2) := by decide +kernel
theorem dX5_init_92 : decode cX5_init 92 = .ok (.putfield 38, 3) := by decide +kernel
theorem dX5_init_95 : decode cX5_init 95 = .ok (.aload_n 0, 1) := by decide +kernel
theorem dX5_init_96 : decode cX5_init 96 = .ok (.aload_n 1, 1) := by decide +kernel
theorem dX5_init_97 : decode cX5_init 97 = .ok (.putfield 41, 3) := by decide +kernel
theorem dX5_init_100 : decode cX5_init 100 = .ok (.return_, 1) := by decide +kernel
def fX5_init (this : Nat) (v1 : Nat) (sh : SH) (I : IH) (n : Nat) : Option ((Nat × Nat) × (SH × IH × Nat)) :=
  b2 (nAI sh I n 0 48) fun h1 i2 =>
  addE 1 (48 : Int32).toNatClampNeg (
  (pR h1 5 this 1 n).bind fun h5 =>
  b2 (nM h5 i2 (n + 1) 4 5) fun h6 i7 =>
  addE (1 + (4 : Int32).toNatClampNeg) ((4 : Int32).toNatClampNeg + (4 : Int32).toNatClampNeg * (5 : Int32).toNatClampNeg) (
  (pR h6 5 this 2 (n + 1)).bind fun h10 =>
  b2 (nM h10 i7 ((n + 1) + (1 + (4 : Int32).toNatClampNeg)) 5 3) fun h11 i12 =>
  addE (1 + (5 : Int32).toNatClampNeg) ((5 : Int32).toNatClampNeg + (5 : Int32).toNatClampNeg * (3 : Int32).toNatClampNeg) (
  (pR h11 5 this 3 ((n + 1) + (1 + (4 : Int32).toNatClampNeg))).bind fun h15 =>
  b2 (nM h15 i12 (((n + 1) + (1 + (4 : Int32).toNatClampNeg)) + (1 + (5 : Int32).toNatClampNeg)) 5 48) fun h16 i17 =>
  addE (1 + (5 : Int32).toNatClampNeg) ((5 : Int32).toNatClampNeg + (5 : Int32).toNatClampNeg * (48 : Int32).toNatClampNeg) (
  (pR h16 5 this 4 (((n + 1) + (1 + (4 : Int32).toNatClampNeg)) + (1 + (5 : Int32).toNatClampNeg))).bind fun h20 =>
  b2 (nM h20 i17 ((((n + 1) + (1 + (4 : Int32).toNatClampNeg)) + (1 + (5 : Int32).toNatClampNeg)) + (1 + (5 : Int32).toNatClampNeg)) 5 48) fun h21 i22 =>
  addE (1 + (5 : Int32).toNatClampNeg) ((5 : Int32).toNatClampNeg + (5 : Int32).toNatClampNeg * (48 : Int32).toNatClampNeg) (
  (pR h21 5 this 5 ((((n + 1) + (1 + (4 : Int32).toNatClampNeg)) + (1 + (5 : Int32).toNatClampNeg)) + (1 + (5 : Int32).toNatClampNeg))).bind fun h25 =>
  b2 (nM h25 i22 (((((n + 1) + (1 + (4 : Int32).toNatClampNeg)) + (1 + (5 : Int32).toNatClampNeg)) + (1 + (5 : Int32).toNatClampNeg)) + (1 + (5 : Int32).toNatClampNeg)) 5 48) fun h26 i27 =>
  addE (1 + (5 : Int32).toNatClampNeg) ((5 : Int32).toNatClampNeg + (5 : Int32).toNatClampNeg * (48 : Int32).toNatClampNeg) (
  (pR h26 5 this 6 (((((n + 1) + (1 + (4 : Int32).toNatClampNeg)) + (1 + (5 : Int32).toNatClampNeg)) + (1 + (5 : Int32).toNatClampNeg)) + (1 + (5 : Int32).toNatClampNeg))).bind fun h30 =>
  b2 (nM h30 i27 ((((((n + 1) + (1 + (4 : Int32).toNatClampNeg)) + (1 + (5 : Int32).toNatClampNeg)) + (1 + (5 : Int32).toNatClampNeg)) + (1 + (5 : Int32).toNatClampNeg)) + (1 + (5 : Int32).toNatClampNeg)) 5 48) fun h31 i32 =>
  addE (1 + (5 : Int32).toNatClampNeg) ((5 : Int32).toNatClampNeg + (5 : Int32).toNatClampNeg * (48 : Int32).toNatClampNeg) (
  (pR h31 5 this 7 ((((((n + 1) + (1 + (4 : Int32).toNatClampNeg)) + (1 + (5 : Int32).toNatClampNeg)) + (1 + (5 : Int32).toNatClampNeg)) + (1 + (5 : Int32).toNatClampNeg)) + (1 + (5 : Int32).toNatClampNeg))).bind fun h35 =>
  b2 (nM h35 i32 (((((((n + 1) + (1 + (4 : Int32).toNatClampNeg)) + (1 + (5 : Int32).toNatClampNeg)) + (1 + (5 : Int32).toNatClampNeg)) + (1 + (5 : Int32).toNatClampNeg)) + (1 + (5 : Int32).toNatClampNeg)) + (1 + (5 : Int32).toNatClampNeg)) 5 48) fun h36 i37 =>
  addE (1 + (5 : Int32).toNatClampNeg) ((5 : Int32).toNatClampNeg + (5 : Int32).toNatClampNeg * (48 : Int32).toNatClampNeg) (
  (pR h36 5 this 8 (((((((n + 1) + (1 + (4 : Int32).toNatClampNeg)) + (1 + (5 : Int32).toNatClampNeg)) + (1 + (5 : Int32).toNatClampNeg)) + (1 + (5 : Int32).toNatClampNeg)) + (1 + (5 : Int32).toNatClampNeg)) + (1 + (5 : Int32).toNatClampNeg))).bind fun h40 =>
  b2 (nAI h40 i37 ((((((((n + 1) + (1 + (4 : Int32).toNatClampNeg)) + (1 + (5 : Int32).toNatClampNeg)) + (1 + (5 : Int32).toNatClampNeg)) + (1 + (5 : Int32).toNatClampNeg)) + (1 + (5 : Int32).toNatClampNeg)) + (1 + (5 : Int32).toNatClampNeg)) + (1 + (5 : Int32).toNatClampNeg)) 0 10) fun h41 i42 =>
  addE 1 (10 : Int32).toNatClampNeg (
  (pR h41 5 this 9 ((((((((n + 1) + (1 + (4 : Int32).toNatClampNeg)) + (1 + (5 : Int32).toNatClampNeg)) + (1 + (5 : Int32).toNatClampNeg)) + (1 + (5 : Int32).toNatClampNeg)) + (1 + (5 : Int32).toNatClampNeg)) + (1 + (5 : Int32).toNatClampNeg)) + (1 + (5 : Int32).toNatClampNeg))).bind fun h45 =>
  (pR h45 5 this 0 v1).bind fun h46 =>
  some ((0, 0), (h46, i42, (((((((((n + 1) + (1 + (4 : Int32).toNatClampNeg)) + (1 + (5 : Int32).toNatClampNeg)) + (1 + (5 : Int32).toNatClampNeg)) + (1 + (5 : Int32).toNatClampNeg)) + (1 + (5 : Int32).toNatClampNeg)) + (1 + (5 : Int32).toNatClampNeg)) + (1 + (5 : Int32).toNatClampNeg)) + 1))))))))))))
set_option maxHeartbeats 4000000 in
set_option maxRecDepth 20000 in
theorem jbX5_init_0 (G : GT) {X : XT} {L : LH} {sh' : SH} {I' : IH} {n' : Nat}  {this : Nat}  {v1 : Nat} {sh : SH} {I : IH} {n : Nat} {e es : Nat} (F : MF G X RX5 cX5_init 2 1 none "<init>") (h : fX5_init this v1 sh I n = some ((e, es), (sh', I', n'))) : J G X (QE G X (none) sh' I' L n') 2 sh I L n e es 0 [(0, .ref this), (1, .ref v1)] [] := by
  unfold fX5_init at h
  refine j_aload_n (pc := 0) (k0 := 0) F 0 rfl dX5_init_0 ?_
  refine j_objInit (pc := 1) F (good_of 171 (by decide +kernel) (by decide +kernel)) rfl rfl dX5_init_1 ?_
  refine j_aload_n (pc := 4) (k0 := 0) F 0 rfl dX5_init_4 ?_
  refine j_bipush (pc := 5) F 48 dX5_init_5 (by decide) ?_
  obtain ⟨h1, i2, hh1, h⟩ := b2_obt h
  obtain ⟨e3, es4, h, he, hes⟩ := addE_obt h
  refine j_newI (pc := 7) F (Or.inl ⟨rfl, rfl⟩) aw_int hh1 he hes dX5_init_7 ?_
  obtain ⟨h5, hh5, h⟩ := ob h
  refine j_putR (pc := 9) (ty := (.array .int)) F ⟨rfl, rfl⟩ flX5_9 fp5_1 (fun _ => ⟨rfl, rfl⟩) hh5 dX5_init_9 ?_
  refine j_aload_n (pc := 12) (k0 := 0) F 0 rfl dX5_init_12 ?_
  refine j_iconst (pc := 13) F 4 dX5_init_13 (by decide) ?_
  refine j_iconst (pc := 14) F 5 dX5_init_14 (by decide) ?_
  obtain ⟨h6, i7, hh6, h⟩ := b2_obt h
  obtain ⟨e8, es9, h, he, hes⟩ := addE_obt h
  refine j_multi (pc := 15) F (good_of 172 (by decide +kernel) (by decide +kernel)) aw_int hh6 he hes dX5_init_15 ?_
  obtain ⟨h10, hh10, h⟩ := ob h
  refine j_putR (pc := 19) (ty := (.array (.array .int))) F ⟨rfl, rfl⟩ flX5_17 fp5_2 (fun _ => ⟨rfl, rfl⟩) hh10 dX5_init_19 ?_
  refine j_aload_n (pc := 22) (k0 := 0) F 0 rfl dX5_init_22 ?_
  refine j_iconst (pc := 23) F 5 dX5_init_23 (by decide) ?_
  refine j_iconst (pc := 24) F 3 dX5_init_24 (by decide) ?_
  obtain ⟨h11, i12, hh11, h⟩ := b2_obt h
  obtain ⟨e13, es14, h, he, hes⟩ := addE_obt h
  refine j_multi (pc := 25) F (good_of 172 (by decide +kernel) (by decide +kernel)) aw_int hh11 he hes dX5_init_25 ?_
  obtain ⟨h15, hh15, h⟩ := ob h
  refine j_putR (pc := 29) (ty := (.array (.array .int))) F ⟨rfl, rfl⟩ flX5_20 fp5_3 (fun _ => ⟨rfl, rfl⟩) hh15 dX5_init_29 ?_
  refine j_aload_n (pc := 32) (k0 := 0) F 0 rfl dX5_init_32 ?_
  refine j_iconst (pc := 33) F 5 dX5_init_33 (by decide) ?_
  refine j_bipush (pc := 34) F 48 dX5_init_34 (by decide) ?_
  obtain ⟨h16, i17, hh16, h⟩ := b2_obt h
  obtain ⟨e18, es19, h, he, hes⟩ := addE_obt h
  refine j_multi (pc := 36) F (good_of 172 (by decide +kernel) (by decide +kernel)) aw_int hh16 he hes dX5_init_36 ?_
  obtain ⟨h20, hh20, h⟩ := ob h
  refine j_putR (pc := 40) (ty := (.array (.array .int))) F ⟨rfl, rfl⟩ flX5_23 fp5_4 (fun _ => ⟨rfl, rfl⟩) hh20 dX5_init_40 ?_
  refine j_aload_n (pc := 43) (k0 := 0) F 0 rfl dX5_init_43 ?_
  refine j_iconst (pc := 44) F 5 dX5_init_44 (by decide) ?_
  refine j_bipush (pc := 45) F 48 dX5_init_45 (by decide) ?_
  obtain ⟨h21, i22, hh21, h⟩ := b2_obt h
  obtain ⟨e23, es24, h, he, hes⟩ := addE_obt h
  refine j_multi (pc := 47) F (good_of 172 (by decide +kernel) (by decide +kernel)) aw_int hh21 he hes dX5_init_47 ?_
  obtain ⟨h25, hh25, h⟩ := ob h
  refine j_putR (pc := 51) (ty := (.array (.array .int))) F ⟨rfl, rfl⟩ flX5_26 fp5_5 (fun _ => ⟨rfl, rfl⟩) hh25 dX5_init_51 ?_
  refine j_aload_n (pc := 54) (k0 := 0) F 0 rfl dX5_init_54 ?_
  refine j_iconst (pc := 55) F 5 dX5_init_55 (by decide) ?_
  refine j_bipush (pc := 56) F 48 dX5_init_56 (by decide) ?_
  obtain ⟨h26, i27, hh26, h⟩ := b2_obt h
  obtain ⟨e28, es29, h, he, hes⟩ := addE_obt h
  refine j_multi (pc := 58) F (good_of 172 (by decide +kernel) (by decide +kernel)) aw_int hh26 he hes dX5_init_58 ?_
  obtain ⟨h30, hh30, h⟩ := ob h
  refine j_putR (pc := 62) (ty := (.array (.array .int))) F ⟨rfl, rfl⟩ flX5_29 fp5_6 (fun _ => ⟨rfl, rfl⟩) hh30 dX5_init_62 ?_
  refine j_aload_n (pc := 65) (k0 := 0) F 0 rfl dX5_init_65 ?_
  refine j_iconst (pc := 66) F 5 dX5_init_66 (by decide) ?_
  refine j_bipush (pc := 67) F 48 dX5_init_67 (by decide) ?_
  obtain ⟨h31, i32, hh31, h⟩ := b2_obt h
  obtain ⟨e33, es34, h, he, hes⟩ := addE_obt h
  refine j_multi (pc := 69) F (good_of 172 (by decide +kernel) (by decide +kernel)) aw_int hh31 he hes dX5_init_69 ?_
  obtain ⟨h35, hh35, h⟩ := ob h
  refine j_putR (pc := 73) (ty := (.array (.array .int))) F ⟨rfl, rfl⟩ flX5_32 fp5_7 (fun _ => ⟨rfl, rfl⟩) hh35 dX5_init_73 ?_
  refine j_aload_n (pc := 76) (k0 := 0) F 0 rfl dX5_init_76 ?_
  refine j_iconst (pc := 77) F 5 dX5_init_77 (by decide) ?_
  refine j_bipush (pc := 78) F 48 dX5_init_78 (by decide) ?_
  obtain ⟨h36, i37, hh36, h⟩ := b2_obt h
  obtain ⟨e38, es39, h, he, hes⟩ := addE_obt h
  refine j_multi (pc := 80) F (good_of 172 (by decide +kernel) (by decide +kernel)) aw_int hh36 he hes dX5_init_80 ?_
  obtain ⟨h40, hh40, h⟩ := ob h
  refine j_putR (pc := 84) (ty := (.array (.array .int))) F ⟨rfl, rfl⟩ flX5_35 fp5_8 (fun _ => ⟨rfl, rfl⟩) hh40 dX5_init_84 ?_
  refine j_aload_n (pc := 87) (k0 := 0) F 0 rfl dX5_init_87 ?_
  refine j_bipush (pc := 88) F 10 dX5_init_88 (by decide) ?_
  obtain ⟨h41, i42, hh41, h⟩ := b2_obt h
  obtain ⟨e43, es44, h, he, hes⟩ := addE_obt h
  refine j_newI (pc := 90) F (Or.inl ⟨rfl, rfl⟩) aw_int hh41 he hes dX5_init_90 ?_
  obtain ⟨h45, hh45, h⟩ := ob h
  refine j_putR (pc := 92) (ty := (.array .int)) F ⟨rfl, rfl⟩ flX5_38 fp5_9 (fun _ => ⟨rfl, rfl⟩) hh45 dX5_init_92 ?_
  refine j_aload_n (pc := 95) (k0 := 0) F 0 rfl dX5_init_95 ?_
  refine j_aload_n (pc := 96) (k0 := 1) F 1 rfl dX5_init_96 ?_
  obtain ⟨h46, hh46, h⟩ := ob h
  refine j_putR (pc := 97) (ty := (.object "MeltHours$State")) F ⟨rfl, rfl⟩ flX5_41 fp5_0 (fun _ => ⟨rfl, rfl⟩) hh46 dX5_init_97 ?_
  have g0 := Option.some.inj h
  obtain ⟨hq, g1⟩ := Prod.mk.inj g0
  obtain ⟨q1, q2⟩ := Prod.mk.inj hq
  obtain ⟨q3, g2⟩ := Prod.mk.inj g1
  obtain ⟨q4, g3⟩ := Prod.mk.inj g2
  subst q1
  subst q2
  subst q3
  subst q4
  subst g3
  exact j_vret (pc := 100) F dX5_init_100
theorem ctX5_init (G : GT) {sh : SH} {I : IH} {L : LH} {n : Nat} {this : Nat} {v1 : Nat} {sh' : SH} {I' : IH} {n' : Nat} {e es : Nat}  (h : fX5_init this v1 sh I n = some ((e, es), (sh', I', n'))) : Ct G yX5_init cX5_init 2 none 1 [.ref this, .ref v1] sh I L n (none) sh' I' L n' e es := by
  refine ct_of (y := yX5_init) (by decide +kernel) rfl (fun X F => ?_)
  exact jbX5_init_0 G F h
theorem dX5_load_0 : decode cX5_load 0 = .ok (.aload_n 0, 1) := by decide +kernel
theorem dX5_load_1 : decode cX5_load 1 = .ok (.getfield 41, 3) := by decide +kernel
theorem dX5_load_4 : decode cX5_load 4 = .ok (.getfield 45, 3) := by decide +kernel
theorem dX5_load_7 : decode cX5_load 7 = .ok (.getfield 51, 3) := by decide +kernel
theorem dX5_load_10 : decode cX5_load 10 = .ok (.aload_n 0, 1) := by decide +kernel
theorem dX5_load_11 : decode cX5_load 11 = .ok (.getfield 17, 3) := by decide +kernel
theorem dX5_load_14 : decode cX5_load 14 = .ok (.invokestatic 54, 3) := by decide +kernel
theorem dX5_load_17 : decode cX5_load 17 = .ok (.aload_n 0, 1) := by decide +kernel
theorem dX5_load_18 : decode cX5_load 18 = .ok (.getfield 41, 3) := by decide +kernel
theorem dX5_load_21 : decode cX5_load 21 = .ok (.getfield 58, 3) := by decide +kernel
theorem dX5_load_24 : decode cX5_load 24 = .ok (.aload_n 0, 1) := by decide +kernel
theorem dX5_load_25 : decode cX5_load 25 = .ok (.getfield 20, 3) := by decide +kernel
theorem dX5_load_28 : decode cX5_load 28 = .ok (.invokestatic 54, 3) := by decide +kernel
theorem dX5_load_31 : decode cX5_load 31 = .ok (.return_, 1) := by decide +kernel
def fX5_load (sh : SH) (this : Nat) (I : IH) : Option (IH) :=
  (gR sh 5 this 0).bind fun x1 =>
  (gR sh 2 x1 8).bind fun x2 =>
  (gR sh 4 x2 0).bind fun x3 =>
  (gR sh 5 this 2).bind fun x4 =>
  (fX6_copyRows sh x3 x4 I).bind fun i5 =>
  (gR sh 5 this 0).bind fun x6 =>
  (gR sh 2 x6 3).bind fun x7 =>
  (gR sh 5 this 3).bind fun x8 =>
  (fX6_copyRows sh x7 x8 i5).bind fun i9 =>
  some i9
set_option maxHeartbeats 4000000 in
set_option maxRecDepth 20000 in
theorem jbX5_load_0 (G : GT) {X : XT} {sh : SH} {L : LH} {n : Nat} {I' : IH}  {this : Nat}  {I : IH} (F : MF G X RX5 cX5_load 1 3 none "load") (h : fX5_load sh this I = some I') : J G X (QE G X (none) sh I' L n) 1 sh I L n 0 0 0 [(0, .ref this)] [] := by
  unfold fX5_load at h
  refine j_aload_n (pc := 0) (k0 := 0) F 0 rfl dX5_load_0 ?_
  obtain ⟨x1, hx1, h⟩ := ob h
  refine j_getR (pc := 1) F flX5_41 hx1 dX5_load_1 ?_
  obtain ⟨x2, hx2, h⟩ := ob h
  refine j_getR (pc := 4) F flX5_45 hx2 dX5_load_4 ?_
  obtain ⟨x3, hx3, h⟩ := ob h
  refine j_getR (pc := 7) F flX5_51 hx3 dX5_load_7 ?_
  refine j_aload_n (pc := 10) (k0 := 0) F 0 rfl dX5_load_10 ?_
  obtain ⟨x4, hx4, h⟩ := ob h
  refine j_getR (pc := 11) F flX5_17 hx4 dX5_load_11 ?_
  obtain ⟨i5, hi5, h⟩ := ob h
  refine j_callSN0 (pc := 14) (As := [.ref x3, .ref x4]) (st := []) (e1 := 0) (es1 := 0) F clX5_54 cwX6_copyRows (ctX6_copyRows G hi5) rfl rfl rfl rfl rfl rfl dX5_load_14 ?_
  refine j_aload_n (pc := 17) (k0 := 0) F 0 rfl dX5_load_17 ?_
  obtain ⟨x6, hx6, h⟩ := ob h
  refine j_getR (pc := 18) F flX5_41 hx6 dX5_load_18 ?_
  obtain ⟨x7, hx7, h⟩ := ob h
  refine j_getR (pc := 21) F flX5_58 hx7 dX5_load_21 ?_
  refine j_aload_n (pc := 24) (k0 := 0) F 0 rfl dX5_load_24 ?_
  obtain ⟨x8, hx8, h⟩ := ob h
  refine j_getR (pc := 25) F flX5_20 hx8 dX5_load_25 ?_
  obtain ⟨i9, hi9, h⟩ := ob h
  refine j_callSN0 (pc := 28) (As := [.ref x7, .ref x8]) (st := []) (e1 := 0) (es1 := 0) F clX5_54 cwX6_copyRows (ctX6_copyRows G hi9) rfl rfl rfl rfl rfl rfl dX5_load_28 ?_
  have g1 := Option.some.inj h
  subst g1
  exact j_vret (pc := 31) F dX5_load_31
theorem ctX5_load (G : GT) {sh : SH} {I : IH} {L : LH} {n : Nat} {this : Nat} {I' : IH}  (h : fX5_load sh this I = some I') : Ct G yX5_load cX5_load 1 none 3 [.ref this] sh I L n (none) sh I' L n 0 0 := by
  refine ct_of (y := yX5_load) (by decide +kernel) rfl (fun X F => ?_)
  exact jbX5_load_0 G F h
theorem dX5_meltUnder_0 : decode cX5_meltUnder 0 = .ok (.iconst 0, 1) := by decide +kernel
theorem dX5_meltUnder_1 : decode cX5_meltUnder 1 = .ok (.istore_n 3, 1) := by decide +kernel
theorem dX5_meltUnder_2 : decode cX5_meltUnder 2 = .ok (.iload_n 3, 1) := by decide +kernel
theorem dX5_meltUnder_3 : decode cX5_meltUnder 3 = .ok (.aload_n 0, 1) := by decide +kernel
theorem dX5_meltUnder_4 : decode cX5_meltUnder 4 = .ok (.getfield 9, 3) := by decide +kernel
theorem dX5_meltUnder_7 : decode cX5_meltUnder 7 = .ok (.arraylength, 1) := by decide +kernel
theorem dX5_meltUnder_8 : decode cX5_meltUnder 8 = .ok (.if_icmp .ge 34, 3) := by decide +kernel
theorem dX5_meltUnder_11 : decode cX5_meltUnder 11 = .ok (.aload_n 0, 1) := by decide +kernel
theorem dX5_meltUnder_12 : decode cX5_meltUnder 12 = .ok (.getfield 9, 3) := by decide +kernel
theorem dX5_meltUnder_15 : decode cX5_meltUnder 15 = .ok (.iload_n 3, 1) := by decide +kernel
theorem dX5_meltUnder_16 : decode cX5_meltUnder 16 = .ok (.aload_n 0, 1) := by decide +kernel
theorem dX5_meltUnder_17 : decode cX5_meltUnder 17 = .ok (.getfield 41, 3) := by decide +kernel
theorem dX5_meltUnder_20 : decode cX5_meltUnder 20 = .ok (.iload_n 3, 1) := by decide +kernel
theorem dX5_meltUnder_21 : decode cX5_meltUnder 21 = .ok (.iload_n 3, 1) := by decide +kernel
theorem dX5_meltUnder_22 : decode cX5_meltUnder 22 = .ok (.bipush 24, 2) := by decide +kernel
theorem dX5_meltUnder_24 : decode cX5_meltUnder 24 = .ok (.if_icmp .ge 7, 3) := by decide +kernel
theorem dX5_meltUnder_27 : decode cX5_meltUnder 27 = .ok (.iload_n 1, 1) := by decide +kernel
theorem dX5_meltUnder_28 : decode cX5_meltUnder 28 = .ok (.goto 4, 3) := by decide +kernel
theorem dX5_meltUnder_31 : decode cX5_meltUnder 31 = .ok (.iload_n 2, 1) := by decide +kernel
theorem dX5_meltUnder_32 : decode cX5_meltUnder 32 = .ok (.invokevirtual 59, 3) := by decide +kernel
theorem dX5_meltUnder_35 : decode cX5_meltUnder 35 = .ok (.iastore, 1) := by decide +kernel
theorem dX5_meltUnder_36 : decode cX5_meltUnder 36 = .ok (.iinc 3 1, 3) := by decide +kernel
theorem dX5_meltUnder_39 : decode cX5_meltUnder 39 = .ok (.goto (-37), 3) := by decide +kernel
theorem dX5_meltUnder_42 : decode cX5_meltUnder 42 = .ok (.return_, 1) := by decide +kernel
def fX5_meltUnder_b32 (sh : SH) (this : Nat) (k2 : (Int32 → Int32 → Int32 → IH → Option (IH))) (v1 : Int32) (v2 : Int32) (v3 : Int32) (s0 : Nat) (s1 : Int32) (s2 : Nat) (s3 : Int32) (s4 : Int32) (I : IH) : Option (IH) :=
  (ck sh 2 s2).bind fun u1 =>
  (fX2_melting sh I s2 s3 s4).bind fun x2 =>
  (sI sh I s0 s1 x2).bind fun i3 =>
  k2 v1 v2 (v3 + 1) i3
def fX5_meltUnder_b2 (sh : SH) (this : Nat) : Nat → Int32 → Int32 → Int32 → IH → Option (IH)
  | 0, _, _, _, _ => none
  | fuel + 1, v1, v2, v3, I =>
    (gR sh 5 this 1).bind fun x1 =>
    (aL sh x1).bind fun x2 =>
    if x2 ≤ v3 then (
      some I) else
    (gR sh 5 this 1).bind fun x3 =>
    (gR sh 5 this 0).bind fun x4 =>
    if 24 ≤ v3 then (
      fX5_meltUnder_b32 sh this (fX5_meltUnder_b2 sh this fuel) v1 v2 v3 x3 v3 x4 v3 v2 I) else
    fX5_meltUnder_b32 sh this (fX5_meltUnder_b2 sh this fuel) v1 v2 v3 x3 v3 x4 v3 v1 I
def fX5_meltUnder (sh : SH) (this : Nat) (v1 : Int32) (v2 : Int32) (I : IH) : Option (IH) :=
  fX5_meltUnder_b2 sh this 1000 v1 v2 0 I
set_option maxHeartbeats 4000000 in
set_option maxRecDepth 20000 in
theorem jbX5_meltUnder_32 (G : GT) {X : XT} {sh : SH} {L : LH} {n : Nat} {I' : IH}  {this : Nat} {k2 : (Int32 → Int32 → Int32 → IH → Option (IH))} {v1 : Int32} {v2 : Int32} {v3 : Int32} {s0 : Nat} {s1 : Int32} {s2 : Nat} {s3 : Int32} {s4 : Int32} {I : IH} (F : MF G X RX5 cX5_meltUnder 4 2 none "meltUnder")
    (hk2 : ∀ {v1 : Int32} {v2 : Int32} {v3 : Int32} {I : IH}, k2 v1 v2 v3 I = some I' → J G X (QE G X (none) sh I' L n) 4 sh I L n 0 0 2 [(0, .ref this), (1, .int v1), (2, .int v2), (3, .int v3)] []) (h : fX5_meltUnder_b32 sh this k2 v1 v2 v3 s0 s1 s2 s3 s4 I = some I') : J G X (QE G X (none) sh I' L n) 4 sh I L n 0 0 32 [(0, .ref this), (1, .int v1), (2, .int v2), (3, .int v3)] [.int s4, .int s3, .ref s2, .int s1, .ref s0] := by
  unfold fX5_meltUnder_b32 at h
  obtain ⟨u1, hu1, h⟩ := ob h
  have hou1 := ck_obt hu1
  obtain ⟨x2, hx2, h⟩ := ob h
  refine j_callV1 (pc := 32) (ci := 2) (As := [.int s3, .int s4]) (st := [.int s1, .ref s0]) (e1 := 0) (es1 := 0) F clX5_59 cwX2_melting rfl hou1 (ctX2_melting G hx2) rfl rfl rfl rfl rfl rfl dX5_meltUnder_32 ?_
  obtain ⟨i3, hi3, h⟩ := ob h
  refine j_iast (pc := 35) F hi3 dX5_meltUnder_35 ?_
  refine j_iinc (pc := 36) (k1 := 3) (ls' := [(3, .int (v3 + 1)), (0, .ref this), (1, .int v1), (2, .int v2)]) F (v3 + 1) 3 rfl rfl rfl rfl dX5_meltUnder_36 ?_
  refine j_goto (pc := 39) F 2 dX5_meltUnder_39 rfl ?_
  refine j_sub [1, 2, 3, 0] rfl ?_
  exact hk2 h
set_option maxHeartbeats 4000000 in
set_option maxRecDepth 20000 in
theorem jbX5_meltUnder_2 (G : GT) {X : XT} {sh : SH} {L : LH} {n : Nat} {I' : IH}  {this : Nat}  (F : MF G X RX5 cX5_meltUnder 4 2 none "meltUnder") : ∀ (fuel : Nat) (v1 : Int32) (v2 : Int32) (v3 : Int32) (I : IH), fX5_meltUnder_b2 sh this fuel v1 v2 v3 I = some I' → J G X (QE G X (none) sh I' L n) 4 sh I L n 0 0 2 [(0, .ref this), (1, .int v1), (2, .int v2), (3, .int v3)] []
  | 0 => by
    intros
    rename_i h
    exact absurd (show none = some _ from h) (by intro z; cases z)
  | fuel + 1 => by
    intro v1 v2 v3 I h
    rw [fX5_meltUnder_b2] at h
    refine j_iload_n (pc := 2) (k0 := 3) F 3 rfl dX5_meltUnder_2 ?_
    refine j_aload_n (pc := 3) (k0 := 0) F 0 rfl dX5_meltUnder_3 ?_
    obtain ⟨x1, hx1, h⟩ := ob h
    refine j_getR (pc := 4) F flX5_9 hx1 dX5_meltUnder_4 ?_
    obtain ⟨x2, hx2, h⟩ := ob h
    refine j_alen (pc := 7) F hx2 dX5_meltUnder_7 ?_
    refine j_icmp_ge (pc := 8) F 42 dX5_meltUnder_8 rfl (fun c => ?_) (fun c => ?_)
    · have h := iz_t c h
      have g1 := Option.some.inj h
      subst g1
      exact j_vret (pc := 42) F dX5_meltUnder_42
    · have h := iz_f c h
      refine j_aload_n (pc := 11) (k0 := 0) F 0 rfl dX5_meltUnder_11 ?_
      obtain ⟨x3, hx3, h⟩ := ob h
      refine j_getR (pc := 12) F flX5_9 hx3 dX5_meltUnder_12 ?_
      refine j_iload_n (pc := 15) (k0 := 3) F 3 rfl dX5_meltUnder_15 ?_
      refine j_aload_n (pc := 16) (k0 := 0) F 0 rfl dX5_meltUnder_16 ?_
      obtain ⟨x4, hx4, h⟩ := ob h
      refine j_getR (pc := 17) F flX5_41 hx4 dX5_meltUnder_17 ?_
      refine j_iload_n (pc := 20) (k0 := 3) F 3 rfl dX5_meltUnder_20 ?_
      refine j_iload_n (pc := 21) (k0 := 3) F 3 rfl dX5_meltUnder_21 ?_
      refine j_bipush (pc := 22) F 24 dX5_meltUnder_22 (by decide) ?_
      refine j_icmp_ge (pc := 24) F 31 dX5_meltUnder_24 rfl (fun c => ?_) (fun c => ?_)
      · have h := iz_t c h
        refine j_iload_n (pc := 31) (k0 := 2) F 2 rfl dX5_meltUnder_31 ?_
        exact jbX5_meltUnder_32 G F (fun h => jbX5_meltUnder_2 G F fuel _ _ _ _ h) h
      · have h := iz_f c h
        refine j_iload_n (pc := 27) (k0 := 1) F 1 rfl dX5_meltUnder_27 ?_
        refine j_goto (pc := 28) F 32 dX5_meltUnder_28 rfl ?_
        exact jbX5_meltUnder_32 G F (fun h => jbX5_meltUnder_2 G F fuel _ _ _ _ h) h
set_option maxHeartbeats 4000000 in
set_option maxRecDepth 20000 in
theorem jbX5_meltUnder_0 (G : GT) {X : XT} {sh : SH} {L : LH} {n : Nat} {I' : IH}  {this : Nat}  {v1 : Int32} {v2 : Int32} {I : IH} (F : MF G X RX5 cX5_meltUnder 4 2 none "meltUnder") (h : fX5_meltUnder sh this v1 v2 I = some I') : J G X (QE G X (none) sh I' L n) 4 sh I L n 0 0 0 [(0, .ref this), (1, .int v1), (2, .int v2)] [] := by
  unfold fX5_meltUnder at h
  refine j_iconst (pc := 0) F 0 dX5_meltUnder_0 (by decide) ?_
  refine j_istore_n (pc := 1) (k1 := 3) (ls' := [(3, .int 0), (0, .ref this), (1, .int v1), (2, .int v2)]) F rfl rfl rfl dX5_meltUnder_1 ?_
  refine j_sub [1, 2, 3, 0] rfl ?_
  exact jbX5_meltUnder_2 G F 1000 _ _ _ _ h
theorem ctX5_meltUnder (G : GT) {sh : SH} {I : IH} {L : LH} {n : Nat} {this : Nat} {v1 : Int32} {v2 : Int32} {I' : IH}  (h : fX5_meltUnder sh this v1 v2 I = some I') : Ct G yX5_meltUnder cX5_meltUnder 4 none 2 [.ref this, .int v1, .int v2] sh I L n (none) sh I' L n 0 0 := by
  refine ct_of (y := yX5_meltUnder) (by decide +kernel) rfl (fun X F => ?_)
  exact jbX5_meltUnder_0 G F h
theorem dX5_going_0 : decode cX5_going 0 = .ok (.iload_n 2, 1) := by decide +kernel
theorem dX5_going_1 : decode cX5_going 1 = .ok (.aload_n 0, 1) := by decide +kernel
theorem dX5_going_2 : decode cX5_going 2 = .ok (.getfield 17, 3) := by decide +kernel
theorem dX5_going_5 : decode cX5_going 5 = .ok (.iconst 2, 1) := by decide +kernel
theorem dX5_going_6 : decode cX5_going 6 = .ok (.aaload, 1) := by decide +kernel
theorem dX5_going_7 : decode cX5_going 7 = .ok (.iload_n 1, 1) := by decide +kernel
theorem dX5_going_8 : decode cX5_going 8 = .ok (.iaload, 1) := by decide +kernel
theorem dX5_going_9 : decode cX5_going 9 = .ok (.invokestatic 93, 3) := by decide +kernel
theorem dX5_going_12 : decode cX5_going 12 = .ok (.ireturn, 1) := by decide +kernel
def fX5_going (sh : SH) (I : IH) (this : Nat) (v1 : Int32) (v2 : Int32) : Option (Int32) :=
  (gR sh 5 this 2).bind fun x1 =>
  (aR sh 4 x1 2).bind fun x2 =>
  (aI sh I 0 x2 v1).bind fun x3 =>
  some (fJ9_min_7cf53 v2 x3)
set_option maxHeartbeats 4000000 in
set_option maxRecDepth 20000 in
theorem jbX5_going_0 (G : GT) {X : XT} {sh : SH} {I : IH} {L : LH} {n : Nat} {r : Int32}  {this : Nat}  {v1 : Int32} {v2 : Int32} (F : MF G X RX5 cX5_going 3 1 (some .int) "going") (h : fX5_going sh I this v1 v2 = some r) : J G X (QE G X (some (.int r)) sh I L n) 3 sh I L n 0 0 0 [(0, .ref this), (1, .int v1), (2, .int v2)] [] := by
  unfold fX5_going at h
  refine j_iload_n (pc := 0) (k0 := 2) F 2 rfl dX5_going_0 ?_
  refine j_aload_n (pc := 1) (k0 := 0) F 0 rfl dX5_going_1 ?_
  obtain ⟨x1, hx1, h⟩ := ob h
  refine j_getR (pc := 2) F flX5_17 hx1 dX5_going_2 ?_
  refine j_iconst (pc := 5) F 2 dX5_going_5 (by decide) ?_
  obtain ⟨x2, hx2, h⟩ := ob h
  refine j_aald (pc := 6) F (Or.inr rfl) hx2 dX5_going_6 ?_
  refine j_iload_n (pc := 7) (k0 := 1) F 1 rfl dX5_going_7 ?_
  obtain ⟨x3, hx3, h⟩ := ob h
  refine j_iald (pc := 8) F hx3 dX5_going_8 ?_
  refine j_callS1 (pc := 9) (As := [.int v2, .int x3]) (st := []) (e1 := 0) (es1 := 0) F clX5_93 cwJ9_min_7cf53 (ctJ9_min_7cf53 G) rfl rfl rfl rfl rfl rfl dX5_going_9 ?_
  have g1 := Option.some.inj h
  subst g1
  exact j_iret (pc := 12) F dX5_going_12
theorem ctX5_going (G : GT) {sh : SH} {I : IH} {L : LH} {n : Nat} {this : Nat} {v1 : Int32} {v2 : Int32} {r : Int32}  (h : fX5_going sh I this v1 v2 = some r) : Ct G yX5_going cX5_going 3 (some .int) 1 [.ref this, .int v1, .int v2] sh I L n (some (.int r)) sh I L n 0 0 := by
  refine ct_of (y := yX5_going) (by decide +kernel) rfl (fun X F => ?_)
  exact jbX5_going_0 G F h
theorem dX5_arriving_0 : decode cX5_arriving 0 = .ok (.iload_n 2, 1) := by decide +kernel
theorem dX5_arriving_1 : decode cX5_arriving 1 = .ok (.iload_n 2, 1) := by decide +kernel
theorem dX5_arriving_2 : decode cX5_arriving 2 = .ok (.aload_n 0, 1) := by decide +kernel
theorem dX5_arriving_3 : decode cX5_arriving 3 = .ok (.getfield 17, 3) := by decide +kernel
theorem dX5_arriving_6 : decode cX5_arriving 6 = .ok (.iconst 1, 1) := by decide +kernel
theorem dX5_arriving_7 : decode cX5_arriving 7 = .ok (.aaload, 1) := by decide +kernel
theorem dX5_arriving_8 : decode cX5_arriving 8 = .ok (.iload_n 1, 1) := by decide +kernel
theorem dX5_arriving_9 : decode cX5_arriving 9 = .ok (.iaload, 1) := by decide +kernel
theorem dX5_arriving_10 : decode cX5_arriving 10 = .ok (.imul, 1) := by decide +kernel
theorem dX5_arriving_11 : decode cX5_arriving 11 = .ok (.bipush 100, 2) := by decide +kernel
theorem dX5_arriving_13 : decode cX5_arriving 13 = .ok (.idiv, 1) := by decide +kernel
theorem dX5_arriving_14 : decode cX5_arriving 14 = .ok (.isub, 1) := by decide +kernel
theorem dX5_arriving_15 : decode cX5_arriving 15 = .ok (.ireturn, 1) := by decide +kernel
def fX5_arriving (sh : SH) (I : IH) (this : Nat) (v1 : Int32) (v2 : Int32) : Option (Int32) :=
  (gR sh 5 this 2).bind fun x1 =>
  (aR sh 4 x1 1).bind fun x2 =>
  (aI sh I 0 x2 v1).bind fun x3 =>
  some (v2 - ((v2 * x3) / 100))
set_option maxHeartbeats 4000000 in
set_option maxRecDepth 20000 in
theorem jbX5_arriving_0 (G : GT) {X : XT} {sh : SH} {I : IH} {L : LH} {n : Nat} {r : Int32}  {this : Nat}  {v1 : Int32} {v2 : Int32} (F : MF G X RX5 cX5_arriving 3 0 (some .int) "arriving") (h : fX5_arriving sh I this v1 v2 = some r) : J G X (QE G X (some (.int r)) sh I L n) 3 sh I L n 0 0 0 [(0, .ref this), (1, .int v1), (2, .int v2)] [] := by
  unfold fX5_arriving at h
  refine j_iload_n (pc := 0) (k0 := 2) F 2 rfl dX5_arriving_0 ?_
  refine j_iload_n (pc := 1) (k0 := 2) F 2 rfl dX5_arriving_1 ?_
  refine j_aload_n (pc := 2) (k0 := 0) F 0 rfl dX5_arriving_2 ?_
  obtain ⟨x1, hx1, h⟩ := ob h
  refine j_getR (pc := 3) F flX5_17 hx1 dX5_arriving_3 ?_
  refine j_iconst (pc := 6) F 1 dX5_arriving_6 (by decide) ?_
  obtain ⟨x2, hx2, h⟩ := ob h
  refine j_aald (pc := 7) F (Or.inr rfl) hx2 dX5_arriving_7 ?_
  refine j_iload_n (pc := 8) (k0 := 1) F 1 rfl dX5_arriving_8 ?_
  obtain ⟨x3, hx3, h⟩ := ob h
  refine j_iald (pc := 9) F hx3 dX5_arriving_9 ?_
  refine j_imul (pc := 10) F dX5_arriving_10 ?_
  refine j_bipush (pc := 11) F 100 dX5_arriving_11 (by decide) ?_
  refine j_idiv (pc := 13) F (by decide) dX5_arriving_13 ?_
  refine j_isub (pc := 14) F dX5_arriving_14 ?_
  have g1 := Option.some.inj h
  subst g1
  exact j_iret (pc := 15) F dX5_arriving_15
theorem ctX5_arriving (G : GT) {sh : SH} {I : IH} {L : LH} {n : Nat} {this : Nat} {v1 : Int32} {v2 : Int32} {r : Int32}  (h : fX5_arriving sh I this v1 v2 = some r) : Ct G yX5_arriving cX5_arriving 3 (some .int) 0 [.ref this, .int v1, .int v2] sh I L n (some (.int r)) sh I L n 0 0 := by
  refine ct_of (y := yX5_arriving) (by decide +kernel) rfl (fun X F => ?_)
  exact jbX5_arriving_0 G F h
theorem dX5_come_0 : decode cX5_come 0 = .ok (.aload_n 0, 1) := by decide +kernel
theorem dX5_come_1 : decode cX5_come 1 = .ok (.getfield 23, 3) := by decide +kernel
theorem dX5_come_4 : decode cX5_come 4 = .ok (.iload_n 1, 1) := by decide +kernel
theorem dX5_come_5 : decode cX5_come 5 = .ok (.aaload, 1) := by decide +kernel
theorem dX5_come_6 : decode cX5_come 6 = .ok (.astore_n 3, 1) := by decide +kernel
theorem dX5_come_7 : decode cX5_come 7 = .ok (.aload_n 3, 1) := by decide +kernel
theorem dX5_come_8 : decode cX5_come 8 = .ok (.iconst 0, 1) := by decide +kernel
theorem dX5_come_9 : decode cX5_come 9 = .ok (.invokestatic 98, 3) := by decide +kernel
theorem dX5_come_12 : decode cX5_come 12 = .ok (.iconst 0, 1) := by decide +kernel
theorem dX5_come_13 : decode cX5_come 13 = .ok (.istore 4, 2) := by decide +kernel
theorem dX5_come_15 : decode cX5_come 15 = .ok (.iload 4, 2) := by decide +kernel
theorem dX5_come_17 : decode cX5_come 17 = .ok (.bipush 48, 2) := by decide +kernel
theorem dX5_come_19 : decode cX5_come 19 = .ok (.if_icmp .ge 70, 3) := by decide +kernel
theorem dX5_come_22 : decode cX5_come 22 = .ok (.aload_n 0, 1) := by decide +kernel
theorem dX5_come_23 : decode cX5_come 23 = .ok (.iload_n 1, 1) := by decide +kernel
theorem dX5_come_24 : decode cX5_come 24 = .ok (.aload_n 2, 1) := by decide +kernel
theorem dX5_come_25 : decode cX5_come 25 = .ok (.iload 4, 2) := by decide +kernel
theorem dX5_come_27 : decode cX5_come 27 = .ok (.iaload, 1) := by decide +kernel
theorem dX5_come_28 : decode cX5_come 28 = .ok (.invokevirtual 104, 3) := by decide +kernel
theorem dX5_come_31 : decode cX5_come 31 = .ok (.istore 5, 2) := by decide +kernel
theorem dX5_come_33 : decode cX5_come 33 = .ok (.aload_n 0, 1) := by decide +kernel
theorem dX5_come_34 : decode cX5_come 34 = .ok (.getfield 35, 3) := by decide +kernel
theorem dX5_come_37 : decode cX5_come 37 = .ok (.iload_n 1, 1) := by decide +kernel
theorem dX5_come_38 : decode cX5_come 38 = .ok (.aaload, 1) := by decide +kernel
theorem dX5_come_39 : decode cX5_come 39 = .ok (.iload 4, 2) := by decide +kernel
theorem dX5_come_41 : decode cX5_come 41 = .ok (.aload_n 2, 1) := by decide +kernel
theorem dX5_come_42 : decode cX5_come 42 = .ok (.iload 4, 2) := by decide +kernel
theorem dX5_come_44 : decode cX5_come 44 = .ok (.iaload, 1) := by decide +kernel
theorem dX5_come_45 : decode cX5_come 45 = .ok (.iload 5, 2) := by decide +kernel
theorem dX5_come_47 : decode cX5_come 47 = .ok (.isub, 1) := by decide +kernel
theorem dX5_come_48 : decode cX5_come 48 = .ok (.iastore, 1) := by decide +kernel
theorem dX5_come_49 : decode cX5_come 49 = .ok (.iload 4, 2) := by decide +kernel
theorem dX5_come_51 : decode cX5_come 51 = .ok (.aload_n 0, 1) := by decide +kernel
theorem dX5_come_52 : decode cX5_come 52 = .ok (.getfield 17, 3) := by decide +kernel
theorem dX5_come_55 : decode cX5_come 55 = .ok (.iconst 0, 1) := by decide +kernel
theorem dX5_come_56 : decode cX5_come 56 = .ok (.aaload, 1) := by decide +kernel
theorem dX5_come_57 : decode cX5_come 57 = .ok (.iload_n 1, 1) := by decide +kernel
theorem dX5_come_58 : decode cX5_come 58 = .ok (.iaload, 1) := by decide +kernel
theorem dX5_come_59 : decode cX5_come 59 = .ok (.iadd, 1) := by decide +kernel
theorem dX5_come_60 : decode cX5_come 60 = .ok (.istore 6, 2) := by decide +kernel
theorem dX5_come_62 : decode cX5_come 62 = .ok (.iload 6, 2) := by decide +kernel
theorem dX5_come_64 : decode cX5_come 64 = .ok (.aload_n 3, 1) := by decide +kernel
theorem dX5_come_65 : decode cX5_come 65 = .ok (.arraylength, 1) := by decide +kernel
theorem dX5_come_66 : decode cX5_come 66 = .ok (.invokestatic 107, 3) := by decide +kernel
theorem dX5_come_69 : decode cX5_come 69 = .ok (.ifCond .eq 14, 3) := by decide +kernel
theorem dX5_come_72 : decode cX5_come 72 = .ok (.aload_n 3, 1) := by decide +kernel
theorem dX5_come_73 : decode cX5_come 73 = .ok (.iload 6, 2) := by decide +kernel
theorem dX5_come_75 : decode cX5_come 75 = .ok (.aload_n 0, 1) := by decide +kernel
theorem dX5_come_76 : decode cX5_come 76 = .ok (.iload_n 1, 1) := by decide +kernel
theorem dX5_come_77 : decode cX5_come 77 = .ok (.iload 5, 2) := by decide +kernel
theorem dX5_come_79 : decode cX5_come 79 = .ok (.invokevirtual 111, 3) := by decide +kernel
theorem dX5_come_82 : decode cX5_come 82 = .ok (.iastore, 1) := by decide +kernel
theorem dX5_come_83 : decode cX5_come 83 = .ok (.iinc 4 1, 3) := by decide +kernel
theorem dX5_come_86 : decode cX5_come 86 = .ok (.goto (-71), 3) := by decide +kernel
theorem dX5_come_89 : decode cX5_come 89 = .ok (.return_, 1) := by decide +kernel
def fX5_come_b15 (sh : SH) (this : Nat) : Nat → Int32 → Nat → Nat → Int32 → IH → Option (IH)
  | 0, _, _, _, _, _ => none
  | fuel + 1, v1, v2, v3, v4, I =>
    if 48 ≤ v4 then (
      some I) else
    (aI sh I 0 v2 v4).bind fun x1 =>
    (fX5_going sh I this v1 x1).bind fun x2 =>
    (gR sh 5 this 8).bind fun x3 =>
    (aR sh 4 x3 v1).bind fun x4 =>
    (aI sh I 0 v2 v4).bind fun x5 =>
    (sI sh I x4 v4 (x5 - x2)).bind fun i6 =>
    (gR sh 5 this 2).bind fun x7 =>
    (aR sh 4 x7 0).bind fun x8 =>
    (aI sh i6 0 x8 v1).bind fun x9 =>
    (aL sh v3).bind fun x10 =>
    if (fX6_isUnder (v4 + x9) x10) = 0 then (
      fX5_come_b15 sh this fuel v1 v2 v3 (v4 + 1) i6) else
    (fX5_arriving sh i6 this v1 x2).bind fun x11 =>
    (sI sh i6 v3 (v4 + x9) x11).bind fun i12 =>
    fX5_come_b15 sh this fuel v1 v2 v3 (v4 + 1) i12
def fX5_come (sh : SH) (this : Nat) (v1 : Int32) (v2 : Nat) (I : IH) : Option (IH) :=
  (gR sh 5 this 4).bind fun x1 =>
  (aR sh 4 x1 v1).bind fun x2 =>
  (fJ7_fill_53178 sh x2 0 I).bind fun i3 =>
  fX5_come_b15 sh this 1000 v1 v2 x2 0 i3
set_option maxHeartbeats 4000000 in
set_option maxRecDepth 20000 in
theorem jbX5_come_15 (G : GT) {X : XT} {sh : SH} {L : LH} {n : Nat} {I' : IH}  {this : Nat}  (F : MF G X RX5 cX5_come 7 2 none "come") (hth : isO sh 5 this) : ∀ (fuel : Nat) (v1 : Int32) (v2 : Nat) (v3 : Nat) (v4 : Int32) (I : IH), fX5_come_b15 sh this fuel v1 v2 v3 v4 I = some I' → J G X (QE G X (none) sh I' L n) 7 sh I L n 0 0 15 [(0, .ref this), (1, .int v1), (2, .ref v2), (3, .ref v3), (4, .int v4)] []
  | 0 => by
    intros
    rename_i h
    exact absurd (show none = some _ from h) (by intro z; cases z)
  | fuel + 1 => by
    intro v1 v2 v3 v4 I h
    rw [fX5_come_b15] at h
    refine j_iload (pc := 15) (k0 := 4) F 4 rfl dX5_come_15 ?_
    refine j_bipush (pc := 17) F 48 dX5_come_17 (by decide) ?_
    refine j_icmp_ge (pc := 19) F 89 dX5_come_19 rfl (fun c => ?_) (fun c => ?_)
    · have h := iz_t c h
      have g1 := Option.some.inj h
      subst g1
      exact j_vret (pc := 89) F dX5_come_89
    · have h := iz_f c h
      refine j_aload_n (pc := 22) (k0 := 0) F 0 rfl dX5_come_22 ?_
      refine j_iload_n (pc := 23) (k0 := 1) F 1 rfl dX5_come_23 ?_
      refine j_aload_n (pc := 24) (k0 := 2) F 2 rfl dX5_come_24 ?_
      refine j_iload (pc := 25) (k0 := 4) F 4 rfl dX5_come_25 ?_
      obtain ⟨x1, hx1, h⟩ := ob h
      refine j_iald (pc := 27) F hx1 dX5_come_27 ?_
      obtain ⟨x2, hx2, h⟩ := ob h
      refine j_callV1 (pc := 28) (ci := 5) (As := [.int v1, .int x1]) (st := []) (e1 := 0) (es1 := 0) F clX5_104 cwX5_going rfl hth (ctX5_going G hx2) rfl rfl rfl rfl rfl rfl dX5_come_28 ?_
      refine j_istore (pc := 31) (k1 := 5) (ls' := [(5, .int x2), (0, .ref this), (1, .int v1), (2, .ref v2), (3, .ref v3), (4, .int v4)]) F rfl rfl dX5_come_31 ?_
      refine j_aload_n (pc := 33) (k0 := 0) F 1 rfl dX5_come_33 ?_
      obtain ⟨x3, hx3, h⟩ := ob h
      refine j_getR (pc := 34) F flX5_35 hx3 dX5_come_34 ?_
      refine j_iload_n (pc := 37) (k0 := 1) F 2 rfl dX5_come_37 ?_
      obtain ⟨x4, hx4, h⟩ := ob h
      refine j_aald (pc := 38) F (Or.inr rfl) hx4 dX5_come_38 ?_
      refine j_iload (pc := 39) (k0 := 4) F 5 rfl dX5_come_39 ?_
      refine j_aload_n (pc := 41) (k0 := 2) F 3 rfl dX5_come_41 ?_
      refine j_iload (pc := 42) (k0 := 4) F 5 rfl dX5_come_42 ?_
      obtain ⟨x5, hx5, h⟩ := ob h
      refine j_iald (pc := 44) F hx5 dX5_come_44 ?_
      refine j_iload (pc := 45) (k0 := 5) F 0 rfl dX5_come_45 ?_
      refine j_isub (pc := 47) F dX5_come_47 ?_
      obtain ⟨i6, hi6, h⟩ := ob h
      refine j_iast (pc := 48) F hi6 dX5_come_48 ?_
      refine j_iload (pc := 49) (k0 := 4) F 5 rfl dX5_come_49 ?_
      refine j_aload_n (pc := 51) (k0 := 0) F 1 rfl dX5_come_51 ?_
      obtain ⟨x7, hx7, h⟩ := ob h
      refine j_getR (pc := 52) F flX5_17 hx7 dX5_come_52 ?_
      refine j_iconst (pc := 55) F 0 dX5_come_55 (by decide) ?_
      obtain ⟨x8, hx8, h⟩ := ob h
      refine j_aald (pc := 56) F (Or.inr rfl) hx8 dX5_come_56 ?_
      refine j_iload_n (pc := 57) (k0 := 1) F 2 rfl dX5_come_57 ?_
      obtain ⟨x9, hx9, h⟩ := ob h
      refine j_iald (pc := 58) F hx9 dX5_come_58 ?_
      refine j_iadd (pc := 59) F dX5_come_59 ?_
      refine j_istore (pc := 60) (k1 := 6) (ls' := [(6, .int (v4 + x9)), (5, .int x2), (0, .ref this), (1, .int v1), (2, .ref v2), (3, .ref v3), (4, .int v4)]) F rfl rfl dX5_come_60 ?_
      refine j_iload (pc := 62) (k0 := 6) F 0 rfl dX5_come_62 ?_
      refine j_aload_n (pc := 64) (k0 := 3) F 5 rfl dX5_come_64 ?_
      obtain ⟨x10, hx10, h⟩ := ob h
      refine j_alen (pc := 65) F hx10 dX5_come_65 ?_
      refine j_callSN1 (pc := 66) (As := [.int (v4 + x9), .int x10]) (st := []) (e1 := 0) (es1 := 0) F clX5_107 cwX6_isUnder (ctX6_isUnder G) rfl rfl rfl rfl rfl rfl dX5_come_66 ?_
      refine j_if_eq (pc := 69) F 83 dX5_come_69 rfl (fun c => ?_) (fun c => ?_)
      · have h := iz_t c h
        refine j_iinc (pc := 83) (k1 := 4) (ls' := [(4, .int (v4 + 1)), (6, .int (v4 + x9)), (5, .int x2), (0, .ref this), (1, .int v1), (2, .ref v2), (3, .ref v3)]) F (v4 + 1) 6 rfl rfl rfl rfl dX5_come_83 ?_
        refine j_goto (pc := 86) F 15 dX5_come_86 rfl ?_
        refine j_sub [3, 4, 5, 6, 0] rfl ?_
        exact jbX5_come_15 G F hth fuel _ _ _ _ _ h
      · have h := iz_f c h
        refine j_aload_n (pc := 72) (k0 := 3) F 5 rfl dX5_come_72 ?_
        refine j_iload (pc := 73) (k0 := 6) F 0 rfl dX5_come_73 ?_
        refine j_aload_n (pc := 75) (k0 := 0) F 2 rfl dX5_come_75 ?_
        refine j_iload_n (pc := 76) (k0 := 1) F 3 rfl dX5_come_76 ?_
        refine j_iload (pc := 77) (k0 := 5) F 1 rfl dX5_come_77 ?_
        obtain ⟨x11, hx11, h⟩ := ob h
        refine j_callV1 (pc := 79) (ci := 5) (As := [.int v1, .int x2]) (st := [.int (v4 + x9), .ref v3]) (e1 := 0) (es1 := 0) F clX5_111 cwX5_arriving rfl hth (ctX5_arriving G hx11) rfl rfl rfl rfl rfl rfl dX5_come_79 ?_
        obtain ⟨i12, hi12, h⟩ := ob h
        refine j_iast (pc := 82) F hi12 dX5_come_82 ?_
        refine j_iinc (pc := 83) (k1 := 4) (ls' := [(4, .int (v4 + 1)), (6, .int (v4 + x9)), (5, .int x2), (0, .ref this), (1, .int v1), (2, .ref v2), (3, .ref v3)]) F (v4 + 1) 6 rfl rfl rfl rfl dX5_come_83 ?_
        refine j_goto (pc := 86) F 15 dX5_come_86 rfl ?_
        refine j_sub [3, 4, 5, 6, 0] rfl ?_
        exact jbX5_come_15 G F hth fuel _ _ _ _ _ h
set_option maxHeartbeats 4000000 in
set_option maxRecDepth 20000 in
theorem jbX5_come_0 (G : GT) {X : XT} {sh : SH} {L : LH} {n : Nat} {I' : IH}  {this : Nat}  {v1 : Int32} {v2 : Nat} {I : IH} (F : MF G X RX5 cX5_come 7 2 none "come") (hth : isO sh 5 this) (h : fX5_come sh this v1 v2 I = some I') : J G X (QE G X (none) sh I' L n) 7 sh I L n 0 0 0 [(0, .ref this), (1, .int v1), (2, .ref v2)] [] := by
  unfold fX5_come at h
  refine j_aload_n (pc := 0) (k0 := 0) F 0 rfl dX5_come_0 ?_
  obtain ⟨x1, hx1, h⟩ := ob h
  refine j_getR (pc := 1) F flX5_23 hx1 dX5_come_1 ?_
  refine j_iload_n (pc := 4) (k0 := 1) F 1 rfl dX5_come_4 ?_
  obtain ⟨x2, hx2, h⟩ := ob h
  refine j_aald (pc := 5) F (Or.inr rfl) hx2 dX5_come_5 ?_
  refine j_astore_n (pc := 6) (k1 := 3) (ls' := [(3, .ref x2), (0, .ref this), (1, .int v1), (2, .ref v2)]) F rfl rfl rfl dX5_come_6 ?_
  refine j_aload_n (pc := 7) (k0 := 3) F 0 rfl dX5_come_7 ?_
  refine j_iconst (pc := 8) F 0 dX5_come_8 (by decide) ?_
  obtain ⟨i3, hi3, h⟩ := ob h
  refine j_callS0 (pc := 9) (As := [.ref x2, .int 0]) (st := []) (e1 := 0) (es1 := 0) F clX5_98 cwJ7_fill_53178 (ctJ7_fill_53178 G hi3) rfl rfl rfl rfl rfl rfl dX5_come_9 ?_
  refine j_iconst (pc := 12) F 0 dX5_come_12 (by decide) ?_
  refine j_istore (pc := 13) (k1 := 4) (ls' := [(4, .int 0), (3, .ref x2), (0, .ref this), (1, .int v1), (2, .ref v2)]) F rfl rfl dX5_come_13 ?_
  refine j_sub [2, 3, 4, 1, 0] rfl ?_
  exact jbX5_come_15 G F hth 1000 _ _ _ _ _ h
theorem ctX5_come (G : GT) {sh : SH} {I : IH} {L : LH} {n : Nat} {this : Nat} {v1 : Int32} {v2 : Nat} {I' : IH}  (hth : isO sh 5 this) (h : fX5_come sh this v1 v2 I = some I') : Ct G yX5_come cX5_come 7 none 2 [.ref this, .int v1, .ref v2] sh I L n (none) sh I' L n 0 0 := by
  refine ct_of (y := yX5_come) (by decide +kernel) rfl (fun X F => ?_)
  exact jbX5_come_0 G F hth h
theorem dJ9_max_7cf53_0 : decode cJ9_max_7cf53 0 = .ok (.iload_n 0, 1) := by decide +kernel
theorem dJ9_max_7cf53_1 : decode cJ9_max_7cf53 1 = .ok (.iload_n 1, 1) := by decide +kernel
theorem dJ9_max_7cf53_2 : decode cJ9_max_7cf53 2 = .ok (.if_icmp .lt 7, 3) := by decide +kernel
theorem dJ9_max_7cf53_5 : decode cJ9_max_7cf53 5 = .ok (.iload_n 0, 1) := by decide +kernel
theorem dJ9_max_7cf53_6 : decode cJ9_max_7cf53 6 = .ok (.goto 4, 3) := by decide +kernel
theorem dJ9_max_7cf53_9 : decode cJ9_max_7cf53 9 = .ok (.iload_n 1, 1) := by decide +kernel
theorem dJ9_max_7cf53_10 : decode cJ9_max_7cf53 10 = .ok (.ireturn, 1) := by decide +kernel
def fJ9_max_7cf53 (v0 : Int32) (v1 : Int32) : Int32 :=
  if v0 < v1 then (
    v1) else
  v0
set_option maxHeartbeats 4000000 in
set_option maxRecDepth 20000 in
theorem jbJ9_max_7cf53_0 (G : GT) {X : XT} {sh : SH} {I : IH} {L : LH} {n : Nat} {r : Int32}   {v0 : Int32} {v1 : Int32} (F : MF G X RJ9 cJ9_max_7cf53 2 0 (some .int) "max") (h : fJ9_max_7cf53 v0 v1 = r) : J G X (QE G X (some (.int r)) sh I L n) 2 sh I L n 0 0 0 [(0, .int v0), (1, .int v1)] [] := by
  unfold fJ9_max_7cf53 at h
  refine j_iload_n (pc := 0) (k0 := 0) F 0 rfl dJ9_max_7cf53_0 ?_
  refine j_iload_n (pc := 1) (k0 := 1) F 1 rfl dJ9_max_7cf53_1 ?_
  refine j_icmp_lt (pc := 2) F 9 dJ9_max_7cf53_2 rfl (fun c => ?_) (fun c => ?_)
  · have h := iz_t c h
    refine j_iload_n (pc := 9) (k0 := 1) F 1 rfl dJ9_max_7cf53_9 ?_
    subst h
    exact j_iret (pc := 10) F dJ9_max_7cf53_10
  · have h := iz_f c h
    refine j_iload_n (pc := 5) (k0 := 0) F 0 rfl dJ9_max_7cf53_5 ?_
    refine j_goto (pc := 6) F 10 dJ9_max_7cf53_6 rfl ?_
    subst h
    exact j_iret (pc := 10) F dJ9_max_7cf53_10
theorem ctJ9_max_7cf53 (G : GT) {sh : SH} {I : IH} {L : LH} {n : Nat} {v0 : Int32} {v1 : Int32} : Ct G yJ9_max_7cf53 cJ9_max_7cf53 2 (some .int) 0 [.int v0, .int v1] sh I L n (some (.int (fJ9_max_7cf53 v0 v1))) sh I L n 0 0 := by
  refine ct_ofJ (y := yJ9_max_7cf53) (by decide +kernel) rfl (fun X F => ?_)
  exact jbJ9_max_7cf53_0 G F rfl
theorem dX5_takes_0 : decode cX5_takes 0 = .ok (.iconst 5, 1) := by decide +kernel
theorem dX5_takes_1 : decode cX5_takes 1 = .ok (.aload_n 1, 1) := by decide +kernel
theorem dX5_takes_2 : decode cX5_takes 2 = .ok (.iconst 1, 1) := by decide +kernel
theorem dX5_takes_3 : decode cX5_takes 3 = .ok (.iaload, 1) := by decide +kernel
theorem dX5_takes_4 : decode cX5_takes 4 = .ok (.imul, 1) := by decide +kernel
theorem dX5_takes_5 : decode cX5_takes 5 = .ok (.istore 5, 2) := by decide +kernel
theorem dX5_takes_7 : decode cX5_takes 7 = .ok (.iload 4, 2) := by decide +kernel
theorem dX5_takes_9 : decode cX5_takes 9 = .ok (.aload_n 1, 1) := by decide +kernel
theorem dX5_takes_10 : decode cX5_takes 10 = .ok (.iconst 1, 1) := by decide +kernel
theorem dX5_takes_11 : decode cX5_takes 11 = .ok (.iaload, 1) := by decide +kernel
theorem dX5_takes_12 : decode cX5_takes 12 = .ok (.imul, 1) := by decide +kernel
theorem dX5_takes_13 : decode cX5_takes 13 = .ok (.bipush 10, 2) := by decide +kernel
theorem dX5_takes_15 : decode cX5_takes 15 = .ok (.idiv, 1) := by decide +kernel
theorem dX5_takes_16 : decode cX5_takes 16 = .ok (.istore 6, 2) := by decide +kernel
theorem dX5_takes_18 : decode cX5_takes 18 = .ok (.aload_n 1, 1) := by decide +kernel
theorem dX5_takes_19 : decode cX5_takes 19 = .ok (.iconst 2, 1) := by decide +kernel
theorem dX5_takes_20 : decode cX5_takes 20 = .ok (.iaload, 1) := by decide +kernel
theorem dX5_takes_21 : decode cX5_takes 21 = .ok (.iload_n 3, 1) := by decide +kernel
theorem dX5_takes_22 : decode cX5_takes 22 = .ok (.bipush 24, 2) := by decide +kernel
theorem dX5_takes_24 : decode cX5_takes 24 = .ok (.irem, 1) := by decide +kernel
theorem dX5_takes_25 : decode cX5_takes 25 = .ok (.ishr, 1) := by decide +kernel
theorem dX5_takes_26 : decode cX5_takes 26 = .ok (.iconst 1, 1) := by decide +kernel
theorem dX5_takes_27 : decode cX5_takes 27 = .ok (.iand, 1) := by decide +kernel
theorem dX5_takes_28 : decode cX5_takes 28 = .ok (.ifCond .eq 7, 3) := by decide +kernel
theorem dX5_takes_31 : decode cX5_takes 31 = .ok (.iconst 1, 1) := by decide +kernel
theorem dX5_takes_32 : decode cX5_takes 32 = .ok (.goto 4, 3) := by decide +kernel
theorem dX5_takes_35 : decode cX5_takes 35 = .ok (.iconst 0, 1) := by decide +kernel
theorem dX5_takes_36 : decode cX5_takes 36 = .ok (.istore 7, 2) := by decide +kernel
theorem dX5_takes_38 : decode cX5_takes 38 = .ok (.aload_n 1, 1) := by decide +kernel
theorem dX5_takes_39 : decode cX5_takes 39 = .ok (.iconst 0, 1) := by decide +kernel
theorem dX5_takes_40 : decode cX5_takes 40 = .ok (.iaload, 1) := by decide +kernel
theorem dX5_takes_41 : decode cX5_takes 41 = .ok (.tableswitch 135 1 6 #[39, 56, 39, 59, 84, 114], 39) := by decide +kernel
theorem dX5_takes_80 : decode cX5_takes 80 = .ok (.iload 7, 2) := by decide +kernel
theorem dX5_takes_82 : decode cX5_takes 82 = .ok (.ifCond .eq 13, 3) := by decide +kernel
theorem dX5_takes_85 : decode cX5_takes 85 = .ok (.iload 5, 2) := by decide +kernel
theorem dX5_takes_87 : decode cX5_takes 87 = .ok (.iload 4, 2) := by decide +kernel
theorem dX5_takes_89 : decode cX5_takes 89 = .ok (.invokestatic 93, 3) := by decide +kernel
theorem dX5_takes_92 : decode cX5_takes 92 = .ok (.goto 4, 3) := by decide +kernel
theorem dX5_takes_95 : decode cX5_takes 95 = .ok (.iconst 0, 1) := by decide +kernel
theorem dX5_takes_96 : decode cX5_takes 96 = .ok (.ireturn, 1) := by decide +kernel
theorem dX5_takes_97 : decode cX5_takes 97 = .ok (.iload 6, 2) := by decide +kernel
theorem dX5_takes_99 : decode cX5_takes 99 = .ok (.ireturn, 1) := by decide +kernel
theorem dX5_takes_100 : decode cX5_takes 100 = .ok (.iload 7, 2) := by decide +kernel
theorem dX5_takes_102 : decode cX5_takes 102 = .ok (.ifCond .eq 13, 3) := by decide +kernel
theorem dX5_takes_105 : decode cX5_takes 105 = .ok (.iload 5, 2) := by decide +kernel
theorem dX5_takes_107 : decode cX5_takes 107 = .ok (.iload 4, 2) := by decide +kernel
theorem dX5_takes_109 : decode cX5_takes 109 = .ok (.invokestatic 93, 3) := by decide +kernel
theorem dX5_takes_112 : decode cX5_takes 112 = .ok (.goto 12, 3) := by decide +kernel
theorem dX5_takes_115 : decode cX5_takes 115 = .ok (.iload 4, 2) := by decide +kernel
theorem dX5_takes_117 : decode cX5_takes 117 = .ok (.iload 5, 2) := by decide +kernel
theorem dX5_takes_119 : decode cX5_takes 119 = .ok (.isub, 1) := by decide +kernel
theorem dX5_takes_120 : decode cX5_takes 120 = .ok (.iconst 0, 1) := by decide +kernel
theorem dX5_takes_121 : decode cX5_takes 121 = .ok (.invokestatic 118, 3) := by decide +kernel
theorem dX5_takes_124 : decode cX5_takes 124 = .ok (.ireturn, 1) := by decide +kernel
theorem dX5_takes_125 : decode cX5_takes 125 = .ok (.aload_n 0, 1) := by decide +kernel
theorem dX5_takes_126 : decode cX5_takes 126 = .ok (.getfield 41, 3) := by decide +kernel
theorem dX5_takes_129 : decode cX5_takes 129 = .ok (.getfield 121, 3) := by decide +kernel
theorem dX5_takes_132 : decode cX5_takes 132 = .ok (.ifCond .le 21, 3) := by decide +kernel
theorem dX5_takes_135 : decode cX5_takes 135 = .ok (.iload_n 3, 1) := by decide +kernel
theorem dX5_takes_136 : decode cX5_takes 136 = .ok (.aload_n 0, 1) := by decide +kernel
theorem dX5_takes_137 : decode cX5_takes 137 = .ok (.getfield 41, 3) := by decide +kernel
theorem dX5_takes_140 : decode cX5_takes 140 = .ok (.getfield 121, 3) := by decide +kernel
theorem dX5_takes_143 : decode cX5_takes 143 = .ok (.irem, 1) := by decide +kernel
theorem dX5_takes_144 : decode cX5_takes 144 = .ok (.iload_n 2, 1) := by decide +kernel
theorem dX5_takes_145 : decode cX5_takes 145 = .ok (.if_icmp .ne 8, 3) := by decide +kernel
theorem dX5_takes_148 : decode cX5_takes 148 = .ok (.iload 6, 2) := by decide +kernel
theorem dX5_takes_150 : decode cX5_takes 150 = .ok (.goto 4, 3) := by decide +kernel
theorem dX5_takes_153 : decode cX5_takes 153 = .ok (.iconst 0, 1) := by decide +kernel
theorem dX5_takes_154 : decode cX5_takes 154 = .ok (.ireturn, 1) := by decide +kernel
theorem dX5_takes_155 : decode cX5_takes 155 = .ok (.iload 7, 2) := by decide +kernel
theorem dX5_takes_157 : decode cX5_takes 157 = .ok (.ifCond .eq 17, 3) := by decide +kernel
theorem dX5_takes_160 : decode cX5_takes 160 = .ok (.iload 5, 2) := by decide +kernel
theorem dX5_takes_162 : decode cX5_takes 162 = .ok (.iload 4, 2) := by decide +kernel
theorem dX5_takes_164 : decode cX5_takes 164 = .ok (.iconst 1, 1) := by decide +kernel
theorem dX5_takes_165 : decode cX5_takes 165 = .ok (.iadd, 1) := by decide +kernel
theorem dX5_takes_166 : decode cX5_takes 166 = .ok (.iconst 2, 1) := by decide +kernel
theorem dX5_takes_167 : decode cX5_takes 167 = .ok (.idiv, 1) := by decide +kernel
theorem dX5_takes_168 : decode cX5_takes 168 = .ok (.invokestatic 93, 3) := by decide +kernel
theorem dX5_takes_171 : decode cX5_takes 171 = .ok (.goto 4, 3) := by decide +kernel
theorem dX5_takes_174 : decode cX5_takes 174 = .ok (.iconst 0, 1) := by decide +kernel
theorem dX5_takes_175 : decode cX5_takes 175 = .ok (.ireturn, 1) := by decide +kernel
theorem dX5_takes_176 : decode cX5_takes 176 = .ok (.iconst 0, 1) := by decide +kernel
theorem dX5_takes_177 : decode cX5_takes 177 = .ok (.ireturn, 1) := by decide +kernel
def fX5_takes_b36 (sh : SH) (I : IH) (this : Nat) (v1 : Nat) (v2 : Int32) (v3 : Int32) (v4 : Int32) (v5 : Int32) (v6 : Int32) (s0 : Int32) : Option (Int32) :=
  (aI sh I 0 v1 0).bind fun x1 =>
  if x1 = 1 then (
    if s0 = 0 then (
      some 0) else
    some (fJ9_min_7cf53 v5 v4)) else
  if x1 = 2 then (
    some v6) else
  if x1 = 3 then (
    if s0 = 0 then (
      some 0) else
    some (fJ9_min_7cf53 v5 v4)) else
  if x1 = 4 then (
    if s0 = 0 then (
      some (fJ9_max_7cf53 (v4 - v5) 0)) else
    some (fJ9_min_7cf53 v5 v4)) else
  if x1 = 5 then (
    (gR sh 5 this 0).bind fun x2 =>
    (gI sh I 2 x2 0).bind fun x3 =>
    if x3 ≤ 0 then (
      some 0) else
    (gR sh 5 this 0).bind fun x4 =>
    (gI sh I 2 x4 0).bind fun x5 =>
    (rmI v3 x5).bind fun x6 =>
    if x6 = v2 then (
      some v6) else
    some 0) else
  if x1 = 6 then (
    if s0 = 0 then (
      some 0) else
    some (fJ9_min_7cf53 v5 ((v4 + 1) / 2))) else
  some 0
def fX5_takes (sh : SH) (I : IH) (this : Nat) (v1 : Nat) (v2 : Int32) (v3 : Int32) (v4 : Int32) : Option (Int32) :=
  (aI sh I 0 v1 1).bind fun x1 =>
  (aI sh I 0 v1 1).bind fun x2 =>
  (aI sh I 0 v1 2).bind fun x3 =>
  if ((x3 >>> ((v3 - v3 / 24 * 24) &&& 31)) &&& 1) = 0 then (
    fX5_takes_b36 sh I this v1 v2 v3 v4 (5 * x1) ((v4 * x2) / 10) 0) else
  fX5_takes_b36 sh I this v1 v2 v3 v4 (5 * x1) ((v4 * x2) / 10) 1
set_option maxHeartbeats 4000000 in
set_option maxRecDepth 20000 in
theorem jbX5_takes_36 (G : GT) {X : XT} {sh : SH} {I : IH} {L : LH} {n : Nat} {r : Int32}  {this : Nat}  {v1 : Nat} {v2 : Int32} {v3 : Int32} {v4 : Int32} {v5 : Int32} {v6 : Int32} {s0 : Int32} (F : MF G X RX5 cX5_takes 8 1 (some .int) "takes") (h : fX5_takes_b36 sh I this v1 v2 v3 v4 v5 v6 s0 = some r) : J G X (QE G X (some (.int r)) sh I L n) 8 sh I L n 0 0 36 [(0, .ref this), (1, .ref v1), (2, .int v2), (3, .int v3), (4, .int v4), (5, .int v5), (6, .int v6)] [.int s0] := by
  unfold fX5_takes_b36 at h
  refine j_istore (pc := 36) (k1 := 7) (ls' := [(7, .int s0), (0, .ref this), (1, .ref v1), (2, .int v2), (3, .int v3), (4, .int v4), (5, .int v5), (6, .int v6)]) F rfl rfl dX5_takes_36 ?_
  refine j_aload_n (pc := 38) (k0 := 1) F 2 rfl dX5_takes_38 ?_
  refine j_iconst (pc := 39) F 0 dX5_takes_39 (by decide) ?_
  obtain ⟨x1, hx1, h⟩ := ob h
  refine j_iald (pc := 40) F hx1 dX5_takes_40 ?_
  by_cases c1 : x1 = 1
  · have h := iz_t c1 h
    refine j_tabIn (pc := 41) (k0 := 1) F 80 c1 dX5_takes_41 (by decide) rfl rfl ?_
    refine j_iload (pc := 80) (k0 := 7) F 0 rfl dX5_takes_80 ?_
    refine j_if_eq (pc := 82) F 95 dX5_takes_82 rfl (fun c => ?_) (fun c => ?_)
    · have h := iz_t c h
      refine j_iconst (pc := 95) F 0 dX5_takes_95 (by decide) ?_
      have g1 := Option.some.inj h
      subst g1
      exact j_iret (pc := 96) F dX5_takes_96
    · have h := iz_f c h
      refine j_iload (pc := 85) (k0 := 5) F 6 rfl dX5_takes_85 ?_
      refine j_iload (pc := 87) (k0 := 4) F 5 rfl dX5_takes_87 ?_
      refine j_callS1 (pc := 89) (As := [.int v5, .int v4]) (st := []) (e1 := 0) (es1 := 0) F clX5_93 cwJ9_min_7cf53 (ctJ9_min_7cf53 G) rfl rfl rfl rfl rfl rfl dX5_takes_89 ?_
      refine j_goto (pc := 92) F 96 dX5_takes_92 rfl ?_
      have g1 := Option.some.inj h
      subst g1
      exact j_iret (pc := 96) F dX5_takes_96
  have h := iz_f c1 h
  by_cases c2 : x1 = 2
  · have h := iz_t c2 h
    refine j_tabIn (pc := 41) (k0 := 2) F 97 c2 dX5_takes_41 (by decide) rfl rfl ?_
    refine j_iload (pc := 97) (k0 := 6) F 7 rfl dX5_takes_97 ?_
    have g1 := Option.some.inj h
    subst g1
    exact j_iret (pc := 99) F dX5_takes_99
  have h := iz_f c2 h
  by_cases c3 : x1 = 3
  · have h := iz_t c3 h
    refine j_tabIn (pc := 41) (k0 := 3) F 80 c3 dX5_takes_41 (by decide) rfl rfl ?_
    refine j_iload (pc := 80) (k0 := 7) F 0 rfl dX5_takes_80 ?_
    refine j_if_eq (pc := 82) F 95 dX5_takes_82 rfl (fun c => ?_) (fun c => ?_)
    · have h := iz_t c h
      refine j_iconst (pc := 95) F 0 dX5_takes_95 (by decide) ?_
      have g1 := Option.some.inj h
      subst g1
      exact j_iret (pc := 96) F dX5_takes_96
    · have h := iz_f c h
      refine j_iload (pc := 85) (k0 := 5) F 6 rfl dX5_takes_85 ?_
      refine j_iload (pc := 87) (k0 := 4) F 5 rfl dX5_takes_87 ?_
      refine j_callS1 (pc := 89) (As := [.int v5, .int v4]) (st := []) (e1 := 0) (es1 := 0) F clX5_93 cwJ9_min_7cf53 (ctJ9_min_7cf53 G) rfl rfl rfl rfl rfl rfl dX5_takes_89 ?_
      refine j_goto (pc := 92) F 96 dX5_takes_92 rfl ?_
      have g1 := Option.some.inj h
      subst g1
      exact j_iret (pc := 96) F dX5_takes_96
  have h := iz_f c3 h
  by_cases c4 : x1 = 4
  · have h := iz_t c4 h
    refine j_tabIn (pc := 41) (k0 := 4) F 100 c4 dX5_takes_41 (by decide) rfl rfl ?_
    refine j_iload (pc := 100) (k0 := 7) F 0 rfl dX5_takes_100 ?_
    refine j_if_eq (pc := 102) F 115 dX5_takes_102 rfl (fun c => ?_) (fun c => ?_)
    · have h := iz_t c h
      refine j_iload (pc := 115) (k0 := 4) F 5 rfl dX5_takes_115 ?_
      refine j_iload (pc := 117) (k0 := 5) F 6 rfl dX5_takes_117 ?_
      refine j_isub (pc := 119) F dX5_takes_119 ?_
      refine j_iconst (pc := 120) F 0 dX5_takes_120 (by decide) ?_
      refine j_callS1 (pc := 121) (As := [.int (v4 - v5), .int 0]) (st := []) (e1 := 0) (es1 := 0) F clX5_118 cwJ9_max_7cf53 (ctJ9_max_7cf53 G) rfl rfl rfl rfl rfl rfl dX5_takes_121 ?_
      have g1 := Option.some.inj h
      subst g1
      exact j_iret (pc := 124) F dX5_takes_124
    · have h := iz_f c h
      refine j_iload (pc := 105) (k0 := 5) F 6 rfl dX5_takes_105 ?_
      refine j_iload (pc := 107) (k0 := 4) F 5 rfl dX5_takes_107 ?_
      refine j_callS1 (pc := 109) (As := [.int v5, .int v4]) (st := []) (e1 := 0) (es1 := 0) F clX5_93 cwJ9_min_7cf53 (ctJ9_min_7cf53 G) rfl rfl rfl rfl rfl rfl dX5_takes_109 ?_
      refine j_goto (pc := 112) F 124 dX5_takes_112 rfl ?_
      have g1 := Option.some.inj h
      subst g1
      exact j_iret (pc := 124) F dX5_takes_124
  have h := iz_f c4 h
  by_cases c5 : x1 = 5
  · have h := iz_t c5 h
    refine j_tabIn (pc := 41) (k0 := 5) F 125 c5 dX5_takes_41 (by decide) rfl rfl ?_
    refine j_aload_n (pc := 125) (k0 := 0) F 1 rfl dX5_takes_125 ?_
    obtain ⟨x2, hx2, h⟩ := ob h
    refine j_getR (pc := 126) F flX5_41 hx2 dX5_takes_126 ?_
    obtain ⟨x3, hx3, h⟩ := ob h
    refine j_getI (pc := 129) F flX5_121 hx3 dX5_takes_129 ?_
    refine j_if_le (pc := 132) F 153 dX5_takes_132 rfl (fun c => ?_) (fun c => ?_)
    · have h := iz_t c h
      refine j_iconst (pc := 153) F 0 dX5_takes_153 (by decide) ?_
      have g1 := Option.some.inj h
      subst g1
      exact j_iret (pc := 154) F dX5_takes_154
    · have h := iz_f c h
      refine j_iload_n (pc := 135) (k0 := 3) F 4 rfl dX5_takes_135 ?_
      refine j_aload_n (pc := 136) (k0 := 0) F 1 rfl dX5_takes_136 ?_
      obtain ⟨x4, hx4, h⟩ := ob h
      refine j_getR (pc := 137) F flX5_41 hx4 dX5_takes_137 ?_
      obtain ⟨x5, hx5, h⟩ := ob h
      refine j_getI (pc := 140) F flX5_121 hx5 dX5_takes_140 ?_
      obtain ⟨x6, hx6, h⟩ := ob h
      obtain ⟨hx6n, hx6e⟩ := rmI_obt hx6
      refine j_irem (pc := 143) F hx6n dX5_takes_143 ?_
      rw [← hx6e]
      refine j_iload_n (pc := 144) (k0 := 2) F 3 rfl dX5_takes_144 ?_
      refine j_icmp_ne (pc := 145) F 153 dX5_takes_145 rfl (fun c => ?_) (fun c => ?_)
      · have h := iz_f c h
        refine j_iconst (pc := 153) F 0 dX5_takes_153 (by decide) ?_
        have g1 := Option.some.inj h
        subst g1
        exact j_iret (pc := 154) F dX5_takes_154
      · have h := iz_t c h
        refine j_iload (pc := 148) (k0 := 6) F 7 rfl dX5_takes_148 ?_
        refine j_goto (pc := 150) F 154 dX5_takes_150 rfl ?_
        have g1 := Option.some.inj h
        subst g1
        exact j_iret (pc := 154) F dX5_takes_154
  have h := iz_f c5 h
  by_cases c6 : x1 = 6
  · have h := iz_t c6 h
    refine j_tabIn (pc := 41) (k0 := 6) F 155 c6 dX5_takes_41 (by decide) rfl rfl ?_
    refine j_iload (pc := 155) (k0 := 7) F 0 rfl dX5_takes_155 ?_
    refine j_if_eq (pc := 157) F 174 dX5_takes_157 rfl (fun c => ?_) (fun c => ?_)
    · have h := iz_t c h
      refine j_iconst (pc := 174) F 0 dX5_takes_174 (by decide) ?_
      have g1 := Option.some.inj h
      subst g1
      exact j_iret (pc := 175) F dX5_takes_175
    · have h := iz_f c h
      refine j_iload (pc := 160) (k0 := 5) F 6 rfl dX5_takes_160 ?_
      refine j_iload (pc := 162) (k0 := 4) F 5 rfl dX5_takes_162 ?_
      refine j_iconst (pc := 164) F 1 dX5_takes_164 (by decide) ?_
      refine j_iadd (pc := 165) F dX5_takes_165 ?_
      refine j_iconst (pc := 166) F 2 dX5_takes_166 (by decide) ?_
      refine j_idiv (pc := 167) F (by decide) dX5_takes_167 ?_
      refine j_callS1 (pc := 168) (As := [.int v5, .int ((v4 + 1) / 2)]) (st := []) (e1 := 0) (es1 := 0) F clX5_93 cwJ9_min_7cf53 (ctJ9_min_7cf53 G) rfl rfl rfl rfl rfl rfl dX5_takes_168 ?_
      refine j_goto (pc := 171) F 175 dX5_takes_171 rfl ?_
      have g1 := Option.some.inj h
      subst g1
      exact j_iret (pc := 175) F dX5_takes_175
  have h := iz_f c6 h
  have tc1 := lv_neT (a := 1) c1 (by decide)
  have tc2 := lv_neT (a := 2) c2 (by decide)
  have tc3 := lv_neT (a := 3) c3 (by decide)
  have tc4 := lv_neT (a := 4) c4 (by decide)
  have tc5 := lv_neT (a := 5) c5 (by decide)
  have tc6 := lv_neT (a := 6) c6 (by decide)
  refine j_tabOut (pc := 41) F 176 dX5_takes_41 (by omega) rfl ?_
  refine j_iconst (pc := 176) F 0 dX5_takes_176 (by decide) ?_
  have g1 := Option.some.inj h
  subst g1
  exact j_iret (pc := 177) F dX5_takes_177
set_option maxHeartbeats 4000000 in
set_option maxRecDepth 20000 in
theorem jbX5_takes_0 (G : GT) {X : XT} {sh : SH} {I : IH} {L : LH} {n : Nat} {r : Int32}  {this : Nat}  {v1 : Nat} {v2 : Int32} {v3 : Int32} {v4 : Int32} (F : MF G X RX5 cX5_takes 8 1 (some .int) "takes") (h : fX5_takes sh I this v1 v2 v3 v4 = some r) : J G X (QE G X (some (.int r)) sh I L n) 8 sh I L n 0 0 0 [(0, .ref this), (1, .ref v1), (2, .int v2), (3, .int v3), (4, .int v4)] [] := by
  unfold fX5_takes at h
  refine j_iconst (pc := 0) F 5 dX5_takes_0 (by decide) ?_
  refine j_aload_n (pc := 1) (k0 := 1) F 1 rfl dX5_takes_1 ?_
  refine j_iconst (pc := 2) F 1 dX5_takes_2 (by decide) ?_
  obtain ⟨x1, hx1, h⟩ := ob h
  refine j_iald (pc := 3) F hx1 dX5_takes_3 ?_
  refine j_imul (pc := 4) F dX5_takes_4 ?_
  refine j_istore (pc := 5) (k1 := 5) (ls' := [(5, .int (5 * x1)), (0, .ref this), (1, .ref v1), (2, .int v2), (3, .int v3), (4, .int v4)]) F rfl rfl dX5_takes_5 ?_
  refine j_iload (pc := 7) (k0 := 4) F 5 rfl dX5_takes_7 ?_
  refine j_aload_n (pc := 9) (k0 := 1) F 2 rfl dX5_takes_9 ?_
  refine j_iconst (pc := 10) F 1 dX5_takes_10 (by decide) ?_
  obtain ⟨x2, hx2, h⟩ := ob h
  refine j_iald (pc := 11) F hx2 dX5_takes_11 ?_
  refine j_imul (pc := 12) F dX5_takes_12 ?_
  refine j_bipush (pc := 13) F 10 dX5_takes_13 (by decide) ?_
  refine j_idiv (pc := 15) F (by decide) dX5_takes_15 ?_
  refine j_istore (pc := 16) (k1 := 6) (ls' := [(6, .int ((v4 * x2) / 10)), (5, .int (5 * x1)), (0, .ref this), (1, .ref v1), (2, .int v2), (3, .int v3), (4, .int v4)]) F rfl rfl dX5_takes_16 ?_
  refine j_aload_n (pc := 18) (k0 := 1) F 3 rfl dX5_takes_18 ?_
  refine j_iconst (pc := 19) F 2 dX5_takes_19 (by decide) ?_
  obtain ⟨x3, hx3, h⟩ := ob h
  refine j_iald (pc := 20) F hx3 dX5_takes_20 ?_
  refine j_iload_n (pc := 21) (k0 := 3) F 5 rfl dX5_takes_21 ?_
  refine j_bipush (pc := 22) F 24 dX5_takes_22 (by decide) ?_
  refine j_irem (pc := 24) F (by decide) dX5_takes_24 ?_
  refine j_ishr (pc := 25) F dX5_takes_25 ?_
  refine j_iconst (pc := 26) F 1 dX5_takes_26 (by decide) ?_
  refine j_iand (pc := 27) F dX5_takes_27 ?_
  refine j_if_eq (pc := 28) F 35 dX5_takes_28 rfl (fun c => ?_) (fun c => ?_)
  · have h := iz_t c h
    refine j_iconst (pc := 35) F 0 dX5_takes_35 (by decide) ?_
    refine j_sub [2, 3, 4, 5, 6, 1, 0] rfl ?_
    exact jbX5_takes_36 G F h
  · have h := iz_f c h
    refine j_iconst (pc := 31) F 1 dX5_takes_31 (by decide) ?_
    refine j_goto (pc := 32) F 36 dX5_takes_32 rfl ?_
    refine j_sub [2, 3, 4, 5, 6, 1, 0] rfl ?_
    exact jbX5_takes_36 G F h
theorem ctX5_takes (G : GT) {sh : SH} {I : IH} {L : LH} {n : Nat} {this : Nat} {v1 : Nat} {v2 : Int32} {v3 : Int32} {v4 : Int32} {r : Int32}  (h : fX5_takes sh I this v1 v2 v3 v4 = some r) : Ct G yX5_takes cX5_takes 8 (some .int) 1 [.ref this, .ref v1, .int v2, .int v3, .int v4] sh I L n (some (.int r)) sh I L n 0 0 := by
  refine ct_of (y := yX5_takes) (by decide +kernel) rfl (fun X F => ?_)
  exact jbX5_takes_0 G F h
