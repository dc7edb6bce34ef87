/-! decompiled: X6_gate, X6_of, X6_water, X6_all, X6_want, X6_wants, X6_worth, X6_span, X6_best, X6_price, X6_part, X6_odds, X6_underSkies, X6_divisorWithHundred, X6_mean, X6_pond -/
theorem dX6_gate_0 : decode cX6_gate 0 = .ok (.iload_n 1, 1) := by decide +kernel
theorem dX6_gate_1 : decode cX6_gate 1 = .ok (.iconst 5, 1) := by decide +kernel
theorem dX6_gate_2 : decode cX6_gate 2 = .ok (.invokestatic 61, 3) := by decide +kernel
theorem dX6_gate_5 : decode cX6_gate 5 = .ok (.ifCond .eq 12, 3) := by decide +kernel
theorem dX6_gate_8 : decode cX6_gate 8 = .ok (.iload_n 2, 1) := by decide +kernel
theorem dX6_gate_9 : decode cX6_gate 9 = .ok (.bipush 7, 2) := by decide +kernel
theorem dX6_gate_11 : decode cX6_gate 11 = .ok (.invokestatic 61, 3) := by decide +kernel
theorem dX6_gate_14 : decode cX6_gate 14 = .ok (.ifCond .ne 5, 3) := by decide +kernel
theorem dX6_gate_17 : decode cX6_gate 17 = .ok (.iconst (-1), 1) := by decide +kernel
theorem dX6_gate_18 : decode cX6_gate 18 = .ok (.ireturn, 1) := by decide +kernel
theorem dX6_gate_19 : decode cX6_gate 19 = .ok (.iload_n 3, 1) := by decide +kernel
theorem dX6_gate_20 : decode cX6_gate 20 = .ok (.ifCond .lt 21, 3) := by decide +kernel
theorem dX6_gate_23 : decode cX6_gate 23 = .ok (.iload_n 3, 1) := by decide +kernel
theorem dX6_gate_24 : decode cX6_gate 24 = .ok (.bipush 10, 2) := by decide +kernel
theorem dX6_gate_26 : decode cX6_gate 26 = .ok (.if_icmp .gt 15, 3) := by decide +kernel
theorem dX6_gate_29 : decode cX6_gate 29 = .ok (.iload 4, 2) := by decide +kernel
theorem dX6_gate_31 : decode cX6_gate 31 = .ok (.ifCond .lt 10, 3) := by decide +kernel
theorem dX6_gate_34 : decode cX6_gate 34 = .ok (.iload 4, 2) := by decide +kernel
theorem dX6_gate_36 : decode cX6_gate 36 = .ok (.ldc 95, 2) := by decide +kernel
theorem dX6_gate_38 : decode cX6_gate 38 = .ok (.if_icmp .le 6, 3) := by decide +kernel
theorem dX6_gate_41 : decode cX6_gate 41 = .ok (.bipush (-2), 2) := by decide +kernel
theorem dX6_gate_43 : decode cX6_gate 43 = .ok (.ireturn, 1) := by decide +kernel
theorem dX6_gate_44 : decode cX6_gate 44 = .ok (.aload_n 0, 1) := by decide +kernel
theorem dX6_gate_45 : decode cX6_gate 45 = .ok (.getfield 19, 3) := by decide +kernel
theorem dX6_gate_48 : decode cX6_gate 48 = .ok (.getfield 96, 3) := by decide +kernel
theorem dX6_gate_51 : decode cX6_gate 51 = .ok (.iload_n 1, 1) := by decide +kernel
theorem dX6_gate_52 : decode cX6_gate 52 = .ok (.aaload, 1) := by decide +kernel
theorem dX6_gate_53 : decode cX6_gate 53 = .ok (.astore 5, 2) := by decide +kernel
theorem dX6_gate_55 : decode cX6_gate 55 = .ok (.aload 5, 2) := by decide +kernel
theorem dX6_gate_57 : decode cX6_gate 57 = .ok (.iconst 0, 1) := by decide +kernel
theorem dX6_gate_58 : decode cX6_gate 58 = .ok (.iaload, 1) := by decide +kernel
theorem dX6_gate_59 : decode cX6_gate 59 = .ok (.istore 6, 2) := by decide +kernel
theorem dX6_gate_61 : decode cX6_gate 61 = .ok (.aload 5, 2) := by decide +kernel
theorem dX6_gate_63 : decode cX6_gate 63 = .ok (.iconst 0, 1) := by decide +kernel
theorem dX6_gate_64 : decode cX6_gate 64 = .ok (.iload_n 2, 1) := by decide +kernel
theorem dX6_gate_65 : decode cX6_gate 65 = .ok (.iastore, 1) := by decide +kernel
theorem dX6_gate_66 : decode cX6_gate 66 = .ok (.aload 5, 2) := by decide +kernel
theorem dX6_gate_68 : decode cX6_gate 68 = .ok (.iconst 1, 1) := by decide +kernel
theorem dX6_gate_69 : decode cX6_gate 69 = .ok (.iload_n 3, 1) := by decide +kernel
theorem dX6_gate_70 : decode cX6_gate 70 = .ok (.iastore, 1) := by decide +kernel
theorem dX6_gate_71 : decode cX6_gate 71 = .ok (.aload 5, 2) := by decide +kernel
theorem dX6_gate_73 : decode cX6_gate 73 = .ok (.iconst 2, 1) := by decide +kernel
theorem dX6_gate_74 : decode cX6_gate 74 = .ok (.iload 4, 2) := by decide +kernel
theorem dX6_gate_76 : decode cX6_gate 76 = .ok (.iastore, 1) := by decide +kernel
theorem dX6_gate_77 : decode cX6_gate 77 = .ok (.iload 6, 2) := by decide +kernel
theorem dX6_gate_79 : decode cX6_gate 79 = .ok (.ireturn, 1) := by decide +kernel
def fX6_gate (sh : SH) (this : Nat) (v1 : Int32) (v2 : Int32) (v3 : Int32) (v4 : Int32) (I : IH) : Option (Int32 × IH) :=
  if (fX6_isUnder v1 5) = 0 then (
    some ((-1), I)) else
  if (fX6_isUnder v2 7) = 0 then (
    some ((-1), I)) else
  if v3 < 0 then (
    some ((-2), I)) else
  if 10 < v3 then (
    some ((-2), I)) else
  if v4 < 0 then (
    some ((-2), I)) else
  if v4 ≤ 16777215 then (
    (gR sh 6 this 0).bind fun x1 =>
    (gR sh 2 x1 3).bind fun x2 =>
    (aR sh 4 x2 v1).bind fun x3 =>
    (aI sh I 0 x3 0).bind fun x4 =>
    (sI sh I x3 0 v2).bind fun i5 =>
    (sI sh i5 x3 1 v3).bind fun i6 =>
    (sI sh i6 x3 2 v4).bind fun i7 =>
    some (x4, i7)) else
  some ((-2), I)
set_option maxHeartbeats 4000000 in
set_option maxRecDepth 20000 in
theorem jbX6_gate_0 (G : GT) {X : XT} {sh : SH} {L : LH} {n : Nat} {r : Int32} {I' : IH}  {this : Nat}  {v1 : Int32} {v2 : Int32} {v3 : Int32} {v4 : Int32} {I : IH} (F : MF G X RX6 cX6_gate 7 1 (some .int) "gate") (h : fX6_gate sh this v1 v2 v3 v4 I = some (r, I')) : J G X (QE G X (some (.int r)) sh I' L n) 7 sh I L n 0 0 0 [(0, .ref this), (1, .int v1), (2, .int v2), (3, .int v3), (4, .int v4)] [] := by
  unfold fX6_gate at h
  refine j_iload_n (pc := 0) (k0 := 1) F 1 rfl dX6_gate_0 ?_
  refine j_iconst (pc := 1) F 5 dX6_gate_1 (by decide) ?_
  refine j_callS1 (pc := 2) (As := [.int v1, .int 5]) (st := []) (e1 := 0) (es1 := 0) F clX6_61 cwX6_isUnder (ctX6_isUnder G) rfl rfl rfl rfl rfl rfl dX6_gate_2 ?_
  refine j_if_eq (pc := 5) F 17 dX6_gate_5 rfl (fun c => ?_) (fun c => ?_)
  · have h := iz_t c h
    refine j_iconst (pc := 17) F (-1) dX6_gate_17 (by decide) ?_
    have g1 := Option.some.inj h
    obtain ⟨q3, g2⟩ := Prod.mk.inj g1
    subst q3
    subst g2
    exact j_iret (pc := 18) F dX6_gate_18
  · have h := iz_f c h
    refine j_iload_n (pc := 8) (k0 := 2) F 2 rfl dX6_gate_8 ?_
    refine j_bipush (pc := 9) F 7 dX6_gate_9 (by decide) ?_
    refine j_callS1 (pc := 11) (As := [.int v2, .int 7]) (st := []) (e1 := 0) (es1 := 0) F clX6_61 cwX6_isUnder (ctX6_isUnder G) rfl rfl rfl rfl rfl rfl dX6_gate_11 ?_
    refine j_if_ne (pc := 14) F 19 dX6_gate_14 rfl (fun c => ?_) (fun c => ?_)
    · have h := iz_f c h
      refine j_iload_n (pc := 19) (k0 := 3) F 3 rfl dX6_gate_19 ?_
      refine j_if_lt (pc := 20) F 41 dX6_gate_20 rfl (fun c => ?_) (fun c => ?_)
      · have h := iz_t c h
        refine j_bipush (pc := 41) F (-2) dX6_gate_41 (by decide) ?_
        have g1 := Option.some.inj h
        obtain ⟨q3, g2⟩ := Prod.mk.inj g1
        subst q3
        subst g2
        exact j_iret (pc := 43) F dX6_gate_43
      · have h := iz_f c h
        refine j_iload_n (pc := 23) (k0 := 3) F 3 rfl dX6_gate_23 ?_
        refine j_bipush (pc := 24) F 10 dX6_gate_24 (by decide) ?_
        refine j_icmp_gt (pc := 26) F 41 dX6_gate_26 rfl (fun c => ?_) (fun c => ?_)
        · have h := iz_t c h
          refine j_bipush (pc := 41) F (-2) dX6_gate_41 (by decide) ?_
          have g1 := Option.some.inj h
          obtain ⟨q3, g2⟩ := Prod.mk.inj g1
          subst q3
          subst g2
          exact j_iret (pc := 43) F dX6_gate_43
        · have h := iz_f c h
          refine j_iload (pc := 29) (k0 := 4) F 4 rfl dX6_gate_29 ?_
          refine j_if_lt (pc := 31) F 41 dX6_gate_31 rfl (fun c => ?_) (fun c => ?_)
          · have h := iz_t c h
            refine j_bipush (pc := 41) F (-2) dX6_gate_41 (by decide) ?_
            have g1 := Option.some.inj h
            obtain ⟨q3, g2⟩ := Prod.mk.inj g1
            subst q3
            subst g2
            exact j_iret (pc := 43) F dX6_gate_43
          · have h := iz_f c h
            refine j_iload (pc := 34) (k0 := 4) F 4 rfl dX6_gate_34 ?_
            refine j_ldc (pc := 36) (v := 16777215) F (good_of 472 (by decide +kernel) (by decide +kernel)) dX6_gate_36 ?_
            refine j_icmp_le (pc := 38) F 44 dX6_gate_38 rfl (fun c => ?_) (fun c => ?_)
            · have h := iz_t c h
              refine j_aload_n (pc := 44) (k0 := 0) F 0 rfl dX6_gate_44 ?_
              obtain ⟨x1, hx1, h⟩ := ob h
              refine j_getR (pc := 45) F flX6_19 hx1 dX6_gate_45 ?_
              obtain ⟨x2, hx2, h⟩ := ob h
              refine j_getR (pc := 48) F flX6_96 hx2 dX6_gate_48 ?_
              refine j_iload_n (pc := 51) (k0 := 1) F 1 rfl dX6_gate_51 ?_
              obtain ⟨x3, hx3, h⟩ := ob h
              refine j_aald (pc := 52) F (Or.inr rfl) hx3 dX6_gate_52 ?_
              refine j_astore (pc := 53) (k1 := 5) (ls' := [(5, .ref x3), (0, .ref this), (1, .int v1), (2, .int v2), (3, .int v3), (4, .int v4)]) F rfl rfl dX6_gate_53 ?_
              refine j_aload (pc := 55) (k0 := 5) F 0 rfl dX6_gate_55 ?_
              refine j_iconst (pc := 57) F 0 dX6_gate_57 (by decide) ?_
              obtain ⟨x4, hx4, h⟩ := ob h
              refine j_iald (pc := 58) F hx4 dX6_gate_58 ?_
              refine j_istore (pc := 59) (k1 := 6) (ls' := [(6, .int x4), (5, .ref x3), (0, .ref this), (1, .int v1), (2, .int v2), (3, .int v3), (4, .int v4)]) F rfl rfl dX6_gate_59 ?_
              refine j_aload (pc := 61) (k0 := 5) F 1 rfl dX6_gate_61 ?_
              refine j_iconst (pc := 63) F 0 dX6_gate_63 (by decide) ?_
              refine j_iload_n (pc := 64) (k0 := 2) F 4 rfl dX6_gate_64 ?_
              obtain ⟨i5, hi5, h⟩ := ob h
              refine j_iast (pc := 65) F hi5 dX6_gate_65 ?_
              refine j_aload (pc := 66) (k0 := 5) F 1 rfl dX6_gate_66 ?_
              refine j_iconst (pc := 68) F 1 dX6_gate_68 (by decide) ?_
              refine j_iload_n (pc := 69) (k0 := 3) F 5 rfl dX6_gate_69 ?_
              obtain ⟨i6, hi6, h⟩ := ob h
              refine j_iast (pc := 70) F hi6 dX6_gate_70 ?_
              refine j_aload (pc := 71) (k0 := 5) F 1 rfl dX6_gate_71 ?_
              refine j_iconst (pc := 73) F 2 dX6_gate_73 (by decide) ?_
              refine j_iload (pc := 74) (k0 := 4) F 6 rfl dX6_gate_74 ?_
              obtain ⟨i7, hi7, h⟩ := ob h
              refine j_iast (pc := 76) F hi7 dX6_gate_76 ?_
              refine j_iload (pc := 77) (k0 := 6) F 0 rfl dX6_gate_77 ?_
              have g1 := Option.some.inj h
              obtain ⟨q3, g2⟩ := Prod.mk.inj g1
              subst q3
              subst g2
              exact j_iret (pc := 79) F dX6_gate_79
            · have h := iz_f c h
              refine j_bipush (pc := 41) F (-2) dX6_gate_41 (by decide) ?_
              have g1 := Option.some.inj h
              obtain ⟨q3, g2⟩ := Prod.mk.inj g1
              subst q3
              subst g2
              exact j_iret (pc := 43) F dX6_gate_43
    · have h := iz_t c h
      refine j_iconst (pc := 17) F (-1) dX6_gate_17 (by decide) ?_
      have g1 := Option.some.inj h
      obtain ⟨q3, g2⟩ := Prod.mk.inj g1
      subst q3
      subst g2
      exact j_iret (pc := 18) F dX6_gate_18
theorem ctX6_gate (G : GT) {sh : SH} {I : IH} {L : LH} {n : Nat} {this : Nat} {v1 : Int32} {v2 : Int32} {v3 : Int32} {v4 : Int32} {r : Int32} {I' : IH}  (h : fX6_gate sh this v1 v2 v3 v4 I = some (r, I')) : Ct G yX6_gate cX6_gate 7 (some .int) 1 [.ref this, .int v1, .int v2, .int v3, .int v4] sh I L n (some (.int r)) sh I' L n 0 0 := by
  refine ct_of (y := yX6_gate) (by decide +kernel) rfl (fun X F => ?_)
  exact jbX6_gate_0 G F h
theorem dX6_of_0 : decode cX6_of 0 = .ok (.iload_n 1, 1) := by decide +kernel
theorem dX6_of_1 : decode cX6_of 1 = .ok (.iconst 5, 1) := by decide +kernel
theorem dX6_of_2 : decode cX6_of 2 = .ok (.invokestatic 61, 3) := by decide +kernel
theorem dX6_of_5 : decode cX6_of 5 = .ok (.ifCond .eq 11, 3) := by decide +kernel
theorem dX6_of_8 : decode cX6_of 8 = .ok (.iload_n 2, 1) := by decide +kernel
theorem dX6_of_9 : decode cX6_of 9 = .ok (.iconst 3, 1) := by decide +kernel
theorem dX6_of_10 : decode cX6_of 10 = .ok (.invokestatic 61, 3) := by decide +kernel
theorem dX6_of_13 : decode cX6_of 13 = .ok (.ifCond .ne 5, 3) := by decide +kernel
theorem dX6_of_16 : decode cX6_of 16 = .ok (.iconst (-1), 1) := by decide +kernel
theorem dX6_of_17 : decode cX6_of 17 = .ok (.ireturn, 1) := by decide +kernel
theorem dX6_of_18 : decode cX6_of 18 = .ok (.aload_n 0, 1) := by decide +kernel
theorem dX6_of_19 : decode cX6_of 19 = .ok (.getfield 19, 3) := by decide +kernel
theorem dX6_of_22 : decode cX6_of 22 = .ok (.getfield 96, 3) := by decide +kernel
theorem dX6_of_25 : decode cX6_of 25 = .ok (.iload_n 1, 1) := by decide +kernel
theorem dX6_of_26 : decode cX6_of 26 = .ok (.aaload, 1) := by decide +kernel
theorem dX6_of_27 : decode cX6_of 27 = .ok (.iload_n 2, 1) := by decide +kernel
theorem dX6_of_28 : decode cX6_of 28 = .ok (.iaload, 1) := by decide +kernel
theorem dX6_of_29 : decode cX6_of 29 = .ok (.ireturn, 1) := by decide +kernel
def fX6_of (sh : SH) (I : IH) (this : Nat) (v1 : Int32) (v2 : Int32) : Option (Int32) :=
  if (fX6_isUnder v1 5) = 0 then (
    some (-1)) else
  if (fX6_isUnder v2 3) = 0 then (
    some (-1)) else
  (gR sh 6 this 0).bind fun x1 =>
  (gR sh 2 x1 3).bind fun x2 =>
  (aR sh 4 x2 v1).bind fun x3 =>
  (aI sh I 0 x3 v2).bind fun x4 =>
  some x4
set_option maxHeartbeats 4000000 in
set_option maxRecDepth 20000 in
theorem jbX6_of_0 (G : GT) {X : XT} {sh : SH} {I : IH} {L : LH} {n : Nat} {r : Int32}  {this : Nat}  {v1 : Int32} {v2 : Int32} (F : MF G X RX6 cX6_of 3 1 (some .int) "of") (h : fX6_of sh I this v1 v2 = some r) : J G X (QE G X (some (.int r)) sh I L n) 3 sh I L n 0 0 0 [(0, .ref this), (1, .int v1), (2, .int v2)] [] := by
  unfold fX6_of at h
  refine j_iload_n (pc := 0) (k0 := 1) F 1 rfl dX6_of_0 ?_
  refine j_iconst (pc := 1) F 5 dX6_of_1 (by decide) ?_
  refine j_callS1 (pc := 2) (As := [.int v1, .int 5]) (st := []) (e1 := 0) (es1 := 0) F clX6_61 cwX6_isUnder (ctX6_isUnder G) rfl rfl rfl rfl rfl rfl dX6_of_2 ?_
  refine j_if_eq (pc := 5) F 16 dX6_of_5 rfl (fun c => ?_) (fun c => ?_)
  · have h := iz_t c h
    refine j_iconst (pc := 16) F (-1) dX6_of_16 (by decide) ?_
    have g1 := Option.some.inj h
    subst g1
    exact j_iret (pc := 17) F dX6_of_17
  · have h := iz_f c h
    refine j_iload_n (pc := 8) (k0 := 2) F 2 rfl dX6_of_8 ?_
    refine j_iconst (pc := 9) F 3 dX6_of_9 (by decide) ?_
    refine j_callS1 (pc := 10) (As := [.int v2, .int 3]) (st := []) (e1 := 0) (es1 := 0) F clX6_61 cwX6_isUnder (ctX6_isUnder G) rfl rfl rfl rfl rfl rfl dX6_of_10 ?_
    refine j_if_ne (pc := 13) F 18 dX6_of_13 rfl (fun c => ?_) (fun c => ?_)
    · have h := iz_f c h
      refine j_aload_n (pc := 18) (k0 := 0) F 0 rfl dX6_of_18 ?_
      obtain ⟨x1, hx1, h⟩ := ob h
      refine j_getR (pc := 19) F flX6_19 hx1 dX6_of_19 ?_
      obtain ⟨x2, hx2, h⟩ := ob h
      refine j_getR (pc := 22) F flX6_96 hx2 dX6_of_22 ?_
      refine j_iload_n (pc := 25) (k0 := 1) F 1 rfl dX6_of_25 ?_
      obtain ⟨x3, hx3, h⟩ := ob h
      refine j_aald (pc := 26) F (Or.inr rfl) hx3 dX6_of_26 ?_
      refine j_iload_n (pc := 27) (k0 := 2) F 2 rfl dX6_of_27 ?_
      obtain ⟨x4, hx4, h⟩ := ob h
      refine j_iald (pc := 28) F hx4 dX6_of_28 ?_
      have g1 := Option.some.inj h
      subst g1
      exact j_iret (pc := 29) F dX6_of_29
    · have h := iz_t c h
      refine j_iconst (pc := 16) F (-1) dX6_of_16 (by decide) ?_
      have g1 := Option.some.inj h
      subst g1
      exact j_iret (pc := 17) F dX6_of_17
theorem ctX6_of (G : GT) {sh : SH} {I : IH} {L : LH} {n : Nat} {this : Nat} {v1 : Int32} {v2 : Int32} {r : Int32}  (h : fX6_of sh I this v1 v2 = some r) : Ct G yX6_of cX6_of 3 (some .int) 1 [.ref this, .int v1, .int v2] sh I L n (some (.int r)) sh I L n 0 0 := by
  refine ct_of (y := yX6_of) (by decide +kernel) rfl (fun X F => ?_)
  exact jbX6_of_0 G F h
theorem dX6_water_0 : decode cX6_water 0 = .ok (.aload_n 0, 1) := by decide +kernel
theorem dX6_water_1 : decode cX6_water 1 = .ok (.getfield 19, 3) := by decide +kernel
theorem dX6_water_4 : decode cX6_water 4 = .ok (.iload_n 1, 1) := by decide +kernel
theorem dX6_water_5 : decode cX6_water 5 = .ok (.invokevirtual 99, 3) := by decide +kernel
theorem dX6_water_8 : decode cX6_water 8 = .ok (.ifCond .eq 20, 3) := by decide +kernel
theorem dX6_water_11 : decode cX6_water 11 = .ok (.iload_n 2, 1) := by decide +kernel
theorem dX6_water_12 : decode cX6_water 12 = .ok (.bipush 48, 2) := by decide +kernel
theorem dX6_water_14 : decode cX6_water 14 = .ok (.invokestatic 61, 3) := by decide +kernel
theorem dX6_water_17 : decode cX6_water 17 = .ok (.ifCond .eq 11, 3) := by decide +kernel
theorem dX6_water_20 : decode cX6_water 20 = .ok (.iload_n 3, 1) := by decide +kernel
theorem dX6_water_21 : decode cX6_water 21 = .ok (.iconst 5, 1) := by decide +kernel
theorem dX6_water_22 : decode cX6_water 22 = .ok (.invokestatic 61, 3) := by decide +kernel
theorem dX6_water_25 : decode cX6_water 25 = .ok (.ifCond .ne 5, 3) := by decide +kernel
theorem dX6_water_28 : decode cX6_water 28 = .ok (.iconst (-1), 1) := by decide +kernel
theorem dX6_water_29 : decode cX6_water 29 = .ok (.ireturn, 1) := by decide +kernel
theorem dX6_water_30 : decode cX6_water 30 = .ok (.aload_n 0, 1) := by decide +kernel
theorem dX6_water_31 : decode cX6_water 31 = .ok (.getfield 35, 3) := by decide +kernel
theorem dX6_water_34 : decode cX6_water 34 = .ok (.invokevirtual 103, 3) := by decide +kernel
theorem dX6_water_37 : decode cX6_water 37 = .ok (.pop, 1) := by decide +kernel
theorem dX6_water_38 : decode cX6_water 38 = .ok (.aload_n 0, 1) := by decide +kernel
theorem dX6_water_39 : decode cX6_water 39 = .ok (.getfield 35, 3) := by decide +kernel
theorem dX6_water_42 : decode cX6_water 42 = .ok (.iload_n 3, 1) := by decide +kernel
theorem dX6_water_43 : decode cX6_water 43 = .ok (.invokevirtual 107, 3) := by decide +kernel
theorem dX6_water_46 : decode cX6_water 46 = .ok (.iload_n 1, 1) := by decide +kernel
theorem dX6_water_47 : decode cX6_water 47 = .ok (.aaload, 1) := by decide +kernel
theorem dX6_water_48 : decode cX6_water 48 = .ok (.iload_n 2, 1) := by decide +kernel
theorem dX6_water_49 : decode cX6_water 49 = .ok (.iaload, 1) := by decide +kernel
theorem dX6_water_50 : decode cX6_water 50 = .ok (.ireturn, 1) := by decide +kernel
def fX6_water (sh : SH) (this : Nat) (v1 : Int32) (v2 : Int32) (v3 : Int32) (I : IH) : Option (Int32 × IH) :=
  (gR sh 6 this 0).bind fun x1 =>
  (ck sh 2 x1).bind fun u2 =>
  (fX2_isPlace sh I x1 v1).bind fun x3 =>
  if x3 = 0 then (
    some ((-1), I)) else
  if (fX6_isUnder v2 48) = 0 then (
    some ((-1), I)) else
  if (fX6_isUnder v3 5) = 0 then (
    some ((-1), I)) else
  (gR sh 6 this 3).bind fun x4 =>
  (ck sh 5 x4).bind fun u5 =>
  b2 (fX5_settle sh x4 I) fun x6 i7 =>
  (gR sh 6 this 3).bind fun x8 =>
  (ck sh 5 x8).bind fun u9 =>
  (fX5_rows sh x8 v3).bind fun x10 =>
  (aR sh 4 x10 v1).bind fun x11 =>
  (aI sh i7 0 x11 v2).bind fun x12 =>
  some (x12, i7)
set_option maxHeartbeats 4000000 in
set_option maxRecDepth 20000 in
theorem jbX6_water_0 (G : GT) {X : XT} {sh : SH} {L : LH} {n : Nat} {r : Int32} {I' : IH}  {this : Nat}  {v1 : Int32} {v2 : Int32} {v3 : Int32} {I : IH} (F : MF G X RX6 cX6_water 4 5 (some .int) "water") (h : fX6_water sh this v1 v2 v3 I = some (r, I')) : J G X (QE G X (some (.int r)) sh I' L n) 4 sh I L n 0 0 0 [(0, .ref this), (1, .int v1), (2, .int v2), (3, .int v3)] [] := by
  unfold fX6_water at h
  refine j_aload_n (pc := 0) (k0 := 0) F 0 rfl dX6_water_0 ?_
  obtain ⟨x1, hx1, h⟩ := ob h
  refine j_getR (pc := 1) F flX6_19 hx1 dX6_water_1 ?_
  refine j_iload_n (pc := 4) (k0 := 1) F 1 rfl dX6_water_4 ?_
  obtain ⟨u2, hu2, h⟩ := ob h
  have hou2 := ck_obt hu2
  obtain ⟨x3, hx3, h⟩ := ob h
  refine j_callV1 (pc := 5) (ci := 2) (As := [.int v1]) (st := []) (e1 := 0) (es1 := 0) F clX6_99 cwX2_isPlace rfl hou2 (ctX2_isPlace G hx3) rfl rfl rfl rfl rfl rfl dX6_water_5 ?_
  refine j_if_eq (pc := 8) F 28 dX6_water_8 rfl (fun c => ?_) (fun c => ?_)
  · have h := iz_t c h
    refine j_iconst (pc := 28) F (-1) dX6_water_28 (by decide) ?_
    have g1 := Option.some.inj h
    obtain ⟨q3, g2⟩ := Prod.mk.inj g1
    subst q3
    subst g2
    exact j_iret (pc := 29) F dX6_water_29
  · have h := iz_f c h
    refine j_iload_n (pc := 11) (k0 := 2) F 2 rfl dX6_water_11 ?_
    refine j_bipush (pc := 12) F 48 dX6_water_12 (by decide) ?_
    refine j_callS1 (pc := 14) (As := [.int v2, .int 48]) (st := []) (e1 := 0) (es1 := 0) F clX6_61 cwX6_isUnder (ctX6_isUnder G) rfl rfl rfl rfl rfl rfl dX6_water_14 ?_
    refine j_if_eq (pc := 17) F 28 dX6_water_17 rfl (fun c => ?_) (fun c => ?_)
    · have h := iz_t c h
      refine j_iconst (pc := 28) F (-1) dX6_water_28 (by decide) ?_
      have g1 := Option.some.inj h
      obtain ⟨q3, g2⟩ := Prod.mk.inj g1
      subst q3
      subst g2
      exact j_iret (pc := 29) F dX6_water_29
    · have h := iz_f c h
      refine j_iload_n (pc := 20) (k0 := 3) F 3 rfl dX6_water_20 ?_
      refine j_iconst (pc := 21) F 5 dX6_water_21 (by decide) ?_
      refine j_callS1 (pc := 22) (As := [.int v3, .int 5]) (st := []) (e1 := 0) (es1 := 0) F clX6_61 cwX6_isUnder (ctX6_isUnder G) rfl rfl rfl rfl rfl rfl dX6_water_22 ?_
      refine j_if_ne (pc := 25) F 30 dX6_water_25 rfl (fun c => ?_) (fun c => ?_)
      · have h := iz_f c h
        refine j_aload_n (pc := 30) (k0 := 0) F 0 rfl dX6_water_30 ?_
        obtain ⟨x4, hx4, h⟩ := ob h
        refine j_getR (pc := 31) F flX6_35 hx4 dX6_water_31 ?_
        obtain ⟨u5, hu5, h⟩ := ob h
        have hou5 := ck_obt hu5
        obtain ⟨x6, i7, hx6, h⟩ := b2_obt h
        refine j_callV1 (pc := 34) (ci := 5) (As := []) (st := []) (e1 := 0) (es1 := 0) F clX6_103 cwX5_settle rfl hou5 (ctX5_settle G hou5 hx6) rfl rfl rfl rfl rfl rfl dX6_water_34 ?_
        refine j_pop (pc := 37) F dX6_water_37 rfl ?_
        refine j_aload_n (pc := 38) (k0 := 0) F 0 rfl dX6_water_38 ?_
        obtain ⟨x8, hx8, h⟩ := ob h
        refine j_getR (pc := 39) F flX6_35 hx8 dX6_water_39 ?_
        refine j_iload_n (pc := 42) (k0 := 3) F 3 rfl dX6_water_42 ?_
        obtain ⟨u9, hu9, h⟩ := ob h
        have hou9 := ck_obt hu9
        obtain ⟨x10, hx10, h⟩ := ob h
        refine j_callV1 (pc := 43) (ci := 5) (As := [.int v3]) (st := []) (e1 := 0) (es1 := 0) F clX6_107 cwX5_rows rfl hou9 (ctX5_rows G hx10) rfl rfl rfl rfl rfl rfl dX6_water_43 ?_
        refine j_iload_n (pc := 46) (k0 := 1) F 1 rfl dX6_water_46 ?_
        obtain ⟨x11, hx11, h⟩ := ob h
        refine j_aald (pc := 47) F (Or.inr rfl) hx11 dX6_water_47 ?_
        refine j_iload_n (pc := 48) (k0 := 2) F 2 rfl dX6_water_48 ?_
        obtain ⟨x12, hx12, h⟩ := ob h
        refine j_iald (pc := 49) F hx12 dX6_water_49 ?_
        have g1 := Option.some.inj h
        obtain ⟨q3, g2⟩ := Prod.mk.inj g1
        subst q3
        subst g2
        exact j_iret (pc := 50) F dX6_water_50
      · have h := iz_t c h
        refine j_iconst (pc := 28) F (-1) dX6_water_28 (by decide) ?_
        have g1 := Option.some.inj h
        obtain ⟨q3, g2⟩ := Prod.mk.inj g1
        subst q3
        subst g2
        exact j_iret (pc := 29) F dX6_water_29
theorem ctX6_water (G : GT) {sh : SH} {I : IH} {L : LH} {n : Nat} {this : Nat} {v1 : Int32} {v2 : Int32} {v3 : Int32} {r : Int32} {I' : IH}  (h : fX6_water sh this v1 v2 v3 I = some (r, I')) : Ct G yX6_water cX6_water 4 (some .int) 5 [.ref this, .int v1, .int v2, .int v3] sh I L n (some (.int r)) sh I' L n 0 0 := by
  refine ct_of (y := yX6_water) (by decide +kernel) rfl (fun X F => ?_)
  exact jbX6_water_0 G F h
theorem dX6_all_0 : decode cX6_all 0 = .ok (.iload_n 1, 1) := by decide +kernel
theorem dX6_all_1 : decode cX6_all 1 = .ok (.iconst 4, 1) := by decide +kernel
theorem dX6_all_2 : decode cX6_all 2 = .ok (.invokestatic 61, 3) := by decide +kernel
theorem dX6_all_5 : decode cX6_all 5 = .ok (.ifCond .ne 5, 3) := by decide +kernel
theorem dX6_all_8 : decode cX6_all 8 = .ok (.iconst (-1), 1) := by decide +kernel
theorem dX6_all_9 : decode cX6_all 9 = .ok (.ireturn, 1) := by decide +kernel
theorem dX6_all_10 : decode cX6_all 10 = .ok (.aload_n 0, 1) := by decide +kernel
theorem dX6_all_11 : decode cX6_all 11 = .ok (.getfield 35, 3) := by decide +kernel
theorem dX6_all_14 : decode cX6_all 14 = .ok (.invokevirtual 103, 3) := by decide +kernel
theorem dX6_all_17 : decode cX6_all 17 = .ok (.pop, 1) := by decide +kernel
theorem dX6_all_18 : decode cX6_all 18 = .ok (.iload_n 1, 1) := by decide +kernel
theorem dX6_all_19 : decode cX6_all 19 = .ok (.tableswitch 66 0 2 #[25, 36, 51], 25) := by decide +kernel
theorem dX6_all_44 : decode cX6_all 44 = .ok (.aload_n 0, 1) := by decide +kernel
theorem dX6_all_45 : decode cX6_all 45 = .ok (.getfield 35, 3) := by decide +kernel
theorem dX6_all_48 : decode cX6_all 48 = .ok (.getfield 111, 3) := by decide +kernel
theorem dX6_all_51 : decode cX6_all 51 = .ok (.invokestatic 114, 3) := by decide +kernel
theorem dX6_all_54 : decode cX6_all 54 = .ok (.ireturn, 1) := by decide +kernel
theorem dX6_all_55 : decode cX6_all 55 = .ok (.aload_n 0, 1) := by decide +kernel
theorem dX6_all_56 : decode cX6_all 56 = .ok (.getfield 35, 3) := by decide +kernel
theorem dX6_all_59 : decode cX6_all 59 = .ok (.aload_n 0, 1) := by decide +kernel
theorem dX6_all_60 : decode cX6_all 60 = .ok (.getfield 35, 3) := by decide +kernel
theorem dX6_all_63 : decode cX6_all 63 = .ok (.getfield 118, 3) := by decide +kernel
theorem dX6_all_66 : decode cX6_all 66 = .ok (.invokevirtual 121, 3) := by decide +kernel
theorem dX6_all_69 : decode cX6_all 69 = .ok (.ireturn, 1) := by decide +kernel
theorem dX6_all_70 : decode cX6_all 70 = .ok (.aload_n 0, 1) := by decide +kernel
theorem dX6_all_71 : decode cX6_all 71 = .ok (.getfield 35, 3) := by decide +kernel
theorem dX6_all_74 : decode cX6_all 74 = .ok (.aload_n 0, 1) := by decide +kernel
theorem dX6_all_75 : decode cX6_all 75 = .ok (.getfield 35, 3) := by decide +kernel
theorem dX6_all_78 : decode cX6_all 78 = .ok (.getfield 125, 3) := by decide +kernel
theorem dX6_all_81 : decode cX6_all 81 = .ok (.invokevirtual 121, 3) := by decide +kernel
theorem dX6_all_84 : decode cX6_all 84 = .ok (.ireturn, 1) := by decide +kernel
theorem dX6_all_85 : decode cX6_all 85 = .ok (.aload_n 0, 1) := by decide +kernel
theorem dX6_all_86 : decode cX6_all 86 = .ok (.getfield 35, 3) := by decide +kernel
theorem dX6_all_89 : decode cX6_all 89 = .ok (.aload_n 0, 1) := by decide +kernel
theorem dX6_all_90 : decode cX6_all 90 = .ok (.getfield 35, 3) := by decide +kernel
theorem dX6_all_93 : decode cX6_all 93 = .ok (.getfield 128, 3) := by decide +kernel
theorem dX6_all_96 : decode cX6_all 96 = .ok (.aload_n 0, 1) := by decide +kernel
theorem dX6_all_97 : decode cX6_all 97 = .ok (.getfield 19, 3) := by decide +kernel
theorem dX6_all_100 : decode cX6_all 100 = .ok (.getfield 57, 3) := by decide +kernel
theorem dX6_all_103 : decode cX6_all 103 = .ok (.iconst 1, 1) := by decide +kernel
theorem dX6_all_104 : decode cX6_all 104 = .ok (.isub, 1) := by decide +kernel
theorem dX6_all_105 : decode cX6_all 105 = .ok (.invokevirtual 131, 3) := by decide +kernel
theorem dX6_all_108 : decode cX6_all 108 = .ok (.ireturn, 1) := by decide +kernel
def fX6_all (sh : SH) (this : Nat) (v1 : Int32) (I : IH) : Option (Int32 × IH) :=
  if (fX6_isUnder v1 4) = 0 then (
    some ((-1), I)) else
  (gR sh 6 this 3).bind fun x1 =>
  (ck sh 5 x1).bind fun u2 =>
  b2 (fX5_settle sh x1 I) fun x3 i4 =>
  if v1 = 0 then (
    (gR sh 6 this 3).bind fun x5 =>
    (gR sh 5 x5 1).bind fun x6 =>
    (fX6_sum sh i4 x6).bind fun x7 =>
    some (x7, i4)) else
  if v1 = 1 then (
    (gR sh 6 this 3).bind fun x8 =>
    (gR sh 6 this 3).bind fun x9 =>
    (gR sh 5 x9 5).bind fun x10 =>
    (ck sh 5 x8).bind fun u11 =>
    (fX5_inAllPlaces sh i4 x8 x10).bind fun x12 =>
    some (x12, i4)) else
  if v1 = 2 then (
    (gR sh 6 this 3).bind fun x13 =>
    (gR sh 6 this 3).bind fun x14 =>
    (gR sh 5 x14 8).bind fun x15 =>
    (ck sh 5 x13).bind fun u16 =>
    (fX5_inAllPlaces sh i4 x13 x15).bind fun x17 =>
    some (x17, i4)) else
  (gR sh 6 this 3).bind fun x18 =>
  (gR sh 6 this 3).bind fun x19 =>
  (gR sh 5 x19 6).bind fun x20 =>
  (gR sh 6 this 0).bind fun x21 =>
  (gI sh i4 2 x21 0).bind fun x22 =>
  (ck sh 5 x18).bind fun u23 =>
  (fX5_inPlace sh i4 x18 x20 (x22 - 1)).bind fun x24 =>
  some (x24, i4)
set_option maxHeartbeats 4000000 in
set_option maxRecDepth 20000 in
theorem jbX6_all_0 (G : GT) {X : XT} {sh : SH} {L : LH} {n : Nat} {r : Int32} {I' : IH}  {this : Nat}  {v1 : Int32} {I : IH} (F : MF G X RX6 cX6_all 2 5 (some .int) "all") (h : fX6_all sh this v1 I = some (r, I')) : J G X (QE G X (some (.int r)) sh I' L n) 2 sh I L n 0 0 0 [(0, .ref this), (1, .int v1)] [] := by
  unfold fX6_all at h
  refine j_iload_n (pc := 0) (k0 := 1) F 1 rfl dX6_all_0 ?_
  refine j_iconst (pc := 1) F 4 dX6_all_1 (by decide) ?_
  refine j_callS1 (pc := 2) (As := [.int v1, .int 4]) (st := []) (e1 := 0) (es1 := 0) F clX6_61 cwX6_isUnder (ctX6_isUnder G) rfl rfl rfl rfl rfl rfl dX6_all_2 ?_
  refine j_if_ne (pc := 5) F 10 dX6_all_5 rfl (fun c => ?_) (fun c => ?_)
  · have h := iz_f c h
    refine j_aload_n (pc := 10) (k0 := 0) F 0 rfl dX6_all_10 ?_
    obtain ⟨x1, hx1, h⟩ := ob h
    refine j_getR (pc := 11) F flX6_35 hx1 dX6_all_11 ?_
    obtain ⟨u2, hu2, h⟩ := ob h
    have hou2 := ck_obt hu2
    obtain ⟨x3, i4, hx3, h⟩ := b2_obt h
    refine j_callV1 (pc := 14) (ci := 5) (As := []) (st := []) (e1 := 0) (es1 := 0) F clX6_103 cwX5_settle rfl hou2 (ctX5_settle G hou2 hx3) rfl rfl rfl rfl rfl rfl dX6_all_14 ?_
    refine j_pop (pc := 17) F dX6_all_17 rfl ?_
    refine j_iload_n (pc := 18) (k0 := 1) F 1 rfl dX6_all_18 ?_
    by_cases c1 : v1 = 0
    · have h := iz_t c1 h
      refine j_tabIn (pc := 19) (k0 := 0) F 44 c1 dX6_all_19 (by decide) rfl rfl ?_
      refine j_aload_n (pc := 44) (k0 := 0) F 0 rfl dX6_all_44 ?_
      obtain ⟨x5, hx5, h⟩ := ob h
      refine j_getR (pc := 45) F flX6_35 hx5 dX6_all_45 ?_
      obtain ⟨x6, hx6, h⟩ := ob h
      refine j_getR (pc := 48) F flX6_111 hx6 dX6_all_48 ?_
      obtain ⟨x7, hx7, h⟩ := ob h
      refine j_callS1 (pc := 51) (As := [.ref x6]) (st := []) (e1 := 0) (es1 := 0) F clX6_114 cwX6_sum (ctX6_sum G hx7) rfl rfl rfl rfl rfl rfl dX6_all_51 ?_
      have g1 := Option.some.inj h
      obtain ⟨q3, g2⟩ := Prod.mk.inj g1
      subst q3
      subst g2
      exact j_iret (pc := 54) F dX6_all_54
    have h := iz_f c1 h
    by_cases c2 : v1 = 1
    · have h := iz_t c2 h
      refine j_tabIn (pc := 19) (k0 := 1) F 55 c2 dX6_all_19 (by decide) rfl rfl ?_
      refine j_aload_n (pc := 55) (k0 := 0) F 0 rfl dX6_all_55 ?_
      obtain ⟨x8, hx8, h⟩ := ob h
      refine j_getR (pc := 56) F flX6_35 hx8 dX6_all_56 ?_
      refine j_aload_n (pc := 59) (k0 := 0) F 0 rfl dX6_all_59 ?_
      obtain ⟨x9, hx9, h⟩ := ob h
      refine j_getR (pc := 60) F flX6_35 hx9 dX6_all_60 ?_
      obtain ⟨x10, hx10, h⟩ := ob h
      refine j_getR (pc := 63) F flX6_118 hx10 dX6_all_63 ?_
      obtain ⟨u11, hu11, h⟩ := ob h
      have hou11 := ck_obt hu11
      obtain ⟨x12, hx12, h⟩ := ob h
      refine j_callV1 (pc := 66) (ci := 5) (As := [.ref x10]) (st := []) (e1 := 0) (es1 := 0) F clX6_121 cwX5_inAllPlaces rfl hou11 (ctX5_inAllPlaces G hou11 hx12) rfl rfl rfl rfl rfl rfl dX6_all_66 ?_
      have g1 := Option.some.inj h
      obtain ⟨q3, g2⟩ := Prod.mk.inj g1
      subst q3
      subst g2
      exact j_iret (pc := 69) F dX6_all_69
    have h := iz_f c2 h
    by_cases c3 : v1 = 2
    · have h := iz_t c3 h
      refine j_tabIn (pc := 19) (k0 := 2) F 70 c3 dX6_all_19 (by decide) rfl rfl ?_
      refine j_aload_n (pc := 70) (k0 := 0) F 0 rfl dX6_all_70 ?_
      obtain ⟨x13, hx13, h⟩ := ob h
      refine j_getR (pc := 71) F flX6_35 hx13 dX6_all_71 ?_
      refine j_aload_n (pc := 74) (k0 := 0) F 0 rfl dX6_all_74 ?_
      obtain ⟨x14, hx14, h⟩ := ob h
      refine j_getR (pc := 75) F flX6_35 hx14 dX6_all_75 ?_
      obtain ⟨x15, hx15, h⟩ := ob h
      refine j_getR (pc := 78) F flX6_125 hx15 dX6_all_78 ?_
      obtain ⟨u16, hu16, h⟩ := ob h
      have hou16 := ck_obt hu16
      obtain ⟨x17, hx17, h⟩ := ob h
      refine j_callV1 (pc := 81) (ci := 5) (As := [.ref x15]) (st := []) (e1 := 0) (es1 := 0) F clX6_121 cwX5_inAllPlaces rfl hou16 (ctX5_inAllPlaces G hou16 hx17) rfl rfl rfl rfl rfl rfl dX6_all_81 ?_
      have g1 := Option.some.inj h
      obtain ⟨q3, g2⟩ := Prod.mk.inj g1
      subst q3
      subst g2
      exact j_iret (pc := 84) F dX6_all_84
    have h := iz_f c3 h
    have tc1 := lv_neT (a := 0) c1 (by decide)
    have tc2 := lv_neT (a := 1) c2 (by decide)
    have tc3 := lv_neT (a := 2) c3 (by decide)
    refine j_tabOut (pc := 19) F 85 dX6_all_19 (by omega) rfl ?_
    refine j_aload_n (pc := 85) (k0 := 0) F 0 rfl dX6_all_85 ?_
    obtain ⟨x18, hx18, h⟩ := ob h
    refine j_getR (pc := 86) F flX6_35 hx18 dX6_all_86 ?_
    refine j_aload_n (pc := 89) (k0 := 0) F 0 rfl dX6_all_89 ?_
    obtain ⟨x19, hx19, h⟩ := ob h
    refine j_getR (pc := 90) F flX6_35 hx19 dX6_all_90 ?_
    obtain ⟨x20, hx20, h⟩ := ob h
    refine j_getR (pc := 93) F flX6_128 hx20 dX6_all_93 ?_
    refine j_aload_n (pc := 96) (k0 := 0) F 0 rfl dX6_all_96 ?_
    obtain ⟨x21, hx21, h⟩ := ob h
    refine j_getR (pc := 97) F flX6_19 hx21 dX6_all_97 ?_
    obtain ⟨x22, hx22, h⟩ := ob h
    refine j_getI (pc := 100) F flX6_57 hx22 dX6_all_100 ?_
    refine j_iconst (pc := 103) F 1 dX6_all_103 (by decide) ?_
    refine j_isub (pc := 104) F dX6_all_104 ?_
    obtain ⟨u23, hu23, h⟩ := ob h
    have hou23 := ck_obt hu23
    obtain ⟨x24, hx24, h⟩ := ob h
    refine j_callV1 (pc := 105) (ci := 5) (As := [.ref x20, .int (x22 - 1)]) (st := []) (e1 := 0) (es1 := 0) F clX6_131 cwX5_inPlace rfl hou23 (ctX5_inPlace G hx24) rfl rfl rfl rfl rfl rfl dX6_all_105 ?_
    have g1 := Option.some.inj h
    obtain ⟨q3, g2⟩ := Prod.mk.inj g1
    subst q3
    subst g2
    exact j_iret (pc := 108) F dX6_all_108
  · have h := iz_t c h
    refine j_iconst (pc := 8) F (-1) dX6_all_8 (by decide) ?_
    have g1 := Option.some.inj h
    obtain ⟨q3, g2⟩ := Prod.mk.inj g1
    subst q3
    subst g2
    exact j_iret (pc := 9) F dX6_all_9
theorem ctX6_all (G : GT) {sh : SH} {I : IH} {L : LH} {n : Nat} {this : Nat} {v1 : Int32} {r : Int32} {I' : IH}  (h : fX6_all sh this v1 I = some (r, I')) : Ct G yX6_all cX6_all 2 (some .int) 5 [.ref this, .int v1] sh I L n (some (.int r)) sh I' L n 0 0 := by
  refine ct_of (y := yX6_all) (by decide +kernel) rfl (fun X F => ?_)
  exact jbX6_all_0 G F h
theorem dX6_want_0 : decode cX6_want 0 = .ok (.iload_n 1, 1) := by decide +kernel
theorem dX6_want_1 : decode cX6_want 1 = .ok (.iconst 5, 1) := by decide +kernel
theorem dX6_want_2 : decode cX6_want 2 = .ok (.invokestatic 61, 3) := by decide +kernel
theorem dX6_want_5 : decode cX6_want 5 = .ok (.ifCond .eq 12, 3) := by decide +kernel
theorem dX6_want_8 : decode cX6_want 8 = .ok (.iload_n 2, 1) := by decide +kernel
theorem dX6_want_9 : decode cX6_want 9 = .ok (.bipush 48, 2) := by decide +kernel
theorem dX6_want_11 : decode cX6_want 11 = .ok (.invokestatic 61, 3) := by decide +kernel
theorem dX6_want_14 : decode cX6_want 14 = .ok (.ifCond .ne 5, 3) := by decide +kernel
theorem dX6_want_17 : decode cX6_want 17 = .ok (.iconst (-1), 1) := by decide +kernel
theorem dX6_want_18 : decode cX6_want 18 = .ok (.ireturn, 1) := by decide +kernel
theorem dX6_want_19 : decode cX6_want 19 = .ok (.iload_n 3, 1) := by decide +kernel
theorem dX6_want_20 : decode cX6_want 20 = .ok (.iconst 1, 1) := by decide +kernel
theorem dX6_want_21 : decode cX6_want 21 = .ok (.if_icmp .lt 22, 3) := by decide +kernel
theorem dX6_want_24 : decode cX6_want 24 = .ok (.iload_n 3, 1) := by decide +kernel
theorem dX6_want_25 : decode cX6_want 25 = .ok (.bipush 30, 2) := by decide +kernel
theorem dX6_want_27 : decode cX6_want 27 = .ok (.if_icmp .gt 16, 3) := by decide +kernel
theorem dX6_want_30 : decode cX6_want 30 = .ok (.iload 4, 2) := by decide +kernel
theorem dX6_want_32 : decode cX6_want 32 = .ok (.iconst 1, 1) := by decide +kernel
theorem dX6_want_33 : decode cX6_want 33 = .ok (.if_icmp .lt 10, 3) := by decide +kernel
theorem dX6_want_36 : decode cX6_want 36 = .ok (.iload 4, 2) := by decide +kernel
theorem dX6_want_38 : decode cX6_want 38 = .ok (.bipush 9, 2) := by decide +kernel
theorem dX6_want_40 : decode cX6_want 40 = .ok (.if_icmp .le 6, 3) := by decide +kernel
theorem dX6_want_43 : decode cX6_want 43 = .ok (.bipush (-2), 2) := by decide +kernel
theorem dX6_want_45 : decode cX6_want 45 = .ok (.ireturn, 1) := by decide +kernel
theorem dX6_want_46 : decode cX6_want 46 = .ok (.aload_n 0, 1) := by decide +kernel
theorem dX6_want_47 : decode cX6_want 47 = .ok (.getfield 19, 3) := by decide +kernel
theorem dX6_want_50 : decode cX6_want 50 = .ok (.getfield 135, 3) := by decide +kernel
theorem dX6_want_53 : decode cX6_want 53 = .ok (.bipush 10, 2) := by decide +kernel
theorem dX6_want_55 : decode cX6_want 55 = .ok (.if_icmp .lt 6, 3) := by decide +kernel
theorem dX6_want_58 : decode cX6_want 58 = .ok (.bipush (-4), 2) := by decide +kernel
theorem dX6_want_60 : decode cX6_want 60 = .ok (.ireturn, 1) := by decide +kernel
theorem dX6_want_61 : decode cX6_want 61 = .ok (.aload_n 0, 1) := by decide +kernel
theorem dX6_want_62 : decode cX6_want 62 = .ok (.getfield 19, 3) := by decide +kernel
theorem dX6_want_65 : decode cX6_want 65 = .ok (.getfield 138, 3) := by decide +kernel
theorem dX6_want_68 : decode cX6_want 68 = .ok (.aload_n 0, 1) := by decide +kernel
theorem dX6_want_69 : decode cX6_want 69 = .ok (.getfield 19, 3) := by decide +kernel
theorem dX6_want_72 : decode cX6_want 72 = .ok (.getfield 135, 3) := by decide +kernel
theorem dX6_want_75 : decode cX6_want 75 = .ok (.aaload, 1) := by decide +kernel
theorem dX6_want_76 : decode cX6_want 76 = .ok (.astore 5, 2) := by decide +kernel
theorem dX6_want_78 : decode cX6_want 78 = .ok (.aload 5, 2) := by decide +kernel
theorem dX6_want_80 : decode cX6_want 80 = .ok (.iconst 0, 1) := by decide +kernel
theorem dX6_want_81 : decode cX6_want 81 = .ok (.iload_n 1, 1) := by decide +kernel
theorem dX6_want_82 : decode cX6_want 82 = .ok (.iastore, 1) := by decide +kernel
theorem dX6_want_83 : decode cX6_want 83 = .ok (.aload 5, 2) := by decide +kernel
theorem dX6_want_85 : decode cX6_want 85 = .ok (.iconst 1, 1) := by decide +kernel
theorem dX6_want_86 : decode cX6_want 86 = .ok (.iload_n 2, 1) := by decide +kernel
theorem dX6_want_87 : decode cX6_want 87 = .ok (.iastore, 1) := by decide +kernel
theorem dX6_want_88 : decode cX6_want 88 = .ok (.aload 5, 2) := by decide +kernel
theorem dX6_want_90 : decode cX6_want 90 = .ok (.iconst 2, 1) := by decide +kernel
theorem dX6_want_91 : decode cX6_want 91 = .ok (.iload_n 3, 1) := by decide +kernel
theorem dX6_want_92 : decode cX6_want 92 = .ok (.iastore, 1) := by decide +kernel
theorem dX6_want_93 : decode cX6_want 93 = .ok (.aload 5, 2) := by decide +kernel
theorem dX6_want_95 : decode cX6_want 95 = .ok (.iconst 3, 1) := by decide +kernel
theorem dX6_want_96 : decode cX6_want 96 = .ok (.iload 4, 2) := by decide +kernel
theorem dX6_want_98 : decode cX6_want 98 = .ok (.iastore, 1) := by decide +kernel
theorem dX6_want_99 : decode cX6_want 99 = .ok (.aload_n 0, 1) := by decide +kernel
theorem dX6_want_100 : decode cX6_want 100 = .ok (.getfield 19, 3) := by decide +kernel
theorem dX6_want_103 : decode cX6_want 103 = .ok (.dup, 1) := by decide +kernel
theorem dX6_want_104 : decode cX6_want 104 = .ok (.getfield 135, 3) := by decide +kernel
theorem dX6_want_107 : decode cX6_want 107 = .ok (.iconst 1, 1) := by decide +kernel
theorem dX6_want_108 : decode cX6_want 108 = .ok (.iadd, 1) := by decide +kernel
theorem dX6_want_109 : decode cX6_want 109 = .ok (.putfield 135, 3) := by decide +kernel
theorem dX6_want_112 : decode cX6_want 112 = .ok (.aload_n 0, 1) := by decide +kernel
theorem dX6_want_113 : decode cX6_want 113 = .ok (.getfield 19, 3) := by decide +kernel
theorem dX6_want_116 : decode cX6_want 116 = .ok (.getfield 135, 3) := by decide +kernel
theorem dX6_want_119 : decode cX6_want 119 = .ok (.iconst 1, 1) := by decide +kernel
theorem dX6_want_120 : decode cX6_want 120 = .ok (.isub, 1) := by decide +kernel
theorem dX6_want_121 : decode cX6_want 121 = .ok (.ireturn, 1) := by decide +kernel
def fX6_want (sh : SH) (this : Nat) (v1 : Int32) (v2 : Int32) (v3 : Int32) (v4 : Int32) (I : IH) : Option (Int32 × IH) :=
  if (fX6_isUnder v1 5) = 0 then (
    some ((-1), I)) else
  if (fX6_isUnder v2 48) = 0 then (
    some ((-1), I)) else
  if v3 < 1 then (
    some ((-2), I)) else
  if 30 < v3 then (
    some ((-2), I)) else
  if v4 < 1 then (
    some ((-2), I)) else
  if v4 ≤ 9 then (
    (gR sh 6 this 0).bind fun x1 =>
    (gI sh I 2 x1 5).bind fun x2 =>
    if x2 < 10 then (
      (gR sh 6 this 0).bind fun x3 =>
      (gR sh 2 x3 4).bind fun x4 =>
      (gR sh 6 this 0).bind fun x5 =>
      (gI sh I 2 x5 5).bind fun x6 =>
      (aR sh 4 x4 x6).bind fun x7 =>
      (sI sh I x7 0 v1).bind fun i8 =>
      (sI sh i8 x7 1 v2).bind fun i9 =>
      (sI sh i9 x7 2 v3).bind fun i10 =>
      (sI sh i10 x7 3 v4).bind fun i11 =>
      (gR sh 6 this 0).bind fun x12 =>
      (gI sh i11 2 x12 5).bind fun x13 =>
      (pI sh i11 2 x12 5 (x13 + 1)).bind fun i14 =>
      (gR sh 6 this 0).bind fun x15 =>
      (gI sh i14 2 x15 5).bind fun x16 =>
      some ((x16 - 1), i14)) else
    some ((-4), I)) else
  some ((-2), I)
set_option maxHeartbeats 4000000 in
set_option maxRecDepth 20000 in
theorem jbX6_want_0 (G : GT) {X : XT} {sh : SH} {L : LH} {n : Nat} {r : Int32} {I' : IH}  {this : Nat}  {v1 : Int32} {v2 : Int32} {v3 : Int32} {v4 : Int32} {I : IH} (F : MF G X RX6 cX6_want 6 1 (some .int) "want") (h : fX6_want sh this v1 v2 v3 v4 I = some (r, I')) : J G X (QE G X (some (.int r)) sh I' L n) 6 sh I L n 0 0 0 [(0, .ref this), (1, .int v1), (2, .int v2), (3, .int v3), (4, .int v4)] [] := by
  unfold fX6_want at h
  refine j_iload_n (pc := 0) (k0 := 1) F 1 rfl dX6_want_0 ?_
  refine j_iconst (pc := 1) F 5 dX6_want_1 (by decide) ?_
  refine j_callS1 (pc := 2) (As := [.int v1, .int 5]) (st := []) (e1 := 0) (es1 := 0) F clX6_61 cwX6_isUnder (ctX6_isUnder G) rfl rfl rfl rfl rfl rfl dX6_want_2 ?_
  refine j_if_eq (pc := 5) F 17 dX6_want_5 rfl (fun c => ?_) (fun c => ?_)
  · have h := iz_t c h
    refine j_iconst (pc := 17) F (-1) dX6_want_17 (by decide) ?_
    have g1 := Option.some.inj h
    obtain ⟨q3, g2⟩ := Prod.mk.inj g1
    subst q3
    subst g2
    exact j_iret (pc := 18) F dX6_want_18
  · have h := iz_f c h
    refine j_iload_n (pc := 8) (k0 := 2) F 2 rfl dX6_want_8 ?_
    refine j_bipush (pc := 9) F 48 dX6_want_9 (by decide) ?_
    refine j_callS1 (pc := 11) (As := [.int v2, .int 48]) (st := []) (e1 := 0) (es1 := 0) F clX6_61 cwX6_isUnder (ctX6_isUnder G) rfl rfl rfl rfl rfl rfl dX6_want_11 ?_
    refine j_if_ne (pc := 14) F 19 dX6_want_14 rfl (fun c => ?_) (fun c => ?_)
    · have h := iz_f c h
      refine j_iload_n (pc := 19) (k0 := 3) F 3 rfl dX6_want_19 ?_
      refine j_iconst (pc := 20) F 1 dX6_want_20 (by decide) ?_
      refine j_icmp_lt (pc := 21) F 43 dX6_want_21 rfl (fun c => ?_) (fun c => ?_)
      · have h := iz_t c h
        refine j_bipush (pc := 43) F (-2) dX6_want_43 (by decide) ?_
        have g1 := Option.some.inj h
        obtain ⟨q3, g2⟩ := Prod.mk.inj g1
        subst q3
        subst g2
        exact j_iret (pc := 45) F dX6_want_45
      · have h := iz_f c h
        refine j_iload_n (pc := 24) (k0 := 3) F 3 rfl dX6_want_24 ?_
        refine j_bipush (pc := 25) F 30 dX6_want_25 (by decide) ?_
        refine j_icmp_gt (pc := 27) F 43 dX6_want_27 rfl (fun c => ?_) (fun c => ?_)
        · have h := iz_t c h
          refine j_bipush (pc := 43) F (-2) dX6_want_43 (by decide) ?_
          have g1 := Option.some.inj h
          obtain ⟨q3, g2⟩ := Prod.mk.inj g1
          subst q3
          subst g2
          exact j_iret (pc := 45) F dX6_want_45
        · have h := iz_f c h
          refine j_iload (pc := 30) (k0 := 4) F 4 rfl dX6_want_30 ?_
          refine j_iconst (pc := 32) F 1 dX6_want_32 (by decide) ?_
          refine j_icmp_lt (pc := 33) F 43 dX6_want_33 rfl (fun c => ?_) (fun c => ?_)
          · have h := iz_t c h
            refine j_bipush (pc := 43) F (-2) dX6_want_43 (by decide) ?_
            have g1 := Option.some.inj h
            obtain ⟨q3, g2⟩ := Prod.mk.inj g1
            subst q3
            subst g2
            exact j_iret (pc := 45) F dX6_want_45
          · have h := iz_f c h
            refine j_iload (pc := 36) (k0 := 4) F 4 rfl dX6_want_36 ?_
            refine j_bipush (pc := 38) F 9 dX6_want_38 (by decide) ?_
            refine j_icmp_le (pc := 40) F 46 dX6_want_40 rfl (fun c => ?_) (fun c => ?_)
            · have h := iz_t c h
              refine j_aload_n (pc := 46) (k0 := 0) F 0 rfl dX6_want_46 ?_
              obtain ⟨x1, hx1, h⟩ := ob h
              refine j_getR (pc := 47) F flX6_19 hx1 dX6_want_47 ?_
              obtain ⟨x2, hx2, h⟩ := ob h
              refine j_getI (pc := 50) F flX6_135 hx2 dX6_want_50 ?_
              refine j_bipush (pc := 53) F 10 dX6_want_53 (by decide) ?_
              refine j_icmp_lt (pc := 55) F 61 dX6_want_55 rfl (fun c => ?_) (fun c => ?_)
              · have h := iz_t c h
                refine j_aload_n (pc := 61) (k0 := 0) F 0 rfl dX6_want_61 ?_
                obtain ⟨x3, hx3, h⟩ := ob h
                refine j_getR (pc := 62) F flX6_19 hx3 dX6_want_62 ?_
                obtain ⟨x4, hx4, h⟩ := ob h
                refine j_getR (pc := 65) F flX6_138 hx4 dX6_want_65 ?_
                refine j_aload_n (pc := 68) (k0 := 0) F 0 rfl dX6_want_68 ?_
                obtain ⟨x5, hx5, h⟩ := ob h
                refine j_getR (pc := 69) F flX6_19 hx5 dX6_want_69 ?_
                obtain ⟨x6, hx6, h⟩ := ob h
                refine j_getI (pc := 72) F flX6_135 hx6 dX6_want_72 ?_
                obtain ⟨x7, hx7, h⟩ := ob h
                refine j_aald (pc := 75) F (Or.inr rfl) hx7 dX6_want_75 ?_
                refine j_astore (pc := 76) (k1 := 5) (ls' := [(5, .ref x7), (0, .ref this), (1, .int v1), (2, .int v2), (3, .int v3), (4, .int v4)]) F rfl rfl dX6_want_76 ?_
                refine j_aload (pc := 78) (k0 := 5) F 0 rfl dX6_want_78 ?_
                refine j_iconst (pc := 80) F 0 dX6_want_80 (by decide) ?_
                refine j_iload_n (pc := 81) (k0 := 1) F 2 rfl dX6_want_81 ?_
                obtain ⟨i8, hi8, h⟩ := ob h
                refine j_iast (pc := 82) F hi8 dX6_want_82 ?_
                refine j_aload (pc := 83) (k0 := 5) F 0 rfl dX6_want_83 ?_
                refine j_iconst (pc := 85) F 1 dX6_want_85 (by decide) ?_
                refine j_iload_n (pc := 86) (k0 := 2) F 3 rfl dX6_want_86 ?_
                obtain ⟨i9, hi9, h⟩ := ob h
                refine j_iast (pc := 87) F hi9 dX6_want_87 ?_
                refine j_aload (pc := 88) (k0 := 5) F 0 rfl dX6_want_88 ?_
                refine j_iconst (pc := 90) F 2 dX6_want_90 (by decide) ?_
                refine j_iload_n (pc := 91) (k0 := 3) F 4 rfl dX6_want_91 ?_
                obtain ⟨i10, hi10, h⟩ := ob h
                refine j_iast (pc := 92) F hi10 dX6_want_92 ?_
                refine j_aload (pc := 93) (k0 := 5) F 0 rfl dX6_want_93 ?_
                refine j_iconst (pc := 95) F 3 dX6_want_95 (by decide) ?_
                refine j_iload (pc := 96) (k0 := 4) F 5 rfl dX6_want_96 ?_
                obtain ⟨i11, hi11, h⟩ := ob h
                refine j_iast (pc := 98) F hi11 dX6_want_98 ?_
                refine j_aload_n (pc := 99) (k0 := 0) F 1 rfl dX6_want_99 ?_
                obtain ⟨x12, hx12, h⟩ := ob h
                refine j_getR (pc := 100) F flX6_19 hx12 dX6_want_100 ?_
                refine j_dup (pc := 103) F dX6_want_103 rfl ?_
                obtain ⟨x13, hx13, h⟩ := ob h
                refine j_getI (pc := 104) F flX6_135 hx13 dX6_want_104 ?_
                refine j_iconst (pc := 107) F 1 dX6_want_107 (by decide) ?_
                refine j_iadd (pc := 108) F dX6_want_108 ?_
                obtain ⟨i14, hi14, h⟩ := ob h
                refine j_putI (pc := 109) F flX6_135 fp2_5 (fun z => by cases z) hi14 dX6_want_109 ?_
                refine j_aload_n (pc := 112) (k0 := 0) F 1 rfl dX6_want_112 ?_
                obtain ⟨x15, hx15, h⟩ := ob h
                refine j_getR (pc := 113) F flX6_19 hx15 dX6_want_113 ?_
                obtain ⟨x16, hx16, h⟩ := ob h
                refine j_getI (pc := 116) F flX6_135 hx16 dX6_want_116 ?_
                refine j_iconst (pc := 119) F 1 dX6_want_119 (by decide) ?_
                refine j_isub (pc := 120) F dX6_want_120 ?_
                have g1 := Option.some.inj h
                obtain ⟨q3, g2⟩ := Prod.mk.inj g1
                subst q3
                subst g2
                exact j_iret (pc := 121) F dX6_want_121
              · have h := iz_f c h
                refine j_bipush (pc := 58) F (-4) dX6_want_58 (by decide) ?_
                have g1 := Option.some.inj h
                obtain ⟨q3, g2⟩ := Prod.mk.inj g1
                subst q3
                subst g2
                exact j_iret (pc := 60) F dX6_want_60
            · have h := iz_f c h
              refine j_bipush (pc := 43) F (-2) dX6_want_43 (by decide) ?_
              have g1 := Option.some.inj h
              obtain ⟨q3, g2⟩ := Prod.mk.inj g1
              subst q3
              subst g2
              exact j_iret (pc := 45) F dX6_want_45
    · have h := iz_t c h
      refine j_iconst (pc := 17) F (-1) dX6_want_17 (by decide) ?_
      have g1 := Option.some.inj h
      obtain ⟨q3, g2⟩ := Prod.mk.inj g1
      subst q3
      subst g2
      exact j_iret (pc := 18) F dX6_want_18
theorem ctX6_want (G : GT) {sh : SH} {I : IH} {L : LH} {n : Nat} {this : Nat} {v1 : Int32} {v2 : Int32} {v3 : Int32} {v4 : Int32} {r : Int32} {I' : IH}  (h : fX6_want sh this v1 v2 v3 v4 I = some (r, I')) : Ct G yX6_want cX6_want 6 (some .int) 1 [.ref this, .int v1, .int v2, .int v3, .int v4] sh I L n (some (.int r)) sh I' L n 0 0 := by
  refine ct_of (y := yX6_want) (by decide +kernel) rfl (fun X F => ?_)
  exact jbX6_want_0 G F h
theorem dX6_wants_0 : decode cX6_wants 0 = .ok (.aload_n 0, 1) := by decide +kernel
theorem dX6_wants_1 : decode cX6_wants 1 = .ok (.getfield 19, 3) := by decide +kernel
theorem dX6_wants_4 : decode cX6_wants 4 = .ok (.iload_n 1, 1) := by decide +kernel
theorem dX6_wants_5 : decode cX6_wants 5 = .ok (.invokevirtual 141, 3) := by decide +kernel
theorem dX6_wants_8 : decode cX6_wants 8 = .ok (.ifCond .eq 11, 3) := by decide +kernel
theorem dX6_wants_11 : decode cX6_wants 11 = .ok (.iload_n 2, 1) := by decide +kernel
theorem dX6_wants_12 : decode cX6_wants 12 = .ok (.iconst 5, 1) := by decide +kernel
theorem dX6_wants_13 : decode cX6_wants 13 = .ok (.invokestatic 61, 3) := by decide +kernel
theorem dX6_wants_16 : decode cX6_wants 16 = .ok (.ifCond .ne 5, 3) := by decide +kernel
theorem dX6_wants_19 : decode cX6_wants 19 = .ok (.iconst (-1), 1) := by decide +kernel
theorem dX6_wants_20 : decode cX6_wants 20 = .ok (.ireturn, 1) := by decide +kernel
theorem dX6_wants_21 : decode cX6_wants 21 = .ok (.iload_n 2, 1) := by decide +kernel
theorem dX6_wants_22 : decode cX6_wants 22 = .ok (.iconst 4, 1) := by decide +kernel
theorem dX6_wants_23 : decode cX6_wants 23 = .ok (.if_icmp .ge 15, 3) := by decide +kernel
theorem dX6_wants_26 : decode cX6_wants 26 = .ok (.aload_n 0, 1) := by decide +kernel
theorem dX6_wants_27 : decode cX6_wants 27 = .ok (.getfield 19, 3) := by decide +kernel
theorem dX6_wants_30 : decode cX6_wants 30 = .ok (.getfield 138, 3) := by decide +kernel
theorem dX6_wants_33 : decode cX6_wants 33 = .ok (.iload_n 1, 1) := by decide +kernel
theorem dX6_wants_34 : decode cX6_wants 34 = .ok (.aaload, 1) := by decide +kernel
theorem dX6_wants_35 : decode cX6_wants 35 = .ok (.iload_n 2, 1) := by decide +kernel
theorem dX6_wants_36 : decode cX6_wants 36 = .ok (.iaload, 1) := by decide +kernel
theorem dX6_wants_37 : decode cX6_wants 37 = .ok (.ireturn, 1) := by decide +kernel
theorem dX6_wants_38 : decode cX6_wants 38 = .ok (.aload_n 0, 1) := by decide +kernel
theorem dX6_wants_39 : decode cX6_wants 39 = .ok (.getfield 35, 3) := by decide +kernel
theorem dX6_wants_42 : decode cX6_wants 42 = .ok (.invokevirtual 103, 3) := by decide +kernel
theorem dX6_wants_45 : decode cX6_wants 45 = .ok (.pop, 1) := by decide +kernel
theorem dX6_wants_46 : decode cX6_wants 46 = .ok (.aload_n 0, 1) := by decide +kernel
theorem dX6_wants_47 : decode cX6_wants 47 = .ok (.getfield 35, 3) := by decide +kernel
theorem dX6_wants_50 : decode cX6_wants 50 = .ok (.getfield 144, 3) := by decide +kernel
theorem dX6_wants_53 : decode cX6_wants 53 = .ok (.iload_n 1, 1) := by decide +kernel
theorem dX6_wants_54 : decode cX6_wants 54 = .ok (.iaload, 1) := by decide +kernel
theorem dX6_wants_55 : decode cX6_wants 55 = .ok (.ireturn, 1) := by decide +kernel
def fX6_wants (sh : SH) (this : Nat) (v1 : Int32) (v2 : Int32) (I : IH) : Option (Int32 × IH) :=
  (gR sh 6 this 0).bind fun x1 =>
  (ck sh 2 x1).bind fun u2 =>
  (fX2_isWant sh I x1 v1).bind fun x3 =>
  if x3 = 0 then (
    some ((-1), I)) else
  if (fX6_isUnder v2 5) = 0 then (
    some ((-1), I)) else
  if 4 ≤ v2 then (
    (gR sh 6 this 3).bind fun x4 =>
    (ck sh 5 x4).bind fun u5 =>
    b2 (fX5_settle sh x4 I) fun x6 i7 =>
    (gR sh 6 this 3).bind fun x8 =>
    (gR sh 5 x8 9).bind fun x9 =>
    (aI sh i7 0 x9 v1).bind fun x10 =>
    some (x10, i7)) else
  (gR sh 6 this 0).bind fun x11 =>
  (gR sh 2 x11 4).bind fun x12 =>
  (aR sh 4 x12 v1).bind fun x13 =>
  (aI sh I 0 x13 v2).bind fun x14 =>
  some (x14, I)
set_option maxHeartbeats 4000000 in
set_option maxRecDepth 20000 in
theorem jbX6_wants_0 (G : GT) {X : XT} {sh : SH} {L : LH} {n : Nat} {r : Int32} {I' : IH}  {this : Nat}  {v1 : Int32} {v2 : Int32} {I : IH} (F : MF G X RX6 cX6_wants 3 5 (some .int) "wants") (h : fX6_wants sh this v1 v2 I = some (r, I')) : J G X (QE G X (some (.int r)) sh I' L n) 3 sh I L n 0 0 0 [(0, .ref this), (1, .int v1), (2, .int v2)] [] := by
  unfold fX6_wants at h
  refine j_aload_n (pc := 0) (k0 := 0) F 0 rfl dX6_wants_0 ?_
  obtain ⟨x1, hx1, h⟩ := ob h
  refine j_getR (pc := 1) F flX6_19 hx1 dX6_wants_1 ?_
  refine j_iload_n (pc := 4) (k0 := 1) F 1 rfl dX6_wants_4 ?_
  obtain ⟨u2, hu2, h⟩ := ob h
  have hou2 := ck_obt hu2
  obtain ⟨x3, hx3, h⟩ := ob h
  refine j_callV1 (pc := 5) (ci := 2) (As := [.int v1]) (st := []) (e1 := 0) (es1 := 0) F clX6_141 cwX2_isWant rfl hou2 (ctX2_isWant G hx3) rfl rfl rfl rfl rfl rfl dX6_wants_5 ?_
  refine j_if_eq (pc := 8) F 19 dX6_wants_8 rfl (fun c => ?_) (fun c => ?_)
  · have h := iz_t c h
    refine j_iconst (pc := 19) F (-1) dX6_wants_19 (by decide) ?_
    have g1 := Option.some.inj h
    obtain ⟨q3, g2⟩ := Prod.mk.inj g1
    subst q3
    subst g2
    exact j_iret (pc := 20) F dX6_wants_20
  · have h := iz_f c h
    refine j_iload_n (pc := 11) (k0 := 2) F 2 rfl dX6_wants_11 ?_
    refine j_iconst (pc := 12) F 5 dX6_wants_12 (by decide) ?_
    refine j_callS1 (pc := 13) (As := [.int v2, .int 5]) (st := []) (e1 := 0) (es1 := 0) F clX6_61 cwX6_isUnder (ctX6_isUnder G) rfl rfl rfl rfl rfl rfl dX6_wants_13 ?_
    refine j_if_ne (pc := 16) F 21 dX6_wants_16 rfl (fun c => ?_) (fun c => ?_)
    · have h := iz_f c h
      refine j_iload_n (pc := 21) (k0 := 2) F 2 rfl dX6_wants_21 ?_
      refine j_iconst (pc := 22) F 4 dX6_wants_22 (by decide) ?_
      refine j_icmp_ge (pc := 23) F 38 dX6_wants_23 rfl (fun c => ?_) (fun c => ?_)
      · have h := iz_t c h
        refine j_aload_n (pc := 38) (k0 := 0) F 0 rfl dX6_wants_38 ?_
        obtain ⟨x4, hx4, h⟩ := ob h
        refine j_getR (pc := 39) F flX6_35 hx4 dX6_wants_39 ?_
        obtain ⟨u5, hu5, h⟩ := ob h
        have hou5 := ck_obt hu5
        obtain ⟨x6, i7, hx6, h⟩ := b2_obt h
        refine j_callV1 (pc := 42) (ci := 5) (As := []) (st := []) (e1 := 0) (es1 := 0) F clX6_103 cwX5_settle rfl hou5 (ctX5_settle G hou5 hx6) rfl rfl rfl rfl rfl rfl dX6_wants_42 ?_
        refine j_pop (pc := 45) F dX6_wants_45 rfl ?_
        refine j_aload_n (pc := 46) (k0 := 0) F 0 rfl dX6_wants_46 ?_
        obtain ⟨x8, hx8, h⟩ := ob h
        refine j_getR (pc := 47) F flX6_35 hx8 dX6_wants_47 ?_
        obtain ⟨x9, hx9, h⟩ := ob h
        refine j_getR (pc := 50) F flX6_144 hx9 dX6_wants_50 ?_
        refine j_iload_n (pc := 53) (k0 := 1) F 1 rfl dX6_wants_53 ?_
        obtain ⟨x10, hx10, h⟩ := ob h
        refine j_iald (pc := 54) F hx10 dX6_wants_54 ?_
        have g1 := Option.some.inj h
        obtain ⟨q3, g2⟩ := Prod.mk.inj g1
        subst q3
        subst g2
        exact j_iret (pc := 55) F dX6_wants_55
      · have h := iz_f c h
        refine j_aload_n (pc := 26) (k0 := 0) F 0 rfl dX6_wants_26 ?_
        obtain ⟨x11, hx11, h⟩ := ob h
        refine j_getR (pc := 27) F flX6_19 hx11 dX6_wants_27 ?_
        obtain ⟨x12, hx12, h⟩ := ob h
        refine j_getR (pc := 30) F flX6_138 hx12 dX6_wants_30 ?_
        refine j_iload_n (pc := 33) (k0 := 1) F 1 rfl dX6_wants_33 ?_
        obtain ⟨x13, hx13, h⟩ := ob h
        refine j_aald (pc := 34) F (Or.inr rfl) hx13 dX6_wants_34 ?_
        refine j_iload_n (pc := 35) (k0 := 2) F 2 rfl dX6_wants_35 ?_
        obtain ⟨x14, hx14, h⟩ := ob h
        refine j_iald (pc := 36) F hx14 dX6_wants_36 ?_
        have g1 := Option.some.inj h
        obtain ⟨q3, g2⟩ := Prod.mk.inj g1
        subst q3
        subst g2
        exact j_iret (pc := 37) F dX6_wants_37
    · have h := iz_t c h
      refine j_iconst (pc := 19) F (-1) dX6_wants_19 (by decide) ?_
      have g1 := Option.some.inj h
      obtain ⟨q3, g2⟩ := Prod.mk.inj g1
      subst q3
      subst g2
      exact j_iret (pc := 20) F dX6_wants_20
theorem ctX6_wants (G : GT) {sh : SH} {I : IH} {L : LH} {n : Nat} {this : Nat} {v1 : Int32} {v2 : Int32} {r : Int32} {I' : IH}  (h : fX6_wants sh this v1 v2 I = some (r, I')) : Ct G yX6_wants cX6_wants 3 (some .int) 5 [.ref this, .int v1, .int v2] sh I L n (some (.int r)) sh I' L n 0 0 := by
  refine ct_of (y := yX6_wants) (by decide +kernel) rfl (fun X F => ?_)
  exact jbX6_wants_0 G F h
theorem dX6_worth_0 : decode cX6_worth 0 = .ok (.aload_n 0, 1) := by decide +kernel
theorem dX6_worth_1 : decode cX6_worth 1 = .ok (.getfield 35, 3) := by decide +kernel
theorem dX6_worth_4 : decode cX6_worth 4 = .ok (.invokevirtual 103, 3) := by decide +kernel
theorem dX6_worth_7 : decode cX6_worth 7 = .ok (.ireturn, 1) := by decide +kernel
def fX6_worth (sh : SH) (this : Nat) (I : IH) : Option (Int32 × IH) :=
  (gR sh 6 this 3).bind fun x1 =>
  (ck sh 5 x1).bind fun u2 =>
  b2 (fX5_settle sh x1 I) fun x3 i4 =>
  some (x3, i4)
set_option maxHeartbeats 4000000 in
set_option maxRecDepth 20000 in
theorem jbX6_worth_0 (G : GT) {X : XT} {sh : SH} {L : LH} {n : Nat} {r : Int32} {I' : IH}  {this : Nat}  {I : IH} (F : MF G X RX6 cX6_worth 1 5 (some .int) "worth") (h : fX6_worth sh this I = some (r, I')) : J G X (QE G X (some (.int r)) sh I' L n) 1 sh I L n 0 0 0 [(0, .ref this)] [] := by
  unfold fX6_worth at h
  refine j_aload_n (pc := 0) (k0 := 0) F 0 rfl dX6_worth_0 ?_
  obtain ⟨x1, hx1, h⟩ := ob h
  refine j_getR (pc := 1) F flX6_35 hx1 dX6_worth_1 ?_
  obtain ⟨u2, hu2, h⟩ := ob h
  have hou2 := ck_obt hu2
  obtain ⟨x3, i4, hx3, h⟩ := b2_obt h
  refine j_callV1 (pc := 4) (ci := 5) (As := []) (st := []) (e1 := 0) (es1 := 0) F clX6_103 cwX5_settle rfl hou2 (ctX5_settle G hou2 hx3) rfl rfl rfl rfl rfl rfl dX6_worth_4 ?_
  have g1 := Option.some.inj h
  obtain ⟨q3, g2⟩ := Prod.mk.inj g1
  subst q3
  subst g2
  exact j_iret (pc := 7) F dX6_worth_7
theorem ctX6_worth (G : GT) {sh : SH} {I : IH} {L : LH} {n : Nat} {this : Nat} {r : Int32} {I' : IH}  (h : fX6_worth sh this I = some (r, I')) : Ct G yX6_worth cX6_worth 1 (some .int) 5 [.ref this] sh I L n (some (.int r)) sh I' L n 0 0 := by
  refine ct_of (y := yX6_worth) (by decide +kernel) rfl (fun X F => ?_)
  exact jbX6_worth_0 G F h
theorem dX6_span_0 : decode cX6_span 0 = .ok (.lconst 1, 1) := by decide +kernel
theorem dX6_span_1 : decode cX6_span 1 = .ok (.iload_n 1, 1) := by decide +kernel
theorem dX6_span_2 : decode cX6_span 2 = .ok (.lshl, 1) := by decide +kernel
theorem dX6_span_3 : decode cX6_span 3 = .ok (.lconst 1, 1) := by decide +kernel
theorem dX6_span_4 : decode cX6_span 4 = .ok (.lsub, 1) := by decide +kernel
theorem dX6_span_5 : decode cX6_span 5 = .ok (.iload_n 0, 1) := by decide +kernel
theorem dX6_span_6 : decode cX6_span 6 = .ok (.lshl, 1) := by decide +kernel
theorem dX6_span_7 : decode cX6_span 7 = .ok (.lstore_n 2, 1) := by decide +kernel
theorem dX6_span_8 : decode cX6_span 8 = .ok (.lload_n 2, 1) := by decide +kernel
theorem dX6_span_9 : decode cX6_span 9 = .ok (.lload_n 2, 1) := by decide +kernel
theorem dX6_span_10 : decode cX6_span 10 = .ok (.bipush 24, 2) := by decide +kernel
theorem dX6_span_12 : decode cX6_span 12 = .ok (.lshr, 1) := by decide +kernel
theorem dX6_span_13 : decode cX6_span 13 = .ok (.lor, 1) := by decide +kernel
theorem dX6_span_14 : decode cX6_span 14 = .ok (.l2i, 1) := by decide +kernel
theorem dX6_span_15 : decode cX6_span 15 = .ok (.ldc 95, 2) := by decide +kernel
theorem dX6_span_17 : decode cX6_span 17 = .ok (.iand, 1) := by decide +kernel
theorem dX6_span_18 : decode cX6_span 18 = .ok (.ireturn, 1) := by decide +kernel
def fX6_span (v0 : Int32) (v1 : Int32) : Int32 :=
  (((((1 <<< (Int32.toInt64 v1 &&& 63)) - 1) <<< (Int32.toInt64 v0 &&& 63)) ||| ((((1 <<< (Int32.toInt64 v1 &&& 63)) - 1) <<< (Int32.toInt64 v0 &&& 63)) >>> (Int32.toInt64 24 &&& 63))).toInt32 &&& 16777215)
set_option maxHeartbeats 4000000 in
set_option maxRecDepth 20000 in
theorem jbX6_span_0 (G : GT) {X : XT} {sh : SH} {I : IH} {L : LH} {n : Nat} {r : Int32}   {v0 : Int32} {v1 : Int32} (F : MF G X RX6 cX6_span 4 0 (some .int) "span") (h : fX6_span v0 v1 = r) : J G X (QE G X (some (.int r)) sh I L n) 4 sh I L n 0 0 0 [(0, .int v0), (1, .int v1)] [] := by
  unfold fX6_span at h
  refine j_lconst (pc := 0) F 1 dX6_span_0 (by decide) ?_
  refine j_iload_n (pc := 1) (k0 := 1) F 1 rfl dX6_span_1 ?_
  refine j_lshl (pc := 2) F dX6_span_2 ?_
  refine j_lconst (pc := 3) F 1 dX6_span_3 (by decide) ?_
  refine j_lsub (pc := 4) F dX6_span_4 ?_
  refine j_iload_n (pc := 5) (k0 := 0) F 0 rfl dX6_span_5 ?_
  refine j_lshl (pc := 6) F dX6_span_6 ?_
  refine j_lstore_n (pc := 7) (k1 := 2) (ls' := [(2, .long (((1 <<< (Int32.toInt64 v1 &&& 63)) - 1) <<< (Int32.toInt64 v0 &&& 63))), (0, .int v0), (1, .int v1)]) F rfl rfl rfl dX6_span_7 ?_
  refine j_lload_n (pc := 8) (k0 := 2) F 0 rfl dX6_span_8 ?_
  refine j_lload_n (pc := 9) (k0 := 2) F 0 rfl dX6_span_9 ?_
  refine j_bipush (pc := 10) F 24 dX6_span_10 (by decide) ?_
  refine j_lshr (pc := 12) F dX6_span_12 ?_
  refine j_lor (pc := 13) F dX6_span_13 ?_
  refine j_l2i (pc := 14) F dX6_span_14 ?_
  refine j_ldc (pc := 15) (v := 16777215) F (good_of 472 (by decide +kernel) (by decide +kernel)) dX6_span_15 ?_
  refine j_iand (pc := 17) F dX6_span_17 ?_
  subst h
  exact j_iret (pc := 18) F dX6_span_18
theorem ctX6_span (G : GT) {sh : SH} {I : IH} {L : LH} {n : Nat} {v0 : Int32} {v1 : Int32} : Ct G yX6_span cX6_span 4 (some .int) 0 [.int v0, .int v1] sh I L n (some (.int (fX6_span v0 v1))) sh I L n 0 0 := by
  refine ct_of (y := yX6_span) (by decide +kernel) rfl (fun X F => ?_)
  exact jbX6_span_0 G F rfl
theorem dX6_best_0 : decode cX6_best 0 = .ok (.aload_n 0, 1) := by decide +kernel
theorem dX6_best_1 : decode cX6_best 1 = .ok (.getfield 19, 3) := by decide +kernel
theorem dX6_best_4 : decode cX6_best 4 = .ok (.iload_n 1, 1) := by decide +kernel
theorem dX6_best_5 : decode cX6_best 5 = .ok (.invokevirtual 99, 3) := by decide +kernel
theorem dX6_best_8 : decode cX6_best 8 = .ok (.ifCond .eq 11, 3) := by decide +kernel
theorem dX6_best_11 : decode cX6_best 11 = .ok (.iload_n 2, 1) := by decide +kernel
theorem dX6_best_12 : decode cX6_best 12 = .ok (.iconst 3, 1) := by decide +kernel
theorem dX6_best_13 : decode cX6_best 13 = .ok (.invokestatic 61, 3) := by decide +kernel
theorem dX6_best_16 : decode cX6_best 16 = .ok (.ifCond .ne 5, 3) := by decide +kernel
theorem dX6_best_19 : decode cX6_best 19 = .ok (.iconst (-1), 1) := by decide +kernel
theorem dX6_best_20 : decode cX6_best 20 = .ok (.ireturn, 1) := by decide +kernel
theorem dX6_best_21 : decode cX6_best 21 = .ok (.aload_n 0, 1) := by decide +kernel
theorem dX6_best_22 : decode cX6_best 22 = .ok (.getfield 35, 3) := by decide +kernel
theorem dX6_best_25 : decode cX6_best 25 = .ok (.invokevirtual 103, 3) := by decide +kernel
theorem dX6_best_28 : decode cX6_best 28 = .ok (.pop, 1) := by decide +kernel
theorem dX6_best_29 : decode cX6_best 29 = .ok (.aload_n 0, 1) := by decide +kernel
theorem dX6_best_30 : decode cX6_best 30 = .ok (.getfield 35, 3) := by decide +kernel
theorem dX6_best_33 : decode cX6_best 33 = .ok (.iload_n 1, 1) := by decide +kernel
theorem dX6_best_34 : decode cX6_best 34 = .ok (.invokevirtual 147, 3) := by decide +kernel
theorem dX6_best_37 : decode cX6_best 37 = .ok (.istore_n 3, 1) := by decide +kernel
theorem dX6_best_38 : decode cX6_best 38 = .ok (.aload_n 0, 1) := by decide +kernel
theorem dX6_best_39 : decode cX6_best 39 = .ok (.getfield 35, 3) := by decide +kernel
theorem dX6_best_42 : decode cX6_best 42 = .ok (.getfield 151, 3) := by decide +kernel
theorem dX6_best_45 : decode cX6_best 45 = .ok (.iload_n 1, 1) := by decide +kernel
theorem dX6_best_46 : decode cX6_best 46 = .ok (.aaload, 1) := by decide +kernel
theorem dX6_best_47 : decode cX6_best 47 = .ok (.astore 4, 2) := by decide +kernel
theorem dX6_best_49 : decode cX6_best 49 = .ok (.aload 4, 2) := by decide +kernel
theorem dX6_best_51 : decode cX6_best 51 = .ok (.iconst 0, 1) := by decide +kernel
theorem dX6_best_52 : decode cX6_best 52 = .ok (.iconst 1, 1) := by decide +kernel
theorem dX6_best_53 : decode cX6_best 53 = .ok (.iastore, 1) := by decide +kernel
theorem dX6_best_54 : decode cX6_best 54 = .ok (.iconst 0, 1) := by decide +kernel
theorem dX6_best_55 : decode cX6_best 55 = .ok (.istore 5, 2) := by decide +kernel
theorem dX6_best_57 : decode cX6_best 57 = .ok (.iconst 0, 1) := by decide +kernel
theorem dX6_best_58 : decode cX6_best 58 = .ok (.istore 6, 2) := by decide +kernel
theorem dX6_best_60 : decode cX6_best 60 = .ok (.iconst (-1), 1) := by decide +kernel
theorem dX6_best_61 : decode cX6_best 61 = .ok (.istore 7, 2) := by decide +kernel
theorem dX6_best_63 : decode cX6_best 63 = .ok (.iconst 0, 1) := by decide +kernel
theorem dX6_best_64 : decode cX6_best 64 = .ok (.istore 8, 2) := by decide +kernel
theorem dX6_best_66 : decode cX6_best 66 = .ok (.iload 8, 2) := by decide +kernel
theorem dX6_best_68 : decode cX6_best 68 = .ok (.bipush 24, 2) := by decide +kernel
theorem dX6_best_70 : decode cX6_best 70 = .ok (.if_icmp .gt 77, 3) := by decide +kernel
theorem dX6_best_73 : decode cX6_best 73 = .ok (.iload 7, 2) := by decide +kernel
theorem dX6_best_75 : decode cX6_best 75 = .ok (.iload_n 3, 1) := by decide +kernel
theorem dX6_best_76 : decode cX6_best 76 = .ok (.if_icmp .ge 71, 3) := by decide +kernel
theorem dX6_best_79 : decode cX6_best 79 = .ok (.iconst 0, 1) := by decide +kernel
theorem dX6_best_80 : decode cX6_best 80 = .ok (.istore 9, 2) := by decide +kernel
theorem dX6_best_82 : decode cX6_best 82 = .ok (.iload 9, 2) := by decide +kernel
theorem dX6_best_84 : decode cX6_best 84 = .ok (.bipush 24, 2) := by decide +kernel
theorem dX6_best_86 : decode cX6_best 86 = .ok (.if_icmp .ge 55, 3) := by decide +kernel
theorem dX6_best_89 : decode cX6_best 89 = .ok (.iload 7, 2) := by decide +kernel
theorem dX6_best_91 : decode cX6_best 91 = .ok (.iload_n 3, 1) := by decide +kernel
theorem dX6_best_92 : decode cX6_best 92 = .ok (.if_icmp .ge 49, 3) := by decide +kernel
theorem dX6_best_95 : decode cX6_best 95 = .ok (.aload 4, 2) := by decide +kernel
theorem dX6_best_97 : decode cX6_best 97 = .ok (.iconst 2, 1) := by decide +kernel
theorem dX6_best_98 : decode cX6_best 98 = .ok (.iload 9, 2) := by decide +kernel
theorem dX6_best_100 : decode cX6_best 100 = .ok (.iload 8, 2) := by decide +kernel
theorem dX6_best_102 : decode cX6_best 102 = .ok (.invokestatic 152, 3) := by decide +kernel
theorem dX6_best_105 : decode cX6_best 105 = .ok (.iastore, 1) := by decide +kernel
theorem dX6_best_106 : decode cX6_best 106 = .ok (.aload_n 0, 1) := by decide +kernel
theorem dX6_best_107 : decode cX6_best 107 = .ok (.getfield 35, 3) := by decide +kernel
theorem dX6_best_110 : decode cX6_best 110 = .ok (.iload_n 1, 1) := by decide +kernel
theorem dX6_best_111 : decode cX6_best 111 = .ok (.invokevirtual 155, 3) := by decide +kernel
theorem dX6_best_114 : decode cX6_best 114 = .ok (.istore 10, 2) := by decide +kernel
theorem dX6_best_116 : decode cX6_best 116 = .ok (.iload 10, 2) := by decide +kernel
theorem dX6_best_118 : decode cX6_best 118 = .ok (.iload 7, 2) := by decide +kernel
theorem dX6_best_120 : decode cX6_best 120 = .ok (.if_icmp .le 15, 3) := by decide +kernel
theorem dX6_best_123 : decode cX6_best 123 = .ok (.iload 10, 2) := by decide +kernel
theorem dX6_best_125 : decode cX6_best 125 = .ok (.istore 7, 2) := by decide +kernel
theorem dX6_best_127 : decode cX6_best 127 = .ok (.iload 9, 2) := by decide +kernel
theorem dX6_best_129 : decode cX6_best 129 = .ok (.istore 5, 2) := by decide +kernel
theorem dX6_best_131 : decode cX6_best 131 = .ok (.iload 8, 2) := by decide +kernel
theorem dX6_best_133 : decode cX6_best 133 = .ok (.istore 6, 2) := by decide +kernel
theorem dX6_best_135 : decode cX6_best 135 = .ok (.iinc 9 1, 3) := by decide +kernel
theorem dX6_best_138 : decode cX6_best 138 = .ok (.goto (-56), 3) := by decide +kernel
theorem dX6_best_141 : decode cX6_best 141 = .ok (.iinc 8 1, 3) := by decide +kernel
theorem dX6_best_144 : decode cX6_best 144 = .ok (.goto (-78), 3) := by decide +kernel
theorem dX6_best_147 : decode cX6_best 147 = .ok (.iload_n 2, 1) := by decide +kernel
theorem dX6_best_148 : decode cX6_best 148 = .ok (.ifCond .ne 8, 3) := by decide +kernel
theorem dX6_best_151 : decode cX6_best 151 = .ok (.iload 5, 2) := by decide +kernel
theorem dX6_best_153 : decode cX6_best 153 = .ok (.goto 15, 3) := by decide +kernel
theorem dX6_best_156 : decode cX6_best 156 = .ok (.iload_n 2, 1) := by decide +kernel
theorem dX6_best_157 : decode cX6_best 157 = .ok (.iconst 1, 1) := by decide +kernel
theorem dX6_best_158 : decode cX6_best 158 = .ok (.if_icmp .ne 8, 3) := by decide +kernel
theorem dX6_best_161 : decode cX6_best 161 = .ok (.iload 6, 2) := by decide +kernel
theorem dX6_best_163 : decode cX6_best 163 = .ok (.goto 5, 3) := by decide +kernel
theorem dX6_best_166 : decode cX6_best 166 = .ok (.iload 7, 2) := by decide +kernel
theorem dX6_best_168 : decode cX6_best 168 = .ok (.ireturn, 1) := by decide +kernel
def fX6_best_b82 (sh : SH) (this : Nat) (k66 : (Int32 → Int32 → Int32 → Nat → Int32 → Int32 → Int32 → Int32 → IH → Option (Int32 × IH))) : Nat → Int32 → Int32 → Int32 → Nat → Int32 → Int32 → Int32 → Int32 → Int32 → IH → Option (Int32 × IH)
  | 0, _, _, _, _, _, _, _, _, _, _ => none
  | fuel + 1, v1, v2, v3, v4, v5, v6, v7, v8, v9, I =>
    if 24 ≤ v9 then (
      k66 v1 v2 v3 v4 v5 v6 v7 (v8 + 1) I) else
    if v3 ≤ v7 then (
      k66 v1 v2 v3 v4 v5 v6 v7 (v8 + 1) I) else
    (sI sh I v4 2 (fX6_span v9 v8)).bind fun i1 =>
    (gR sh 6 this 3).bind fun x2 =>
    (ck sh 5 x2).bind fun u3 =>
    b2 (fX5_again sh x2 v1 i1) fun x4 i5 =>
    if x4 ≤ v7 then (
      fX6_best_b82 sh this k66 fuel v1 v2 v3 v4 v5 v6 v7 v8 (v9 + 1) i5) else
    fX6_best_b82 sh this k66 fuel v1 v2 v3 v4 v9 v8 x4 v8 (v9 + 1) i5
def fX6_best_b66 (sh : SH) (this : Nat) (k147 : (Int32 → Int32 → Int32 → Int32 → IH → Option (Int32 × IH))) : Nat → Int32 → Int32 → Int32 → Nat → Int32 → Int32 → Int32 → Int32 → IH → Option (Int32 × IH)
  | 0, _, _, _, _, _, _, _, _, _ => none
  | fuel + 1, v1, v2, v3, v4, v5, v6, v7, v8, I =>
    if 24 < v8 then (
      k147 v2 v5 v6 v7 I) else
    if v3 ≤ v7 then (
      k147 v2 v5 v6 v7 I) else
    fX6_best_b82 sh this (fX6_best_b66 sh this k147 fuel) 1000 v1 v2 v3 v4 v5 v6 v7 v8 0 I
def fX6_best_b147 (sh : SH) (this : Nat) (v2 : Int32) (v5 : Int32) (v6 : Int32) (v7 : Int32) (I : IH) : Option (Int32 × IH) :=
  if v2 = 0 then (
    some (v5, I)) else
  if v2 = 1 then (
    some (v6, I)) else
  some (v7, I)
def fX6_best (sh : SH) (this : Nat) (v1 : Int32) (v2 : Int32) (I : IH) : Option (Int32 × IH) :=
  (gR sh 6 this 0).bind fun x1 =>
  (ck sh 2 x1).bind fun u2 =>
  (fX2_isPlace sh I x1 v1).bind fun x3 =>
  if x3 = 0 then (
    some ((-1), I)) else
  if (fX6_isUnder v2 3) = 0 then (
    some ((-1), I)) else
  (gR sh 6 this 3).bind fun x4 =>
  (ck sh 5 x4).bind fun u5 =>
  b2 (fX5_settle sh x4 I) fun x6 i7 =>
  (gR sh 6 this 3).bind fun x8 =>
  (ck sh 5 x8).bind fun u9 =>
  (fX5_utmost sh i7 x8 v1).bind fun x10 =>
  (gR sh 6 this 3).bind fun x11 =>
  (gR sh 5 x11 3).bind fun x12 =>
  (aR sh 4 x12 v1).bind fun x13 =>
  (sI sh i7 x13 0 1).bind fun i14 =>
  fX6_best_b66 sh this (fX6_best_b147 sh this) 1000 v1 v2 x10 x13 0 0 (-1) 0 i14
set_option maxHeartbeats 4000000 in
set_option maxRecDepth 20000 in
theorem jbX6_best_82 (G : GT) {X : XT} {sh : SH} {L : LH} {n : Nat} {r : Int32} {I' : IH}  {this : Nat} {k66 : (Int32 → Int32 → Int32 → Nat → Int32 → Int32 → Int32 → Int32 → IH → Option (Int32 × IH))} (F : MF G X RX6 cX6_best 11 5 (some .int) "best")
    (hk66 : ∀ {v1 : Int32} {v2 : Int32} {v3 : Int32} {v4 : Nat} {v5 : Int32} {v6 : Int32} {v7 : Int32} {v8 : Int32} {I : IH}, k66 v1 v2 v3 v4 v5 v6 v7 v8 I = some (r, I') → J G X (QE G X (some (.int r)) sh I' L n) 11 sh I L n 0 0 66 [(0, .ref this), (1, .int v1), (2, .int v2), (3, .int v3), (4, .ref v4), (5, .int v5), (6, .int v6), (7, .int v7), (8, .int v8)] []) : ∀ (fuel : Nat) (v1 : Int32) (v2 : Int32) (v3 : Int32) (v4 : Nat) (v5 : Int32) (v6 : Int32) (v7 : Int32) (v8 : Int32) (v9 : Int32) (I : IH), fX6_best_b82 sh this k66 fuel v1 v2 v3 v4 v5 v6 v7 v8 v9 I = some (r, I') → J G X (QE G X (some (.int r)) sh I' L n) 11 sh I L n 0 0 82 [(0, .ref this), (1, .int v1), (2, .int v2), (3, .int v3), (4, .ref v4), (5, .int v5), (6, .int v6), (7, .int v7), (8, .int v8), (9, .int v9)] []
  | 0 => by
    intros
    rename_i h
    exact absurd (show none = some _ from h) (by intro z; cases z)
  | fuel + 1 => by
    intro v1 v2 v3 v4 v5 v6 v7 v8 v9 I h
    rw [fX6_best_b82] at h
    refine j_iload (pc := 82) (k0 := 9) F 9 rfl dX6_best_82 ?_
    refine j_bipush (pc := 84) F 24 dX6_best_84 (by decide) ?_
    refine j_icmp_ge (pc := 86) F 141 dX6_best_86 rfl (fun c => ?_) (fun c => ?_)
    · have h := iz_t c h
      refine j_iinc (pc := 141) (k1 := 8) (ls' := [(8, .int (v8 + 1)), (0, .ref this), (1, .int v1), (2, .int v2), (3, .int v3), (4, .ref v4), (5, .int v5), (6, .int v6), (7, .int v7), (9, .int v9)]) F (v8 + 1) 8 rfl rfl rfl rfl dX6_best_141 ?_
      refine j_goto (pc := 144) F 66 dX6_best_144 rfl ?_
      refine j_sub [1, 2, 3, 4, 5, 6, 7, 8, 0] rfl ?_
      exact hk66 h
    · have h := iz_f c h
      refine j_iload (pc := 89) (k0 := 7) F 7 rfl dX6_best_89 ?_
      refine j_iload_n (pc := 91) (k0 := 3) F 3 rfl dX6_best_91 ?_
      refine j_icmp_ge (pc := 92) F 141 dX6_best_92 rfl (fun c => ?_) (fun c => ?_)
      · have h := iz_t c h
        refine j_iinc (pc := 141) (k1 := 8) (ls' := [(8, .int (v8 + 1)), (0, .ref this), (1, .int v1), (2, .int v2), (3, .int v3), (4, .ref v4), (5, .int v5), (6, .int v6), (7, .int v7), (9, .int v9)]) F (v8 + 1) 8 rfl rfl rfl rfl dX6_best_141 ?_
        refine j_goto (pc := 144) F 66 dX6_best_144 rfl ?_
        refine j_sub [1, 2, 3, 4, 5, 6, 7, 8, 0] rfl ?_
        exact hk66 h
      · have h := iz_f c h
        refine j_aload (pc := 95) (k0 := 4) F 4 rfl dX6_best_95 ?_
        refine j_iconst (pc := 97) F 2 dX6_best_97 (by decide) ?_
        refine j_iload (pc := 98) (k0 := 9) F 9 rfl dX6_best_98 ?_
        refine j_iload (pc := 100) (k0 := 8) F 8 rfl dX6_best_100 ?_
        refine j_callS1 (pc := 102) (As := [.int v9, .int v8]) (st := [.int 2, .ref v4]) (e1 := 0) (es1 := 0) F clX6_152 cwX6_span (ctX6_span G) rfl rfl rfl rfl rfl rfl dX6_best_102 ?_
        obtain ⟨i1, hi1, h⟩ := ob h
        refine j_iast (pc := 105) F hi1 dX6_best_105 ?_
        refine j_aload_n (pc := 106) (k0 := 0) F 0 rfl dX6_best_106 ?_
        obtain ⟨x2, hx2, h⟩ := ob h
        refine j_getR (pc := 107) F flX6_35 hx2 dX6_best_107 ?_
        refine j_iload_n (pc := 110) (k0 := 1) F 1 rfl dX6_best_110 ?_
        obtain ⟨u3, hu3, h⟩ := ob h
        have hou3 := ck_obt hu3
        obtain ⟨x4, i5, hx4, h⟩ := b2_obt h
        refine j_callV1 (pc := 111) (ci := 5) (As := [.int v1]) (st := []) (e1 := 0) (es1 := 0) F clX6_155 cwX5_again rfl hou3 (ctX5_again G hou3 hx4) rfl rfl rfl rfl rfl rfl dX6_best_111 ?_
        refine j_istore (pc := 114) (k1 := 10) (ls' := [(10, .int x4), (0, .ref this), (1, .int v1), (2, .int v2), (3, .int v3), (4, .ref v4), (5, .int v5), (6, .int v6), (7, .int v7), (8, .int v8), (9, .int v9)]) F rfl rfl dX6_best_114 ?_
        refine j_iload (pc := 116) (k0 := 10) F 0 rfl dX6_best_116 ?_
        refine j_iload (pc := 118) (k0 := 7) F 8 rfl dX6_best_118 ?_
        refine j_icmp_le (pc := 120) F 135 dX6_best_120 rfl (fun c => ?_) (fun c => ?_)
        · have h := iz_t c h
          refine j_iinc (pc := 135) (k1 := 9) (ls' := [(9, .int (v9 + 1)), (10, .int x4), (0, .ref this), (1, .int v1), (2, .int v2), (3, .int v3), (4, .ref v4), (5, .int v5), (6, .int v6), (7, .int v7), (8, .int v8)]) F (v9 + 1) 10 rfl rfl rfl rfl dX6_best_135 ?_
          refine j_goto (pc := 138) F 82 dX6_best_138 rfl ?_
          refine j_sub [2, 3, 4, 5, 6, 7, 8, 9, 10, 0] rfl ?_
          exact jbX6_best_82 G F hk66 fuel _ _ _ _ _ _ _ _ _ _ h
        · have h := iz_f c h
          refine j_iload (pc := 123) (k0 := 10) F 0 rfl dX6_best_123 ?_
          refine j_istore (pc := 125) (k1 := 7) (ls' := [(7, .int x4), (10, .int x4), (0, .ref this), (1, .int v1), (2, .int v2), (3, .int v3), (4, .ref v4), (5, .int v5), (6, .int v6), (8, .int v8), (9, .int v9)]) F rfl rfl dX6_best_125 ?_
          refine j_iload (pc := 127) (k0 := 9) F 10 rfl dX6_best_127 ?_
          refine j_istore (pc := 129) (k1 := 5) (ls' := [(5, .int v9), (7, .int x4), (10, .int x4), (0, .ref this), (1, .int v1), (2, .int v2), (3, .int v3), (4, .ref v4), (6, .int v6), (8, .int v8), (9, .int v9)]) F rfl rfl dX6_best_129 ?_
          refine j_iload (pc := 131) (k0 := 8) F 9 rfl dX6_best_131 ?_
          refine j_istore (pc := 133) (k1 := 6) (ls' := [(6, .int v8), (5, .int v9), (7, .int x4), (10, .int x4), (0, .ref this), (1, .int v1), (2, .int v2), (3, .int v3), (4, .ref v4), (8, .int v8), (9, .int v9)]) F rfl rfl dX6_best_133 ?_
          refine j_iinc (pc := 135) (k1 := 9) (ls' := [(9, .int (v9 + 1)), (6, .int v8), (5, .int v9), (7, .int x4), (10, .int x4), (0, .ref this), (1, .int v1), (2, .int v2), (3, .int v3), (4, .ref v4), (8, .int v8)]) F (v9 + 1) 10 rfl rfl rfl rfl dX6_best_135 ?_
          refine j_goto (pc := 138) F 82 dX6_best_138 rfl ?_
          refine j_sub [5, 6, 7, 8, 9, 2, 1, 3, 10, 0] rfl ?_
          exact jbX6_best_82 G F hk66 fuel _ _ _ _ _ _ _ _ _ _ h
set_option maxHeartbeats 4000000 in
set_option maxRecDepth 20000 in
theorem jbX6_best_66 (G : GT) {X : XT} {sh : SH} {L : LH} {n : Nat} {r : Int32} {I' : IH}  {this : Nat} {k147 : (Int32 → Int32 → Int32 → Int32 → IH → Option (Int32 × IH))} (F : MF G X RX6 cX6_best 11 5 (some .int) "best")
    (hk147 : ∀ {v2 : Int32} {v5 : Int32} {v6 : Int32} {v7 : Int32} {I : IH}, k147 v2 v5 v6 v7 I = some (r, I') → J G X (QE G X (some (.int r)) sh I' L n) 11 sh I L n 0 0 147 [(0, .ref this), (2, .int v2), (5, .int v5), (6, .int v6), (7, .int v7)] []) : ∀ (fuel : Nat) (v1 : Int32) (v2 : Int32) (v3 : Int32) (v4 : Nat) (v5 : Int32) (v6 : Int32) (v7 : Int32) (v8 : Int32) (I : IH), fX6_best_b66 sh this k147 fuel v1 v2 v3 v4 v5 v6 v7 v8 I = some (r, I') → J G X (QE G X (some (.int r)) sh I' L n) 11 sh I L n 0 0 66 [(0, .ref this), (1, .int v1), (2, .int v2), (3, .int v3), (4, .ref v4), (5, .int v5), (6, .int v6), (7, .int v7), (8, .int v8)] []
  | 0 => by
    intros
    rename_i h
    exact absurd (show none = some _ from h) (by intro z; cases z)
  | fuel + 1 => by
    intro v1 v2 v3 v4 v5 v6 v7 v8 I h
    rw [fX6_best_b66] at h
    refine j_iload (pc := 66) (k0 := 8) F 8 rfl dX6_best_66 ?_
    refine j_bipush (pc := 68) F 24 dX6_best_68 (by decide) ?_
    refine j_icmp_gt (pc := 70) F 147 dX6_best_70 rfl (fun c => ?_) (fun c => ?_)
    · have h := iz_t c h
      refine j_sub [0, 2, 5, 6, 7] rfl ?_
      exact hk147 h
    · have h := iz_f c h
      refine j_iload (pc := 73) (k0 := 7) F 7 rfl dX6_best_73 ?_
      refine j_iload_n (pc := 75) (k0 := 3) F 3 rfl dX6_best_75 ?_
      refine j_icmp_ge (pc := 76) F 147 dX6_best_76 rfl (fun c => ?_) (fun c => ?_)
      · have h := iz_t c h
        refine j_sub [0, 2, 5, 6, 7] rfl ?_
        exact hk147 h
      · have h := iz_f c h
        refine j_iconst (pc := 79) F 0 dX6_best_79 (by decide) ?_
        refine j_istore (pc := 80) (k1 := 9) (ls' := [(9, .int 0), (0, .ref this), (1, .int v1), (2, .int v2), (3, .int v3), (4, .ref v4), (5, .int v5), (6, .int v6), (7, .int v7), (8, .int v8)]) F rfl rfl dX6_best_80 ?_
        refine j_sub [1, 2, 3, 4, 5, 6, 7, 8, 9, 0] rfl ?_
        exact jbX6_best_82 G F (fun h => jbX6_best_66 G F hk147 fuel _ _ _ _ _ _ _ _ _ h) 1000 _ _ _ _ _ _ _ _ _ _ h
set_option maxHeartbeats 4000000 in
set_option maxRecDepth 20000 in
theorem jbX6_best_147 (G : GT) {X : XT} {sh : SH} {L : LH} {n : Nat} {r : Int32} {I' : IH}  {this : Nat}  {v2 : Int32} {v5 : Int32} {v6 : Int32} {v7 : Int32} {I : IH} (F : MF G X RX6 cX6_best 11 5 (some .int) "best") (h : fX6_best_b147 sh this v2 v5 v6 v7 I = some (r, I')) : J G X (QE G X (some (.int r)) sh I' L n) 11 sh I L n 0 0 147 [(0, .ref this), (2, .int v2), (5, .int v5), (6, .int v6), (7, .int v7)] [] := by
  unfold fX6_best_b147 at h
  refine j_iload_n (pc := 147) (k0 := 2) F 1 rfl dX6_best_147 ?_
  refine j_if_ne (pc := 148) F 156 dX6_best_148 rfl (fun c => ?_) (fun c => ?_)
  · have h := iz_f c h
    refine j_iload_n (pc := 156) (k0 := 2) F 1 rfl dX6_best_156 ?_
    refine j_iconst (pc := 157) F 1 dX6_best_157 (by decide) ?_
    refine j_icmp_ne (pc := 158) F 166 dX6_best_158 rfl (fun c => ?_) (fun c => ?_)
    · have h := iz_f c h
      refine j_iload (pc := 166) (k0 := 7) F 4 rfl dX6_best_166 ?_
      have g1 := Option.some.inj h
      obtain ⟨q3, g2⟩ := Prod.mk.inj g1
      subst q3
      subst g2
      exact j_iret (pc := 168) F dX6_best_168
    · have h := iz_t c h
      refine j_iload (pc := 161) (k0 := 6) F 3 rfl dX6_best_161 ?_
      refine j_goto (pc := 163) F 168 dX6_best_163 rfl ?_
      have g1 := Option.some.inj h
      obtain ⟨q3, g2⟩ := Prod.mk.inj g1
      subst q3
      subst g2
      exact j_iret (pc := 168) F dX6_best_168
  · have h := iz_t c h
    refine j_iload (pc := 151) (k0 := 5) F 2 rfl dX6_best_151 ?_
    refine j_goto (pc := 153) F 168 dX6_best_153 rfl ?_
    have g1 := Option.some.inj h
    obtain ⟨q3, g2⟩ := Prod.mk.inj g1
    subst q3
    subst g2
    exact j_iret (pc := 168) F dX6_best_168
set_option maxHeartbeats 4000000 in
set_option maxRecDepth 20000 in
theorem jbX6_best_0 (G : GT) {X : XT} {sh : SH} {L : LH} {n : Nat} {r : Int32} {I' : IH}  {this : Nat}  {v1 : Int32} {v2 : Int32} {I : IH} (F : MF G X RX6 cX6_best 11 5 (some .int) "best") (h : fX6_best sh this v1 v2 I = some (r, I')) : J G X (QE G X (some (.int r)) sh I' L n) 11 sh I L n 0 0 0 [(0, .ref this), (1, .int v1), (2, .int v2)] [] := by
  unfold fX6_best at h
  refine j_aload_n (pc := 0) (k0 := 0) F 0 rfl dX6_best_0 ?_
  obtain ⟨x1, hx1, h⟩ := ob h
  refine j_getR (pc := 1) F flX6_19 hx1 dX6_best_1 ?_
  refine j_iload_n (pc := 4) (k0 := 1) F 1 rfl dX6_best_4 ?_
  obtain ⟨u2, hu2, h⟩ := ob h
  have hou2 := ck_obt hu2
  obtain ⟨x3, hx3, h⟩ := ob h
  refine j_callV1 (pc := 5) (ci := 2) (As := [.int v1]) (st := []) (e1 := 0) (es1 := 0) F clX6_99 cwX2_isPlace rfl hou2 (ctX2_isPlace G hx3) rfl rfl rfl rfl rfl rfl dX6_best_5 ?_
  refine j_if_eq (pc := 8) F 19 dX6_best_8 rfl (fun c => ?_) (fun c => ?_)
  · have h := iz_t c h
    refine j_iconst (pc := 19) F (-1) dX6_best_19 (by decide) ?_
    have g1 := Option.some.inj h
    obtain ⟨q3, g2⟩ := Prod.mk.inj g1
    subst q3
    subst g2
    exact j_iret (pc := 20) F dX6_best_20
  · have h := iz_f c h
    refine j_iload_n (pc := 11) (k0 := 2) F 2 rfl dX6_best_11 ?_
    refine j_iconst (pc := 12) F 3 dX6_best_12 (by decide) ?_
    refine j_callS1 (pc := 13) (As := [.int v2, .int 3]) (st := []) (e1 := 0) (es1 := 0) F clX6_61 cwX6_isUnder (ctX6_isUnder G) rfl rfl rfl rfl rfl rfl dX6_best_13 ?_
    refine j_if_ne (pc := 16) F 21 dX6_best_16 rfl (fun c => ?_) (fun c => ?_)
    · have h := iz_f c h
      refine j_aload_n (pc := 21) (k0 := 0) F 0 rfl dX6_best_21 ?_
      obtain ⟨x4, hx4, h⟩ := ob h
      refine j_getR (pc := 22) F flX6_35 hx4 dX6_best_22 ?_
      obtain ⟨u5, hu5, h⟩ := ob h
      have hou5 := ck_obt hu5
      obtain ⟨x6, i7, hx6, h⟩ := b2_obt h
      refine j_callV1 (pc := 25) (ci := 5) (As := []) (st := []) (e1 := 0) (es1 := 0) F clX6_103 cwX5_settle rfl hou5 (ctX5_settle G hou5 hx6) rfl rfl rfl rfl rfl rfl dX6_best_25 ?_
      refine j_pop (pc := 28) F dX6_best_28 rfl ?_
      refine j_aload_n (pc := 29) (k0 := 0) F 0 rfl dX6_best_29 ?_
      obtain ⟨x8, hx8, h⟩ := ob h
      refine j_getR (pc := 30) F flX6_35 hx8 dX6_best_30 ?_
      refine j_iload_n (pc := 33) (k0 := 1) F 1 rfl dX6_best_33 ?_
      obtain ⟨u9, hu9, h⟩ := ob h
      have hou9 := ck_obt hu9
      obtain ⟨x10, hx10, h⟩ := ob h
      refine j_callV1 (pc := 34) (ci := 5) (As := [.int v1]) (st := []) (e1 := 0) (es1 := 0) F clX6_147 cwX5_utmost rfl hou9 (ctX5_utmost G hx10) rfl rfl rfl rfl rfl rfl dX6_best_34 ?_
      refine j_istore_n (pc := 37) (k1 := 3) (ls' := [(3, .int x10), (0, .ref this), (1, .int v1), (2, .int v2)]) F rfl rfl rfl dX6_best_37 ?_
      refine j_aload_n (pc := 38) (k0 := 0) F 1 rfl dX6_best_38 ?_
      obtain ⟨x11, hx11, h⟩ := ob h
      refine j_getR (pc := 39) F flX6_35 hx11 dX6_best_39 ?_
      obtain ⟨x12, hx12, h⟩ := ob h
      refine j_getR (pc := 42) F flX6_151 hx12 dX6_best_42 ?_
      refine j_iload_n (pc := 45) (k0 := 1) F 2 rfl dX6_best_45 ?_
      obtain ⟨x13, hx13, h⟩ := ob h
      refine j_aald (pc := 46) F (Or.inr rfl) hx13 dX6_best_46 ?_
      refine j_astore (pc := 47) (k1 := 4) (ls' := [(4, .ref x13), (3, .int x10), (0, .ref this), (1, .int v1), (2, .int v2)]) F rfl rfl dX6_best_47 ?_
      refine j_aload (pc := 49) (k0 := 4) F 0 rfl dX6_best_49 ?_
      refine j_iconst (pc := 51) F 0 dX6_best_51 (by decide) ?_
      refine j_iconst (pc := 52) F 1 dX6_best_52 (by decide) ?_
      obtain ⟨i14, hi14, h⟩ := ob h
      refine j_iast (pc := 53) F hi14 dX6_best_53 ?_
      refine j_iconst (pc := 54) F 0 dX6_best_54 (by decide) ?_
      refine j_istore (pc := 55) (k1 := 5) (ls' := [(5, .int 0), (4, .ref x13), (3, .int x10), (0, .ref this), (1, .int v1), (2, .int v2)]) F rfl rfl dX6_best_55 ?_
      refine j_iconst (pc := 57) F 0 dX6_best_57 (by decide) ?_
      refine j_istore (pc := 58) (k1 := 6) (ls' := [(6, .int 0), (5, .int 0), (4, .ref x13), (3, .int x10), (0, .ref this), (1, .int v1), (2, .int v2)]) F rfl rfl dX6_best_58 ?_
      refine j_iconst (pc := 60) F (-1) dX6_best_60 (by decide) ?_
      refine j_istore (pc := 61) (k1 := 7) (ls' := [(7, .int (-1)), (6, .int 0), (5, .int 0), (4, .ref x13), (3, .int x10), (0, .ref this), (1, .int v1), (2, .int v2)]) F rfl rfl dX6_best_61 ?_
      refine j_iconst (pc := 63) F 0 dX6_best_63 (by decide) ?_
      refine j_istore (pc := 64) (k1 := 8) (ls' := [(8, .int 0), (7, .int (-1)), (6, .int 0), (5, .int 0), (4, .ref x13), (3, .int x10), (0, .ref this), (1, .int v1), (2, .int v2)]) F rfl rfl dX6_best_64 ?_
      refine j_sub [6, 7, 8, 5, 4, 3, 2, 1, 0] rfl ?_
      exact jbX6_best_66 G F (fun h => jbX6_best_147 G F h) 1000 _ _ _ _ _ _ _ _ _ h
    · have h := iz_t c h
      refine j_iconst (pc := 19) F (-1) dX6_best_19 (by decide) ?_
      have g1 := Option.some.inj h
      obtain ⟨q3, g2⟩ := Prod.mk.inj g1
      subst q3
      subst g2
      exact j_iret (pc := 20) F dX6_best_20
theorem ctX6_best (G : GT) {sh : SH} {I : IH} {L : LH} {n : Nat} {this : Nat} {v1 : Int32} {v2 : Int32} {r : Int32} {I' : IH}  (h : fX6_best sh this v1 v2 I = some (r, I')) : Ct G yX6_best cX6_best 11 (some .int) 5 [.ref this, .int v1, .int v2] sh I L n (some (.int r)) sh I' L n 0 0 := by
  refine ct_of (y := yX6_best) (by decide +kernel) rfl (fun X F => ?_)
  exact jbX6_best_0 G F h
theorem dX6_price_0 : decode cX6_price 0 = .ok (.iload_n 1, 1) := by decide +kernel
theorem dX6_price_1 : decode cX6_price 1 = .ok (.bipush 48, 2) := by decide +kernel
theorem dX6_price_3 : decode cX6_price 3 = .ok (.invokestatic 61, 3) := by decide +kernel
theorem dX6_price_6 : decode cX6_price 6 = .ok (.ifCond .ne 7, 3) := by decide +kernel
theorem dX6_price_9 : decode cX6_price 9 = .ok (.sipush (-1001), 3) := by decide +kernel
theorem dX6_price_12 : decode cX6_price 12 = .ok (.ireturn, 1) := by decide +kernel
theorem dX6_price_13 : decode cX6_price 13 = .ok (.aload_n 0, 1) := by decide +kernel
theorem dX6_price_14 : decode cX6_price 14 = .ok (.getfield 35, 3) := by decide +kernel
theorem dX6_price_17 : decode cX6_price 17 = .ok (.invokevirtual 103, 3) := by decide +kernel
theorem dX6_price_20 : decode cX6_price 20 = .ok (.istore_n 2, 1) := by decide +kernel
theorem dX6_price_21 : decode cX6_price 21 = .ok (.aload_n 0, 1) := by decide +kernel
theorem dX6_price_22 : decode cX6_price 22 = .ok (.getfield 35, 3) := by decide +kernel
theorem dX6_price_25 : decode cX6_price 25 = .ok (.getfield 111, 3) := by decide +kernel
theorem dX6_price_28 : decode cX6_price 28 = .ok (.iload_n 1, 1) := by decide +kernel
theorem dX6_price_29 : decode cX6_price 29 = .ok (.dup2, 1) := by decide +kernel
theorem dX6_price_30 : decode cX6_price 30 = .ok (.iaload, 1) := by decide +kernel
theorem dX6_price_31 : decode cX6_price 31 = .ok (.iconst 1, 1) := by decide +kernel
theorem dX6_price_32 : decode cX6_price 32 = .ok (.iadd, 1) := by decide +kernel
theorem dX6_price_33 : decode cX6_price 33 = .ok (.iastore, 1) := by decide +kernel
theorem dX6_price_34 : decode cX6_price 34 = .ok (.aload_n 0, 1) := by decide +kernel
theorem dX6_price_35 : decode cX6_price 35 = .ok (.getfield 35, 3) := by decide +kernel
theorem dX6_price_38 : decode cX6_price 38 = .ok (.iconst 0, 1) := by decide +kernel
theorem dX6_price_39 : decode cX6_price 39 = .ok (.invokevirtual 155, 3) := by decide +kernel
theorem dX6_price_42 : decode cX6_price 42 = .ok (.iload_n 2, 1) := by decide +kernel
theorem dX6_price_43 : decode cX6_price 43 = .ok (.isub, 1) := by decide +kernel
theorem dX6_price_44 : decode cX6_price 44 = .ok (.ireturn, 1) := by decide +kernel
def fX6_price (sh : SH) (this : Nat) (v1 : Int32) (I : IH) : Option (Int32 × IH) :=
  if (fX6_isUnder v1 48) = 0 then (
    some ((-1001), I)) else
  (gR sh 6 this 3).bind fun x1 =>
  (ck sh 5 x1).bind fun u2 =>
  b2 (fX5_settle sh x1 I) fun x3 i4 =>
  (gR sh 6 this 3).bind fun x5 =>
  (gR sh 5 x5 1).bind fun x6 =>
  (aI sh i4 0 x6 v1).bind fun x7 =>
  (sI sh i4 x6 v1 (x7 + 1)).bind fun i8 =>
  (gR sh 6 this 3).bind fun x9 =>
  (ck sh 5 x9).bind fun u10 =>
  b2 (fX5_again sh x9 0 i8) fun x11 i12 =>
  some ((x11 - x3), i12)
set_option maxHeartbeats 4000000 in
set_option maxRecDepth 20000 in
theorem jbX6_price_0 (G : GT) {X : XT} {sh : SH} {L : LH} {n : Nat} {r : Int32} {I' : IH}  {this : Nat}  {v1 : Int32} {I : IH} (F : MF G X RX6 cX6_price 3 5 (some .int) "price") (h : fX6_price sh this v1 I = some (r, I')) : J G X (QE G X (some (.int r)) sh I' L n) 3 sh I L n 0 0 0 [(0, .ref this), (1, .int v1)] [] := by
  unfold fX6_price at h
  refine j_iload_n (pc := 0) (k0 := 1) F 1 rfl dX6_price_0 ?_
  refine j_bipush (pc := 1) F 48 dX6_price_1 (by decide) ?_
  refine j_callS1 (pc := 3) (As := [.int v1, .int 48]) (st := []) (e1 := 0) (es1 := 0) F clX6_61 cwX6_isUnder (ctX6_isUnder G) rfl rfl rfl rfl rfl rfl dX6_price_3 ?_
  refine j_if_ne (pc := 6) F 13 dX6_price_6 rfl (fun c => ?_) (fun c => ?_)
  · have h := iz_f c h
    refine j_aload_n (pc := 13) (k0 := 0) F 0 rfl dX6_price_13 ?_
    obtain ⟨x1, hx1, h⟩ := ob h
    refine j_getR (pc := 14) F flX6_35 hx1 dX6_price_14 ?_
    obtain ⟨u2, hu2, h⟩ := ob h
    have hou2 := ck_obt hu2
    obtain ⟨x3, i4, hx3, h⟩ := b2_obt h
    refine j_callV1 (pc := 17) (ci := 5) (As := []) (st := []) (e1 := 0) (es1 := 0) F clX6_103 cwX5_settle rfl hou2 (ctX5_settle G hou2 hx3) rfl rfl rfl rfl rfl rfl dX6_price_17 ?_
    refine j_istore_n (pc := 20) (k1 := 2) (ls' := [(2, .int x3), (0, .ref this), (1, .int v1)]) F rfl rfl rfl dX6_price_20 ?_
    refine j_aload_n (pc := 21) (k0 := 0) F 1 rfl dX6_price_21 ?_
    obtain ⟨x5, hx5, h⟩ := ob h
    refine j_getR (pc := 22) F flX6_35 hx5 dX6_price_22 ?_
    obtain ⟨x6, hx6, h⟩ := ob h
    refine j_getR (pc := 25) F flX6_111 hx6 dX6_price_25 ?_
    refine j_iload_n (pc := 28) (k0 := 1) F 2 rfl dX6_price_28 ?_
    refine j_dup2 (pc := 29) F dX6_price_29 rfl rfl ?_
    obtain ⟨x7, hx7, h⟩ := ob h
    refine j_iald (pc := 30) F hx7 dX6_price_30 ?_
    refine j_iconst (pc := 31) F 1 dX6_price_31 (by decide) ?_
    refine j_iadd (pc := 32) F dX6_price_32 ?_
    obtain ⟨i8, hi8, h⟩ := ob h
    refine j_iast (pc := 33) F hi8 dX6_price_33 ?_
    refine j_aload_n (pc := 34) (k0 := 0) F 1 rfl dX6_price_34 ?_
    obtain ⟨x9, hx9, h⟩ := ob h
    refine j_getR (pc := 35) F flX6_35 hx9 dX6_price_35 ?_
    refine j_iconst (pc := 38) F 0 dX6_price_38 (by decide) ?_
    obtain ⟨u10, hu10, h⟩ := ob h
    have hou10 := ck_obt hu10
    obtain ⟨x11, i12, hx11, h⟩ := b2_obt h
    refine j_callV1 (pc := 39) (ci := 5) (As := [.int 0]) (st := []) (e1 := 0) (es1 := 0) F clX6_155 cwX5_again rfl hou10 (ctX5_again G hou10 hx11) rfl rfl rfl rfl rfl rfl dX6_price_39 ?_
    refine j_iload_n (pc := 42) (k0 := 2) F 0 rfl dX6_price_42 ?_
    refine j_isub (pc := 43) F dX6_price_43 ?_
    have g1 := Option.some.inj h
    obtain ⟨q3, g2⟩ := Prod.mk.inj g1
    subst q3
    subst g2
    exact j_iret (pc := 44) F dX6_price_44
  · have h := iz_t c h
    refine j_sipush (pc := 9) F (-1001) dX6_price_9 (by decide) ?_
    have g1 := Option.some.inj h
    obtain ⟨q3, g2⟩ := Prod.mk.inj g1
    subst q3
    subst g2
    exact j_iret (pc := 12) F dX6_price_12
theorem ctX6_price (G : GT) {sh : SH} {I : IH} {L : LH} {n : Nat} {this : Nat} {v1 : Int32} {r : Int32} {I' : IH}  (h : fX6_price sh this v1 I = some (r, I')) : Ct G yX6_price cX6_price 3 (some .int) 5 [.ref this, .int v1] sh I L n (some (.int r)) sh I' L n 0 0 := by
  refine ct_of (y := yX6_price) (by decide +kernel) rfl (fun X F => ?_)
  exact jbX6_price_0 G F h
theorem dX6_part_0 : decode cX6_part 0 = .ok (.aload_n 0, 1) := by decide +kernel
theorem dX6_part_1 : decode cX6_part 1 = .ok (.getfield 19, 3) := by decide +kernel
theorem dX6_part_4 : decode cX6_part 4 = .ok (.iload_n 1, 1) := by decide +kernel
theorem dX6_part_5 : decode cX6_part 5 = .ok (.invokevirtual 99, 3) := by decide +kernel
theorem dX6_part_8 : decode cX6_part 8 = .ok (.ifCond .eq 21, 3) := by decide +kernel
theorem dX6_part_11 : decode cX6_part 11 = .ok (.iload_n 2, 1) := by decide +kernel
theorem dX6_part_12 : decode cX6_part 12 = .ok (.bipush 48, 2) := by decide +kernel
theorem dX6_part_14 : decode cX6_part 14 = .ok (.invokestatic 61, 3) := by decide +kernel
theorem dX6_part_17 : decode cX6_part 17 = .ok (.ifCond .eq 12, 3) := by decide +kernel
theorem dX6_part_20 : decode cX6_part 20 = .ok (.iload 4, 2) := by decide +kernel
theorem dX6_part_22 : decode cX6_part 22 = .ok (.iconst 2, 1) := by decide +kernel
theorem dX6_part_23 : decode cX6_part 23 = .ok (.invokestatic 61, 3) := by decide +kernel
theorem dX6_part_26 : decode cX6_part 26 = .ok (.ifCond .ne 5, 3) := by decide +kernel
theorem dX6_part_29 : decode cX6_part 29 = .ok (.iconst (-1), 1) := by decide +kernel
theorem dX6_part_30 : decode cX6_part 30 = .ok (.ireturn, 1) := by decide +kernel
theorem dX6_part_31 : decode cX6_part 31 = .ok (.iload_n 3, 1) := by decide +kernel
theorem dX6_part_32 : decode cX6_part 32 = .ok (.iconst 1, 1) := by decide +kernel
theorem dX6_part_33 : decode cX6_part 33 = .ok (.if_icmp .lt 9, 3) := by decide +kernel
theorem dX6_part_36 : decode cX6_part 36 = .ok (.iload_n 3, 1) := by decide +kernel
theorem dX6_part_37 : decode cX6_part 37 = .ok (.bipush 99, 2) := by decide +kernel
theorem dX6_part_39 : decode cX6_part 39 = .ok (.if_icmp .le 6, 3) := by decide +kernel
theorem dX6_part_42 : decode cX6_part 42 = .ok (.bipush (-2), 2) := by decide +kernel
theorem dX6_part_44 : decode cX6_part 44 = .ok (.ireturn, 1) := by decide +kernel
theorem dX6_part_45 : decode cX6_part 45 = .ok (.aload_n 0, 1) := by decide +kernel
theorem dX6_part_46 : decode cX6_part 46 = .ok (.getfield 35, 3) := by decide +kernel
theorem dX6_part_49 : decode cX6_part 49 = .ok (.invokevirtual 158, 3) := by decide +kernel
theorem dX6_part_52 : decode cX6_part 52 = .ok (.iload_n 3, 1) := by decide +kernel
theorem dX6_part_53 : decode cX6_part 53 = .ok (.istore 5, 2) := by decide +kernel
theorem dX6_part_55 : decode cX6_part 55 = .ok (.iload_n 2, 1) := by decide +kernel
theorem dX6_part_56 : decode cX6_part 56 = .ok (.istore 6, 2) := by decide +kernel
theorem dX6_part_58 : decode cX6_part 58 = .ok (.iconst 0, 1) := by decide +kernel
theorem dX6_part_59 : decode cX6_part 59 = .ok (.istore 7, 2) := by decide +kernel
theorem dX6_part_61 : decode cX6_part 61 = .ok (.iload 7, 2) := by decide +kernel
theorem dX6_part_63 : decode cX6_part 63 = .ok (.iload_n 1, 1) := by decide +kernel
theorem dX6_part_64 : decode cX6_part 64 = .ok (.if_icmp .gt 48, 3) := by decide +kernel
theorem dX6_part_67 : decode cX6_part 67 = .ok (.aload_n 0, 1) := by decide +kernel
theorem dX6_part_68 : decode cX6_part 68 = .ok (.getfield 35, 3) := by decide +kernel
theorem dX6_part_71 : decode cX6_part 71 = .ok (.iload 7, 2) := by decide +kernel
theorem dX6_part_73 : decode cX6_part 73 = .ok (.aload_n 0, 1) := by decide +kernel
theorem dX6_part_74 : decode cX6_part 74 = .ok (.getfield 35, 3) := by decide +kernel
theorem dX6_part_77 : decode cX6_part 77 = .ok (.iload 7, 2) := by decide +kernel
theorem dX6_part_79 : decode cX6_part 79 = .ok (.iload 5, 2) := by decide +kernel
theorem dX6_part_81 : decode cX6_part 81 = .ok (.invokevirtual 161, 3) := by decide +kernel
theorem dX6_part_84 : decode cX6_part 84 = .ok (.invokevirtual 164, 3) := by decide +kernel
theorem dX6_part_87 : decode cX6_part 87 = .ok (.istore 5, 2) := by decide +kernel
theorem dX6_part_89 : decode cX6_part 89 = .ok (.iload 6, 2) := by decide +kernel
theorem dX6_part_91 : decode cX6_part 91 = .ok (.aload_n 0, 1) := by decide +kernel
theorem dX6_part_92 : decode cX6_part 92 = .ok (.getfield 35, 3) := by decide +kernel
theorem dX6_part_95 : decode cX6_part 95 = .ok (.getfield 167, 3) := by decide +kernel
theorem dX6_part_98 : decode cX6_part 98 = .ok (.iconst 0, 1) := by decide +kernel
theorem dX6_part_99 : decode cX6_part 99 = .ok (.aaload, 1) := by decide +kernel
theorem dX6_part_100 : decode cX6_part 100 = .ok (.iload 7, 2) := by decide +kernel
theorem dX6_part_102 : decode cX6_part 102 = .ok (.iaload, 1) := by decide +kernel
theorem dX6_part_103 : decode cX6_part 103 = .ok (.iadd, 1) := by decide +kernel
theorem dX6_part_104 : decode cX6_part 104 = .ok (.istore 6, 2) := by decide +kernel
theorem dX6_part_106 : decode cX6_part 106 = .ok (.iinc 7 1, 3) := by decide +kernel
theorem dX6_part_109 : decode cX6_part 109 = .ok (.goto (-48), 3) := by decide +kernel
theorem dX6_part_112 : decode cX6_part 112 = .ok (.iload 6, 2) := by decide +kernel
theorem dX6_part_114 : decode cX6_part 114 = .ok (.bipush 48, 2) := by decide +kernel
theorem dX6_part_116 : decode cX6_part 116 = .ok (.if_icmp .lt 6, 3) := by decide +kernel
theorem dX6_part_119 : decode cX6_part 119 = .ok (.iconst 0, 1) := by decide +kernel
theorem dX6_part_120 : decode cX6_part 120 = .ok (.istore 5, 2) := by decide +kernel
theorem dX6_part_122 : decode cX6_part 122 = .ok (.iload 4, 2) := by decide +kernel
theorem dX6_part_124 : decode cX6_part 124 = .ok (.ifCond .ne 8, 3) := by decide +kernel
theorem dX6_part_127 : decode cX6_part 127 = .ok (.iload 5, 2) := by decide +kernel
theorem dX6_part_129 : decode cX6_part 129 = .ok (.goto 15, 3) := by decide +kernel
theorem dX6_part_132 : decode cX6_part 132 = .ok (.iload 5, 2) := by decide +kernel
theorem dX6_part_134 : decode cX6_part 134 = .ok (.ifCond .ne 8, 3) := by decide +kernel
theorem dX6_part_137 : decode cX6_part 137 = .ok (.bipush (-5), 2) := by decide +kernel
theorem dX6_part_139 : decode cX6_part 139 = .ok (.goto 5, 3) := by decide +kernel
theorem dX6_part_142 : decode cX6_part 142 = .ok (.iload 6, 2) := by decide +kernel
theorem dX6_part_144 : decode cX6_part 144 = .ok (.ireturn, 1) := by decide +kernel
def fX6_part_b61 (sh : SH) (this : Nat) (k112 : (Int32 → Int32 → Int32 → IH → Option (Int32 × IH))) : Nat → Int32 → Int32 → Int32 → Int32 → Int32 → IH → Option (Int32 × IH)
  | 0, _, _, _, _, _, _ => none
  | fuel + 1, v1, v4, v5, v6, v7, I =>
    if v1 < v7 then (
      k112 v4 v5 v6 I) else
    (gR sh 6 this 3).bind fun x1 =>
    (gR sh 6 this 3).bind fun x2 =>
    (ck sh 5 x2).bind fun u3 =>
    (fX5_going sh I x2 v7 v5).bind fun x4 =>
    (ck sh 5 x1).bind fun u5 =>
    (fX5_arriving sh I x1 v7 x4).bind fun x6 =>
    (gR sh 6 this 3).bind fun x7 =>
    (gR sh 5 x7 2).bind fun x8 =>
    (aR sh 4 x8 0).bind fun x9 =>
    (aI sh I 0 x9 v7).bind fun x10 =>
    fX6_part_b61 sh this k112 fuel v1 v4 x6 (v6 + x10) (v7 + 1) I
def fX6_part_b122 (sh : SH) (this : Nat) (v4 : Int32) (v5 : Int32) (v6 : Int32) (I : IH) : Option (Int32 × IH) :=
  if v4 = 0 then (
    some (v5, I)) else
  if v5 = 0 then (
    some ((-5), I)) else
  some (v6, I)
def fX6_part_b112 (sh : SH) (this : Nat) (v4 : Int32) (v5 : Int32) (v6 : Int32) (I : IH) : Option (Int32 × IH) :=
  if v6 < 48 then (
    fX6_part_b122 sh this v4 v5 v6 I) else
  fX6_part_b122 sh this v4 0 v6 I
def fX6_part (sh : SH) (this : Nat) (v1 : Int32) (v2 : Int32) (v3 : Int32) (v4 : Int32) (I : IH) : Option (Int32 × IH) :=
  (gR sh 6 this 0).bind fun x1 =>
  (ck sh 2 x1).bind fun u2 =>
  (fX2_isPlace sh I x1 v1).bind fun x3 =>
  if x3 = 0 then (
    some ((-1), I)) else
  if (fX6_isUnder v2 48) = 0 then (
    some ((-1), I)) else
  if (fX6_isUnder v4 2) = 0 then (
    some ((-1), I)) else
  if v3 < 1 then (
    some ((-2), I)) else
  if v3 ≤ 99 then (
    (gR sh 6 this 3).bind fun x4 =>
    (ck sh 5 x4).bind fun u5 =>
    (fX5_load sh x4 I).bind fun i6 =>
    fX6_part_b61 sh this (fX6_part_b112 sh this) 1000 v1 v4 v3 v2 0 i6) else
  some ((-2), I)
set_option maxHeartbeats 4000000 in
set_option maxRecDepth 20000 in
theorem jbX6_part_61 (G : GT) {X : XT} {sh : SH} {L : LH} {n : Nat} {r : Int32} {I' : IH}  {this : Nat} {k112 : (Int32 → Int32 → Int32 → IH → Option (Int32 × IH))} (F : MF G X RX6 cX6_part 8 4 (some .int) "part")
    (hk112 : ∀ {v4 : Int32} {v5 : Int32} {v6 : Int32} {I : IH}, k112 v4 v5 v6 I = some (r, I') → J G X (QE G X (some (.int r)) sh I' L n) 8 sh I L n 0 0 112 [(0, .ref this), (4, .int v4), (5, .int v5), (6, .int v6)] []) : ∀ (fuel : Nat) (v1 : Int32) (v4 : Int32) (v5 : Int32) (v6 : Int32) (v7 : Int32) (I : IH), fX6_part_b61 sh this k112 fuel v1 v4 v5 v6 v7 I = some (r, I') → J G X (QE G X (some (.int r)) sh I' L n) 8 sh I L n 0 0 61 [(0, .ref this), (1, .int v1), (4, .int v4), (5, .int v5), (6, .int v6), (7, .int v7)] []
  | 0 => by
    intros
    rename_i h
    exact absurd (show none = some _ from h) (by intro z; cases z)
  | fuel + 1 => by
    intro v1 v4 v5 v6 v7 I h
    rw [fX6_part_b61] at h
    refine j_iload (pc := 61) (k0 := 7) F 5 rfl dX6_part_61 ?_
    refine j_iload_n (pc := 63) (k0 := 1) F 1 rfl dX6_part_63 ?_
    refine j_icmp_gt (pc := 64) F 112 dX6_part_64 rfl (fun c => ?_) (fun c => ?_)
    · have h := iz_t c h
      refine j_sub [0, 2, 3, 4] rfl ?_
      exact hk112 h
    · have h := iz_f c h
      refine j_aload_n (pc := 67) (k0 := 0) F 0 rfl dX6_part_67 ?_
      obtain ⟨x1, hx1, h⟩ := ob h
      refine j_getR (pc := 68) F flX6_35 hx1 dX6_part_68 ?_
      refine j_iload (pc := 71) (k0 := 7) F 5 rfl dX6_part_71 ?_
      refine j_aload_n (pc := 73) (k0 := 0) F 0 rfl dX6_part_73 ?_
      obtain ⟨x2, hx2, h⟩ := ob h
      refine j_getR (pc := 74) F flX6_35 hx2 dX6_part_74 ?_
      refine j_iload (pc := 77) (k0 := 7) F 5 rfl dX6_part_77 ?_
      refine j_iload (pc := 79) (k0 := 5) F 3 rfl dX6_part_79 ?_
      obtain ⟨u3, hu3, h⟩ := ob h
      have hou3 := ck_obt hu3
      obtain ⟨x4, hx4, h⟩ := ob h
      refine j_callV1 (pc := 81) (ci := 5) (As := [.int v7, .int v5]) (st := [.int v7, .ref x1]) (e1 := 0) (es1 := 0) F clX6_161 cwX5_going rfl hou3 (ctX5_going G hx4) rfl rfl rfl rfl rfl rfl dX6_part_81 ?_
      obtain ⟨u5, hu5, h⟩ := ob h
      have hou5 := ck_obt hu5
      obtain ⟨x6, hx6, h⟩ := ob h
      refine j_callV1 (pc := 84) (ci := 5) (As := [.int v7, .int x4]) (st := []) (e1 := 0) (es1 := 0) F clX6_164 cwX5_arriving rfl hou5 (ctX5_arriving G hx6) rfl rfl rfl rfl rfl rfl dX6_part_84 ?_
      refine j_istore (pc := 87) (k1 := 5) (ls' := [(5, .int x6), (0, .ref this), (1, .int v1), (4, .int v4), (6, .int v6), (7, .int v7)]) F rfl rfl dX6_part_87 ?_
      refine j_iload (pc := 89) (k0 := 6) F 4 rfl dX6_part_89 ?_
      refine j_aload_n (pc := 91) (k0 := 0) F 1 rfl dX6_part_91 ?_
      obtain ⟨x7, hx7, h⟩ := ob h
      refine j_getR (pc := 92) F flX6_35 hx7 dX6_part_92 ?_
      obtain ⟨x8, hx8, h⟩ := ob h
      refine j_getR (pc := 95) F flX6_167 hx8 dX6_part_95 ?_
      refine j_iconst (pc := 98) F 0 dX6_part_98 (by decide) ?_
      obtain ⟨x9, hx9, h⟩ := ob h
      refine j_aald (pc := 99) F (Or.inr rfl) hx9 dX6_part_99 ?_
      refine j_iload (pc := 100) (k0 := 7) F 5 rfl dX6_part_100 ?_
      obtain ⟨x10, hx10, h⟩ := ob h
      refine j_iald (pc := 102) F hx10 dX6_part_102 ?_
      refine j_iadd (pc := 103) F dX6_part_103 ?_
      refine j_istore (pc := 104) (k1 := 6) (ls' := [(6, .int (v6 + x10)), (5, .int x6), (0, .ref this), (1, .int v1), (4, .int v4), (7, .int v7)]) F rfl rfl dX6_part_104 ?_
      refine j_iinc (pc := 106) (k1 := 7) (ls' := [(7, .int (v7 + 1)), (6, .int (v6 + x10)), (5, .int x6), (0, .ref this), (1, .int v1), (4, .int v4)]) F (v7 + 1) 5 rfl rfl rfl rfl dX6_part_106 ?_
      refine j_goto (pc := 109) F 61 dX6_part_109 rfl ?_
      refine j_sub [3, 4, 5, 2, 1, 0] rfl ?_
      exact jbX6_part_61 G F hk112 fuel _ _ _ _ _ _ h
set_option maxHeartbeats 4000000 in
set_option maxRecDepth 20000 in
theorem jbX6_part_122 (G : GT) {X : XT} {sh : SH} {L : LH} {n : Nat} {r : Int32} {I' : IH}  {this : Nat}  {v4 : Int32} {v5 : Int32} {v6 : Int32} {I : IH} (F : MF G X RX6 cX6_part 8 4 (some .int) "part") (h : fX6_part_b122 sh this v4 v5 v6 I = some (r, I')) : J G X (QE G X (some (.int r)) sh I' L n) 8 sh I L n 0 0 122 [(0, .ref this), (4, .int v4), (5, .int v5), (6, .int v6)] [] := by
  unfold fX6_part_b122 at h
  refine j_iload (pc := 122) (k0 := 4) F 1 rfl dX6_part_122 ?_
  refine j_if_ne (pc := 124) F 132 dX6_part_124 rfl (fun c => ?_) (fun c => ?_)
  · have h := iz_f c h
    refine j_iload (pc := 132) (k0 := 5) F 2 rfl dX6_part_132 ?_
    refine j_if_ne (pc := 134) F 142 dX6_part_134 rfl (fun c => ?_) (fun c => ?_)
    · have h := iz_f c h
      refine j_iload (pc := 142) (k0 := 6) F 3 rfl dX6_part_142 ?_
      have g1 := Option.some.inj h
      obtain ⟨q3, g2⟩ := Prod.mk.inj g1
      subst q3
      subst g2
      exact j_iret (pc := 144) F dX6_part_144
    · have h := iz_t c h
      refine j_bipush (pc := 137) F (-5) dX6_part_137 (by decide) ?_
      refine j_goto (pc := 139) F 144 dX6_part_139 rfl ?_
      have g1 := Option.some.inj h
      obtain ⟨q3, g2⟩ := Prod.mk.inj g1
      subst q3
      subst g2
      exact j_iret (pc := 144) F dX6_part_144
  · have h := iz_t c h
    refine j_iload (pc := 127) (k0 := 5) F 2 rfl dX6_part_127 ?_
    refine j_goto (pc := 129) F 144 dX6_part_129 rfl ?_
    have g1 := Option.some.inj h
    obtain ⟨q3, g2⟩ := Prod.mk.inj g1
    subst q3
    subst g2
    exact j_iret (pc := 144) F dX6_part_144
set_option maxHeartbeats 4000000 in
set_option maxRecDepth 20000 in
theorem jbX6_part_112 (G : GT) {X : XT} {sh : SH} {L : LH} {n : Nat} {r : Int32} {I' : IH}  {this : Nat}  {v4 : Int32} {v5 : Int32} {v6 : Int32} {I : IH} (F : MF G X RX6 cX6_part 8 4 (some .int) "part") (h : fX6_part_b112 sh this v4 v5 v6 I = some (r, I')) : J G X (QE G X (some (.int r)) sh I' L n) 8 sh I L n 0 0 112 [(0, .ref this), (4, .int v4), (5, .int v5), (6, .int v6)] [] := by
  unfold fX6_part_b112 at h
  refine j_iload (pc := 112) (k0 := 6) F 3 rfl dX6_part_112 ?_
  refine j_bipush (pc := 114) F 48 dX6_part_114 (by decide) ?_
  refine j_icmp_lt (pc := 116) F 122 dX6_part_116 rfl (fun c => ?_) (fun c => ?_)
  · have h := iz_t c h
    exact jbX6_part_122 G F h
  · have h := iz_f c h
    refine j_iconst (pc := 119) F 0 dX6_part_119 (by decide) ?_
    refine j_istore (pc := 120) (k1 := 5) (ls' := [(5, .int 0), (0, .ref this), (4, .int v4), (6, .int v6)]) F rfl rfl dX6_part_120 ?_
    refine j_sub [1, 2, 0, 3] rfl ?_
    exact jbX6_part_122 G F h
set_option maxHeartbeats 4000000 in
set_option maxRecDepth 20000 in
theorem jbX6_part_0 (G : GT) {X : XT} {sh : SH} {L : LH} {n : Nat} {r : Int32} {I' : IH}  {this : Nat}  {v1 : Int32} {v2 : Int32} {v3 : Int32} {v4 : Int32} {I : IH} (F : MF G X RX6 cX6_part 8 4 (some .int) "part") (h : fX6_part sh this v1 v2 v3 v4 I = some (r, I')) : J G X (QE G X (some (.int r)) sh I' L n) 8 sh I L n 0 0 0 [(0, .ref this), (1, .int v1), (2, .int v2), (3, .int v3), (4, .int v4)] [] := by
  unfold fX6_part at h
  refine j_aload_n (pc := 0) (k0 := 0) F 0 rfl dX6_part_0 ?_
  obtain ⟨x1, hx1, h⟩ := ob h
  refine j_getR (pc := 1) F flX6_19 hx1 dX6_part_1 ?_
  refine j_iload_n (pc := 4) (k0 := 1) F 1 rfl dX6_part_4 ?_
  obtain ⟨u2, hu2, h⟩ := ob h
  have hou2 := ck_obt hu2
  obtain ⟨x3, hx3, h⟩ := ob h
  refine j_callV1 (pc := 5) (ci := 2) (As := [.int v1]) (st := []) (e1 := 0) (es1 := 0) F clX6_99 cwX2_isPlace rfl hou2 (ctX2_isPlace G hx3) rfl rfl rfl rfl rfl rfl dX6_part_5 ?_
  refine j_if_eq (pc := 8) F 29 dX6_part_8 rfl (fun c => ?_) (fun c => ?_)
  · have h := iz_t c h
    refine j_iconst (pc := 29) F (-1) dX6_part_29 (by decide) ?_
    have g1 := Option.some.inj h
    obtain ⟨q3, g2⟩ := Prod.mk.inj g1
    subst q3
    subst g2
    exact j_iret (pc := 30) F dX6_part_30
  · have h := iz_f c h
    refine j_iload_n (pc := 11) (k0 := 2) F 2 rfl dX6_part_11 ?_
    refine j_bipush (pc := 12) F 48 dX6_part_12 (by decide) ?_
    refine j_callS1 (pc := 14) (As := [.int v2, .int 48]) (st := []) (e1 := 0) (es1 := 0) F clX6_61 cwX6_isUnder (ctX6_isUnder G) rfl rfl rfl rfl rfl rfl dX6_part_14 ?_
    refine j_if_eq (pc := 17) F 29 dX6_part_17 rfl (fun c => ?_) (fun c => ?_)
    · have h := iz_t c h
      refine j_iconst (pc := 29) F (-1) dX6_part_29 (by decide) ?_
      have g1 := Option.some.inj h
      obtain ⟨q3, g2⟩ := Prod.mk.inj g1
      subst q3
      subst g2
      exact j_iret (pc := 30) F dX6_part_30
    · have h := iz_f c h
      refine j_iload (pc := 20) (k0 := 4) F 4 rfl dX6_part_20 ?_
      refine j_iconst (pc := 22) F 2 dX6_part_22 (by decide) ?_
      refine j_callS1 (pc := 23) (As := [.int v4, .int 2]) (st := []) (e1 := 0) (es1 := 0) F clX6_61 cwX6_isUnder (ctX6_isUnder G) rfl rfl rfl rfl rfl rfl dX6_part_23 ?_
      refine j_if_ne (pc := 26) F 31 dX6_part_26 rfl (fun c => ?_) (fun c => ?_)
      · have h := iz_f c h
        refine j_iload_n (pc := 31) (k0 := 3) F 3 rfl dX6_part_31 ?_
        refine j_iconst (pc := 32) F 1 dX6_part_32 (by decide) ?_
        refine j_icmp_lt (pc := 33) F 42 dX6_part_33 rfl (fun c => ?_) (fun c => ?_)
        · have h := iz_t c h
          refine j_bipush (pc := 42) F (-2) dX6_part_42 (by decide) ?_
          have g1 := Option.some.inj h
          obtain ⟨q3, g2⟩ := Prod.mk.inj g1
          subst q3
          subst g2
          exact j_iret (pc := 44) F dX6_part_44
        · have h := iz_f c h
          refine j_iload_n (pc := 36) (k0 := 3) F 3 rfl dX6_part_36 ?_
          refine j_bipush (pc := 37) F 99 dX6_part_37 (by decide) ?_
          refine j_icmp_le (pc := 39) F 45 dX6_part_39 rfl (fun c => ?_) (fun c => ?_)
          · have h := iz_t c h
            refine j_aload_n (pc := 45) (k0 := 0) F 0 rfl dX6_part_45 ?_
            obtain ⟨x4, hx4, h⟩ := ob h
            refine j_getR (pc := 46) F flX6_35 hx4 dX6_part_46 ?_
            obtain ⟨u5, hu5, h⟩ := ob h
            have hou5 := ck_obt hu5
            obtain ⟨i6, hi6, h⟩ := ob h
            refine j_callV0 (pc := 49) (ci := 5) (As := []) (st := []) (e1 := 0) (es1 := 0) F clX6_158 cwX5_load rfl hou5 (ctX5_load G hi6) rfl rfl rfl rfl rfl rfl dX6_part_49 ?_
            refine j_iload_n (pc := 52) (k0 := 3) F 3 rfl dX6_part_52 ?_
            refine j_istore (pc := 53) (k1 := 5) (ls' := [(5, .int v3), (0, .ref this), (1, .int v1), (2, .int v2), (3, .int v3), (4, .int v4)]) F rfl rfl dX6_part_53 ?_
            refine j_iload_n (pc := 55) (k0 := 2) F 3 rfl dX6_part_55 ?_
            refine j_istore (pc := 56) (k1 := 6) (ls' := [(6, .int v2), (5, .int v3), (0, .ref this), (1, .int v1), (2, .int v2), (3, .int v3), (4, .int v4)]) F rfl rfl dX6_part_56 ?_
            refine j_iconst (pc := 58) F 0 dX6_part_58 (by decide) ?_
            refine j_istore (pc := 59) (k1 := 7) (ls' := [(7, .int 0), (6, .int v2), (5, .int v3), (0, .ref this), (1, .int v1), (2, .int v2), (3, .int v3), (4, .int v4)]) F rfl rfl dX6_part_59 ?_
            refine j_sub [3, 4, 7, 2, 1, 0] rfl ?_
            exact jbX6_part_61 G F (fun h => jbX6_part_112 G F h) 1000 _ _ _ _ _ _ h
          · have h := iz_f c h
            refine j_bipush (pc := 42) F (-2) dX6_part_42 (by decide) ?_
            have g1 := Option.some.inj h
            obtain ⟨q3, g2⟩ := Prod.mk.inj g1
            subst q3
            subst g2
            exact j_iret (pc := 44) F dX6_part_44
      · have h := iz_t c h
        refine j_iconst (pc := 29) F (-1) dX6_part_29 (by decide) ?_
        have g1 := Option.some.inj h
        obtain ⟨q3, g2⟩ := Prod.mk.inj g1
        subst q3
        subst g2
        exact j_iret (pc := 30) F dX6_part_30
theorem ctX6_part (G : GT) {sh : SH} {I : IH} {L : LH} {n : Nat} {this : Nat} {v1 : Int32} {v2 : Int32} {v3 : Int32} {v4 : Int32} {r : Int32} {I' : IH}  (h : fX6_part sh this v1 v2 v3 v4 I = some (r, I')) : Ct G yX6_part cX6_part 8 (some .int) 4 [.ref this, .int v1, .int v2, .int v3, .int v4] sh I L n (some (.int r)) sh I' L n 0 0 := by
  refine ct_of (y := yX6_part) (by decide +kernel) rfl (fun X F => ?_)
  exact jbX6_part_0 G F h
theorem dX6_odds_0 : decode cX6_odds 0 = .ok (.iload_n 1, 1) := by decide +kernel
theorem dX6_odds_1 : decode cX6_odds 1 = .ok (.ifCond .lt 21, 3) := by decide +kernel
theorem dX6_odds_4 : decode cX6_odds 4 = .ok (.iload_n 1, 1) := by decide +kernel
theorem dX6_odds_5 : decode cX6_odds 5 = .ok (.bipush 10, 2) := by decide +kernel
theorem dX6_odds_7 : decode cX6_odds 7 = .ok (.if_icmp .gt 15, 3) := by decide +kernel
theorem dX6_odds_10 : decode cX6_odds 10 = .ok (.iload_n 2, 1) := by decide +kernel
theorem dX6_odds_11 : decode cX6_odds 11 = .ok (.ifCond .lt 11, 3) := by decide +kernel
theorem dX6_odds_14 : decode cX6_odds 14 = .ok (.iload_n 2, 1) := by decide +kernel
theorem dX6_odds_15 : decode cX6_odds 15 = .ok (.bipush 10, 2) := by decide +kernel
theorem dX6_odds_17 : decode cX6_odds 17 = .ok (.iload_n 1, 1) := by decide +kernel
theorem dX6_odds_18 : decode cX6_odds 18 = .ok (.isub, 1) := by decide +kernel
theorem dX6_odds_19 : decode cX6_odds 19 = .ok (.if_icmp .le 6, 3) := by decide +kernel
theorem dX6_odds_22 : decode cX6_odds 22 = .ok (.bipush (-2), 2) := by decide +kernel
theorem dX6_odds_24 : decode cX6_odds 24 = .ok (.ireturn, 1) := by decide +kernel
theorem dX6_odds_25 : decode cX6_odds 25 = .ok (.aload_n 0, 1) := by decide +kernel
theorem dX6_odds_26 : decode cX6_odds 26 = .ok (.getfield 19, 3) := by decide +kernel
theorem dX6_odds_29 : decode cX6_odds 29 = .ok (.getfield 168, 3) := by decide +kernel
theorem dX6_odds_32 : decode cX6_odds 32 = .ok (.iconst 0, 1) := by decide +kernel
theorem dX6_odds_33 : decode cX6_odds 33 = .ok (.iload_n 1, 1) := by decide +kernel
theorem dX6_odds_34 : decode cX6_odds 34 = .ok (.iastore, 1) := by decide +kernel
theorem dX6_odds_35 : decode cX6_odds 35 = .ok (.aload_n 0, 1) := by decide +kernel
theorem dX6_odds_36 : decode cX6_odds 36 = .ok (.getfield 19, 3) := by decide +kernel
theorem dX6_odds_39 : decode cX6_odds 39 = .ok (.getfield 168, 3) := by decide +kernel
theorem dX6_odds_42 : decode cX6_odds 42 = .ok (.iconst 1, 1) := by decide +kernel
theorem dX6_odds_43 : decode cX6_odds 43 = .ok (.iload_n 2, 1) := by decide +kernel
theorem dX6_odds_44 : decode cX6_odds 44 = .ok (.iastore, 1) := by decide +kernel
theorem dX6_odds_45 : decode cX6_odds 45 = .ok (.aload_n 0, 1) := by decide +kernel
theorem dX6_odds_46 : decode cX6_odds 46 = .ok (.getfield 19, 3) := by decide +kernel
theorem dX6_odds_49 : decode cX6_odds 49 = .ok (.getfield 168, 3) := by decide +kernel
theorem dX6_odds_52 : decode cX6_odds 52 = .ok (.iconst 2, 1) := by decide +kernel
theorem dX6_odds_53 : decode cX6_odds 53 = .ok (.bipush 10, 2) := by decide +kernel
theorem dX6_odds_55 : decode cX6_odds 55 = .ok (.iload_n 1, 1) := by decide +kernel
theorem dX6_odds_56 : decode cX6_odds 56 = .ok (.isub, 1) := by decide +kernel
theorem dX6_odds_57 : decode cX6_odds 57 = .ok (.iload_n 2, 1) := by decide +kernel
theorem dX6_odds_58 : decode cX6_odds 58 = .ok (.isub, 1) := by decide +kernel
theorem dX6_odds_59 : decode cX6_odds 59 = .ok (.iastore, 1) := by decide +kernel
theorem dX6_odds_60 : decode cX6_odds 60 = .ok (.iconst 1, 1) := by decide +kernel
theorem dX6_odds_61 : decode cX6_odds 61 = .ok (.ireturn, 1) := by decide +kernel
def fX6_odds (sh : SH) (this : Nat) (v1 : Int32) (v2 : Int32) (I : IH) : Option (Int32 × IH) :=
  if v1 < 0 then (
    some ((-2), I)) else
  if 10 < v1 then (
    some ((-2), I)) else
  if v2 < 0 then (
    some ((-2), I)) else
  if v2 ≤ (10 - v1) then (
    (gR sh 6 this 0).bind fun x1 =>
    (gR sh 2 x1 2).bind fun x2 =>
    (sI sh I x2 0 v1).bind fun i3 =>
    (gR sh 6 this 0).bind fun x4 =>
    (gR sh 2 x4 2).bind fun x5 =>
    (sI sh i3 x5 1 v2).bind fun i6 =>
    (gR sh 6 this 0).bind fun x7 =>
    (gR sh 2 x7 2).bind fun x8 =>
    (sI sh i6 x8 2 ((10 - v1) - v2)).bind fun i9 =>
    some (1, i9)) else
  some ((-2), I)
set_option maxHeartbeats 4000000 in
set_option maxRecDepth 20000 in
theorem jbX6_odds_0 (G : GT) {X : XT} {sh : SH} {L : LH} {n : Nat} {r : Int32} {I' : IH}  {this : Nat}  {v1 : Int32} {v2 : Int32} {I : IH} (F : MF G X RX6 cX6_odds 3 0 (some .int) "odds") (h : fX6_odds sh this v1 v2 I = some (r, I')) : J G X (QE G X (some (.int r)) sh I' L n) 3 sh I L n 0 0 0 [(0, .ref this), (1, .int v1), (2, .int v2)] [] := by
  unfold fX6_odds at h
  refine j_iload_n (pc := 0) (k0 := 1) F 1 rfl dX6_odds_0 ?_
  refine j_if_lt (pc := 1) F 22 dX6_odds_1 rfl (fun c => ?_) (fun c => ?_)
  · have h := iz_t c h
    refine j_bipush (pc := 22) F (-2) dX6_odds_22 (by decide) ?_
    have g1 := Option.some.inj h
    obtain ⟨q3, g2⟩ := Prod.mk.inj g1
    subst q3
    subst g2
    exact j_iret (pc := 24) F dX6_odds_24
  · have h := iz_f c h
    refine j_iload_n (pc := 4) (k0 := 1) F 1 rfl dX6_odds_4 ?_
    refine j_bipush (pc := 5) F 10 dX6_odds_5 (by decide) ?_
    refine j_icmp_gt (pc := 7) F 22 dX6_odds_7 rfl (fun c => ?_) (fun c => ?_)
    · have h := iz_t c h
      refine j_bipush (pc := 22) F (-2) dX6_odds_22 (by decide) ?_
      have g1 := Option.some.inj h
      obtain ⟨q3, g2⟩ := Prod.mk.inj g1
      subst q3
      subst g2
      exact j_iret (pc := 24) F dX6_odds_24
    · have h := iz_f c h
      refine j_iload_n (pc := 10) (k0 := 2) F 2 rfl dX6_odds_10 ?_
      refine j_if_lt (pc := 11) F 22 dX6_odds_11 rfl (fun c => ?_) (fun c => ?_)
      · have h := iz_t c h
        refine j_bipush (pc := 22) F (-2) dX6_odds_22 (by decide) ?_
        have g1 := Option.some.inj h
        obtain ⟨q3, g2⟩ := Prod.mk.inj g1
        subst q3
        subst g2
        exact j_iret (pc := 24) F dX6_odds_24
      · have h := iz_f c h
        refine j_iload_n (pc := 14) (k0 := 2) F 2 rfl dX6_odds_14 ?_
        refine j_bipush (pc := 15) F 10 dX6_odds_15 (by decide) ?_
        refine j_iload_n (pc := 17) (k0 := 1) F 1 rfl dX6_odds_17 ?_
        refine j_isub (pc := 18) F dX6_odds_18 ?_
        refine j_icmp_le (pc := 19) F 25 dX6_odds_19 rfl (fun c => ?_) (fun c => ?_)
        · have h := iz_t c h
          refine j_aload_n (pc := 25) (k0 := 0) F 0 rfl dX6_odds_25 ?_
          obtain ⟨x1, hx1, h⟩ := ob h
          refine j_getR (pc := 26) F flX6_19 hx1 dX6_odds_26 ?_
          obtain ⟨x2, hx2, h⟩ := ob h
          refine j_getR (pc := 29) F flX6_168 hx2 dX6_odds_29 ?_
          refine j_iconst (pc := 32) F 0 dX6_odds_32 (by decide) ?_
          refine j_iload_n (pc := 33) (k0 := 1) F 1 rfl dX6_odds_33 ?_
          obtain ⟨i3, hi3, h⟩ := ob h
          refine j_iast (pc := 34) F hi3 dX6_odds_34 ?_
          refine j_aload_n (pc := 35) (k0 := 0) F 0 rfl dX6_odds_35 ?_
          obtain ⟨x4, hx4, h⟩ := ob h
          refine j_getR (pc := 36) F flX6_19 hx4 dX6_odds_36 ?_
          obtain ⟨x5, hx5, h⟩ := ob h
          refine j_getR (pc := 39) F flX6_168 hx5 dX6_odds_39 ?_
          refine j_iconst (pc := 42) F 1 dX6_odds_42 (by decide) ?_
          refine j_iload_n (pc := 43) (k0 := 2) F 2 rfl dX6_odds_43 ?_
          obtain ⟨i6, hi6, h⟩ := ob h
          refine j_iast (pc := 44) F hi6 dX6_odds_44 ?_
          refine j_aload_n (pc := 45) (k0 := 0) F 0 rfl dX6_odds_45 ?_
          obtain ⟨x7, hx7, h⟩ := ob h
          refine j_getR (pc := 46) F flX6_19 hx7 dX6_odds_46 ?_
          obtain ⟨x8, hx8, h⟩ := ob h
          refine j_getR (pc := 49) F flX6_168 hx8 dX6_odds_49 ?_
          refine j_iconst (pc := 52) F 2 dX6_odds_52 (by decide) ?_
          refine j_bipush (pc := 53) F 10 dX6_odds_53 (by decide) ?_
          refine j_iload_n (pc := 55) (k0 := 1) F 1 rfl dX6_odds_55 ?_
          refine j_isub (pc := 56) F dX6_odds_56 ?_
          refine j_iload_n (pc := 57) (k0 := 2) F 2 rfl dX6_odds_57 ?_
          refine j_isub (pc := 58) F dX6_odds_58 ?_
          obtain ⟨i9, hi9, h⟩ := ob h
          refine j_iast (pc := 59) F hi9 dX6_odds_59 ?_
          refine j_iconst (pc := 60) F 1 dX6_odds_60 (by decide) ?_
          have g1 := Option.some.inj h
          obtain ⟨q3, g2⟩ := Prod.mk.inj g1
          subst q3
          subst g2
          exact j_iret (pc := 61) F dX6_odds_61
        · have h := iz_f c h
          refine j_bipush (pc := 22) F (-2) dX6_odds_22 (by decide) ?_
          have g1 := Option.some.inj h
          obtain ⟨q3, g2⟩ := Prod.mk.inj g1
          subst q3
          subst g2
          exact j_iret (pc := 24) F dX6_odds_24
theorem ctX6_odds (G : GT) {sh : SH} {I : IH} {L : LH} {n : Nat} {this : Nat} {v1 : Int32} {v2 : Int32} {r : Int32} {I' : IH}  (h : fX6_odds sh this v1 v2 I = some (r, I')) : Ct G yX6_odds cX6_odds 3 (some .int) 0 [.ref this, .int v1, .int v2] sh I L n (some (.int r)) sh I' L n 0 0 := by
  refine ct_of (y := yX6_odds) (by decide +kernel) rfl (fun X F => ?_)
  exact jbX6_odds_0 G F h
theorem dX6_underSkies_0 : decode cX6_underSkies 0 = .ok (.aload_n 0, 1) := by decide +kernel
theorem dX6_underSkies_1 : decode cX6_underSkies 1 = .ok (.getfield 35, 3) := by decide +kernel
theorem dX6_underSkies_4 : decode cX6_underSkies 4 = .ok (.iload_n 1, 1) := by decide +kernel
theorem dX6_underSkies_5 : decode cX6_underSkies 5 = .ok (.iload_n 2, 1) := by decide +kernel
theorem dX6_underSkies_6 : decode cX6_underSkies 6 = .ok (.invokevirtual 255, 3) := by decide +kernel
theorem dX6_underSkies_9 : decode cX6_underSkies 9 = .ok (.aload_n 0, 1) := by decide +kernel
theorem dX6_underSkies_10 : decode cX6_underSkies 10 = .ok (.getfield 35, 3) := by decide +kernel
theorem dX6_underSkies_13 : decode cX6_underSkies 13 = .ok (.iconst 0, 1) := by decide +kernel
theorem dX6_underSkies_14 : decode cX6_underSkies 14 = .ok (.invokevirtual 155, 3) := by decide +kernel
theorem dX6_underSkies_17 : decode cX6_underSkies 17 = .ok (.istore 4, 2) := by decide +kernel
theorem dX6_underSkies_19 : decode cX6_underSkies 19 = .ok (.iload_n 3, 1) := by decide +kernel
theorem dX6_underSkies_20 : decode cX6_underSkies 20 = .ok (.ifCond .ne 6, 3) := by decide +kernel
theorem dX6_underSkies_23 : decode cX6_underSkies 23 = .ok (.iload 4, 2) := by decide +kernel
theorem dX6_underSkies_25 : decode cX6_underSkies 25 = .ok (.ireturn, 1) := by decide +kernel
theorem dX6_underSkies_26 : decode cX6_underSkies 26 = .ok (.aload_n 0, 1) := by decide +kernel
theorem dX6_underSkies_27 : decode cX6_underSkies 27 = .ok (.getfield 35, 3) := by decide +kernel
theorem dX6_underSkies_30 : decode cX6_underSkies 30 = .ok (.aload_n 0, 1) := by decide +kernel
theorem dX6_underSkies_31 : decode cX6_underSkies 31 = .ok (.getfield 35, 3) := by decide +kernel
theorem dX6_underSkies_34 : decode cX6_underSkies 34 = .ok (.getfield 125, 3) := by decide +kernel
theorem dX6_underSkies_37 : decode cX6_underSkies 37 = .ok (.invokevirtual 121, 3) := by decide +kernel
theorem dX6_underSkies_40 : decode cX6_underSkies 40 = .ok (.ifCond .ne 7, 3) := by decide +kernel
theorem dX6_underSkies_43 : decode cX6_underSkies 43 = .ok (.iconst 1, 1) := by decide +kernel
theorem dX6_underSkies_44 : decode cX6_underSkies 44 = .ok (.goto 4, 3) := by decide +kernel
theorem dX6_underSkies_47 : decode cX6_underSkies 47 = .ok (.iconst 0, 1) := by decide +kernel
theorem dX6_underSkies_48 : decode cX6_underSkies 48 = .ok (.ireturn, 1) := by decide +kernel
def fX6_underSkies (sh : SH) (this : Nat) (v1 : Int32) (v2 : Int32) (v3 : Int32) (I : IH) : Option (Int32 × IH) :=
  (gR sh 6 this 3).bind fun x1 =>
  (ck sh 5 x1).bind fun u2 =>
  (fX5_meltUnder sh x1 v1 v2 I).bind fun i3 =>
  (gR sh 6 this 3).bind fun x4 =>
  (ck sh 5 x4).bind fun u5 =>
  b2 (fX5_again sh x4 0 i3) fun x6 i7 =>
  if v3 = 0 then (
    some (x6, i7)) else
  (gR sh 6 this 3).bind fun x8 =>
  (gR sh 6 this 3).bind fun x9 =>
  (gR sh 5 x9 8).bind fun x10 =>
  (ck sh 5 x8).bind fun u11 =>
  (fX5_inAllPlaces sh i7 x8 x10).bind fun x12 =>
  if x12 = 0 then (
    some (1, i7)) else
  some (0, i7)
set_option maxHeartbeats 4000000 in
set_option maxRecDepth 20000 in
theorem jbX6_underSkies_0 (G : GT) {X : XT} {sh : SH} {L : LH} {n : Nat} {r : Int32} {I' : IH}  {this : Nat}  {v1 : Int32} {v2 : Int32} {v3 : Int32} {I : IH} (F : MF G X RX6 cX6_underSkies 5 4 (some .int) "underSkies") (h : fX6_underSkies sh this v1 v2 v3 I = some (r, I')) : J G X (QE G X (some (.int r)) sh I' L n) 5 sh I L n 0 0 0 [(0, .ref this), (1, .int v1), (2, .int v2), (3, .int v3)] [] := by
  unfold fX6_underSkies at h
  refine j_aload_n (pc := 0) (k0 := 0) F 0 rfl dX6_underSkies_0 ?_
  obtain ⟨x1, hx1, h⟩ := ob h
  refine j_getR (pc := 1) F flX6_35 hx1 dX6_underSkies_1 ?_
  refine j_iload_n (pc := 4) (k0 := 1) F 1 rfl dX6_underSkies_4 ?_
  refine j_iload_n (pc := 5) (k0 := 2) F 2 rfl dX6_underSkies_5 ?_
  obtain ⟨u2, hu2, h⟩ := ob h
  have hou2 := ck_obt hu2
  obtain ⟨i3, hi3, h⟩ := ob h
  refine j_callV0 (pc := 6) (ci := 5) (As := [.int v1, .int v2]) (st := []) (e1 := 0) (es1 := 0) F clX6_255 cwX5_meltUnder rfl hou2 (ctX5_meltUnder G hi3) rfl rfl rfl rfl rfl rfl dX6_underSkies_6 ?_
  refine j_aload_n (pc := 9) (k0 := 0) F 0 rfl dX6_underSkies_9 ?_
  obtain ⟨x4, hx4, h⟩ := ob h
  refine j_getR (pc := 10) F flX6_35 hx4 dX6_underSkies_10 ?_
  refine j_iconst (pc := 13) F 0 dX6_underSkies_13 (by decide) ?_
  obtain ⟨u5, hu5, h⟩ := ob h
  have hou5 := ck_obt hu5
  obtain ⟨x6, i7, hx6, h⟩ := b2_obt h
  refine j_callV1 (pc := 14) (ci := 5) (As := [.int 0]) (st := []) (e1 := 0) (es1 := 0) F clX6_155 cwX5_again rfl hou5 (ctX5_again G hou5 hx6) rfl rfl rfl rfl rfl rfl dX6_underSkies_14 ?_
  refine j_istore (pc := 17) (k1 := 4) (ls' := [(4, .int x6), (0, .ref this), (1, .int v1), (2, .int v2), (3, .int v3)]) F rfl rfl dX6_underSkies_17 ?_
  refine j_iload_n (pc := 19) (k0 := 3) F 4 rfl dX6_underSkies_19 ?_
  refine j_if_ne (pc := 20) F 26 dX6_underSkies_20 rfl (fun c => ?_) (fun c => ?_)
  · have h := iz_f c h
    refine j_aload_n (pc := 26) (k0 := 0) F 1 rfl dX6_underSkies_26 ?_
    obtain ⟨x8, hx8, h⟩ := ob h
    refine j_getR (pc := 27) F flX6_35 hx8 dX6_underSkies_27 ?_
    refine j_aload_n (pc := 30) (k0 := 0) F 1 rfl dX6_underSkies_30 ?_
    obtain ⟨x9, hx9, h⟩ := ob h
    refine j_getR (pc := 31) F flX6_35 hx9 dX6_underSkies_31 ?_
    obtain ⟨x10, hx10, h⟩ := ob h
    refine j_getR (pc := 34) F flX6_125 hx10 dX6_underSkies_34 ?_
    obtain ⟨u11, hu11, h⟩ := ob h
    have hou11 := ck_obt hu11
    obtain ⟨x12, hx12, h⟩ := ob h
    refine j_callV1 (pc := 37) (ci := 5) (As := [.ref x10]) (st := []) (e1 := 0) (es1 := 0) F clX6_121 cwX5_inAllPlaces rfl hou11 (ctX5_inAllPlaces G hou11 hx12) rfl rfl rfl rfl rfl rfl dX6_underSkies_37 ?_
    refine j_if_ne (pc := 40) F 47 dX6_underSkies_40 rfl (fun c => ?_) (fun c => ?_)
    · have h := iz_f c h
      refine j_iconst (pc := 47) F 0 dX6_underSkies_47 (by decide) ?_
      have g1 := Option.some.inj h
      obtain ⟨q3, g2⟩ := Prod.mk.inj g1
      subst q3
      subst g2
      exact j_iret (pc := 48) F dX6_underSkies_48
    · have h := iz_t c h
      refine j_iconst (pc := 43) F 1 dX6_underSkies_43 (by decide) ?_
      refine j_goto (pc := 44) F 48 dX6_underSkies_44 rfl ?_
      have g1 := Option.some.inj h
      obtain ⟨q3, g2⟩ := Prod.mk.inj g1
      subst q3
      subst g2
      exact j_iret (pc := 48) F dX6_underSkies_48
  · have h := iz_t c h
    refine j_iload (pc := 23) (k0 := 4) F 0 rfl dX6_underSkies_23 ?_
    have g1 := Option.some.inj h
    obtain ⟨q3, g2⟩ := Prod.mk.inj g1
    subst q3
    subst g2
    exact j_iret (pc := 25) F dX6_underSkies_25
theorem ctX6_underSkies (G : GT) {sh : SH} {I : IH} {L : LH} {n : Nat} {this : Nat} {v1 : Int32} {v2 : Int32} {v3 : Int32} {r : Int32} {I' : IH}  (h : fX6_underSkies sh this v1 v2 v3 I = some (r, I')) : Ct G yX6_underSkies cX6_underSkies 5 (some .int) 4 [.ref this, .int v1, .int v2, .int v3] sh I L n (some (.int r)) sh I' L n 0 0 := by
  refine ct_of (y := yX6_underSkies) (by decide +kernel) rfl (fun X F => ?_)
  exact jbX6_underSkies_0 G F h
theorem dX6_divisorWithHundred_0 : decode cX6_divisorWithHundred 0 = .ok (.bipush 100, 2) := by decide +kernel
theorem dX6_divisorWithHundred_2 : decode cX6_divisorWithHundred 2 = .ok (.istore_n 1, 1) := by decide +kernel
theorem dX6_divisorWithHundred_3 : decode cX6_divisorWithHundred 3 = .ok (.iload_n 1, 1) := by decide +kernel
theorem dX6_divisorWithHundred_4 : decode cX6_divisorWithHundred 4 = .ok (.iconst 1, 1) := by decide +kernel
theorem dX6_divisorWithHundred_5 : decode cX6_divisorWithHundred 5 = .ok (.if_icmp .le 24, 3) := by decide +kernel
theorem dX6_divisorWithHundred_8 : decode cX6_divisorWithHundred 8 = .ok (.bipush 100, 2) := by decide +kernel
theorem dX6_divisorWithHundred_10 : decode cX6_divisorWithHundred 10 = .ok (.iload_n 1, 1) := by decide +kernel
theorem dX6_divisorWithHundred_11 : decode cX6_divisorWithHundred 11 = .ok (.irem, 1) := by decide +kernel
theorem dX6_divisorWithHundred_12 : decode cX6_divisorWithHundred 12 = .ok (.ifCond .ne 11, 3) := by decide +kernel
theorem dX6_divisorWithHundred_15 : decode cX6_divisorWithHundred 15 = .ok (.iload_n 0, 1) := by decide +kernel
theorem dX6_divisorWithHundred_16 : decode cX6_divisorWithHundred 16 = .ok (.iload_n 1, 1) := by decide +kernel
theorem dX6_divisorWithHundred_17 : decode cX6_divisorWithHundred 17 = .ok (.irem, 1) := by decide +kernel
theorem dX6_divisorWithHundred_18 : decode cX6_divisorWithHundred 18 = .ok (.ifCond .ne 5, 3) := by decide +kernel
theorem dX6_divisorWithHundred_21 : decode cX6_divisorWithHundred 21 = .ok (.iload_n 1, 1) := by decide +kernel
theorem dX6_divisorWithHundred_22 : decode cX6_divisorWithHundred 22 = .ok (.ireturn, 1) := by decide +kernel
theorem dX6_divisorWithHundred_23 : decode cX6_divisorWithHundred 23 = .ok (.iinc 1 (-1), 3) := by decide +kernel
theorem dX6_divisorWithHundred_26 : decode cX6_divisorWithHundred 26 = .ok (.goto (-23), 3) := by decide +kernel
theorem dX6_divisorWithHundred_29 : decode cX6_divisorWithHundred 29 = .ok (.iconst 1, 1) := by decide +kernel
theorem dX6_divisorWithHundred_30 : decode cX6_divisorWithHundred 30 = .ok (.ireturn, 1) := by decide +kernel
def fX6_divisorWithHundred_b3  : Nat → Int32 → Int32 → Option (Int32)
  | 0, _, _ => none
  | fuel + 1, v0, v1 =>
    if v1 ≤ 1 then (
      some 1) else
    (rmI 100 v1).bind fun x1 =>
    if x1 = 0 then (
      (rmI v0 v1).bind fun x2 =>
      if x2 = 0 then (
        some v1) else
      fX6_divisorWithHundred_b3 fuel v0 (v1 + (-1))) else
    fX6_divisorWithHundred_b3 fuel v0 (v1 + (-1))
def fX6_divisorWithHundred (v0 : Int32) : Option (Int32) :=
  fX6_divisorWithHundred_b3 1000 v0 100
set_option maxHeartbeats 4000000 in
set_option maxRecDepth 20000 in
theorem jbX6_divisorWithHundred_3 (G : GT) {X : XT} {sh : SH} {I : IH} {L : LH} {n : Nat} {r : Int32}   (F : MF G X RX6 cX6_divisorWithHundred 2 0 (some .int) "divisorWithHundred") : ∀ (fuel : Nat) (v0 : Int32) (v1 : Int32), fX6_divisorWithHundred_b3 fuel v0 v1 = some r → J G X (QE G X (some (.int r)) sh I L n) 2 sh I L n 0 0 3 [(0, .int v0), (1, .int v1)] []
  | 0 => by
    intros
    rename_i h
    exact absurd (show none = some _ from h) (by intro z; cases z)
  | fuel + 1 => by
    intro v0 v1 h
    rw [fX6_divisorWithHundred_b3] at h
    refine j_iload_n (pc := 3) (k0 := 1) F 1 rfl dX6_divisorWithHundred_3 ?_
    refine j_iconst (pc := 4) F 1 dX6_divisorWithHundred_4 (by decide) ?_
    refine j_icmp_le (pc := 5) F 29 dX6_divisorWithHundred_5 rfl (fun c => ?_) (fun c => ?_)
    · have h := iz_t c h
      refine j_iconst (pc := 29) F 1 dX6_divisorWithHundred_29 (by decide) ?_
      have g1 := Option.some.inj h
      subst g1
      exact j_iret (pc := 30) F dX6_divisorWithHundred_30
    · have h := iz_f c h
      refine j_bipush (pc := 8) F 100 dX6_divisorWithHundred_8 (by decide) ?_
      refine j_iload_n (pc := 10) (k0 := 1) F 1 rfl dX6_divisorWithHundred_10 ?_
      obtain ⟨x1, hx1, h⟩ := ob h
      obtain ⟨hx1n, hx1e⟩ := rmI_obt hx1
      refine j_irem (pc := 11) F hx1n dX6_divisorWithHundred_11 ?_
      rw [← hx1e]
      refine j_if_ne (pc := 12) F 23 dX6_divisorWithHundred_12 rfl (fun c => ?_) (fun c => ?_)
      · have h := iz_f c h
        refine j_iinc (pc := 23) (k1 := 1) (ls' := [(1, .int (v1 + (-1))), (0, .int v0)]) F (v1 + (-1)) 1 rfl (congrArg (fun z => v1 + z) (by decide)) rfl rfl dX6_divisorWithHundred_23 ?_
        refine j_goto (pc := 26) F 3 dX6_divisorWithHundred_26 rfl ?_
        refine j_sub [1, 0] rfl ?_
        exact jbX6_divisorWithHundred_3 G F fuel _ _ h
      · have h := iz_t c h
        refine j_iload_n (pc := 15) (k0 := 0) F 0 rfl dX6_divisorWithHundred_15 ?_
        refine j_iload_n (pc := 16) (k0 := 1) F 1 rfl dX6_divisorWithHundred_16 ?_
        obtain ⟨x2, hx2, h⟩ := ob h
        obtain ⟨hx2n, hx2e⟩ := rmI_obt hx2
        refine j_irem (pc := 17) F hx2n dX6_divisorWithHundred_17 ?_
        rw [← hx2e]
        refine j_if_ne (pc := 18) F 23 dX6_divisorWithHundred_18 rfl (fun c => ?_) (fun c => ?_)
        · have h := iz_f c h
          refine j_iinc (pc := 23) (k1 := 1) (ls' := [(1, .int (v1 + (-1))), (0, .int v0)]) F (v1 + (-1)) 1 rfl (congrArg (fun z => v1 + z) (by decide)) rfl rfl dX6_divisorWithHundred_23 ?_
          refine j_goto (pc := 26) F 3 dX6_divisorWithHundred_26 rfl ?_
          refine j_sub [1, 0] rfl ?_
          exact jbX6_divisorWithHundred_3 G F fuel _ _ h
        · have h := iz_t c h
          refine j_iload_n (pc := 21) (k0 := 1) F 1 rfl dX6_divisorWithHundred_21 ?_
          have g1 := Option.some.inj h
          subst g1
          exact j_iret (pc := 22) F dX6_divisorWithHundred_22
set_option maxHeartbeats 4000000 in
set_option maxRecDepth 20000 in
theorem jbX6_divisorWithHundred_0 (G : GT) {X : XT} {sh : SH} {I : IH} {L : LH} {n : Nat} {r : Int32}   {v0 : Int32} (F : MF G X RX6 cX6_divisorWithHundred 2 0 (some .int) "divisorWithHundred") (h : fX6_divisorWithHundred v0 = some r) : J G X (QE G X (some (.int r)) sh I L n) 2 sh I L n 0 0 0 [(0, .int v0)] [] := by
  unfold fX6_divisorWithHundred at h
  refine j_bipush (pc := 0) F 100 dX6_divisorWithHundred_0 (by decide) ?_
  refine j_istore_n (pc := 2) (k1 := 1) (ls' := [(1, .int 100), (0, .int v0)]) F rfl rfl rfl dX6_divisorWithHundred_2 ?_
  refine j_sub [1, 0] rfl ?_
  exact jbX6_divisorWithHundred_3 G F 1000 _ _ h
theorem ctX6_divisorWithHundred (G : GT) {sh : SH} {I : IH} {L : LH} {n : Nat} {v0 : Int32} {r : Int32}  (h : fX6_divisorWithHundred v0 = some r) : Ct G yX6_divisorWithHundred cX6_divisorWithHundred 2 (some .int) 0 [.int v0] sh I L n (some (.int r)) sh I L n 0 0 := by
  refine ct_of (y := yX6_divisorWithHundred) (by decide +kernel) rfl (fun X F => ?_)
  exact jbX6_divisorWithHundred_0 G F h
theorem dX6_mean_0 : decode cX6_mean 0 = .ok (.iload_n 1, 1) := by decide +kernel
theorem dX6_mean_1 : decode cX6_mean 1 = .ok (.iconst 2, 1) := by decide +kernel
theorem dX6_mean_2 : decode cX6_mean 2 = .ok (.invokestatic 61, 3) := by decide +kernel
theorem dX6_mean_5 : decode cX6_mean 5 = .ok (.ifCond .eq 11, 3) := by decide +kernel
theorem dX6_mean_8 : decode cX6_mean 8 = .ok (.iload_n 2, 1) := by decide +kernel
theorem dX6_mean_9 : decode cX6_mean 9 = .ok (.iconst 2, 1) := by decide +kernel
theorem dX6_mean_10 : decode cX6_mean 10 = .ok (.invokestatic 61, 3) := by decide +kernel
theorem dX6_mean_13 : decode cX6_mean 13 = .ok (.ifCond .ne 7, 3) := by decide +kernel
theorem dX6_mean_16 : decode cX6_mean 16 = .ok (.ldc2_w 171, 3) := by decide +kernel
theorem dX6_mean_19 : decode cX6_mean 19 = .ok (.lreturn, 1) := by decide +kernel
theorem dX6_mean_20 : decode cX6_mean 20 = .ok (.iconst 0, 1) := by decide +kernel
theorem dX6_mean_21 : decode cX6_mean 21 = .ok (.istore_n 3, 1) := by decide +kernel
theorem dX6_mean_22 : decode cX6_mean 22 = .ok (.aload_n 0, 1) := by decide +kernel
theorem dX6_mean_23 : decode cX6_mean 23 = .ok (.getfield 35, 3) := by decide +kernel
theorem dX6_mean_26 : decode cX6_mean 26 = .ok (.invokevirtual 158, 3) := by decide +kernel
theorem dX6_mean_29 : decode cX6_mean 29 = .ok (.iconst 0, 1) := by decide +kernel
theorem dX6_mean_30 : decode cX6_mean 30 = .ok (.istore 4, 2) := by decide +kernel
theorem dX6_mean_32 : decode cX6_mean 32 = .ok (.iload 4, 2) := by decide +kernel
theorem dX6_mean_34 : decode cX6_mean 34 = .ok (.iconst 3, 1) := by decide +kernel
theorem dX6_mean_35 : decode cX6_mean 35 = .ok (.if_icmp .ge 67, 3) := by decide +kernel
theorem dX6_mean_38 : decode cX6_mean 38 = .ok (.iconst 0, 1) := by decide +kernel
theorem dX6_mean_39 : decode cX6_mean 39 = .ok (.istore 5, 2) := by decide +kernel
theorem dX6_mean_41 : decode cX6_mean 41 = .ok (.iload 5, 2) := by decide +kernel
theorem dX6_mean_43 : decode cX6_mean 43 = .ok (.iconst 3, 1) := by decide +kernel
theorem dX6_mean_44 : decode cX6_mean 44 = .ok (.if_icmp .ge 52, 3) := by decide +kernel
theorem dX6_mean_47 : decode cX6_mean 47 = .ok (.aload_n 0, 1) := by decide +kernel
theorem dX6_mean_48 : decode cX6_mean 48 = .ok (.getfield 19, 3) := by decide +kernel
theorem dX6_mean_51 : decode cX6_mean 51 = .ok (.getfield 168, 3) := by decide +kernel
theorem dX6_mean_54 : decode cX6_mean 54 = .ok (.iload 4, 2) := by decide +kernel
theorem dX6_mean_56 : decode cX6_mean 56 = .ok (.iaload, 1) := by decide +kernel
theorem dX6_mean_57 : decode cX6_mean 57 = .ok (.aload_n 0, 1) := by decide +kernel
theorem dX6_mean_58 : decode cX6_mean 58 = .ok (.getfield 19, 3) := by decide +kernel
theorem dX6_mean_61 : decode cX6_mean 61 = .ok (.getfield 168, 3) := by decide +kernel
theorem dX6_mean_64 : decode cX6_mean 64 = .ok (.iload 5, 2) := by decide +kernel
theorem dX6_mean_66 : decode cX6_mean 66 = .ok (.iaload, 1) := by decide +kernel
theorem dX6_mean_67 : decode cX6_mean 67 = .ok (.imul, 1) := by decide +kernel
theorem dX6_mean_68 : decode cX6_mean 68 = .ok (.istore 6, 2) := by decide +kernel
theorem dX6_mean_70 : decode cX6_mean 70 = .ok (.iload 6, 2) := by decide +kernel
theorem dX6_mean_72 : decode cX6_mean 72 = .ok (.ifCond .le 18, 3) := by decide +kernel
theorem dX6_mean_75 : decode cX6_mean 75 = .ok (.iload_n 3, 1) := by decide +kernel
theorem dX6_mean_76 : decode cX6_mean 76 = .ok (.iload 6, 2) := by decide +kernel
theorem dX6_mean_78 : decode cX6_mean 78 = .ok (.aload_n 0, 1) := by decide +kernel
theorem dX6_mean_79 : decode cX6_mean 79 = .ok (.iload 4, 2) := by decide +kernel
theorem dX6_mean_81 : decode cX6_mean 81 = .ok (.iload 5, 2) := by decide +kernel
theorem dX6_mean_83 : decode cX6_mean 83 = .ok (.iload_n 1, 1) := by decide +kernel
theorem dX6_mean_84 : decode cX6_mean 84 = .ok (.invokevirtual 173, 3) := by decide +kernel
theorem dX6_mean_87 : decode cX6_mean 87 = .ok (.imul, 1) := by decide +kernel
theorem dX6_mean_88 : decode cX6_mean 88 = .ok (.iadd, 1) := by decide +kernel
theorem dX6_mean_89 : decode cX6_mean 89 = .ok (.istore_n 3, 1) := by decide +kernel
theorem dX6_mean_90 : decode cX6_mean 90 = .ok (.iinc 5 1, 3) := by decide +kernel
theorem dX6_mean_93 : decode cX6_mean 93 = .ok (.goto (-52), 3) := by decide +kernel
theorem dX6_mean_96 : decode cX6_mean 96 = .ok (.iinc 4 1, 3) := by decide +kernel
theorem dX6_mean_99 : decode cX6_mean 99 = .ok (.goto (-67), 3) := by decide +kernel
theorem dX6_mean_102 : decode cX6_mean 102 = .ok (.iload_n 3, 1) := by decide +kernel
theorem dX6_mean_103 : decode cX6_mean 103 = .ok (.invokestatic 177, 3) := by decide +kernel
theorem dX6_mean_106 : decode cX6_mean 106 = .ok (.istore 4, 2) := by decide +kernel
theorem dX6_mean_108 : decode cX6_mean 108 = .ok (.iload_n 2, 1) := by decide +kernel
theorem dX6_mean_109 : decode cX6_mean 109 = .ok (.ifCond .ne 7, 3) := by decide +kernel
theorem dX6_mean_112 : decode cX6_mean 112 = .ok (.iload_n 3, 1) := by decide +kernel
theorem dX6_mean_113 : decode cX6_mean 113 = .ok (.goto 5, 3) := by decide +kernel
theorem dX6_mean_116 : decode cX6_mean 116 = .ok (.bipush 100, 2) := by decide +kernel
theorem dX6_mean_118 : decode cX6_mean 118 = .ok (.iload 4, 2) := by decide +kernel
theorem dX6_mean_120 : decode cX6_mean 120 = .ok (.idiv, 1) := by decide +kernel
theorem dX6_mean_121 : decode cX6_mean 121 = .ok (.i2l, 1) := by decide +kernel
theorem dX6_mean_122 : decode cX6_mean 122 = .ok (.lreturn, 1) := by decide +kernel
def fX6_mean_b41 (sh : SH) (this : Nat) (k32 : (Int32 → Int32 → Int32 → Int32 → IH → Option (Int64 × IH))) : Nat → Int32 → Int32 → Int32 → Int32 → Int32 → IH → Option (Int64 × IH)
  | 0, _, _, _, _, _, _ => none
  | fuel + 1, v1, v2, v3, v4, v5, I =>
    if 3 ≤ v5 then (
      k32 v1 v2 v3 (v4 + 1) I) else
    (gR sh 6 this 0).bind fun x1 =>
    (gR sh 2 x1 2).bind fun x2 =>
    (aI sh I 0 x2 v4).bind fun x3 =>
    (gR sh 6 this 0).bind fun x4 =>
    (gR sh 2 x4 2).bind fun x5 =>
    (aI sh I 0 x5 v5).bind fun x6 =>
    if (x3 * x6) ≤ 0 then (
      fX6_mean_b41 sh this k32 fuel v1 v2 v3 v4 (v5 + 1) I) else
    b2 (fX6_underSkies sh this v4 v5 v1 I) fun x7 i8 =>
    fX6_mean_b41 sh this k32 fuel v1 v2 (v3 + ((x3 * x6) * x7)) v4 (v5 + 1) i8
def fX6_mean_b32 (sh : SH) (this : Nat) (k102 : (Int32 → Int32 → IH → Option (Int64 × IH))) : Nat → Int32 → Int32 → Int32 → Int32 → IH → Option (Int64 × IH)
  | 0, _, _, _, _, _ => none
  | fuel + 1, v1, v2, v3, v4, I =>
    if 3 ≤ v4 then (
      k102 v2 v3 I) else
    fX6_mean_b41 sh this (fX6_mean_b32 sh this k102 fuel) 1000 v1 v2 v3 v4 0 I
def fX6_mean_b102 (sh : SH) (this : Nat) (v2 : Int32) (v3 : Int32) (I : IH) : Option (Int64 × IH) :=
  (fX6_divisorWithHundred v3).bind fun x1 =>
  if v2 = 0 then (
    (dvI v3 x1).bind fun x3 =>
    some (x3.toInt64, I)) else
  (dvI 100 x1).bind fun x2 =>
  some (x2.toInt64, I)
def fX6_mean (sh : SH) (this : Nat) (v1 : Int32) (v2 : Int32) (I : IH) : Option (Int64 × IH) :=
  if (fX6_isUnder v1 2) = 0 then (
    some ((-9223372036854775808), I)) else
  if (fX6_isUnder v2 2) = 0 then (
    some ((-9223372036854775808), I)) else
  (gR sh 6 this 3).bind fun x1 =>
  (ck sh 5 x1).bind fun u2 =>
  (fX5_load sh x1 I).bind fun i3 =>
  fX6_mean_b32 sh this (fX6_mean_b102 sh this) 1000 v1 v2 0 0 i3
set_option maxHeartbeats 4000000 in
set_option maxRecDepth 20000 in
theorem jbX6_mean_41 (G : GT) {X : XT} {sh : SH} {L : LH} {n : Nat} {r : Int64} {I' : IH}  {this : Nat} {k32 : (Int32 → Int32 → Int32 → Int32 → IH → Option (Int64 × IH))} (F : MF G X RX6 cX6_mean 7 5 (some .long) "mean") (hth : isO sh 6 this)
    (hk32 : ∀ {v1 : Int32} {v2 : Int32} {v3 : Int32} {v4 : Int32} {I : IH}, k32 v1 v2 v3 v4 I = some (r, I') → J G X (QE G X (some (.long r)) sh I' L n) 7 sh I L n 0 0 32 [(0, .ref this), (1, .int v1), (2, .int v2), (3, .int v3), (4, .int v4)] []) : ∀ (fuel : Nat) (v1 : Int32) (v2 : Int32) (v3 : Int32) (v4 : Int32) (v5 : Int32) (I : IH), fX6_mean_b41 sh this k32 fuel v1 v2 v3 v4 v5 I = some (r, I') → J G X (QE G X (some (.long r)) sh I' L n) 7 sh I L n 0 0 41 [(0, .ref this), (1, .int v1), (2, .int v2), (3, .int v3), (4, .int v4), (5, .int v5)] []
  | 0 => by
    intros
    rename_i h
    exact absurd (show none = some _ from h) (by intro z; cases z)
  | fuel + 1 => by
    intro v1 v2 v3 v4 v5 I h
    rw [fX6_mean_b41] at h
    refine j_iload (pc := 41) (k0 := 5) F 5 rfl dX6_mean_41 ?_
    refine j_iconst (pc := 43) F 3 dX6_mean_43 (by decide) ?_
    refine j_icmp_ge (pc := 44) F 96 dX6_mean_44 rfl (fun c => ?_) (fun c => ?_)
    · have h := iz_t c h
      refine j_iinc (pc := 96) (k1 := 4) (ls' := [(4, .int (v4 + 1)), (0, .ref this), (1, .int v1), (2, .int v2), (3, .int v3), (5, .int v5)]) F (v4 + 1) 4 rfl rfl rfl rfl dX6_mean_96 ?_
      refine j_goto (pc := 99) F 32 dX6_mean_99 rfl ?_
      refine j_sub [1, 2, 3, 4, 0] rfl ?_
      exact hk32 h
    · have h := iz_f c h
      refine j_aload_n (pc := 47) (k0 := 0) F 0 rfl dX6_mean_47 ?_
      obtain ⟨x1, hx1, h⟩ := ob h
      refine j_getR (pc := 48) F flX6_19 hx1 dX6_mean_48 ?_
      obtain ⟨x2, hx2, h⟩ := ob h
      refine j_getR (pc := 51) F flX6_168 hx2 dX6_mean_51 ?_
      refine j_iload (pc := 54) (k0 := 4) F 4 rfl dX6_mean_54 ?_
      obtain ⟨x3, hx3, h⟩ := ob h
      refine j_iald (pc := 56) F hx3 dX6_mean_56 ?_
      refine j_aload_n (pc := 57) (k0 := 0) F 0 rfl dX6_mean_57 ?_
      obtain ⟨x4, hx4, h⟩ := ob h
      refine j_getR (pc := 58) F flX6_19 hx4 dX6_mean_58 ?_
      obtain ⟨x5, hx5, h⟩ := ob h
      refine j_getR (pc := 61) F flX6_168 hx5 dX6_mean_61 ?_
      refine j_iload (pc := 64) (k0 := 5) F 5 rfl dX6_mean_64 ?_
      obtain ⟨x6, hx6, h⟩ := ob h
      refine j_iald (pc := 66) F hx6 dX6_mean_66 ?_
      refine j_imul (pc := 67) F dX6_mean_67 ?_
      refine j_istore (pc := 68) (k1 := 6) (ls' := [(6, .int (x3 * x6)), (0, .ref this), (1, .int v1), (2, .int v2), (3, .int v3), (4, .int v4), (5, .int v5)]) F rfl rfl dX6_mean_68 ?_
      refine j_iload (pc := 70) (k0 := 6) F 0 rfl dX6_mean_70 ?_
      refine j_if_le (pc := 72) F 90 dX6_mean_72 rfl (fun c => ?_) (fun c => ?_)
      · have h := iz_t c h
        refine j_iinc (pc := 90) (k1 := 5) (ls' := [(5, .int (v5 + 1)), (6, .int (x3 * x6)), (0, .ref this), (1, .int v1), (2, .int v2), (3, .int v3), (4, .int v4)]) F (v5 + 1) 6 rfl rfl rfl rfl dX6_mean_90 ?_
        refine j_goto (pc := 93) F 41 dX6_mean_93 rfl ?_
        refine j_sub [2, 3, 4, 5, 6, 0] rfl ?_
        exact jbX6_mean_41 G F hth hk32 fuel _ _ _ _ _ _ h
      · have h := iz_f c h
        refine j_iload_n (pc := 75) (k0 := 3) F 4 rfl dX6_mean_75 ?_
        refine j_iload (pc := 76) (k0 := 6) F 0 rfl dX6_mean_76 ?_
        refine j_aload_n (pc := 78) (k0 := 0) F 1 rfl dX6_mean_78 ?_
        refine j_iload (pc := 79) (k0 := 4) F 5 rfl dX6_mean_79 ?_
        refine j_iload (pc := 81) (k0 := 5) F 6 rfl dX6_mean_81 ?_
        refine j_iload_n (pc := 83) (k0 := 1) F 2 rfl dX6_mean_83 ?_
        obtain ⟨x7, i8, hx7, h⟩ := b2_obt h
        refine j_callV1 (pc := 84) (ci := 6) (As := [.int v4, .int v5, .int v1]) (st := [.int (x3 * x6), .int v3]) (e1 := 0) (es1 := 0) F clX6_173 cwX6_underSkies rfl hth (ctX6_underSkies G hx7) rfl rfl rfl rfl rfl rfl dX6_mean_84 ?_
        refine j_imul (pc := 87) F dX6_mean_87 ?_
        refine j_iadd (pc := 88) F dX6_mean_88 ?_
        refine j_istore_n (pc := 89) (k1 := 3) (ls' := [(3, .int (v3 + ((x3 * x6) * x7))), (6, .int (x3 * x6)), (0, .ref this), (1, .int v1), (2, .int v2), (4, .int v4), (5, .int v5)]) F rfl rfl rfl dX6_mean_89 ?_
        refine j_iinc (pc := 90) (k1 := 5) (ls' := [(5, .int (v5 + 1)), (3, .int (v3 + ((x3 * x6) * x7))), (6, .int (x3 * x6)), (0, .ref this), (1, .int v1), (2, .int v2), (4, .int v4)]) F (v5 + 1) 6 rfl rfl rfl rfl dX6_mean_90 ?_
        refine j_goto (pc := 93) F 41 dX6_mean_93 rfl ?_
        refine j_sub [3, 4, 5, 1, 6, 0] rfl ?_
        exact jbX6_mean_41 G F hth hk32 fuel _ _ _ _ _ _ h
set_option maxHeartbeats 4000000 in
set_option maxRecDepth 20000 in
theorem jbX6_mean_32 (G : GT) {X : XT} {sh : SH} {L : LH} {n : Nat} {r : Int64} {I' : IH}  {this : Nat} {k102 : (Int32 → Int32 → IH → Option (Int64 × IH))} (F : MF G X RX6 cX6_mean 7 5 (some .long) "mean") (hth : isO sh 6 this)
    (hk102 : ∀ {v2 : Int32} {v3 : Int32} {I : IH}, k102 v2 v3 I = some (r, I') → J G X (QE G X (some (.long r)) sh I' L n) 7 sh I L n 0 0 102 [(0, .ref this), (2, .int v2), (3, .int v3)] []) : ∀ (fuel : Nat) (v1 : Int32) (v2 : Int32) (v3 : Int32) (v4 : Int32) (I : IH), fX6_mean_b32 sh this k102 fuel v1 v2 v3 v4 I = some (r, I') → J G X (QE G X (some (.long r)) sh I' L n) 7 sh I L n 0 0 32 [(0, .ref this), (1, .int v1), (2, .int v2), (3, .int v3), (4, .int v4)] []
  | 0 => by
    intros
    rename_i h
    exact absurd (show none = some _ from h) (by intro z; cases z)
  | fuel + 1 => by
    intro v1 v2 v3 v4 I h
    rw [fX6_mean_b32] at h
    refine j_iload (pc := 32) (k0 := 4) F 4 rfl dX6_mean_32 ?_
    refine j_iconst (pc := 34) F 3 dX6_mean_34 (by decide) ?_
    refine j_icmp_ge (pc := 35) F 102 dX6_mean_35 rfl (fun c => ?_) (fun c => ?_)
    · have h := iz_t c h
      refine j_sub [0, 2, 3] rfl ?_
      exact hk102 h
    · have h := iz_f c h
      refine j_iconst (pc := 38) F 0 dX6_mean_38 (by decide) ?_
      refine j_istore (pc := 39) (k1 := 5) (ls' := [(5, .int 0), (0, .ref this), (1, .int v1), (2, .int v2), (3, .int v3), (4, .int v4)]) F rfl rfl dX6_mean_39 ?_
      refine j_sub [1, 2, 3, 4, 5, 0] rfl ?_
      exact jbX6_mean_41 G F hth (fun h => jbX6_mean_32 G F hth hk102 fuel _ _ _ _ _ h) 1000 _ _ _ _ _ _ h
set_option maxHeartbeats 4000000 in
set_option maxRecDepth 20000 in
theorem jbX6_mean_102 (G : GT) {X : XT} {sh : SH} {L : LH} {n : Nat} {r : Int64} {I' : IH}  {this : Nat}  {v2 : Int32} {v3 : Int32} {I : IH} (F : MF G X RX6 cX6_mean 7 5 (some .long) "mean") (hth : isO sh 6 this) (h : fX6_mean_b102 sh this v2 v3 I = some (r, I')) : J G X (QE G X (some (.long r)) sh I' L n) 7 sh I L n 0 0 102 [(0, .ref this), (2, .int v2), (3, .int v3)] [] := by
  unfold fX6_mean_b102 at h
  refine j_iload_n (pc := 102) (k0 := 3) F 2 rfl dX6_mean_102 ?_
  obtain ⟨x1, hx1, h⟩ := ob h
  refine j_callS1 (pc := 103) (As := [.int v3]) (st := []) (e1 := 0) (es1 := 0) F clX6_177 cwX6_divisorWithHundred (ctX6_divisorWithHundred G hx1) rfl rfl rfl rfl rfl rfl dX6_mean_103 ?_
  refine j_istore (pc := 106) (k1 := 4) (ls' := [(4, .int x1), (0, .ref this), (2, .int v2), (3, .int v3)]) F rfl rfl dX6_mean_106 ?_
  refine j_iload_n (pc := 108) (k0 := 2) F 2 rfl dX6_mean_108 ?_
  refine j_if_ne (pc := 109) F 116 dX6_mean_109 rfl (fun c => ?_) (fun c => ?_)
  · have h := iz_f c h
    refine j_bipush (pc := 116) F 100 dX6_mean_116 (by decide) ?_
    refine j_iload (pc := 118) (k0 := 4) F 0 rfl dX6_mean_118 ?_
    obtain ⟨x2, hx2, h⟩ := ob h
    obtain ⟨hx2n, hx2e⟩ := dvI_obt hx2
    refine j_idiv (pc := 120) F hx2n dX6_mean_120 ?_
    rw [← hx2e]
    refine j_i2l (pc := 121) F dX6_mean_121 ?_
    have g1 := Option.some.inj h
    obtain ⟨q3, g2⟩ := Prod.mk.inj g1
    subst q3
    subst g2
    exact j_lret (pc := 122) F dX6_mean_122
  · have h := iz_t c h
    refine j_iload_n (pc := 112) (k0 := 3) F 3 rfl dX6_mean_112 ?_
    refine j_goto (pc := 113) F 118 dX6_mean_113 rfl ?_
    refine j_iload (pc := 118) (k0 := 4) F 0 rfl dX6_mean_118 ?_
    obtain ⟨x3, hx3, h⟩ := ob h
    obtain ⟨hx3n, hx3e⟩ := dvI_obt hx3
    refine j_idiv (pc := 120) F hx3n dX6_mean_120 ?_
    rw [← hx3e]
    refine j_i2l (pc := 121) F dX6_mean_121 ?_
    have g1 := Option.some.inj h
    obtain ⟨q3, g2⟩ := Prod.mk.inj g1
    subst q3
    subst g2
    exact j_lret (pc := 122) F dX6_mean_122
set_option maxHeartbeats 4000000 in
set_option maxRecDepth 20000 in
theorem jbX6_mean_0 (G : GT) {X : XT} {sh : SH} {L : LH} {n : Nat} {r : Int64} {I' : IH}  {this : Nat}  {v1 : Int32} {v2 : Int32} {I : IH} (F : MF G X RX6 cX6_mean 7 5 (some .long) "mean") (hth : isO sh 6 this) (h : fX6_mean sh this v1 v2 I = some (r, I')) : J G X (QE G X (some (.long r)) sh I' L n) 7 sh I L n 0 0 0 [(0, .ref this), (1, .int v1), (2, .int v2)] [] := by
  unfold fX6_mean at h
  refine j_iload_n (pc := 0) (k0 := 1) F 1 rfl dX6_mean_0 ?_
  refine j_iconst (pc := 1) F 2 dX6_mean_1 (by decide) ?_
  refine j_callS1 (pc := 2) (As := [.int v1, .int 2]) (st := []) (e1 := 0) (es1 := 0) F clX6_61 cwX6_isUnder (ctX6_isUnder G) rfl rfl rfl rfl rfl rfl dX6_mean_2 ?_
  refine j_if_eq (pc := 5) F 16 dX6_mean_5 rfl (fun c => ?_) (fun c => ?_)
  · have h := iz_t c h
    refine j_ldc2 (pc := 16) (v := (-9223372036854775808)) F (good_of 616 (by decide +kernel) (by decide +kernel)) dX6_mean_16 ?_
    have g1 := Option.some.inj h
    obtain ⟨q3, g2⟩ := Prod.mk.inj g1
    subst q3
    subst g2
    exact j_lret (pc := 19) F dX6_mean_19
  · have h := iz_f c h
    refine j_iload_n (pc := 8) (k0 := 2) F 2 rfl dX6_mean_8 ?_
    refine j_iconst (pc := 9) F 2 dX6_mean_9 (by decide) ?_
    refine j_callS1 (pc := 10) (As := [.int v2, .int 2]) (st := []) (e1 := 0) (es1 := 0) F clX6_61 cwX6_isUnder (ctX6_isUnder G) rfl rfl rfl rfl rfl rfl dX6_mean_10 ?_
    refine j_if_ne (pc := 13) F 20 dX6_mean_13 rfl (fun c => ?_) (fun c => ?_)
    · have h := iz_f c h
      refine j_iconst (pc := 20) F 0 dX6_mean_20 (by decide) ?_
      refine j_istore_n (pc := 21) (k1 := 3) (ls' := [(3, .int 0), (0, .ref this), (1, .int v1), (2, .int v2)]) F rfl rfl rfl dX6_mean_21 ?_
      refine j_aload_n (pc := 22) (k0 := 0) F 1 rfl dX6_mean_22 ?_
      obtain ⟨x1, hx1, h⟩ := ob h
      refine j_getR (pc := 23) F flX6_35 hx1 dX6_mean_23 ?_
      obtain ⟨u2, hu2, h⟩ := ob h
      have hou2 := ck_obt hu2
      obtain ⟨i3, hi3, h⟩ := ob h
      refine j_callV0 (pc := 26) (ci := 5) (As := []) (st := []) (e1 := 0) (es1 := 0) F clX6_158 cwX5_load rfl hou2 (ctX5_load G hi3) rfl rfl rfl rfl rfl rfl dX6_mean_26 ?_
      refine j_iconst (pc := 29) F 0 dX6_mean_29 (by decide) ?_
      refine j_istore (pc := 30) (k1 := 4) (ls' := [(4, .int 0), (3, .int 0), (0, .ref this), (1, .int v1), (2, .int v2)]) F rfl rfl dX6_mean_30 ?_
      refine j_sub [2, 3, 4, 1, 0] rfl ?_
      exact jbX6_mean_32 G F hth (fun h => jbX6_mean_102 G F hth h) 1000 _ _ _ _ _ h
    · have h := iz_t c h
      refine j_ldc2 (pc := 16) (v := (-9223372036854775808)) F (good_of 616 (by decide +kernel) (by decide +kernel)) dX6_mean_16 ?_
      have g1 := Option.some.inj h
      obtain ⟨q3, g2⟩ := Prod.mk.inj g1
      subst q3
      subst g2
      exact j_lret (pc := 19) F dX6_mean_19
theorem ctX6_mean (G : GT) {sh : SH} {I : IH} {L : LH} {n : Nat} {this : Nat} {v1 : Int32} {v2 : Int32} {r : Int64} {I' : IH}  (hth : isO sh 6 this) (h : fX6_mean sh this v1 v2 I = some (r, I')) : Ct G yX6_mean cX6_mean 7 (some .long) 5 [.ref this, .int v1, .int v2] sh I L n (some (.long r)) sh I' L n 0 0 := by
  refine ct_of (y := yX6_mean) (by decide +kernel) rfl (fun X F => ?_)
  exact jbX6_mean_0 G F hth h
theorem dX6_pond_0 : decode cX6_pond 0 = .ok (.iload_n 1, 1) := by decide +kernel
theorem dX6_pond_1 : decode cX6_pond 1 = .ok (.iconst 1, 1) := by decide +kernel
theorem dX6_pond_2 : decode cX6_pond 2 = .ok (.if_icmp .lt 9, 3) := by decide +kernel
theorem dX6_pond_5 : decode cX6_pond 5 = .ok (.iload_n 1, 1) := by decide +kernel
theorem dX6_pond_6 : decode cX6_pond 6 = .ok (.bipush 50, 2) := by decide +kernel
theorem dX6_pond_8 : decode cX6_pond 8 = .ok (.if_icmp .le 6, 3) := by decide +kernel
theorem dX6_pond_11 : decode cX6_pond 11 = .ok (.bipush (-2), 2) := by decide +kernel
theorem dX6_pond_13 : decode cX6_pond 13 = .ok (.ireturn, 1) := by decide +kernel
theorem dX6_pond_14 : decode cX6_pond 14 = .ok (.aload_n 0, 1) := by decide +kernel
theorem dX6_pond_15 : decode cX6_pond 15 = .ok (.getfield 35, 3) := by decide +kernel
theorem dX6_pond_18 : decode cX6_pond 18 = .ok (.invokevirtual 103, 3) := by decide +kernel
theorem dX6_pond_21 : decode cX6_pond 21 = .ok (.pop, 1) := by decide +kernel
theorem dX6_pond_22 : decode cX6_pond 22 = .ok (.iconst (-1), 1) := by decide +kernel
theorem dX6_pond_23 : decode cX6_pond 23 = .ok (.istore_n 2, 1) := by decide +kernel
theorem dX6_pond_24 : decode cX6_pond 24 = .ok (.iconst 0, 1) := by decide +kernel
theorem dX6_pond_25 : decode cX6_pond 25 = .ok (.istore_n 3, 1) := by decide +kernel
theorem dX6_pond_26 : decode cX6_pond 26 = .ok (.iconst 0, 1) := by decide +kernel
theorem dX6_pond_27 : decode cX6_pond 27 = .ok (.istore 4, 2) := by decide +kernel
theorem dX6_pond_29 : decode cX6_pond 29 = .ok (.iload 4, 2) := by decide +kernel
theorem dX6_pond_31 : decode cX6_pond 31 = .ok (.aload_n 0, 1) := by decide +kernel
theorem dX6_pond_32 : decode cX6_pond 32 = .ok (.getfield 19, 3) := by decide +kernel
theorem dX6_pond_35 : decode cX6_pond 35 = .ok (.getfield 57, 3) := by decide +kernel
theorem dX6_pond_38 : decode cX6_pond 38 = .ok (.if_icmp .ge 63, 3) := by decide +kernel
theorem dX6_pond_41 : decode cX6_pond 41 = .ok (.aload_n 0, 1) := by decide +kernel
theorem dX6_pond_42 : decode cX6_pond 42 = .ok (.getfield 35, 3) := by decide +kernel
theorem dX6_pond_45 : decode cX6_pond 45 = .ok (.getfield 167, 3) := by decide +kernel
theorem dX6_pond_48 : decode cX6_pond 48 = .ok (.iconst 3, 1) := by decide +kernel
theorem dX6_pond_49 : decode cX6_pond 49 = .ok (.aaload, 1) := by decide +kernel
theorem dX6_pond_50 : decode cX6_pond 50 = .ok (.iload 4, 2) := by decide +kernel
theorem dX6_pond_52 : decode cX6_pond 52 = .ok (.dup2, 1) := by decide +kernel
theorem dX6_pond_53 : decode cX6_pond 53 = .ok (.iaload, 1) := by decide +kernel
theorem dX6_pond_54 : decode cX6_pond 54 = .ok (.iload_n 1, 1) := by decide +kernel
theorem dX6_pond_55 : decode cX6_pond 55 = .ok (.iadd, 1) := by decide +kernel
theorem dX6_pond_56 : decode cX6_pond 56 = .ok (.iastore, 1) := by decide +kernel
theorem dX6_pond_57 : decode cX6_pond 57 = .ok (.aload_n 0, 1) := by decide +kernel
theorem dX6_pond_58 : decode cX6_pond 58 = .ok (.getfield 35, 3) := by decide +kernel
theorem dX6_pond_61 : decode cX6_pond 61 = .ok (.iconst 0, 1) := by decide +kernel
theorem dX6_pond_62 : decode cX6_pond 62 = .ok (.invokevirtual 155, 3) := by decide +kernel
theorem dX6_pond_65 : decode cX6_pond 65 = .ok (.istore 5, 2) := by decide +kernel
theorem dX6_pond_67 : decode cX6_pond 67 = .ok (.aload_n 0, 1) := by decide +kernel
theorem dX6_pond_68 : decode cX6_pond 68 = .ok (.getfield 35, 3) := by decide +kernel
theorem dX6_pond_71 : decode cX6_pond 71 = .ok (.getfield 167, 3) := by decide +kernel
theorem dX6_pond_74 : decode cX6_pond 74 = .ok (.iconst 3, 1) := by decide +kernel
theorem dX6_pond_75 : decode cX6_pond 75 = .ok (.aaload, 1) := by decide +kernel
theorem dX6_pond_76 : decode cX6_pond 76 = .ok (.iload 4, 2) := by decide +kernel
theorem dX6_pond_78 : decode cX6_pond 78 = .ok (.dup2, 1) := by decide +kernel
theorem dX6_pond_79 : decode cX6_pond 79 = .ok (.iaload, 1) := by decide +kernel
theorem dX6_pond_80 : decode cX6_pond 80 = .ok (.iload_n 1, 1) := by decide +kernel
theorem dX6_pond_81 : decode cX6_pond 81 = .ok (.isub, 1) := by decide +kernel
theorem dX6_pond_82 : decode cX6_pond 82 = .ok (.iastore, 1) := by decide +kernel
theorem dX6_pond_83 : decode cX6_pond 83 = .ok (.iload 5, 2) := by decide +kernel
theorem dX6_pond_85 : decode cX6_pond 85 = .ok (.iload_n 2, 1) := by decide +kernel
theorem dX6_pond_86 : decode cX6_pond 86 = .ok (.if_icmp .le 9, 3) := by decide +kernel
theorem dX6_pond_89 : decode cX6_pond 89 = .ok (.iload 5, 2) := by decide +kernel
theorem dX6_pond_91 : decode cX6_pond 91 = .ok (.istore_n 2, 1) := by decide +kernel
theorem dX6_pond_92 : decode cX6_pond 92 = .ok (.iload 4, 2) := by decide +kernel
theorem dX6_pond_94 : decode cX6_pond 94 = .ok (.istore_n 3, 1) := by decide +kernel
theorem dX6_pond_95 : decode cX6_pond 95 = .ok (.iinc 4 1, 3) := by decide +kernel
theorem dX6_pond_98 : decode cX6_pond 98 = .ok (.goto (-69), 3) := by decide +kernel
theorem dX6_pond_101 : decode cX6_pond 101 = .ok (.iload_n 3, 1) := by decide +kernel
theorem dX6_pond_102 : decode cX6_pond 102 = .ok (.ireturn, 1) := by decide +kernel
def fX6_pond_b29 (sh : SH) (this : Nat) : Nat → Int32 → Int32 → Int32 → Int32 → IH → Option (Int32 × IH)
  | 0, _, _, _, _, _ => none
  | fuel + 1, v1, v2, v3, v4, I =>
    (gR sh 6 this 0).bind fun x1 =>
    (gI sh I 2 x1 0).bind fun x2 =>
    if x2 ≤ v4 then (
      some (v3, I)) else
    (gR sh 6 this 3).bind fun x3 =>
    (gR sh 5 x3 2).bind fun x4 =>
    (aR sh 4 x4 3).bind fun x5 =>
    (aI sh I 0 x5 v4).bind fun x6 =>
    (sI sh I x5 v4 (x6 + v1)).bind fun i7 =>
    (gR sh 6 this 3).bind fun x8 =>
    (ck sh 5 x8).bind fun u9 =>
    b2 (fX5_again sh x8 0 i7) fun x10 i11 =>
    (gR sh 6 this 3).bind fun x12 =>
    (gR sh 5 x12 2).bind fun x13 =>
    (aR sh 4 x13 3).bind fun x14 =>
    (aI sh i11 0 x14 v4).bind fun x15 =>
    (sI sh i11 x14 v4 (x15 - v1)).bind fun i16 =>
    if x10 ≤ v2 then (
      fX6_pond_b29 sh this fuel v1 v2 v3 (v4 + 1) i16) else
    fX6_pond_b29 sh this fuel v1 x10 v4 (v4 + 1) i16
def fX6_pond (sh : SH) (this : Nat) (v1 : Int32) (I : IH) : Option (Int32 × IH) :=
  if v1 < 1 then (
    some ((-2), I)) else
  if v1 ≤ 50 then (
    (gR sh 6 this 3).bind fun x1 =>
    (ck sh 5 x1).bind fun u2 =>
    b2 (fX5_settle sh x1 I) fun x3 i4 =>
    fX6_pond_b29 sh this 1000 v1 (-1) 0 0 i4) else
  some ((-2), I)
set_option maxHeartbeats 4000000 in
set_option maxRecDepth 20000 in
theorem jbX6_pond_29 (G : GT) {X : XT} {sh : SH} {L : LH} {n : Nat} {r : Int32} {I' : IH}  {this : Nat}  (F : MF G X RX6 cX6_pond 6 5 (some .int) "pond") : ∀ (fuel : Nat) (v1 : Int32) (v2 : Int32) (v3 : Int32) (v4 : Int32) (I : IH), fX6_pond_b29 sh this fuel v1 v2 v3 v4 I = some (r, I') → J G X (QE G X (some (.int r)) sh I' L n) 6 sh I L n 0 0 29 [(0, .ref this), (1, .int v1), (2, .int v2), (3, .int v3), (4, .int v4)] []
  | 0 => by
    intros
    rename_i h
    exact absurd (show none = some _ from h) (by intro z; cases z)
  | fuel + 1 => by
    intro v1 v2 v3 v4 I h
    rw [fX6_pond_b29] at h
    refine j_iload (pc := 29) (k0 := 4) F 4 rfl dX6_pond_29 ?_
    refine j_aload_n (pc := 31) (k0 := 0) F 0 rfl dX6_pond_31 ?_
    obtain ⟨x1, hx1, h⟩ := ob h
    refine j_getR (pc := 32) F flX6_19 hx1 dX6_pond_32 ?_
    obtain ⟨x2, hx2, h⟩ := ob h
    refine j_getI (pc := 35) F flX6_57 hx2 dX6_pond_35 ?_
    refine j_icmp_ge (pc := 38) F 101 dX6_pond_38 rfl (fun c => ?_) (fun c => ?_)
    · have h := iz_t c h
      refine j_iload_n (pc := 101) (k0 := 3) F 3 rfl dX6_pond_101 ?_
      have g1 := Option.some.inj h
      obtain ⟨q3, g2⟩ := Prod.mk.inj g1
      subst q3
      subst g2
      exact j_iret (pc := 102) F dX6_pond_102
    · have h := iz_f c h
      refine j_aload_n (pc := 41) (k0 := 0) F 0 rfl dX6_pond_41 ?_
      obtain ⟨x3, hx3, h⟩ := ob h
      refine j_getR (pc := 42) F flX6_35 hx3 dX6_pond_42 ?_
      obtain ⟨x4, hx4, h⟩ := ob h
      refine j_getR (pc := 45) F flX6_167 hx4 dX6_pond_45 ?_
      refine j_iconst (pc := 48) F 3 dX6_pond_48 (by decide) ?_
      obtain ⟨x5, hx5, h⟩ := ob h
      refine j_aald (pc := 49) F (Or.inr rfl) hx5 dX6_pond_49 ?_
      refine j_iload (pc := 50) (k0 := 4) F 4 rfl dX6_pond_50 ?_
      refine j_dup2 (pc := 52) F dX6_pond_52 rfl rfl ?_
      obtain ⟨x6, hx6, h⟩ := ob h
      refine j_iald (pc := 53) F hx6 dX6_pond_53 ?_
      refine j_iload_n (pc := 54) (k0 := 1) F 1 rfl dX6_pond_54 ?_
      refine j_iadd (pc := 55) F dX6_pond_55 ?_
      obtain ⟨i7, hi7, h⟩ := ob h
      refine j_iast (pc := 56) F hi7 dX6_pond_56 ?_
      refine j_aload_n (pc := 57) (k0 := 0) F 0 rfl dX6_pond_57 ?_
      obtain ⟨x8, hx8, h⟩ := ob h
      refine j_getR (pc := 58) F flX6_35 hx8 dX6_pond_58 ?_
      refine j_iconst (pc := 61) F 0 dX6_pond_61 (by decide) ?_
      obtain ⟨u9, hu9, h⟩ := ob h
      have hou9 := ck_obt hu9
      obtain ⟨x10, i11, hx10, h⟩ := b2_obt h
      refine j_callV1 (pc := 62) (ci := 5) (As := [.int 0]) (st := []) (e1 := 0) (es1 := 0) F clX6_155 cwX5_again rfl hou9 (ctX5_again G hou9 hx10) rfl rfl rfl rfl rfl rfl dX6_pond_62 ?_
      refine j_istore (pc := 65) (k1 := 5) (ls' := [(5, .int x10), (0, .ref this), (1, .int v1), (2, .int v2), (3, .int v3), (4, .int v4)]) F rfl rfl dX6_pond_65 ?_
      refine j_aload_n (pc := 67) (k0 := 0) F 1 rfl dX6_pond_67 ?_
      obtain ⟨x12, hx12, h⟩ := ob h
      refine j_getR (pc := 68) F flX6_35 hx12 dX6_pond_68 ?_
      obtain ⟨x13, hx13, h⟩ := ob h
      refine j_getR (pc := 71) F flX6_167 hx13 dX6_pond_71 ?_
      refine j_iconst (pc := 74) F 3 dX6_pond_74 (by decide) ?_
      obtain ⟨x14, hx14, h⟩ := ob h
      refine j_aald (pc := 75) F (Or.inr rfl) hx14 dX6_pond_75 ?_
      refine j_iload (pc := 76) (k0 := 4) F 5 rfl dX6_pond_76 ?_
      refine j_dup2 (pc := 78) F dX6_pond_78 rfl rfl ?_
      obtain ⟨x15, hx15, h⟩ := ob h
      refine j_iald (pc := 79) F hx15 dX6_pond_79 ?_
      refine j_iload_n (pc := 80) (k0 := 1) F 2 rfl dX6_pond_80 ?_
      refine j_isub (pc := 81) F dX6_pond_81 ?_
      obtain ⟨i16, hi16, h⟩ := ob h
      refine j_iast (pc := 82) F hi16 dX6_pond_82 ?_
      refine j_iload (pc := 83) (k0 := 5) F 0 rfl dX6_pond_83 ?_
      refine j_iload_n (pc := 85) (k0 := 2) F 3 rfl dX6_pond_85 ?_
      refine j_icmp_le (pc := 86) F 95 dX6_pond_86 rfl (fun c => ?_) (fun c => ?_)
      · have h := iz_t c h
        refine j_iinc (pc := 95) (k1 := 4) (ls' := [(4, .int (v4 + 1)), (5, .int x10), (0, .ref this), (1, .int v1), (2, .int v2), (3, .int v3)]) F (v4 + 1) 5 rfl rfl rfl rfl dX6_pond_95 ?_
        refine j_goto (pc := 98) F 29 dX6_pond_98 rfl ?_
        refine j_sub [2, 3, 4, 5, 0] rfl ?_
        exact jbX6_pond_29 G F fuel _ _ _ _ _ h
      · have h := iz_f c h
        refine j_iload (pc := 89) (k0 := 5) F 0 rfl dX6_pond_89 ?_
        refine j_istore_n (pc := 91) (k1 := 2) (ls' := [(2, .int x10), (5, .int x10), (0, .ref this), (1, .int v1), (3, .int v3), (4, .int v4)]) F rfl rfl rfl dX6_pond_91 ?_
        refine j_iload (pc := 92) (k0 := 4) F 5 rfl dX6_pond_92 ?_
        refine j_istore_n (pc := 94) (k1 := 3) (ls' := [(3, .int v4), (2, .int x10), (5, .int x10), (0, .ref this), (1, .int v1), (4, .int v4)]) F rfl rfl rfl dX6_pond_94 ?_
        refine j_iinc (pc := 95) (k1 := 4) (ls' := [(4, .int (v4 + 1)), (3, .int v4), (2, .int x10), (5, .int x10), (0, .ref this), (1, .int v1)]) F (v4 + 1) 5 rfl rfl rfl rfl dX6_pond_95 ?_
        refine j_goto (pc := 98) F 29 dX6_pond_98 rfl ?_
        refine j_sub [4, 5, 2, 1, 0] rfl ?_
        exact jbX6_pond_29 G F fuel _ _ _ _ _ h
set_option maxHeartbeats 4000000 in
set_option maxRecDepth 20000 in
theorem jbX6_pond_0 (G : GT) {X : XT} {sh : SH} {L : LH} {n : Nat} {r : Int32} {I' : IH}  {this : Nat}  {v1 : Int32} {I : IH} (F : MF G X RX6 cX6_pond 6 5 (some .int) "pond") (h : fX6_pond sh this v1 I = some (r, I')) : J G X (QE G X (some (.int r)) sh I' L n) 6 sh I L n 0 0 0 [(0, .ref this), (1, .int v1)] [] := by
  unfold fX6_pond at h
  refine j_iload_n (pc := 0) (k0 := 1) F 1 rfl dX6_pond_0 ?_
  refine j_iconst (pc := 1) F 1 dX6_pond_1 (by decide) ?_
  refine j_icmp_lt (pc := 2) F 11 dX6_pond_2 rfl (fun c => ?_) (fun c => ?_)
  · have h := iz_t c h
    refine j_bipush (pc := 11) F (-2) dX6_pond_11 (by decide) ?_
    have g1 := Option.some.inj h
    obtain ⟨q3, g2⟩ := Prod.mk.inj g1
    subst q3
    subst g2
    exact j_iret (pc := 13) F dX6_pond_13
  · have h := iz_f c h
    refine j_iload_n (pc := 5) (k0 := 1) F 1 rfl dX6_pond_5 ?_
    refine j_bipush (pc := 6) F 50 dX6_pond_6 (by decide) ?_
    refine j_icmp_le (pc := 8) F 14 dX6_pond_8 rfl (fun c => ?_) (fun c => ?_)
    · have h := iz_t c h
      refine j_aload_n (pc := 14) (k0 := 0) F 0 rfl dX6_pond_14 ?_
      obtain ⟨x1, hx1, h⟩ := ob h
      refine j_getR (pc := 15) F flX6_35 hx1 dX6_pond_15 ?_
      obtain ⟨u2, hu2, h⟩ := ob h
      have hou2 := ck_obt hu2
      obtain ⟨x3, i4, hx3, h⟩ := b2_obt h
      refine j_callV1 (pc := 18) (ci := 5) (As := []) (st := []) (e1 := 0) (es1 := 0) F clX6_103 cwX5_settle rfl hou2 (ctX5_settle G hou2 hx3) rfl rfl rfl rfl rfl rfl dX6_pond_18 ?_
      refine j_pop (pc := 21) F dX6_pond_21 rfl ?_
      refine j_iconst (pc := 22) F (-1) dX6_pond_22 (by decide) ?_
      refine j_istore_n (pc := 23) (k1 := 2) (ls' := [(2, .int (-1)), (0, .ref this), (1, .int v1)]) F rfl rfl rfl dX6_pond_23 ?_
      refine j_iconst (pc := 24) F 0 dX6_pond_24 (by decide) ?_
      refine j_istore_n (pc := 25) (k1 := 3) (ls' := [(3, .int 0), (2, .int (-1)), (0, .ref this), (1, .int v1)]) F rfl rfl rfl dX6_pond_25 ?_
      refine j_iconst (pc := 26) F 0 dX6_pond_26 (by decide) ?_
      refine j_istore (pc := 27) (k1 := 4) (ls' := [(4, .int 0), (3, .int 0), (2, .int (-1)), (0, .ref this), (1, .int v1)]) F rfl rfl dX6_pond_27 ?_
      refine j_sub [3, 4, 2, 1, 0] rfl ?_
      exact jbX6_pond_29 G F 1000 _ _ _ _ _ h
    · have h := iz_f c h
      refine j_bipush (pc := 11) F (-2) dX6_pond_11 (by decide) ?_
      have g1 := Option.some.inj h
      obtain ⟨q3, g2⟩ := Prod.mk.inj g1
      subst q3
      subst g2
      exact j_iret (pc := 13) F dX6_pond_13
theorem ctX6_pond (G : GT) {sh : SH} {I : IH} {L : LH} {n : Nat} {this : Nat} {v1 : Int32} {r : Int32} {I' : IH}  (h : fX6_pond sh this v1 I = some (r, I')) : Ct G yX6_pond cX6_pond 6 (some .int) 5 [.ref this, .int v1] sh I L n (some (.int r)) sh I' L n 0 0 := by
  refine ct_of (y := yX6_pond) (by decide +kernel) rfl (fun X F => ?_)
  exact jbX6_pond_0 G F h
