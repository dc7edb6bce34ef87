/-! decompiled: X7_settle, X7_takesTest, X7_takesE, X7_takesHead, X7_takesClause, X7_goesText, X7_valley, X7_first, X7_behind, X7_last, X7_told -/
theorem dX7_settle_0 : decode cX7_settle 0 = .ok (.aload_n 0, 1) := by decide +kernel
theorem dX7_settle_1 : decode cX7_settle 1 = .ok (.getfield 77, 3) := by decide +kernel
theorem dX7_settle_4 : decode cX7_settle 4 = .ok (.ifCond .le 68, 3) := by decide +kernel
theorem dX7_settle_7 : decode cX7_settle 7 = .ok (.aload_n 0, 1) := by decide +kernel
theorem dX7_settle_8 : decode cX7_settle 8 = .ok (.getfield 71, 3) := by decide +kernel
theorem dX7_settle_11 : decode cX7_settle 11 = .ok (.aload_n 0, 1) := by decide +kernel
theorem dX7_settle_12 : decode cX7_settle 12 = .ok (.getfield 77, 3) := by decide +kernel
theorem dX7_settle_15 : decode cX7_settle 15 = .ok (.iconst 1, 1) := by decide +kernel
theorem dX7_settle_16 : decode cX7_settle 16 = .ok (.isub, 1) := by decide +kernel
theorem dX7_settle_17 : decode cX7_settle 17 = .ok (.iaload, 1) := by decide +kernel
theorem dX7_settle_18 : decode cX7_settle 18 = .ok (.bipush 38, 2) := by decide +kernel
theorem dX7_settle_20 : decode cX7_settle 20 = .ok (.if_icmp .eq 25, 3) := by decide +kernel
theorem dX7_settle_23 : decode cX7_settle 23 = .ok (.aload_n 0, 1) := by decide +kernel
theorem dX7_settle_24 : decode cX7_settle 24 = .ok (.getfield 71, 3) := by decide +kernel
theorem dX7_settle_27 : decode cX7_settle 27 = .ok (.aload_n 0, 1) := by decide +kernel
theorem dX7_settle_28 : decode cX7_settle 28 = .ok (.getfield 77, 3) := by decide +kernel
theorem dX7_settle_31 : decode cX7_settle 31 = .ok (.iconst 1, 1) := by decide +kernel
theorem dX7_settle_32 : decode cX7_settle 32 = .ok (.isub, 1) := by decide +kernel
theorem dX7_settle_33 : decode cX7_settle 33 = .ok (.iaload, 1) := by decide +kernel
theorem dX7_settle_34 : decode cX7_settle 34 = .ok (.bipush 124, 2) := by decide +kernel
theorem dX7_settle_36 : decode cX7_settle 36 = .ok (.if_icmp .ne 36, 3) := by decide +kernel
theorem dX7_settle_39 : decode cX7_settle 39 = .ok (.iload_n 1, 1) := by decide +kernel
theorem dX7_settle_40 : decode cX7_settle 40 = .ok (.bipush 38, 2) := by decide +kernel
theorem dX7_settle_42 : decode cX7_settle 42 = .ok (.if_icmp .eq 30, 3) := by decide +kernel
theorem dX7_settle_45 : decode cX7_settle 45 = .ok (.aload_n 0, 1) := by decide +kernel
theorem dX7_settle_46 : decode cX7_settle 46 = .ok (.dup, 1) := by decide +kernel
theorem dX7_settle_47 : decode cX7_settle 47 = .ok (.getfield 77, 3) := by decide +kernel
theorem dX7_settle_50 : decode cX7_settle 50 = .ok (.iconst 1, 1) := by decide +kernel
theorem dX7_settle_51 : decode cX7_settle 51 = .ok (.isub, 1) := by decide +kernel
theorem dX7_settle_52 : decode cX7_settle 52 = .ok (.putfield 77, 3) := by decide +kernel
theorem dX7_settle_55 : decode cX7_settle 55 = .ok (.aload_n 0, 1) := by decide +kernel
theorem dX7_settle_56 : decode cX7_settle 56 = .ok (.aload_n 0, 1) := by decide +kernel
theorem dX7_settle_57 : decode cX7_settle 57 = .ok (.getfield 71, 3) := by decide +kernel
theorem dX7_settle_60 : decode cX7_settle 60 = .ok (.aload_n 0, 1) := by decide +kernel
theorem dX7_settle_61 : decode cX7_settle 61 = .ok (.getfield 77, 3) := by decide +kernel
theorem dX7_settle_64 : decode cX7_settle 64 = .ok (.iaload, 1) := by decide +kernel
theorem dX7_settle_65 : decode cX7_settle 65 = .ok (.ineg, 1) := by decide +kernel
theorem dX7_settle_66 : decode cX7_settle 66 = .ok (.invokevirtual 235, 3) := by decide +kernel
theorem dX7_settle_69 : decode cX7_settle 69 = .ok (.goto (-69), 3) := by decide +kernel
theorem dX7_settle_72 : decode cX7_settle 72 = .ok (.return_, 1) := by decide +kernel
def fX7_settle_b45 (sh : SH) (this : Nat) (k0 : (Int32 → IH → Option (IH))) (v1 : Int32) (I : IH) : Option (IH) :=
  (gI sh I 7 this 22).bind fun x1 =>
  (pI sh I 7 this 22 (x1 - 1)).bind fun i2 =>
  (gR sh 7 this 20).bind fun x3 =>
  (gI sh i2 7 this 22).bind fun x4 =>
  (aI sh i2 0 x3 x4).bind fun x5 =>
  (fX7_put sh this (-x5) i2).bind fun i6 =>
  k0 v1 i6
def fX7_settle_b0 (sh : SH) (this : Nat) : Nat → Int32 → IH → Option (IH)
  | 0, _, _ => none
  | fuel + 1, v1, I =>
    (gI sh I 7 this 22).bind fun x1 =>
    if x1 ≤ 0 then (
      some I) else
    (gR sh 7 this 20).bind fun x2 =>
    (gI sh I 7 this 22).bind fun x3 =>
    (aI sh I 0 x2 (x3 - 1)).bind fun x4 =>
    if x4 = 38 then (
      fX7_settle_b45 sh this (fX7_settle_b0 sh this fuel) v1 I) else
    (gR sh 7 this 20).bind fun x5 =>
    (gI sh I 7 this 22).bind fun x6 =>
    (aI sh I 0 x5 (x6 - 1)).bind fun x7 =>
    if x7 = 124 then (
      if v1 = 38 then (
        some I) else
      fX7_settle_b45 sh this (fX7_settle_b0 sh this fuel) v1 I) else
    some I
def fX7_settle (sh : SH) (this : Nat) (v1 : Int32) (I : IH) : Option (IH) := fX7_settle_b0 sh this 1000 v1 I
set_option maxHeartbeats 4000000 in
set_option maxRecDepth 20000 in
theorem jbX7_settle_45 (G : GT) {X : XT} {sh : SH} {L : LH} {n : Nat} {I' : IH}  {this : Nat} {k0 : (Int32 → IH → Option (IH))} {v1 : Int32} {I : IH} (F : MF G X RX7 cX7_settle 2 1 none "settle") (hth : isO sh 7 this)
    (hk0 : ∀ {v1 : Int32} {I : IH}, k0 v1 I = some I' → J G X (QE G X (none) sh I' L n) 2 sh I L n 0 0 0 [(0, .ref this), (1, .int v1)] []) (h : fX7_settle_b45 sh this k0 v1 I = some I') : J G X (QE G X (none) sh I' L n) 2 sh I L n 0 0 45 [(0, .ref this), (1, .int v1)] [] := by
  unfold fX7_settle_b45 at h
  refine j_aload_n (pc := 45) (k0 := 0) F 0 rfl dX7_settle_45 ?_
  refine j_dup (pc := 46) F dX7_settle_46 rfl ?_
  obtain ⟨x1, hx1, h⟩ := ob h
  refine j_getI (pc := 47) F flX7_77 hx1 dX7_settle_47 ?_
  refine j_iconst (pc := 50) F 1 dX7_settle_50 (by decide) ?_
  refine j_isub (pc := 51) F dX7_settle_51 ?_
  obtain ⟨i2, hi2, h⟩ := ob h
  refine j_putI (pc := 52) F flX7_77 fp7_22 (fun z => by cases z) hi2 dX7_settle_52 ?_
  refine j_aload_n (pc := 55) (k0 := 0) F 0 rfl dX7_settle_55 ?_
  refine j_aload_n (pc := 56) (k0 := 0) F 0 rfl dX7_settle_56 ?_
  obtain ⟨x3, hx3, h⟩ := ob h
  refine j_getR (pc := 57) F flX7_71 hx3 dX7_settle_57 ?_
  refine j_aload_n (pc := 60) (k0 := 0) F 0 rfl dX7_settle_60 ?_
  obtain ⟨x4, hx4, h⟩ := ob h
  refine j_getI (pc := 61) F flX7_77 hx4 dX7_settle_61 ?_
  obtain ⟨x5, hx5, h⟩ := ob h
  refine j_iald (pc := 64) F hx5 dX7_settle_64 ?_
  refine j_ineg (pc := 65) F dX7_settle_65 ?_
  obtain ⟨i6, hi6, h⟩ := ob h
  refine j_callV0 (pc := 66) (ci := 7) (As := [.int (-x5)]) (st := []) (e1 := 0) (es1 := 0) F clX7_235 cwX7_put rfl hth (ctX7_put G hi6) rfl rfl rfl rfl rfl rfl dX7_settle_66 ?_
  refine j_goto (pc := 69) F 0 dX7_settle_69 rfl ?_
  exact hk0 h
set_option maxHeartbeats 4000000 in
set_option maxRecDepth 20000 in
theorem jbX7_settle_0 (G : GT) {X : XT} {sh : SH} {L : LH} {n : Nat} {I' : IH}  {this : Nat}  (F : MF G X RX7 cX7_settle 2 1 none "settle") (hth : isO sh 7 this) : ∀ (fuel : Nat) (v1 : Int32) (I : IH), fX7_settle_b0 sh this fuel v1 I = some I' → J G X (QE G X (none) sh I' L n) 2 sh I L n 0 0 0 [(0, .ref this), (1, .int v1)] []
  | 0 => by
    intros
    rename_i h
    exact absurd (show none = some _ from h) (by intro z; cases z)
  | fuel + 1 => by
    intro v1 I h
    rw [fX7_settle_b0] at h
    refine j_aload_n (pc := 0) (k0 := 0) F 0 rfl dX7_settle_0 ?_
    obtain ⟨x1, hx1, h⟩ := ob h
    refine j_getI (pc := 1) F flX7_77 hx1 dX7_settle_1 ?_
    refine j_if_le (pc := 4) F 72 dX7_settle_4 rfl (fun c => ?_) (fun c => ?_)
    · have h := iz_t c h
      have g1 := Option.some.inj h
      subst g1
      exact j_vret (pc := 72) F dX7_settle_72
    · have h := iz_f c h
      refine j_aload_n (pc := 7) (k0 := 0) F 0 rfl dX7_settle_7 ?_
      obtain ⟨x2, hx2, h⟩ := ob h
      refine j_getR (pc := 8) F flX7_71 hx2 dX7_settle_8 ?_
      refine j_aload_n (pc := 11) (k0 := 0) F 0 rfl dX7_settle_11 ?_
      obtain ⟨x3, hx3, h⟩ := ob h
      refine j_getI (pc := 12) F flX7_77 hx3 dX7_settle_12 ?_
      refine j_iconst (pc := 15) F 1 dX7_settle_15 (by decide) ?_
      refine j_isub (pc := 16) F dX7_settle_16 ?_
      obtain ⟨x4, hx4, h⟩ := ob h
      refine j_iald (pc := 17) F hx4 dX7_settle_17 ?_
      refine j_bipush (pc := 18) F 38 dX7_settle_18 (by decide) ?_
      refine j_icmp_eq (pc := 20) F 45 dX7_settle_20 rfl (fun c => ?_) (fun c => ?_)
      · have h := iz_t c h
        exact jbX7_settle_45 G F hth (fun h => jbX7_settle_0 G F hth fuel _ _ h) h
      · have h := iz_f c h
        refine j_aload_n (pc := 23) (k0 := 0) F 0 rfl dX7_settle_23 ?_
        obtain ⟨x5, hx5, h⟩ := ob h
        refine j_getR (pc := 24) F flX7_71 hx5 dX7_settle_24 ?_
        refine j_aload_n (pc := 27) (k0 := 0) F 0 rfl dX7_settle_27 ?_
        obtain ⟨x6, hx6, h⟩ := ob h
        refine j_getI (pc := 28) F flX7_77 hx6 dX7_settle_28 ?_
        refine j_iconst (pc := 31) F 1 dX7_settle_31 (by decide) ?_
        refine j_isub (pc := 32) F dX7_settle_32 ?_
        obtain ⟨x7, hx7, h⟩ := ob h
        refine j_iald (pc := 33) F hx7 dX7_settle_33 ?_
        refine j_bipush (pc := 34) F 124 dX7_settle_34 (by decide) ?_
        refine j_icmp_ne (pc := 36) F 72 dX7_settle_36 rfl (fun c => ?_) (fun c => ?_)
        · have h := iz_f c h
          have g1 := Option.some.inj h
          subst g1
          exact j_vret (pc := 72) F dX7_settle_72
        · have h := iz_t c h
          refine j_iload_n (pc := 39) (k0 := 1) F 1 rfl dX7_settle_39 ?_
          refine j_bipush (pc := 40) F 38 dX7_settle_40 (by decide) ?_
          refine j_icmp_eq (pc := 42) F 72 dX7_settle_42 rfl (fun c => ?_) (fun c => ?_)
          · have h := iz_t c h
            have g1 := Option.some.inj h
            subst g1
            exact j_vret (pc := 72) F dX7_settle_72
          · have h := iz_f c h
            exact jbX7_settle_45 G F hth (fun h => jbX7_settle_0 G F hth fuel _ _ h) h
theorem ctX7_settle (G : GT) {sh : SH} {I : IH} {L : LH} {n : Nat} {this : Nat} {v1 : Int32} {I' : IH}  (hth : isO sh 7 this) (h : fX7_settle sh this v1 I = some I') : Ct G yX7_settle cX7_settle 2 none 1 [.ref this, .int v1] sh I L n (none) sh I' L n 0 0 := by
  refine ct_of (y := yX7_settle) (by decide +kernel) rfl (fun X F => ?_)
  exact jbX7_settle_0 G F hth 1000 _ _ h
theorem dX7_takesTest_0 : decode cX7_takesTest 0 = .ok (.aload_n 0, 1) := by decide +kernel
theorem dX7_takesTest_1 : decode cX7_takesTest 1 = .ok (.invokevirtual 224, 3) := by decide +kernel
theorem dX7_takesTest_4 : decode cX7_takesTest 4 = .ok (.bipush 104, 2) := by decide +kernel
theorem dX7_takesTest_6 : decode cX7_takesTest 6 = .ok (.if_icmp .ne 7, 3) := by decide +kernel
theorem dX7_takesTest_9 : decode cX7_takesTest 9 = .ok (.iconst 0, 1) := by decide +kernel
theorem dX7_takesTest_10 : decode cX7_takesTest 10 = .ok (.goto 30, 3) := by decide +kernel
theorem dX7_takesTest_13 : decode cX7_takesTest 13 = .ok (.aload_n 0, 1) := by decide +kernel
theorem dX7_takesTest_14 : decode cX7_takesTest 14 = .ok (.invokevirtual 224, 3) := by decide +kernel
theorem dX7_takesTest_17 : decode cX7_takesTest 17 = .ok (.bipush 100, 2) := by decide +kernel
theorem dX7_takesTest_19 : decode cX7_takesTest 19 = .ok (.if_icmp .ne 7, 3) := by decide +kernel
theorem dX7_takesTest_22 : decode cX7_takesTest 22 = .ok (.iconst 1, 1) := by decide +kernel
theorem dX7_takesTest_23 : decode cX7_takesTest 23 = .ok (.goto 17, 3) := by decide +kernel
theorem dX7_takesTest_26 : decode cX7_takesTest 26 = .ok (.aload_n 0, 1) := by decide +kernel
theorem dX7_takesTest_27 : decode cX7_takesTest 27 = .ok (.invokevirtual 224, 3) := by decide +kernel
theorem dX7_takesTest_30 : decode cX7_takesTest 30 = .ok (.bipush 107, 2) := by decide +kernel
theorem dX7_takesTest_32 : decode cX7_takesTest 32 = .ok (.if_icmp .ne 7, 3) := by decide +kernel
theorem dX7_takesTest_35 : decode cX7_takesTest 35 = .ok (.iconst 2, 1) := by decide +kernel
theorem dX7_takesTest_36 : decode cX7_takesTest 36 = .ok (.goto 4, 3) := by decide +kernel
theorem dX7_takesTest_39 : decode cX7_takesTest 39 = .ok (.iconst (-1), 1) := by decide +kernel
theorem dX7_takesTest_40 : decode cX7_takesTest 40 = .ok (.istore_n 1, 1) := by decide +kernel
theorem dX7_takesTest_41 : decode cX7_takesTest 41 = .ok (.iload_n 1, 1) := by decide +kernel
theorem dX7_takesTest_42 : decode cX7_takesTest 42 = .ok (.ifCond .ge 5, 3) := by decide +kernel
theorem dX7_takesTest_45 : decode cX7_takesTest 45 = .ok (.iconst 0, 1) := by decide +kernel
theorem dX7_takesTest_46 : decode cX7_takesTest 46 = .ok (.ireturn, 1) := by decide +kernel
theorem dX7_takesTest_47 : decode cX7_takesTest 47 = .ok (.aload_n 0, 1) := by decide +kernel
theorem dX7_takesTest_48 : decode cX7_takesTest 48 = .ok (.dup, 1) := by decide +kernel
theorem dX7_takesTest_49 : decode cX7_takesTest 49 = .ok (.getfield 41, 3) := by decide +kernel
theorem dX7_takesTest_52 : decode cX7_takesTest 52 = .ok (.iconst 1, 1) := by decide +kernel
theorem dX7_takesTest_53 : decode cX7_takesTest 53 = .ok (.iadd, 1) := by decide +kernel
theorem dX7_takesTest_54 : decode cX7_takesTest 54 = .ok (.putfield 41, 3) := by decide +kernel
theorem dX7_takesTest_57 : decode cX7_takesTest 57 = .ok (.aload_n 0, 1) := by decide +kernel
theorem dX7_takesTest_58 : decode cX7_takesTest 58 = .ok (.invokevirtual 224, 3) := by decide +kernel
theorem dX7_takesTest_61 : decode cX7_takesTest 61 = .ok (.istore_n 2, 1) := by decide +kernel
theorem dX7_takesTest_62 : decode cX7_takesTest 62 = .ok (.aload_n 0, 1) := by decide +kernel
theorem dX7_takesTest_63 : decode cX7_takesTest 63 = .ok (.iload_n 2, 1) := by decide +kernel
theorem dX7_takesTest_64 : decode cX7_takesTest 64 = .ok (.bipush 60, 2) := by decide +kernel
theorem dX7_takesTest_66 : decode cX7_takesTest 66 = .ok (.bipush 62, 2) := by decide +kernel
theorem dX7_takesTest_68 : decode cX7_takesTest 68 = .ok (.invokevirtual 215, 3) := by decide +kernel
theorem dX7_takesTest_71 : decode cX7_takesTest 71 = .ok (.ifCond .ne 5, 3) := by decide +kernel
theorem dX7_takesTest_74 : decode cX7_takesTest 74 = .ok (.iconst 0, 1) := by decide +kernel
theorem dX7_takesTest_75 : decode cX7_takesTest 75 = .ok (.ireturn, 1) := by decide +kernel
theorem dX7_takesTest_76 : decode cX7_takesTest 76 = .ok (.aload_n 0, 1) := by decide +kernel
theorem dX7_takesTest_77 : decode cX7_takesTest 77 = .ok (.dup, 1) := by decide +kernel
theorem dX7_takesTest_78 : decode cX7_takesTest 78 = .ok (.getfield 41, 3) := by decide +kernel
theorem dX7_takesTest_81 : decode cX7_takesTest 81 = .ok (.iconst 1, 1) := by decide +kernel
theorem dX7_takesTest_82 : decode cX7_takesTest 82 = .ok (.iadd, 1) := by decide +kernel
theorem dX7_takesTest_83 : decode cX7_takesTest 83 = .ok (.putfield 41, 3) := by decide +kernel
theorem dX7_takesTest_86 : decode cX7_takesTest 86 = .ok (.aload_n 0, 1) := by decide +kernel
theorem dX7_takesTest_87 : decode cX7_takesTest 87 = .ok (.invokevirtual 239, 3) := by decide +kernel
theorem dX7_takesTest_90 : decode cX7_takesTest 90 = .ok (.ifCond .ne 5, 3) := by decide +kernel
theorem dX7_takesTest_93 : decode cX7_takesTest 93 = .ok (.iconst 0, 1) := by decide +kernel
theorem dX7_takesTest_94 : decode cX7_takesTest 94 = .ok (.ireturn, 1) := by decide +kernel
theorem dX7_takesTest_95 : decode cX7_takesTest 95 = .ok (.aload_n 0, 1) := by decide +kernel
theorem dX7_takesTest_96 : decode cX7_takesTest 96 = .ok (.sipush 1000, 3) := by decide +kernel
theorem dX7_takesTest_99 : decode cX7_takesTest 99 = .ok (.iload_n 1, 1) := by decide +kernel
theorem dX7_takesTest_100 : decode cX7_takesTest 100 = .ok (.imul, 1) := by decide +kernel
theorem dX7_takesTest_101 : decode cX7_takesTest 101 = .ok (.bipush 100, 2) := by decide +kernel
theorem dX7_takesTest_103 : decode cX7_takesTest 103 = .ok (.iload_n 2, 1) := by decide +kernel
theorem dX7_takesTest_104 : decode cX7_takesTest 104 = .ok (.bipush 60, 2) := by decide +kernel
theorem dX7_takesTest_106 : decode cX7_takesTest 106 = .ok (.isub, 1) := by decide +kernel
theorem dX7_takesTest_107 : decode cX7_takesTest 107 = .ok (.imul, 1) := by decide +kernel
theorem dX7_takesTest_108 : decode cX7_takesTest 108 = .ok (.iadd, 1) := by decide +kernel
theorem dX7_takesTest_109 : decode cX7_takesTest 109 = .ok (.aload_n 0, 1) := by decide +kernel
theorem dX7_takesTest_110 : decode cX7_takesTest 110 = .ok (.getfield 44, 3) := by decide +kernel
theorem dX7_takesTest_113 : decode cX7_takesTest 113 = .ok (.iadd, 1) := by decide +kernel
theorem dX7_takesTest_114 : decode cX7_takesTest 114 = .ok (.invokevirtual 235, 3) := by decide +kernel
theorem dX7_takesTest_117 : decode cX7_takesTest 117 = .ok (.aload_n 0, 1) := by decide +kernel
theorem dX7_takesTest_118 : decode cX7_takesTest 118 = .ok (.invokevirtual 242, 3) := by decide +kernel
theorem dX7_takesTest_121 : decode cX7_takesTest 121 = .ok (.iconst 1, 1) := by decide +kernel
theorem dX7_takesTest_122 : decode cX7_takesTest 122 = .ok (.ireturn, 1) := by decide +kernel
def fX7_takesTest_b40 (sh : SH) (this : Nat) (s0 : Int32) (I : IH) : Option (Int32 × IH) :=
  if 0 ≤ s0 then (
    (gI sh I 7 this 10).bind fun x1 =>
    (pI sh I 7 this 10 (x1 + 1)).bind fun i2 =>
    (fX7_next sh i2 this).bind fun x3 =>
    if (fX7_in x3 60 62) = 0 then (
      some (0, i2)) else
    (gI sh i2 7 this 10).bind fun x4 =>
    (pI sh i2 7 this 10 (x4 + 1)).bind fun i5 =>
    b2 (fX7_takesNumber sh this i5) fun x6 i7 =>
    if x6 = 0 then (
      some (0, i7)) else
    (gI sh i7 7 this 11).bind fun x8 =>
    (fX7_put sh this (((1000 * s0) + (100 * (x3 - 60))) + x8) i7).bind fun i9 =>
    (fX7_whole sh this i9).bind fun i10 =>
    some (1, i10)) else
  some (0, I)
def fX7_takesTest (sh : SH) (this : Nat) (I : IH) : Option (Int32 × IH) :=
  (fX7_next sh I this).bind fun x1 =>
  if x1 = 104 then (
    fX7_takesTest_b40 sh this 0 I) else
  (fX7_next sh I this).bind fun x2 =>
  if x2 = 100 then (
    fX7_takesTest_b40 sh this 1 I) else
  (fX7_next sh I this).bind fun x3 =>
  if x3 = 107 then (
    fX7_takesTest_b40 sh this 2 I) else
  fX7_takesTest_b40 sh this (-1) I
set_option maxHeartbeats 4000000 in
set_option maxRecDepth 20000 in
theorem jbX7_takesTest_40 (G : GT) {X : XT} {sh : SH} {L : LH} {n : Nat} {r : Int32} {I' : IH}  {this : Nat}  {s0 : Int32} {I : IH} (F : MF G X RX7 cX7_takesTest 3 3 (some .boolean) "takesTest") (hth : isO sh 7 this) (h : fX7_takesTest_b40 sh this s0 I = some (r, I')) : J G X (QE G X (some (.int r)) sh I' L n) 3 sh I L n 0 0 40 [(0, .ref this)] [.int s0] := by
  unfold fX7_takesTest_b40 at h
  refine j_istore_n (pc := 40) (k1 := 1) (ls' := [(1, .int s0), (0, .ref this)]) F rfl rfl rfl dX7_takesTest_40 ?_
  refine j_iload_n (pc := 41) (k0 := 1) F 0 rfl dX7_takesTest_41 ?_
  refine j_if_ge (pc := 42) F 47 dX7_takesTest_42 rfl (fun c => ?_) (fun c => ?_)
  · have h := iz_t c h
    refine j_aload_n (pc := 47) (k0 := 0) F 1 rfl dX7_takesTest_47 ?_
    refine j_dup (pc := 48) F dX7_takesTest_48 rfl ?_
    obtain ⟨x1, hx1, h⟩ := ob h
    refine j_getI (pc := 49) F flX7_41 hx1 dX7_takesTest_49 ?_
    refine j_iconst (pc := 52) F 1 dX7_takesTest_52 (by decide) ?_
    refine j_iadd (pc := 53) F dX7_takesTest_53 ?_
    obtain ⟨i2, hi2, h⟩ := ob h
    refine j_putI (pc := 54) F flX7_41 fp7_10 (fun z => by cases z) hi2 dX7_takesTest_54 ?_
    refine j_aload_n (pc := 57) (k0 := 0) F 1 rfl dX7_takesTest_57 ?_
    obtain ⟨x3, hx3, h⟩ := ob h
    refine j_callV1 (pc := 58) (ci := 7) (As := []) (st := []) (e1 := 0) (es1 := 0) F clX7_224 cwX7_next rfl hth (ctX7_next G hx3) rfl rfl rfl rfl rfl rfl dX7_takesTest_58 ?_
    refine j_istore_n (pc := 61) (k1 := 2) (ls' := [(2, .int x3), (1, .int s0), (0, .ref this)]) F rfl rfl rfl dX7_takesTest_61 ?_
    refine j_aload_n (pc := 62) (k0 := 0) F 2 rfl dX7_takesTest_62 ?_
    refine j_iload_n (pc := 63) (k0 := 2) F 0 rfl dX7_takesTest_63 ?_
    refine j_bipush (pc := 64) F 60 dX7_takesTest_64 (by decide) ?_
    refine j_bipush (pc := 66) F 62 dX7_takesTest_66 (by decide) ?_
    refine j_callV1 (pc := 68) (ci := 7) (As := [.int x3, .int 60, .int 62]) (st := []) (e1 := 0) (es1 := 0) F clX7_215 cwX7_in rfl hth (ctX7_in G) rfl rfl rfl rfl rfl rfl dX7_takesTest_68 ?_
    refine j_if_ne (pc := 71) F 76 dX7_takesTest_71 rfl (fun c => ?_) (fun c => ?_)
    · have h := iz_f c h
      refine j_aload_n (pc := 76) (k0 := 0) F 2 rfl dX7_takesTest_76 ?_
      refine j_dup (pc := 77) F dX7_takesTest_77 rfl ?_
      obtain ⟨x4, hx4, h⟩ := ob h
      refine j_getI (pc := 78) F flX7_41 hx4 dX7_takesTest_78 ?_
      refine j_iconst (pc := 81) F 1 dX7_takesTest_81 (by decide) ?_
      refine j_iadd (pc := 82) F dX7_takesTest_82 ?_
      obtain ⟨i5, hi5, h⟩ := ob h
      refine j_putI (pc := 83) F flX7_41 fp7_10 (fun z => by cases z) hi5 dX7_takesTest_83 ?_
      refine j_aload_n (pc := 86) (k0 := 0) F 2 rfl dX7_takesTest_86 ?_
      obtain ⟨x6, i7, hx6, h⟩ := b2_obt h
      refine j_callV1 (pc := 87) (ci := 7) (As := []) (st := []) (e1 := 0) (es1 := 0) F clX7_239 cwX7_takesNumber rfl hth (ctX7_takesNumber G hth hx6) rfl rfl rfl rfl rfl rfl dX7_takesTest_87 ?_
      refine j_if_ne (pc := 90) F 95 dX7_takesTest_90 rfl (fun c => ?_) (fun c => ?_)
      · have h := iz_f c h
        refine j_aload_n (pc := 95) (k0 := 0) F 2 rfl dX7_takesTest_95 ?_
        refine j_sipush (pc := 96) F 1000 dX7_takesTest_96 (by decide) ?_
        refine j_iload_n (pc := 99) (k0 := 1) F 1 rfl dX7_takesTest_99 ?_
        refine j_imul (pc := 100) F dX7_takesTest_100 ?_
        refine j_bipush (pc := 101) F 100 dX7_takesTest_101 (by decide) ?_
        refine j_iload_n (pc := 103) (k0 := 2) F 0 rfl dX7_takesTest_103 ?_
        refine j_bipush (pc := 104) F 60 dX7_takesTest_104 (by decide) ?_
        refine j_isub (pc := 106) F dX7_takesTest_106 ?_
        refine j_imul (pc := 107) F dX7_takesTest_107 ?_
        refine j_iadd (pc := 108) F dX7_takesTest_108 ?_
        refine j_aload_n (pc := 109) (k0 := 0) F 2 rfl dX7_takesTest_109 ?_
        obtain ⟨x8, hx8, h⟩ := ob h
        refine j_getI (pc := 110) F flX7_44 hx8 dX7_takesTest_110 ?_
        refine j_iadd (pc := 113) F dX7_takesTest_113 ?_
        obtain ⟨i9, hi9, h⟩ := ob h
        refine j_callV0 (pc := 114) (ci := 7) (As := [.int (((1000 * s0) + (100 * (x3 - 60))) + x8)]) (st := []) (e1 := 0) (es1 := 0) F clX7_235 cwX7_put rfl hth (ctX7_put G hi9) rfl rfl rfl rfl rfl rfl dX7_takesTest_114 ?_
        refine j_aload_n (pc := 117) (k0 := 0) F 2 rfl dX7_takesTest_117 ?_
        obtain ⟨i10, hi10, h⟩ := ob h
        refine j_callV0 (pc := 118) (ci := 7) (As := []) (st := []) (e1 := 0) (es1 := 0) F clX7_242 cwX7_whole rfl hth (ctX7_whole G hth hi10) rfl rfl rfl rfl rfl rfl dX7_takesTest_118 ?_
        refine j_iconst (pc := 121) F 1 dX7_takesTest_121 (by decide) ?_
        have g1 := Option.some.inj h
        obtain ⟨q3, g2⟩ := Prod.mk.inj g1
        subst q3
        subst g2
        exact j_zret (pc := 122) F (Or.inr rfl) dX7_takesTest_122
      · have h := iz_t c h
        refine j_iconst (pc := 93) F 0 dX7_takesTest_93 (by decide) ?_
        have g1 := Option.some.inj h
        obtain ⟨q3, g2⟩ := Prod.mk.inj g1
        subst q3
        subst g2
        exact j_zret (pc := 94) F (Or.inl rfl) dX7_takesTest_94
    · have h := iz_t c h
      refine j_iconst (pc := 74) F 0 dX7_takesTest_74 (by decide) ?_
      have g1 := Option.some.inj h
      obtain ⟨q3, g2⟩ := Prod.mk.inj g1
      subst q3
      subst g2
      exact j_zret (pc := 75) F (Or.inl rfl) dX7_takesTest_75
  · have h := iz_f c h
    refine j_iconst (pc := 45) F 0 dX7_takesTest_45 (by decide) ?_
    have g1 := Option.some.inj h
    obtain ⟨q3, g2⟩ := Prod.mk.inj g1
    subst q3
    subst g2
    exact j_zret (pc := 46) F (Or.inl rfl) dX7_takesTest_46
set_option maxHeartbeats 4000000 in
set_option maxRecDepth 20000 in
theorem jbX7_takesTest_0 (G : GT) {X : XT} {sh : SH} {L : LH} {n : Nat} {r : Int32} {I' : IH}  {this : Nat}  {I : IH} (F : MF G X RX7 cX7_takesTest 3 3 (some .boolean) "takesTest") (hth : isO sh 7 this) (h : fX7_takesTest sh this I = some (r, I')) : J G X (QE G X (some (.int r)) sh I' L n) 3 sh I L n 0 0 0 [(0, .ref this)] [] := by
  unfold fX7_takesTest at h
  refine j_aload_n (pc := 0) (k0 := 0) F 0 rfl dX7_takesTest_0 ?_
  obtain ⟨x1, hx1, h⟩ := ob h
  refine j_callV1 (pc := 1) (ci := 7) (As := []) (st := []) (e1 := 0) (es1 := 0) F clX7_224 cwX7_next rfl hth (ctX7_next G hx1) rfl rfl rfl rfl rfl rfl dX7_takesTest_1 ?_
  refine j_bipush (pc := 4) F 104 dX7_takesTest_4 (by decide) ?_
  refine j_icmp_ne (pc := 6) F 13 dX7_takesTest_6 rfl (fun c => ?_) (fun c => ?_)
  · have h := iz_f c h
    refine j_aload_n (pc := 13) (k0 := 0) F 0 rfl dX7_takesTest_13 ?_
    obtain ⟨x2, hx2, h⟩ := ob h
    refine j_callV1 (pc := 14) (ci := 7) (As := []) (st := []) (e1 := 0) (es1 := 0) F clX7_224 cwX7_next rfl hth (ctX7_next G hx2) rfl rfl rfl rfl rfl rfl dX7_takesTest_14 ?_
    refine j_bipush (pc := 17) F 100 dX7_takesTest_17 (by decide) ?_
    refine j_icmp_ne (pc := 19) F 26 dX7_takesTest_19 rfl (fun c => ?_) (fun c => ?_)
    · have h := iz_f c h
      refine j_aload_n (pc := 26) (k0 := 0) F 0 rfl dX7_takesTest_26 ?_
      obtain ⟨x3, hx3, h⟩ := ob h
      refine j_callV1 (pc := 27) (ci := 7) (As := []) (st := []) (e1 := 0) (es1 := 0) F clX7_224 cwX7_next rfl hth (ctX7_next G hx3) rfl rfl rfl rfl rfl rfl dX7_takesTest_27 ?_
      refine j_bipush (pc := 30) F 107 dX7_takesTest_30 (by decide) ?_
      refine j_icmp_ne (pc := 32) F 39 dX7_takesTest_32 rfl (fun c => ?_) (fun c => ?_)
      · have h := iz_f c h
        refine j_iconst (pc := 39) F (-1) dX7_takesTest_39 (by decide) ?_
        exact jbX7_takesTest_40 G F hth h
      · have h := iz_t c h
        refine j_iconst (pc := 35) F 2 dX7_takesTest_35 (by decide) ?_
        refine j_goto (pc := 36) F 40 dX7_takesTest_36 rfl ?_
        exact jbX7_takesTest_40 G F hth h
    · have h := iz_t c h
      refine j_iconst (pc := 22) F 1 dX7_takesTest_22 (by decide) ?_
      refine j_goto (pc := 23) F 40 dX7_takesTest_23 rfl ?_
      exact jbX7_takesTest_40 G F hth h
  · have h := iz_t c h
    refine j_iconst (pc := 9) F 0 dX7_takesTest_9 (by decide) ?_
    refine j_goto (pc := 10) F 40 dX7_takesTest_10 rfl ?_
    exact jbX7_takesTest_40 G F hth h
theorem ctX7_takesTest (G : GT) {sh : SH} {I : IH} {L : LH} {n : Nat} {this : Nat} {r : Int32} {I' : IH}  (hth : isO sh 7 this) (h : fX7_takesTest sh this I = some (r, I')) : Ct G yX7_takesTest cX7_takesTest 3 (some .boolean) 3 [.ref this] sh I L n (some (.int r)) sh I' L n 0 0 := by
  refine ct_of (y := yX7_takesTest) (by decide +kernel) rfl (fun X F => ?_)
  exact jbX7_takesTest_0 G F hth h
theorem dX7_takesE_0 : decode cX7_takesE 0 = .ok (.aload_n 0, 1) := by decide +kernel
theorem dX7_takesE_1 : decode cX7_takesE 1 = .ok (.iconst 0, 1) := by decide +kernel
theorem dX7_takesE_2 : decode cX7_takesE 2 = .ok (.putfield 77, 3) := by decide +kernel
theorem dX7_takesE_5 : decode cX7_takesE 5 = .ok (.aload_n 0, 1) := by decide +kernel
theorem dX7_takesE_6 : decode cX7_takesE 6 = .ok (.iconst 0, 1) := by decide +kernel
theorem dX7_takesE_7 : decode cX7_takesE 7 = .ok (.putfield 80, 3) := by decide +kernel
theorem dX7_takesE_10 : decode cX7_takesE 10 = .ok (.aload_n 0, 1) := by decide +kernel
theorem dX7_takesE_11 : decode cX7_takesE 11 = .ok (.getfield 62, 3) := by decide +kernel
theorem dX7_takesE_14 : decode cX7_takesE 14 = .ok (.iload_n 1, 1) := by decide +kernel
theorem dX7_takesE_15 : decode cX7_takesE 15 = .ok (.aload_n 0, 1) := by decide +kernel
theorem dX7_takesE_16 : decode cX7_takesE 16 = .ok (.getfield 74, 3) := by decide +kernel
theorem dX7_takesE_19 : decode cX7_takesE 19 = .ok (.iastore, 1) := by decide +kernel
theorem dX7_takesE_20 : decode cX7_takesE 20 = .ok (.iconst 1, 1) := by decide +kernel
theorem dX7_takesE_21 : decode cX7_takesE 21 = .ok (.istore_n 2, 1) := by decide +kernel
theorem dX7_takesE_22 : decode cX7_takesE 22 = .ok (.aload_n 0, 1) := by decide +kernel
theorem dX7_takesE_23 : decode cX7_takesE 23 = .ok (.invokevirtual 224, 3) := by decide +kernel
theorem dX7_takesE_26 : decode cX7_takesE 26 = .ok (.istore_n 3, 1) := by decide +kernel
theorem dX7_takesE_27 : decode cX7_takesE 27 = .ok (.iload_n 2, 1) := by decide +kernel
theorem dX7_takesE_28 : decode cX7_takesE 28 = .ok (.ifCond .eq 82, 3) := by decide +kernel
theorem dX7_takesE_31 : decode cX7_takesE 31 = .ok (.iload_n 3, 1) := by decide +kernel
theorem dX7_takesE_32 : decode cX7_takesE 32 = .ok (.bipush 33, 2) := by decide +kernel
theorem dX7_takesE_34 : decode cX7_takesE 34 = .ok (.if_icmp .eq 9, 3) := by decide +kernel
theorem dX7_takesE_37 : decode cX7_takesE 37 = .ok (.iload_n 3, 1) := by decide +kernel
theorem dX7_takesE_38 : decode cX7_takesE 38 = .ok (.bipush 40, 2) := by decide +kernel
theorem dX7_takesE_40 : decode cX7_takesE 40 = .ok (.if_icmp .ne 56, 3) := by decide +kernel
theorem dX7_takesE_43 : decode cX7_takesE 43 = .ok (.aload_n 0, 1) := by decide +kernel
theorem dX7_takesE_44 : decode cX7_takesE 44 = .ok (.getfield 80, 3) := by decide +kernel
theorem dX7_takesE_47 : decode cX7_takesE 47 = .ok (.iconst 4, 1) := by decide +kernel
theorem dX7_takesE_48 : decode cX7_takesE 48 = .ok (.if_icmp .ne 5, 3) := by decide +kernel
theorem dX7_takesE_51 : decode cX7_takesE 51 = .ok (.iconst 0, 1) := by decide +kernel
theorem dX7_takesE_52 : decode cX7_takesE 52 = .ok (.ireturn, 1) := by decide +kernel
theorem dX7_takesE_53 : decode cX7_takesE 53 = .ok (.aload_n 0, 1) := by decide +kernel
theorem dX7_takesE_54 : decode cX7_takesE 54 = .ok (.dup, 1) := by decide +kernel
theorem dX7_takesE_55 : decode cX7_takesE 55 = .ok (.getfield 80, 3) := by decide +kernel
theorem dX7_takesE_58 : decode cX7_takesE 58 = .ok (.iconst 1, 1) := by decide +kernel
theorem dX7_takesE_59 : decode cX7_takesE 59 = .ok (.iadd, 1) := by decide +kernel
theorem dX7_takesE_60 : decode cX7_takesE 60 = .ok (.putfield 80, 3) := by decide +kernel
theorem dX7_takesE_63 : decode cX7_takesE 63 = .ok (.aload_n 0, 1) := by decide +kernel
theorem dX7_takesE_64 : decode cX7_takesE 64 = .ok (.getfield 71, 3) := by decide +kernel
theorem dX7_takesE_67 : decode cX7_takesE 67 = .ok (.aload_n 0, 1) := by decide +kernel
theorem dX7_takesE_68 : decode cX7_takesE 68 = .ok (.getfield 77, 3) := by decide +kernel
theorem dX7_takesE_71 : decode cX7_takesE 71 = .ok (.iload_n 3, 1) := by decide +kernel
theorem dX7_takesE_72 : decode cX7_takesE 72 = .ok (.iastore, 1) := by decide +kernel
theorem dX7_takesE_73 : decode cX7_takesE 73 = .ok (.aload_n 0, 1) := by decide +kernel
theorem dX7_takesE_74 : decode cX7_takesE 74 = .ok (.dup, 1) := by decide +kernel
theorem dX7_takesE_75 : decode cX7_takesE 75 = .ok (.getfield 77, 3) := by decide +kernel
theorem dX7_takesE_78 : decode cX7_takesE 78 = .ok (.iconst 1, 1) := by decide +kernel
theorem dX7_takesE_79 : decode cX7_takesE 79 = .ok (.iadd, 1) := by decide +kernel
theorem dX7_takesE_80 : decode cX7_takesE 80 = .ok (.putfield 77, 3) := by decide +kernel
theorem dX7_takesE_83 : decode cX7_takesE 83 = .ok (.aload_n 0, 1) := by decide +kernel
theorem dX7_takesE_84 : decode cX7_takesE 84 = .ok (.dup, 1) := by decide +kernel
theorem dX7_takesE_85 : decode cX7_takesE 85 = .ok (.getfield 41, 3) := by decide +kernel
theorem dX7_takesE_88 : decode cX7_takesE 88 = .ok (.iconst 1, 1) := by decide +kernel
theorem dX7_takesE_89 : decode cX7_takesE 89 = .ok (.iadd, 1) := by decide +kernel
theorem dX7_takesE_90 : decode cX7_takesE 90 = .ok (.putfield 41, 3) := by decide +kernel
theorem dX7_takesE_93 : decode cX7_takesE 93 = .ok (.goto (-71), 3) := by decide +kernel
theorem dX7_takesE_96 : decode cX7_takesE 96 = .ok (.aload_n 0, 1) := by decide +kernel
theorem dX7_takesE_97 : decode cX7_takesE 97 = .ok (.invokevirtual 245, 3) := by decide +kernel
theorem dX7_takesE_100 : decode cX7_takesE 100 = .ok (.ifCond .eq 8, 3) := by decide +kernel
theorem dX7_takesE_103 : decode cX7_takesE 103 = .ok (.iconst 0, 1) := by decide +kernel
theorem dX7_takesE_104 : decode cX7_takesE 104 = .ok (.istore_n 2, 1) := by decide +kernel
theorem dX7_takesE_105 : decode cX7_takesE 105 = .ok (.goto (-83), 3) := by decide +kernel
theorem dX7_takesE_108 : decode cX7_takesE 108 = .ok (.iconst 0, 1) := by decide +kernel
theorem dX7_takesE_109 : decode cX7_takesE 109 = .ok (.ireturn, 1) := by decide +kernel
theorem dX7_takesE_110 : decode cX7_takesE 110 = .ok (.iload_n 3, 1) := by decide +kernel
theorem dX7_takesE_111 : decode cX7_takesE 111 = .ok (.bipush 38, 2) := by decide +kernel
theorem dX7_takesE_113 : decode cX7_takesE 113 = .ok (.if_icmp .eq 9, 3) := by decide +kernel
theorem dX7_takesE_116 : decode cX7_takesE 116 = .ok (.iload_n 3, 1) := by decide +kernel
theorem dX7_takesE_117 : decode cX7_takesE 117 = .ok (.bipush 124, 2) := by decide +kernel
theorem dX7_takesE_119 : decode cX7_takesE 119 = .ok (.if_icmp .ne 43, 3) := by decide +kernel
theorem dX7_takesE_122 : decode cX7_takesE 122 = .ok (.aload_n 0, 1) := by decide +kernel
theorem dX7_takesE_123 : decode cX7_takesE 123 = .ok (.iload_n 3, 1) := by decide +kernel
theorem dX7_takesE_124 : decode cX7_takesE 124 = .ok (.invokevirtual 248, 3) := by decide +kernel
theorem dX7_takesE_127 : decode cX7_takesE 127 = .ok (.aload_n 0, 1) := by decide +kernel
theorem dX7_takesE_128 : decode cX7_takesE 128 = .ok (.getfield 71, 3) := by decide +kernel
theorem dX7_takesE_131 : decode cX7_takesE 131 = .ok (.aload_n 0, 1) := by decide +kernel
theorem dX7_takesE_132 : decode cX7_takesE 132 = .ok (.getfield 77, 3) := by decide +kernel
theorem dX7_takesE_135 : decode cX7_takesE 135 = .ok (.iload_n 3, 1) := by decide +kernel
theorem dX7_takesE_136 : decode cX7_takesE 136 = .ok (.iastore, 1) := by decide +kernel
theorem dX7_takesE_137 : decode cX7_takesE 137 = .ok (.aload_n 0, 1) := by decide +kernel
theorem dX7_takesE_138 : decode cX7_takesE 138 = .ok (.dup, 1) := by decide +kernel
theorem dX7_takesE_139 : decode cX7_takesE 139 = .ok (.getfield 77, 3) := by decide +kernel
theorem dX7_takesE_142 : decode cX7_takesE 142 = .ok (.iconst 1, 1) := by decide +kernel
theorem dX7_takesE_143 : decode cX7_takesE 143 = .ok (.iadd, 1) := by decide +kernel
theorem dX7_takesE_144 : decode cX7_takesE 144 = .ok (.putfield 77, 3) := by decide +kernel
theorem dX7_takesE_147 : decode cX7_takesE 147 = .ok (.iconst 1, 1) := by decide +kernel
theorem dX7_takesE_148 : decode cX7_takesE 148 = .ok (.istore_n 2, 1) := by decide +kernel
theorem dX7_takesE_149 : decode cX7_takesE 149 = .ok (.aload_n 0, 1) := by decide +kernel
theorem dX7_takesE_150 : decode cX7_takesE 150 = .ok (.dup, 1) := by decide +kernel
theorem dX7_takesE_151 : decode cX7_takesE 151 = .ok (.getfield 41, 3) := by decide +kernel
theorem dX7_takesE_154 : decode cX7_takesE 154 = .ok (.iconst 1, 1) := by decide +kernel
theorem dX7_takesE_155 : decode cX7_takesE 155 = .ok (.iadd, 1) := by decide +kernel
theorem dX7_takesE_156 : decode cX7_takesE 156 = .ok (.putfield 41, 3) := by decide +kernel
theorem dX7_takesE_159 : decode cX7_takesE 159 = .ok (.goto (-137), 3) := by decide +kernel
theorem dX7_takesE_162 : decode cX7_takesE 162 = .ok (.aload_n 0, 1) := by decide +kernel
theorem dX7_takesE_163 : decode cX7_takesE 163 = .ok (.bipush 124, 2) := by decide +kernel
theorem dX7_takesE_165 : decode cX7_takesE 165 = .ok (.invokevirtual 248, 3) := by decide +kernel
theorem dX7_takesE_168 : decode cX7_takesE 168 = .ok (.aload_n 0, 1) := by decide +kernel
theorem dX7_takesE_169 : decode cX7_takesE 169 = .ok (.getfield 65, 3) := by decide +kernel
theorem dX7_takesE_172 : decode cX7_takesE 172 = .ok (.iload_n 1, 1) := by decide +kernel
theorem dX7_takesE_173 : decode cX7_takesE 173 = .ok (.aload_n 0, 1) := by decide +kernel
theorem dX7_takesE_174 : decode cX7_takesE 174 = .ok (.getfield 74, 3) := by decide +kernel
theorem dX7_takesE_177 : decode cX7_takesE 177 = .ok (.iastore, 1) := by decide +kernel
theorem dX7_takesE_178 : decode cX7_takesE 178 = .ok (.aload_n 0, 1) := by decide +kernel
theorem dX7_takesE_179 : decode cX7_takesE 179 = .ok (.getfield 77, 3) := by decide +kernel
theorem dX7_takesE_182 : decode cX7_takesE 182 = .ok (.ifCond .ne 5, 3) := by decide +kernel
theorem dX7_takesE_185 : decode cX7_takesE 185 = .ok (.iconst 1, 1) := by decide +kernel
theorem dX7_takesE_186 : decode cX7_takesE 186 = .ok (.ireturn, 1) := by decide +kernel
theorem dX7_takesE_187 : decode cX7_takesE 187 = .ok (.iload_n 3, 1) := by decide +kernel
theorem dX7_takesE_188 : decode cX7_takesE 188 = .ok (.bipush 41, 2) := by decide +kernel
theorem dX7_takesE_190 : decode cX7_takesE 190 = .ok (.if_icmp .eq 5, 3) := by decide +kernel
theorem dX7_takesE_193 : decode cX7_takesE 193 = .ok (.iconst 0, 1) := by decide +kernel
theorem dX7_takesE_194 : decode cX7_takesE 194 = .ok (.ireturn, 1) := by decide +kernel
theorem dX7_takesE_195 : decode cX7_takesE 195 = .ok (.aload_n 0, 1) := by decide +kernel
theorem dX7_takesE_196 : decode cX7_takesE 196 = .ok (.dup, 1) := by decide +kernel
theorem dX7_takesE_197 : decode cX7_takesE 197 = .ok (.getfield 77, 3) := by decide +kernel
theorem dX7_takesE_200 : decode cX7_takesE 200 = .ok (.iconst 1, 1) := by decide +kernel
theorem dX7_takesE_201 : decode cX7_takesE 201 = .ok (.isub, 1) := by decide +kernel
theorem dX7_takesE_202 : decode cX7_takesE 202 = .ok (.putfield 77, 3) := by decide +kernel
theorem dX7_takesE_205 : decode cX7_takesE 205 = .ok (.aload_n 0, 1) := by decide +kernel
theorem dX7_takesE_206 : decode cX7_takesE 206 = .ok (.dup, 1) := by decide +kernel
theorem dX7_takesE_207 : decode cX7_takesE 207 = .ok (.getfield 80, 3) := by decide +kernel
theorem dX7_takesE_210 : decode cX7_takesE 210 = .ok (.iconst 1, 1) := by decide +kernel
theorem dX7_takesE_211 : decode cX7_takesE 211 = .ok (.isub, 1) := by decide +kernel
theorem dX7_takesE_212 : decode cX7_takesE 212 = .ok (.putfield 80, 3) := by decide +kernel
theorem dX7_takesE_215 : decode cX7_takesE 215 = .ok (.aload_n 0, 1) := by decide +kernel
theorem dX7_takesE_216 : decode cX7_takesE 216 = .ok (.dup, 1) := by decide +kernel
theorem dX7_takesE_217 : decode cX7_takesE 217 = .ok (.getfield 41, 3) := by decide +kernel
theorem dX7_takesE_220 : decode cX7_takesE 220 = .ok (.iconst 1, 1) := by decide +kernel
theorem dX7_takesE_221 : decode cX7_takesE 221 = .ok (.iadd, 1) := by decide +kernel
theorem dX7_takesE_222 : decode cX7_takesE 222 = .ok (.putfield 41, 3) := by decide +kernel
theorem dX7_takesE_225 : decode cX7_takesE 225 = .ok (.aload_n 0, 1) := by decide +kernel
theorem dX7_takesE_226 : decode cX7_takesE 226 = .ok (.invokevirtual 242, 3) := by decide +kernel
theorem dX7_takesE_229 : decode cX7_takesE 229 = .ok (.goto (-207), 3) := by decide +kernel
def fX7_takesE_b43 (sh : SH) (this : Nat) (k22 : (Int32 → Int32 → IH → Option (Int32 × IH))) (v1 : Int32) (v2 : Int32) (v3 : Int32) (I : IH) : Option (Int32 × IH) :=
  (gI sh I 7 this 23).bind fun x1 =>
  if x1 = 4 then (
    some (0, I)) else
  (gI sh I 7 this 23).bind fun x2 =>
  (pI sh I 7 this 23 (x2 + 1)).bind fun i3 =>
  (gR sh 7 this 20).bind fun x4 =>
  (gI sh i3 7 this 22).bind fun x5 =>
  (sI sh i3 x4 x5 v3).bind fun i6 =>
  (gI sh i6 7 this 22).bind fun x7 =>
  (pI sh i6 7 this 22 (x7 + 1)).bind fun i8 =>
  (gI sh i8 7 this 10).bind fun x9 =>
  (pI sh i8 7 this 10 (x9 + 1)).bind fun i10 =>
  k22 v1 v2 i10
def fX7_takesE_b122 (sh : SH) (this : Nat) (k22 : (Int32 → Int32 → IH → Option (Int32 × IH))) (v1 : Int32) (v3 : Int32) (I : IH) : Option (Int32 × IH) :=
  (fX7_settle sh this v3 I).bind fun i1 =>
  (gR sh 7 this 20).bind fun x2 =>
  (gI sh i1 7 this 22).bind fun x3 =>
  (sI sh i1 x2 x3 v3).bind fun i4 =>
  (gI sh i4 7 this 22).bind fun x5 =>
  (pI sh i4 7 this 22 (x5 + 1)).bind fun i6 =>
  (gI sh i6 7 this 10).bind fun x7 =>
  (pI sh i6 7 this 10 (x7 + 1)).bind fun i8 =>
  k22 v1 1 i8
def fX7_takesE_b22 (sh : SH) (this : Nat) : Nat → Int32 → Int32 → IH → Option (Int32 × IH)
  | 0, _, _, _ => none
  | fuel + 1, v1, v2, I =>
    (fX7_next sh I this).bind fun x1 =>
    if v2 = 0 then (
      if x1 = 38 then (
        fX7_takesE_b122 sh this (fX7_takesE_b22 sh this fuel) v1 x1 I) else
      if x1 = 124 then (
        fX7_takesE_b122 sh this (fX7_takesE_b22 sh this fuel) v1 x1 I) else
      (fX7_settle sh this 124 I).bind fun i2 =>
      (gR sh 7 this 18).bind fun x3 =>
      (gI sh i2 7 this 21).bind fun x4 =>
      (sI sh i2 x3 v1 x4).bind fun i5 =>
      (gI sh i5 7 this 22).bind fun x6 =>
      if x6 = 0 then (
        some (1, i5)) else
      if x1 = 41 then (
        (gI sh i5 7 this 22).bind fun x7 =>
        (pI sh i5 7 this 22 (x7 - 1)).bind fun i8 =>
        (gI sh i8 7 this 23).bind fun x9 =>
        (pI sh i8 7 this 23 (x9 - 1)).bind fun i10 =>
        (gI sh i10 7 this 10).bind fun x11 =>
        (pI sh i10 7 this 10 (x11 + 1)).bind fun i12 =>
        (fX7_whole sh this i12).bind fun i13 =>
        fX7_takesE_b22 sh this fuel v1 v2 i13) else
      some (0, i5)) else
    if x1 = 33 then (
      fX7_takesE_b43 sh this (fX7_takesE_b22 sh this fuel) v1 v2 x1 I) else
    if x1 = 40 then (
      fX7_takesE_b43 sh this (fX7_takesE_b22 sh this fuel) v1 v2 x1 I) else
    b2 (fX7_takesTest sh this I) fun x14 i15 =>
    if x14 = 0 then (
      some (0, i15)) else
    fX7_takesE_b22 sh this fuel v1 0 i15
def fX7_takesE (sh : SH) (this : Nat) (v1 : Int32) (I : IH) : Option (Int32 × IH) :=
  (pI sh I 7 this 22 0).bind fun i1 =>
  (pI sh i1 7 this 23 0).bind fun i2 =>
  (gR sh 7 this 17).bind fun x3 =>
  (gI sh i2 7 this 21).bind fun x4 =>
  (sI sh i2 x3 v1 x4).bind fun i5 =>
  fX7_takesE_b22 sh this 1000 v1 1 i5
set_option maxHeartbeats 4000000 in
set_option maxRecDepth 20000 in
theorem jbX7_takesE_43 (G : GT) {X : XT} {sh : SH} {L : LH} {n : Nat} {r : Int32} {I' : IH}  {this : Nat} {k22 : (Int32 → Int32 → IH → Option (Int32 × IH))} {v1 : Int32} {v2 : Int32} {v3 : Int32} {I : IH} (F : MF G X RX7 cX7_takesE 4 4 (some .boolean) "takesE") (hth : isO sh 7 this)
    (hk22 : ∀ {v1 : Int32} {v2 : Int32} {I : IH}, k22 v1 v2 I = some (r, I') → J G X (QE G X (some (.int r)) sh I' L n) 4 sh I L n 0 0 22 [(0, .ref this), (1, .int v1), (2, .int v2)] []) (h : fX7_takesE_b43 sh this k22 v1 v2 v3 I = some (r, I')) : J G X (QE G X (some (.int r)) sh I' L n) 4 sh I L n 0 0 43 [(0, .ref this), (1, .int v1), (2, .int v2), (3, .int v3)] [] := by
  unfold fX7_takesE_b43 at h
  refine j_aload_n (pc := 43) (k0 := 0) F 0 rfl dX7_takesE_43 ?_
  obtain ⟨x1, hx1, h⟩ := ob h
  refine j_getI (pc := 44) F flX7_80 hx1 dX7_takesE_44 ?_
  refine j_iconst (pc := 47) F 4 dX7_takesE_47 (by decide) ?_
  refine j_icmp_ne (pc := 48) F 53 dX7_takesE_48 rfl (fun c => ?_) (fun c => ?_)
  · have h := iz_f c h
    refine j_aload_n (pc := 53) (k0 := 0) F 0 rfl dX7_takesE_53 ?_
    refine j_dup (pc := 54) F dX7_takesE_54 rfl ?_
    obtain ⟨x2, hx2, h⟩ := ob h
    refine j_getI (pc := 55) F flX7_80 hx2 dX7_takesE_55 ?_
    refine j_iconst (pc := 58) F 1 dX7_takesE_58 (by decide) ?_
    refine j_iadd (pc := 59) F dX7_takesE_59 ?_
    obtain ⟨i3, hi3, h⟩ := ob h
    refine j_putI (pc := 60) F flX7_80 fp7_23 (fun z => by cases z) hi3 dX7_takesE_60 ?_
    refine j_aload_n (pc := 63) (k0 := 0) F 0 rfl dX7_takesE_63 ?_
    obtain ⟨x4, hx4, h⟩ := ob h
    refine j_getR (pc := 64) F flX7_71 hx4 dX7_takesE_64 ?_
    refine j_aload_n (pc := 67) (k0 := 0) F 0 rfl dX7_takesE_67 ?_
    obtain ⟨x5, hx5, h⟩ := ob h
    refine j_getI (pc := 68) F flX7_77 hx5 dX7_takesE_68 ?_
    refine j_iload_n (pc := 71) (k0 := 3) F 3 rfl dX7_takesE_71 ?_
    obtain ⟨i6, hi6, h⟩ := ob h
    refine j_iast (pc := 72) F hi6 dX7_takesE_72 ?_
    refine j_aload_n (pc := 73) (k0 := 0) F 0 rfl dX7_takesE_73 ?_
    refine j_dup (pc := 74) F dX7_takesE_74 rfl ?_
    obtain ⟨x7, hx7, h⟩ := ob h
    refine j_getI (pc := 75) F flX7_77 hx7 dX7_takesE_75 ?_
    refine j_iconst (pc := 78) F 1 dX7_takesE_78 (by decide) ?_
    refine j_iadd (pc := 79) F dX7_takesE_79 ?_
    obtain ⟨i8, hi8, h⟩ := ob h
    refine j_putI (pc := 80) F flX7_77 fp7_22 (fun z => by cases z) hi8 dX7_takesE_80 ?_
    refine j_aload_n (pc := 83) (k0 := 0) F 0 rfl dX7_takesE_83 ?_
    refine j_dup (pc := 84) F dX7_takesE_84 rfl ?_
    obtain ⟨x9, hx9, h⟩ := ob h
    refine j_getI (pc := 85) F flX7_41 hx9 dX7_takesE_85 ?_
    refine j_iconst (pc := 88) F 1 dX7_takesE_88 (by decide) ?_
    refine j_iadd (pc := 89) F dX7_takesE_89 ?_
    obtain ⟨i10, hi10, h⟩ := ob h
    refine j_putI (pc := 90) F flX7_41 fp7_10 (fun z => by cases z) hi10 dX7_takesE_90 ?_
    refine j_goto (pc := 93) F 22 dX7_takesE_93 rfl ?_
    refine j_sub [0, 1, 2] rfl ?_
    exact hk22 h
  · have h := iz_t c h
    refine j_iconst (pc := 51) F 0 dX7_takesE_51 (by decide) ?_
    have g1 := Option.some.inj h
    obtain ⟨q3, g2⟩ := Prod.mk.inj g1
    subst q3
    subst g2
    exact j_zret (pc := 52) F (Or.inl rfl) dX7_takesE_52
set_option maxHeartbeats 4000000 in
set_option maxRecDepth 20000 in
theorem jbX7_takesE_122 (G : GT) {X : XT} {sh : SH} {L : LH} {n : Nat} {r : Int32} {I' : IH}  {this : Nat} {k22 : (Int32 → Int32 → IH → Option (Int32 × IH))} {v1 : Int32} {v3 : Int32} {I : IH} (F : MF G X RX7 cX7_takesE 4 4 (some .boolean) "takesE") (hth : isO sh 7 this)
    (hk22 : ∀ {v1 : Int32} {v2 : Int32} {I : IH}, k22 v1 v2 I = some (r, I') → J G X (QE G X (some (.int r)) sh I' L n) 4 sh I L n 0 0 22 [(0, .ref this), (1, .int v1), (2, .int v2)] []) (h : fX7_takesE_b122 sh this k22 v1 v3 I = some (r, I')) : J G X (QE G X (some (.int r)) sh I' L n) 4 sh I L n 0 0 122 [(0, .ref this), (1, .int v1), (3, .int v3)] [] := by
  unfold fX7_takesE_b122 at h
  refine j_aload_n (pc := 122) (k0 := 0) F 0 rfl dX7_takesE_122 ?_
  refine j_iload_n (pc := 123) (k0 := 3) F 2 rfl dX7_takesE_123 ?_
  obtain ⟨i1, hi1, h⟩ := ob h
  refine j_callV0 (pc := 124) (ci := 7) (As := [.int v3]) (st := []) (e1 := 0) (es1 := 0) F clX7_248 cwX7_settle rfl hth (ctX7_settle G hth hi1) rfl rfl rfl rfl rfl rfl dX7_takesE_124 ?_
  refine j_aload_n (pc := 127) (k0 := 0) F 0 rfl dX7_takesE_127 ?_
  obtain ⟨x2, hx2, h⟩ := ob h
  refine j_getR (pc := 128) F flX7_71 hx2 dX7_takesE_128 ?_
  refine j_aload_n (pc := 131) (k0 := 0) F 0 rfl dX7_takesE_131 ?_
  obtain ⟨x3, hx3, h⟩ := ob h
  refine j_getI (pc := 132) F flX7_77 hx3 dX7_takesE_132 ?_
  refine j_iload_n (pc := 135) (k0 := 3) F 2 rfl dX7_takesE_135 ?_
  obtain ⟨i4, hi4, h⟩ := ob h
  refine j_iast (pc := 136) F hi4 dX7_takesE_136 ?_
  refine j_aload_n (pc := 137) (k0 := 0) F 0 rfl dX7_takesE_137 ?_
  refine j_dup (pc := 138) F dX7_takesE_138 rfl ?_
  obtain ⟨x5, hx5, h⟩ := ob h
  refine j_getI (pc := 139) F flX7_77 hx5 dX7_takesE_139 ?_
  refine j_iconst (pc := 142) F 1 dX7_takesE_142 (by decide) ?_
  refine j_iadd (pc := 143) F dX7_takesE_143 ?_
  obtain ⟨i6, hi6, h⟩ := ob h
  refine j_putI (pc := 144) F flX7_77 fp7_22 (fun z => by cases z) hi6 dX7_takesE_144 ?_
  refine j_iconst (pc := 147) F 1 dX7_takesE_147 (by decide) ?_
  refine j_istore_n (pc := 148) (k1 := 2) (ls' := [(2, .int 1), (0, .ref this), (1, .int v1), (3, .int v3)]) F rfl rfl rfl dX7_takesE_148 ?_
  refine j_aload_n (pc := 149) (k0 := 0) F 1 rfl dX7_takesE_149 ?_
  refine j_dup (pc := 150) F dX7_takesE_150 rfl ?_
  obtain ⟨x7, hx7, h⟩ := ob h
  refine j_getI (pc := 151) F flX7_41 hx7 dX7_takesE_151 ?_
  refine j_iconst (pc := 154) F 1 dX7_takesE_154 (by decide) ?_
  refine j_iadd (pc := 155) F dX7_takesE_155 ?_
  obtain ⟨i8, hi8, h⟩ := ob h
  refine j_putI (pc := 156) F flX7_41 fp7_10 (fun z => by cases z) hi8 dX7_takesE_156 ?_
  refine j_goto (pc := 159) F 22 dX7_takesE_159 rfl ?_
  refine j_sub [1, 2, 0] rfl ?_
  exact hk22 h
set_option maxHeartbeats 4000000 in
set_option maxRecDepth 20000 in
theorem jbX7_takesE_22 (G : GT) {X : XT} {sh : SH} {L : LH} {n : Nat} {r : Int32} {I' : IH}  {this : Nat}  (F : MF G X RX7 cX7_takesE 4 4 (some .boolean) "takesE") (hth : isO sh 7 this) : ∀ (fuel : Nat) (v1 : Int32) (v2 : Int32) (I : IH), fX7_takesE_b22 sh this fuel v1 v2 I = some (r, I') → J G X (QE G X (some (.int r)) sh I' L n) 4 sh I L n 0 0 22 [(0, .ref this), (1, .int v1), (2, .int v2)] []
  | 0 => by
    intros
    rename_i h
    exact absurd (show none = some _ from h) (by intro z; cases z)
  | fuel + 1 => by
    intro v1 v2 I h
    rw [fX7_takesE_b22] at h
    refine j_aload_n (pc := 22) (k0 := 0) F 0 rfl dX7_takesE_22 ?_
    obtain ⟨x1, hx1, h⟩ := ob h
    refine j_callV1 (pc := 23) (ci := 7) (As := []) (st := []) (e1 := 0) (es1 := 0) F clX7_224 cwX7_next rfl hth (ctX7_next G hx1) rfl rfl rfl rfl rfl rfl dX7_takesE_23 ?_
    refine j_istore_n (pc := 26) (k1 := 3) (ls' := [(3, .int x1), (0, .ref this), (1, .int v1), (2, .int v2)]) F rfl rfl rfl dX7_takesE_26 ?_
    refine j_iload_n (pc := 27) (k0 := 2) F 3 rfl dX7_takesE_27 ?_
    refine j_if_eq (pc := 28) F 110 dX7_takesE_28 rfl (fun c => ?_) (fun c => ?_)
    · have h := iz_t c h
      refine j_iload_n (pc := 110) (k0 := 3) F 0 rfl dX7_takesE_110 ?_
      refine j_bipush (pc := 111) F 38 dX7_takesE_111 (by decide) ?_
      refine j_icmp_eq (pc := 113) F 122 dX7_takesE_113 rfl (fun c => ?_) (fun c => ?_)
      · have h := iz_t c h
        refine j_sub [1, 2, 0] rfl ?_
        exact jbX7_takesE_122 G F hth (fun h => jbX7_takesE_22 G F hth fuel _ _ _ h) h
      · have h := iz_f c h
        refine j_iload_n (pc := 116) (k0 := 3) F 0 rfl dX7_takesE_116 ?_
        refine j_bipush (pc := 117) F 124 dX7_takesE_117 (by decide) ?_
        refine j_icmp_ne (pc := 119) F 162 dX7_takesE_119 rfl (fun c => ?_) (fun c => ?_)
        · have h := iz_f c h
          refine j_aload_n (pc := 162) (k0 := 0) F 1 rfl dX7_takesE_162 ?_
          refine j_bipush (pc := 163) F 124 dX7_takesE_163 (by decide) ?_
          obtain ⟨i2, hi2, h⟩ := ob h
          refine j_callV0 (pc := 165) (ci := 7) (As := [.int 124]) (st := []) (e1 := 0) (es1 := 0) F clX7_248 cwX7_settle rfl hth (ctX7_settle G hth hi2) rfl rfl rfl rfl rfl rfl dX7_takesE_165 ?_
          refine j_aload_n (pc := 168) (k0 := 0) F 1 rfl dX7_takesE_168 ?_
          obtain ⟨x3, hx3, h⟩ := ob h
          refine j_getR (pc := 169) F flX7_65 hx3 dX7_takesE_169 ?_
          refine j_iload_n (pc := 172) (k0 := 1) F 2 rfl dX7_takesE_172 ?_
          refine j_aload_n (pc := 173) (k0 := 0) F 1 rfl dX7_takesE_173 ?_
          obtain ⟨x4, hx4, h⟩ := ob h
          refine j_getI (pc := 174) F flX7_74 hx4 dX7_takesE_174 ?_
          obtain ⟨i5, hi5, h⟩ := ob h
          refine j_iast (pc := 177) F hi5 dX7_takesE_177 ?_
          refine j_aload_n (pc := 178) (k0 := 0) F 1 rfl dX7_takesE_178 ?_
          obtain ⟨x6, hx6, h⟩ := ob h
          refine j_getI (pc := 179) F flX7_77 hx6 dX7_takesE_179 ?_
          refine j_if_ne (pc := 182) F 187 dX7_takesE_182 rfl (fun c => ?_) (fun c => ?_)
          · have h := iz_f c h
            refine j_iload_n (pc := 187) (k0 := 3) F 0 rfl dX7_takesE_187 ?_
            refine j_bipush (pc := 188) F 41 dX7_takesE_188 (by decide) ?_
            refine j_icmp_eq (pc := 190) F 195 dX7_takesE_190 rfl (fun c => ?_) (fun c => ?_)
            · have h := iz_t c h
              refine j_aload_n (pc := 195) (k0 := 0) F 1 rfl dX7_takesE_195 ?_
              refine j_dup (pc := 196) F dX7_takesE_196 rfl ?_
              obtain ⟨x7, hx7, h⟩ := ob h
              refine j_getI (pc := 197) F flX7_77 hx7 dX7_takesE_197 ?_
              refine j_iconst (pc := 200) F 1 dX7_takesE_200 (by decide) ?_
              refine j_isub (pc := 201) F dX7_takesE_201 ?_
              obtain ⟨i8, hi8, h⟩ := ob h
              refine j_putI (pc := 202) F flX7_77 fp7_22 (fun z => by cases z) hi8 dX7_takesE_202 ?_
              refine j_aload_n (pc := 205) (k0 := 0) F 1 rfl dX7_takesE_205 ?_
              refine j_dup (pc := 206) F dX7_takesE_206 rfl ?_
              obtain ⟨x9, hx9, h⟩ := ob h
              refine j_getI (pc := 207) F flX7_80 hx9 dX7_takesE_207 ?_
              refine j_iconst (pc := 210) F 1 dX7_takesE_210 (by decide) ?_
              refine j_isub (pc := 211) F dX7_takesE_211 ?_
              obtain ⟨i10, hi10, h⟩ := ob h
              refine j_putI (pc := 212) F flX7_80 fp7_23 (fun z => by cases z) hi10 dX7_takesE_212 ?_
              refine j_aload_n (pc := 215) (k0 := 0) F 1 rfl dX7_takesE_215 ?_
              refine j_dup (pc := 216) F dX7_takesE_216 rfl ?_
              obtain ⟨x11, hx11, h⟩ := ob h
              refine j_getI (pc := 217) F flX7_41 hx11 dX7_takesE_217 ?_
              refine j_iconst (pc := 220) F 1 dX7_takesE_220 (by decide) ?_
              refine j_iadd (pc := 221) F dX7_takesE_221 ?_
              obtain ⟨i12, hi12, h⟩ := ob h
              refine j_putI (pc := 222) F flX7_41 fp7_10 (fun z => by cases z) hi12 dX7_takesE_222 ?_
              refine j_aload_n (pc := 225) (k0 := 0) F 1 rfl dX7_takesE_225 ?_
              obtain ⟨i13, hi13, h⟩ := ob h
              refine j_callV0 (pc := 226) (ci := 7) (As := []) (st := []) (e1 := 0) (es1 := 0) F clX7_242 cwX7_whole rfl hth (ctX7_whole G hth hi13) rfl rfl rfl rfl rfl rfl dX7_takesE_226 ?_
              refine j_goto (pc := 229) F 22 dX7_takesE_229 rfl ?_
              refine j_sub [1, 2, 3] rfl ?_
              exact jbX7_takesE_22 G F hth fuel _ _ _ h
            · have h := iz_f c h
              refine j_iconst (pc := 193) F 0 dX7_takesE_193 (by decide) ?_
              have g1 := Option.some.inj h
              obtain ⟨q3, g2⟩ := Prod.mk.inj g1
              subst q3
              subst g2
              exact j_zret (pc := 194) F (Or.inl rfl) dX7_takesE_194
          · have h := iz_t c h
            refine j_iconst (pc := 185) F 1 dX7_takesE_185 (by decide) ?_
            have g1 := Option.some.inj h
            obtain ⟨q3, g2⟩ := Prod.mk.inj g1
            subst q3
            subst g2
            exact j_zret (pc := 186) F (Or.inr rfl) dX7_takesE_186
        · have h := iz_t c h
          refine j_sub [1, 2, 0] rfl ?_
          exact jbX7_takesE_122 G F hth (fun h => jbX7_takesE_22 G F hth fuel _ _ _ h) h
    · have h := iz_f c h
      refine j_iload_n (pc := 31) (k0 := 3) F 0 rfl dX7_takesE_31 ?_
      refine j_bipush (pc := 32) F 33 dX7_takesE_32 (by decide) ?_
      refine j_icmp_eq (pc := 34) F 43 dX7_takesE_34 rfl (fun c => ?_) (fun c => ?_)
      · have h := iz_t c h
        refine j_sub [1, 2, 3, 0] rfl ?_
        exact jbX7_takesE_43 G F hth (fun h => jbX7_takesE_22 G F hth fuel _ _ _ h) h
      · have h := iz_f c h
        refine j_iload_n (pc := 37) (k0 := 3) F 0 rfl dX7_takesE_37 ?_
        refine j_bipush (pc := 38) F 40 dX7_takesE_38 (by decide) ?_
        refine j_icmp_ne (pc := 40) F 96 dX7_takesE_40 rfl (fun c => ?_) (fun c => ?_)
        · have h := iz_f c h
          refine j_aload_n (pc := 96) (k0 := 0) F 1 rfl dX7_takesE_96 ?_
          obtain ⟨x14, i15, hx14, h⟩ := b2_obt h
          refine j_callV1 (pc := 97) (ci := 7) (As := []) (st := []) (e1 := 0) (es1 := 0) F clX7_245 cwX7_takesTest rfl hth (ctX7_takesTest G hth hx14) rfl rfl rfl rfl rfl rfl dX7_takesE_97 ?_
          refine j_if_eq (pc := 100) F 108 dX7_takesE_100 rfl (fun c => ?_) (fun c => ?_)
          · have h := iz_t c h
            refine j_iconst (pc := 108) F 0 dX7_takesE_108 (by decide) ?_
            have g1 := Option.some.inj h
            obtain ⟨q3, g2⟩ := Prod.mk.inj g1
            subst q3
            subst g2
            exact j_zret (pc := 109) F (Or.inl rfl) dX7_takesE_109
          · have h := iz_f c h
            refine j_iconst (pc := 103) F 0 dX7_takesE_103 (by decide) ?_
            refine j_istore_n (pc := 104) (k1 := 2) (ls' := [(2, .int 0), (3, .int x1), (0, .ref this), (1, .int v1)]) F rfl rfl rfl dX7_takesE_104 ?_
            refine j_goto (pc := 105) F 22 dX7_takesE_105 rfl ?_
            refine j_sub [2, 3, 0] rfl ?_
            exact jbX7_takesE_22 G F hth fuel _ _ _ h
        · have h := iz_t c h
          refine j_sub [1, 2, 3, 0] rfl ?_
          exact jbX7_takesE_43 G F hth (fun h => jbX7_takesE_22 G F hth fuel _ _ _ h) h
set_option maxHeartbeats 4000000 in
set_option maxRecDepth 20000 in
theorem jbX7_takesE_0 (G : GT) {X : XT} {sh : SH} {L : LH} {n : Nat} {r : Int32} {I' : IH}  {this : Nat}  {v1 : Int32} {I : IH} (F : MF G X RX7 cX7_takesE 4 4 (some .boolean) "takesE") (hth : isO sh 7 this) (h : fX7_takesE sh this v1 I = some (r, I')) : J G X (QE G X (some (.int r)) sh I' L n) 4 sh I L n 0 0 0 [(0, .ref this), (1, .int v1)] [] := by
  unfold fX7_takesE at h
  refine j_aload_n (pc := 0) (k0 := 0) F 0 rfl dX7_takesE_0 ?_
  refine j_iconst (pc := 1) F 0 dX7_takesE_1 (by decide) ?_
  obtain ⟨i1, hi1, h⟩ := ob h
  refine j_putI (pc := 2) F flX7_77 fp7_22 (fun z => by cases z) hi1 dX7_takesE_2 ?_
  refine j_aload_n (pc := 5) (k0 := 0) F 0 rfl dX7_takesE_5 ?_
  refine j_iconst (pc := 6) F 0 dX7_takesE_6 (by decide) ?_
  obtain ⟨i2, hi2, h⟩ := ob h
  refine j_putI (pc := 7) F flX7_80 fp7_23 (fun z => by cases z) hi2 dX7_takesE_7 ?_
  refine j_aload_n (pc := 10) (k0 := 0) F 0 rfl dX7_takesE_10 ?_
  obtain ⟨x3, hx3, h⟩ := ob h
  refine j_getR (pc := 11) F flX7_62 hx3 dX7_takesE_11 ?_
  refine j_iload_n (pc := 14) (k0 := 1) F 1 rfl dX7_takesE_14 ?_
  refine j_aload_n (pc := 15) (k0 := 0) F 0 rfl dX7_takesE_15 ?_
  obtain ⟨x4, hx4, h⟩ := ob h
  refine j_getI (pc := 16) F flX7_74 hx4 dX7_takesE_16 ?_
  obtain ⟨i5, hi5, h⟩ := ob h
  refine j_iast (pc := 19) F hi5 dX7_takesE_19 ?_
  refine j_iconst (pc := 20) F 1 dX7_takesE_20 (by decide) ?_
  refine j_istore_n (pc := 21) (k1 := 2) (ls' := [(2, .int 1), (0, .ref this), (1, .int v1)]) F rfl rfl rfl dX7_takesE_21 ?_
  refine j_sub [1, 2, 0] rfl ?_
  exact jbX7_takesE_22 G F hth 1000 _ _ _ h
theorem ctX7_takesE (G : GT) {sh : SH} {I : IH} {L : LH} {n : Nat} {this : Nat} {v1 : Int32} {r : Int32} {I' : IH}  (hth : isO sh 7 this) (h : fX7_takesE sh this v1 I = some (r, I')) : Ct G yX7_takesE cX7_takesE 4 (some .boolean) 4 [.ref this, .int v1] sh I L n (some (.int r)) sh I' L n 0 0 := by
  refine ct_of (y := yX7_takesE) (by decide +kernel) rfl (fun X F => ?_)
  exact jbX7_takesE_0 G F hth h
theorem dX7_takesHead_0 : decode cX7_takesHead 0 = .ok (.aload_n 0, 1) := by decide +kernel
theorem dX7_takesHead_1 : decode cX7_takesHead 1 = .ok (.invokevirtual 251, 3) := by decide +kernel
theorem dX7_takesHead_4 : decode cX7_takesHead 4 = .ok (.istore_n 2, 1) := by decide +kernel
theorem dX7_takesHead_5 : decode cX7_takesHead 5 = .ok (.aload_n 0, 1) := by decide +kernel
theorem dX7_takesHead_6 : decode cX7_takesHead 6 = .ok (.invokevirtual 224, 3) := by decide +kernel
theorem dX7_takesHead_9 : decode cX7_takesHead 9 = .ok (.lookupswitch 112 #[(108, 69), (109, 27)], 27) := by decide +kernel
theorem dX7_takesHead_36 : decode cX7_takesHead 36 = .ok (.aload_n 0, 1) := by decide +kernel
theorem dX7_takesHead_37 : decode cX7_takesHead 37 = .ok (.getfield 53, 3) := by decide +kernel
theorem dX7_takesHead_40 : decode cX7_takesHead 40 = .ok (.iload_n 1, 1) := by decide +kernel
theorem dX7_takesHead_41 : decode cX7_takesHead 41 = .ok (.iload_n 2, 1) := by decide +kernel
theorem dX7_takesHead_42 : decode cX7_takesHead 42 = .ok (.bipush 111, 2) := by decide +kernel
theorem dX7_takesHead_44 : decode cX7_takesHead 44 = .ok (.if_icmp .ne 7, 3) := by decide +kernel
theorem dX7_takesHead_47 : decode cX7_takesHead 47 = .ok (.iconst 3, 1) := by decide +kernel
theorem dX7_takesHead_48 : decode cX7_takesHead 48 = .ok (.goto 4, 3) := by decide +kernel
theorem dX7_takesHead_51 : decode cX7_takesHead 51 = .ok (.iconst 0, 1) := by decide +kernel
theorem dX7_takesHead_52 : decode cX7_takesHead 52 = .ok (.iastore, 1) := by decide +kernel
theorem dX7_takesHead_53 : decode cX7_takesHead 53 = .ok (.iload_n 2, 1) := by decide +kernel
theorem dX7_takesHead_54 : decode cX7_takesHead 54 = .ok (.bipush 111, 2) := by decide +kernel
theorem dX7_takesHead_56 : decode cX7_takesHead 56 = .ok (.if_icmp .ne 13, 3) := by decide +kernel
theorem dX7_takesHead_59 : decode cX7_takesHead 59 = .ok (.aload_n 0, 1) := by decide +kernel
theorem dX7_takesHead_60 : decode cX7_takesHead 60 = .ok (.ldc 254, 2) := by decide +kernel
theorem dX7_takesHead_62 : decode cX7_takesHead 62 = .ok (.iconst 4, 1) := by decide +kernel
theorem dX7_takesHead_63 : decode cX7_takesHead 63 = .ok (.invokevirtual 255, 3) := by decide +kernel
theorem dX7_takesHead_66 : decode cX7_takesHead 66 = .ok (.goto 11, 3) := by decide +kernel
theorem dX7_takesHead_69 : decode cX7_takesHead 69 = .ok (.aload_n 0, 1) := by decide +kernel
theorem dX7_takesHead_70 : decode cX7_takesHead 70 = .ok (.ldc_w 259, 3) := by decide +kernel
theorem dX7_takesHead_73 : decode cX7_takesHead 73 = .ok (.iconst 4, 1) := by decide +kernel
theorem dX7_takesHead_74 : decode cX7_takesHead 74 = .ok (.invokevirtual 255, 3) := by decide +kernel
theorem dX7_takesHead_77 : decode cX7_takesHead 77 = .ok (.ireturn, 1) := by decide +kernel
theorem dX7_takesHead_78 : decode cX7_takesHead 78 = .ok (.aload_n 0, 1) := by decide +kernel
theorem dX7_takesHead_79 : decode cX7_takesHead 79 = .ok (.getfield 53, 3) := by decide +kernel
theorem dX7_takesHead_82 : decode cX7_takesHead 82 = .ok (.iload_n 1, 1) := by decide +kernel
theorem dX7_takesHead_83 : decode cX7_takesHead 83 = .ok (.iload_n 2, 1) := by decide +kernel
theorem dX7_takesHead_84 : decode cX7_takesHead 84 = .ok (.bipush 97, 2) := by decide +kernel
theorem dX7_takesHead_86 : decode cX7_takesHead 86 = .ok (.if_icmp .ne 7, 3) := by decide +kernel
theorem dX7_takesHead_89 : decode cX7_takesHead 89 = .ok (.iconst 1, 1) := by decide +kernel
theorem dX7_takesHead_90 : decode cX7_takesHead 90 = .ok (.goto 4, 3) := by decide +kernel
theorem dX7_takesHead_93 : decode cX7_takesHead 93 = .ok (.iconst 2, 1) := by decide +kernel
theorem dX7_takesHead_94 : decode cX7_takesHead 94 = .ok (.iastore, 1) := by decide +kernel
theorem dX7_takesHead_95 : decode cX7_takesHead 95 = .ok (.iload_n 2, 1) := by decide +kernel
theorem dX7_takesHead_96 : decode cX7_takesHead 96 = .ok (.bipush 97, 2) := by decide +kernel
theorem dX7_takesHead_98 : decode cX7_takesHead 98 = .ok (.if_icmp .ne 14, 3) := by decide +kernel
theorem dX7_takesHead_101 : decode cX7_takesHead 101 = .ok (.aload_n 0, 1) := by decide +kernel
theorem dX7_takesHead_102 : decode cX7_takesHead 102 = .ok (.sipush 12327, 3) := by decide +kernel
theorem dX7_takesHead_105 : decode cX7_takesHead 105 = .ok (.iconst 3, 1) := by decide +kernel
theorem dX7_takesHead_106 : decode cX7_takesHead 106 = .ok (.invokevirtual 255, 3) := by decide +kernel
theorem dX7_takesHead_109 : decode cX7_takesHead 109 = .ok (.goto 11, 3) := by decide +kernel
theorem dX7_takesHead_112 : decode cX7_takesHead 112 = .ok (.aload_n 0, 1) := by decide +kernel
theorem dX7_takesHead_113 : decode cX7_takesHead 113 = .ok (.ldc_w 260, 3) := by decide +kernel
theorem dX7_takesHead_116 : decode cX7_takesHead 116 = .ok (.iconst 4, 1) := by decide +kernel
theorem dX7_takesHead_117 : decode cX7_takesHead 117 = .ok (.invokevirtual 255, 3) := by decide +kernel
theorem dX7_takesHead_120 : decode cX7_takesHead 120 = .ok (.ireturn, 1) := by decide +kernel
theorem dX7_takesHead_121 : decode cX7_takesHead 121 = .ok (.aload_n 0, 1) := by decide +kernel
theorem dX7_takesHead_122 : decode cX7_takesHead 122 = .ok (.getfield 53, 3) := by decide +kernel
theorem dX7_takesHead_125 : decode cX7_takesHead 125 = .ok (.iload_n 1, 1) := by decide +kernel
theorem dX7_takesHead_126 : decode cX7_takesHead 126 = .ok (.iconst 4, 1) := by decide +kernel
theorem dX7_takesHead_127 : decode cX7_takesHead 127 = .ok (.iastore, 1) := by decide +kernel
theorem dX7_takesHead_128 : decode cX7_takesHead 128 = .ok (.aload_n 0, 1) := by decide +kernel
theorem dX7_takesHead_129 : decode cX7_takesHead 129 = .ok (.ldc_w 261, 3) := by decide +kernel
theorem dX7_takesHead_132 : decode cX7_takesHead 132 = .ok (.iconst 4, 1) := by decide +kernel
theorem dX7_takesHead_133 : decode cX7_takesHead 133 = .ok (.invokevirtual 255, 3) := by decide +kernel
theorem dX7_takesHead_136 : decode cX7_takesHead 136 = .ok (.ireturn, 1) := by decide +kernel
def fX7_takesHead_b52 (sh : SH) (this : Nat) (v2 : Int32) (s0 : Nat) (s1 : Int32) (s2 : Int32) (I : IH) : Option (Int32 × IH) :=
  (sI sh I s0 s1 s2).bind fun i1 =>
  if v2 = 111 then (
    b2 (fX7_takesWord sh this 441972 4 i1) fun x5 i6 =>
    (bz x5).bind fun x7 =>
    some (x7, i6)) else
  b2 (fX7_takesWord sh this 431508 4 i1) fun x2 i3 =>
  (bz x2).bind fun x4 =>
  some (x4, i3)
def fX7_takesHead_b94 (sh : SH) (this : Nat) (v2 : Int32) (s0 : Nat) (s1 : Int32) (s2 : Int32) (I : IH) : Option (Int32 × IH) :=
  (sI sh I s0 s1 s2).bind fun i1 =>
  if v2 = 97 then (
    b2 (fX7_takesWord sh this 12327 3 i1) fun x5 i6 =>
    (bz x5).bind fun x7 =>
    some (x7, i6)) else
  b2 (fX7_takesWord sh this 398379 4 i1) fun x2 i3 =>
  (bz x2).bind fun x4 =>
  some (x4, i3)
def fX7_takesHead (sh : SH) (this : Nat) (v1 : Int32) (I : IH) : Option (Int32 × IH) :=
  (fX7_second sh I this).bind fun x1 =>
  (fX7_next sh I this).bind fun x2 =>
  if x2 = 108 then (
    (gR sh 7 this 14).bind fun x3 =>
    if x1 = 97 then (
      fX7_takesHead_b94 sh this x1 x3 v1 1 I) else
    fX7_takesHead_b94 sh this x1 x3 v1 2 I) else
  if x2 = 109 then (
    (gR sh 7 this 14).bind fun x4 =>
    if x1 = 111 then (
      fX7_takesHead_b52 sh this x1 x4 v1 3 I) else
    fX7_takesHead_b52 sh this x1 x4 v1 0 I) else
  (gR sh 7 this 14).bind fun x5 =>
  (sI sh I x5 v1 4).bind fun i6 =>
  b2 (fX7_takesWord sh this 540100 4 i6) fun x7 i8 =>
  (bz x7).bind fun x9 =>
  some (x9, i8)
set_option maxHeartbeats 4000000 in
set_option maxRecDepth 20000 in
theorem jbX7_takesHead_52 (G : GT) {X : XT} {sh : SH} {L : LH} {n : Nat} {r : Int32} {I' : IH}  {this : Nat}  {v2 : Int32} {s0 : Nat} {s1 : Int32} {s2 : Int32} {I : IH} (F : MF G X RX7 cX7_takesHead 3 3 (some .boolean) "takesHead") (hth : isO sh 7 this) (h : fX7_takesHead_b52 sh this v2 s0 s1 s2 I = some (r, I')) : J G X (QE G X (some (.int r)) sh I' L n) 3 sh I L n 0 0 52 [(0, .ref this), (2, .int v2)] [.int s2, .int s1, .ref s0] := by
  unfold fX7_takesHead_b52 at h
  obtain ⟨i1, hi1, h⟩ := ob h
  refine j_iast (pc := 52) F hi1 dX7_takesHead_52 ?_
  refine j_iload_n (pc := 53) (k0 := 2) F 1 rfl dX7_takesHead_53 ?_
  refine j_bipush (pc := 54) F 111 dX7_takesHead_54 (by decide) ?_
  refine j_icmp_ne (pc := 56) F 69 dX7_takesHead_56 rfl (fun c => ?_) (fun c => ?_)
  · have h := iz_f c h
    refine j_aload_n (pc := 69) (k0 := 0) F 0 rfl dX7_takesHead_69 ?_
    refine j_ldcw (pc := 70) (v := 431508) F (good_of 1017 (by decide +kernel) (by decide +kernel)) dX7_takesHead_70 ?_
    refine j_iconst (pc := 73) F 4 dX7_takesHead_73 (by decide) ?_
    obtain ⟨x2, i3, hx2, h⟩ := b2_obt h
    refine j_callV1 (pc := 74) (ci := 7) (As := [.int 431508, .int 4]) (st := []) (e1 := 0) (es1 := 0) F clX7_255 cwX7_takesWord rfl hth (ctX7_takesWord G hth hx2) rfl rfl rfl rfl rfl rfl dX7_takesHead_74 ?_
    obtain ⟨x4, hx4, h⟩ := ob h
    obtain ⟨hzz, hz⟩ := bz_obt hx4
    rw [← hzz] at hz ⊢
    have g1 := Option.some.inj h
    obtain ⟨q3, g2⟩ := Prod.mk.inj g1
    subst q3
    subst g2
    exact j_zret (pc := 77) F (hz) dX7_takesHead_77
  · have h := iz_t c h
    refine j_aload_n (pc := 59) (k0 := 0) F 0 rfl dX7_takesHead_59 ?_
    refine j_ldc (pc := 60) (v := 441972) F (good_of 1008 (by decide +kernel) (by decide +kernel)) dX7_takesHead_60 ?_
    refine j_iconst (pc := 62) F 4 dX7_takesHead_62 (by decide) ?_
    obtain ⟨x5, i6, hx5, h⟩ := b2_obt h
    refine j_callV1 (pc := 63) (ci := 7) (As := [.int 441972, .int 4]) (st := []) (e1 := 0) (es1 := 0) F clX7_255 cwX7_takesWord rfl hth (ctX7_takesWord G hth hx5) rfl rfl rfl rfl rfl rfl dX7_takesHead_63 ?_
    refine j_goto (pc := 66) F 77 dX7_takesHead_66 rfl ?_
    obtain ⟨x7, hx7, h⟩ := ob h
    obtain ⟨hzz, hz⟩ := bz_obt hx7
    rw [← hzz] at hz ⊢
    have g1 := Option.some.inj h
    obtain ⟨q3, g2⟩ := Prod.mk.inj g1
    subst q3
    subst g2
    exact j_zret (pc := 77) F (hz) dX7_takesHead_77
set_option maxHeartbeats 4000000 in
set_option maxRecDepth 20000 in
theorem jbX7_takesHead_94 (G : GT) {X : XT} {sh : SH} {L : LH} {n : Nat} {r : Int32} {I' : IH}  {this : Nat}  {v2 : Int32} {s0 : Nat} {s1 : Int32} {s2 : Int32} {I : IH} (F : MF G X RX7 cX7_takesHead 3 3 (some .boolean) "takesHead") (hth : isO sh 7 this) (h : fX7_takesHead_b94 sh this v2 s0 s1 s2 I = some (r, I')) : J G X (QE G X (some (.int r)) sh I' L n) 3 sh I L n 0 0 94 [(0, .ref this), (2, .int v2)] [.int s2, .int s1, .ref s0] := by
  unfold fX7_takesHead_b94 at h
  obtain ⟨i1, hi1, h⟩ := ob h
  refine j_iast (pc := 94) F hi1 dX7_takesHead_94 ?_
  refine j_iload_n (pc := 95) (k0 := 2) F 1 rfl dX7_takesHead_95 ?_
  refine j_bipush (pc := 96) F 97 dX7_takesHead_96 (by decide) ?_
  refine j_icmp_ne (pc := 98) F 112 dX7_takesHead_98 rfl (fun c => ?_) (fun c => ?_)
  · have h := iz_f c h
    refine j_aload_n (pc := 112) (k0 := 0) F 0 rfl dX7_takesHead_112 ?_
    refine j_ldcw (pc := 113) (v := 398379) F (good_of 1018 (by decide +kernel) (by decide +kernel)) dX7_takesHead_113 ?_
    refine j_iconst (pc := 116) F 4 dX7_takesHead_116 (by decide) ?_
    obtain ⟨x2, i3, hx2, h⟩ := b2_obt h
    refine j_callV1 (pc := 117) (ci := 7) (As := [.int 398379, .int 4]) (st := []) (e1 := 0) (es1 := 0) F clX7_255 cwX7_takesWord rfl hth (ctX7_takesWord G hth hx2) rfl rfl rfl rfl rfl rfl dX7_takesHead_117 ?_
    obtain ⟨x4, hx4, h⟩ := ob h
    obtain ⟨hzz, hz⟩ := bz_obt hx4
    rw [← hzz] at hz ⊢
    have g1 := Option.some.inj h
    obtain ⟨q3, g2⟩ := Prod.mk.inj g1
    subst q3
    subst g2
    exact j_zret (pc := 120) F (hz) dX7_takesHead_120
  · have h := iz_t c h
    refine j_aload_n (pc := 101) (k0 := 0) F 0 rfl dX7_takesHead_101 ?_
    refine j_sipush (pc := 102) F 12327 dX7_takesHead_102 (by decide) ?_
    refine j_iconst (pc := 105) F 3 dX7_takesHead_105 (by decide) ?_
    obtain ⟨x5, i6, hx5, h⟩ := b2_obt h
    refine j_callV1 (pc := 106) (ci := 7) (As := [.int 12327, .int 3]) (st := []) (e1 := 0) (es1 := 0) F clX7_255 cwX7_takesWord rfl hth (ctX7_takesWord G hth hx5) rfl rfl rfl rfl rfl rfl dX7_takesHead_106 ?_
    refine j_goto (pc := 109) F 120 dX7_takesHead_109 rfl ?_
    obtain ⟨x7, hx7, h⟩ := ob h
    obtain ⟨hzz, hz⟩ := bz_obt hx7
    rw [← hzz] at hz ⊢
    have g1 := Option.some.inj h
    obtain ⟨q3, g2⟩ := Prod.mk.inj g1
    subst q3
    subst g2
    exact j_zret (pc := 120) F (hz) dX7_takesHead_120
set_option maxHeartbeats 4000000 in
set_option maxRecDepth 20000 in
theorem jbX7_takesHead_0 (G : GT) {X : XT} {sh : SH} {L : LH} {n : Nat} {r : Int32} {I' : IH}  {this : Nat}  {v1 : Int32} {I : IH} (F : MF G X RX7 cX7_takesHead 3 3 (some .boolean) "takesHead") (hth : isO sh 7 this) (h : fX7_takesHead sh this v1 I = some (r, I')) : J G X (QE G X (some (.int r)) sh I' L n) 3 sh I L n 0 0 0 [(0, .ref this), (1, .int v1)] [] := by
  unfold fX7_takesHead at h
  refine j_aload_n (pc := 0) (k0 := 0) F 0 rfl dX7_takesHead_0 ?_
  obtain ⟨x1, hx1, h⟩ := ob h
  refine j_callV1 (pc := 1) (ci := 7) (As := []) (st := []) (e1 := 0) (es1 := 0) F clX7_251 cwX7_second rfl hth (ctX7_second G hx1) rfl rfl rfl rfl rfl rfl dX7_takesHead_1 ?_
  refine j_istore_n (pc := 4) (k1 := 2) (ls' := [(2, .int x1), (0, .ref this), (1, .int v1)]) F rfl rfl rfl dX7_takesHead_4 ?_
  refine j_aload_n (pc := 5) (k0 := 0) F 1 rfl dX7_takesHead_5 ?_
  obtain ⟨x2, hx2, h⟩ := ob h
  refine j_callV1 (pc := 6) (ci := 7) (As := []) (st := []) (e1 := 0) (es1 := 0) F clX7_224 cwX7_next rfl hth (ctX7_next G hx2) rfl rfl rfl rfl rfl rfl dX7_takesHead_6 ?_
  by_cases c1 : x2 = 108
  · have h := iz_t c1 h
    refine j_look (pc := 9) F 78 dX7_takesHead_9 rfl (by first | (rw [c1]; done) | (rw [c1]; rfl)) rfl ?_
    refine j_aload_n (pc := 78) (k0 := 0) F 1 rfl dX7_takesHead_78 ?_
    obtain ⟨x3, hx3, h⟩ := ob h
    refine j_getR (pc := 79) F flX7_53 hx3 dX7_takesHead_79 ?_
    refine j_iload_n (pc := 82) (k0 := 1) F 2 rfl dX7_takesHead_82 ?_
    refine j_iload_n (pc := 83) (k0 := 2) F 0 rfl dX7_takesHead_83 ?_
    refine j_bipush (pc := 84) F 97 dX7_takesHead_84 (by decide) ?_
    refine j_icmp_ne (pc := 86) F 93 dX7_takesHead_86 rfl (fun c => ?_) (fun c => ?_)
    · have h := iz_f c h
      refine j_iconst (pc := 93) F 2 dX7_takesHead_93 (by decide) ?_
      refine j_sub [1, 0] rfl ?_
      exact jbX7_takesHead_94 G F hth h
    · have h := iz_t c h
      refine j_iconst (pc := 89) F 1 dX7_takesHead_89 (by decide) ?_
      refine j_goto (pc := 90) F 94 dX7_takesHead_90 rfl ?_
      refine j_sub [1, 0] rfl ?_
      exact jbX7_takesHead_94 G F hth h
  have h := iz_f c1 h
  by_cases c2 : x2 = 109
  · have h := iz_t c2 h
    refine j_look (pc := 9) F 36 dX7_takesHead_9 rfl ((lv_osw c1 rfl).trans (by first | (rw [c2]; done) | (rw [c2]; rfl))) rfl ?_
    refine j_aload_n (pc := 36) (k0 := 0) F 1 rfl dX7_takesHead_36 ?_
    obtain ⟨x4, hx4, h⟩ := ob h
    refine j_getR (pc := 37) F flX7_53 hx4 dX7_takesHead_37 ?_
    refine j_iload_n (pc := 40) (k0 := 1) F 2 rfl dX7_takesHead_40 ?_
    refine j_iload_n (pc := 41) (k0 := 2) F 0 rfl dX7_takesHead_41 ?_
    refine j_bipush (pc := 42) F 111 dX7_takesHead_42 (by decide) ?_
    refine j_icmp_ne (pc := 44) F 51 dX7_takesHead_44 rfl (fun c => ?_) (fun c => ?_)
    · have h := iz_f c h
      refine j_iconst (pc := 51) F 0 dX7_takesHead_51 (by decide) ?_
      refine j_sub [1, 0] rfl ?_
      exact jbX7_takesHead_52 G F hth h
    · have h := iz_t c h
      refine j_iconst (pc := 47) F 3 dX7_takesHead_47 (by decide) ?_
      refine j_goto (pc := 48) F 52 dX7_takesHead_48 rfl ?_
      refine j_sub [1, 0] rfl ?_
      exact jbX7_takesHead_52 G F hth h
  have h := iz_f c2 h
  refine j_look (pc := 9) F 121 dX7_takesHead_9 rfl ((lv_osw c1 rfl).trans ((lv_osw c2 rfl).trans (rfl))) rfl ?_
  refine j_aload_n (pc := 121) (k0 := 0) F 1 rfl dX7_takesHead_121 ?_
  obtain ⟨x5, hx5, h⟩ := ob h
  refine j_getR (pc := 122) F flX7_53 hx5 dX7_takesHead_122 ?_
  refine j_iload_n (pc := 125) (k0 := 1) F 2 rfl dX7_takesHead_125 ?_
  refine j_iconst (pc := 126) F 4 dX7_takesHead_126 (by decide) ?_
  obtain ⟨i6, hi6, h⟩ := ob h
  refine j_iast (pc := 127) F hi6 dX7_takesHead_127 ?_
  refine j_aload_n (pc := 128) (k0 := 0) F 1 rfl dX7_takesHead_128 ?_
  refine j_ldcw (pc := 129) (v := 540100) F (good_of 1019 (by decide +kernel) (by decide +kernel)) dX7_takesHead_129 ?_
  refine j_iconst (pc := 132) F 4 dX7_takesHead_132 (by decide) ?_
  obtain ⟨x7, i8, hx7, h⟩ := b2_obt h
  refine j_callV1 (pc := 133) (ci := 7) (As := [.int 540100, .int 4]) (st := []) (e1 := 0) (es1 := 0) F clX7_255 cwX7_takesWord rfl hth (ctX7_takesWord G hth hx7) rfl rfl rfl rfl rfl rfl dX7_takesHead_133 ?_
  obtain ⟨x9, hx9, h⟩ := ob h
  obtain ⟨hzz, hz⟩ := bz_obt hx9
  rw [← hzz] at hz ⊢
  have g1 := Option.some.inj h
  obtain ⟨q3, g2⟩ := Prod.mk.inj g1
  subst q3
  subst g2
  exact j_zret (pc := 136) F (hz) dX7_takesHead_136
theorem ctX7_takesHead (G : GT) {sh : SH} {I : IH} {L : LH} {n : Nat} {this : Nat} {v1 : Int32} {r : Int32} {I' : IH}  (hth : isO sh 7 this) (h : fX7_takesHead sh this v1 I = some (r, I')) : Ct G yX7_takesHead cX7_takesHead 3 (some .boolean) 3 [.ref this, .int v1] sh I L n (some (.int r)) sh I' L n 0 0 := by
  refine ct_of (y := yX7_takesHead) (by decide +kernel) rfl (fun X F => ?_)
  exact jbX7_takesHead_0 G F hth h
theorem dX7_takesClause_0 : decode cX7_takesClause 0 = .ok (.aload_n 0, 1) := by decide +kernel
theorem dX7_takesClause_1 : decode cX7_takesClause 1 = .ok (.iload_n 1, 1) := by decide +kernel
theorem dX7_takesClause_2 : decode cX7_takesClause 2 = .ok (.invokevirtual 262, 3) := by decide +kernel
theorem dX7_takesClause_5 : decode cX7_takesClause 5 = .ok (.ifCond .ne 5, 3) := by decide +kernel
theorem dX7_takesClause_8 : decode cX7_takesClause 8 = .ok (.iconst 0, 1) := by decide +kernel
theorem dX7_takesClause_9 : decode cX7_takesClause 9 = .ok (.ireturn, 1) := by decide +kernel
theorem dX7_takesClause_10 : decode cX7_takesClause 10 = .ok (.aload_n 0, 1) := by decide +kernel
theorem dX7_takesClause_11 : decode cX7_takesClause 11 = .ok (.getfield 53, 3) := by decide +kernel
theorem dX7_takesClause_14 : decode cX7_takesClause 14 = .ok (.iload_n 1, 1) := by decide +kernel
theorem dX7_takesClause_15 : decode cX7_takesClause 15 = .ok (.iaload, 1) := by decide +kernel
theorem dX7_takesClause_16 : decode cX7_takesClause 16 = .ok (.ifCond .eq 54, 3) := by decide +kernel
theorem dX7_takesClause_19 : decode cX7_takesClause 19 = .ok (.aload_n 0, 1) := by decide +kernel
theorem dX7_takesClause_20 : decode cX7_takesClause 20 = .ok (.aload_n 0, 1) := by decide +kernel
theorem dX7_takesClause_21 : decode cX7_takesClause 21 = .ok (.invokevirtual 224, 3) := by decide +kernel
theorem dX7_takesClause_24 : decode cX7_takesClause 24 = .ok (.bipush 48, 2) := by decide +kernel
theorem dX7_takesClause_26 : decode cX7_takesClause 26 = .ok (.bipush 52, 2) := by decide +kernel
theorem dX7_takesClause_28 : decode cX7_takesClause 28 = .ok (.invokevirtual 215, 3) := by decide +kernel
theorem dX7_takesClause_31 : decode cX7_takesClause 31 = .ok (.ifCond .ne 5, 3) := by decide +kernel
theorem dX7_takesClause_34 : decode cX7_takesClause 34 = .ok (.iconst 0, 1) := by decide +kernel
theorem dX7_takesClause_35 : decode cX7_takesClause 35 = .ok (.ireturn, 1) := by decide +kernel
theorem dX7_takesClause_36 : decode cX7_takesClause 36 = .ok (.aload_n 0, 1) := by decide +kernel
theorem dX7_takesClause_37 : decode cX7_takesClause 37 = .ok (.getfield 56, 3) := by decide +kernel
theorem dX7_takesClause_40 : decode cX7_takesClause 40 = .ok (.iload_n 1, 1) := by decide +kernel
theorem dX7_takesClause_41 : decode cX7_takesClause 41 = .ok (.aload_n 0, 1) := by decide +kernel
theorem dX7_takesClause_42 : decode cX7_takesClause 42 = .ok (.invokevirtual 224, 3) := by decide +kernel
theorem dX7_takesClause_45 : decode cX7_takesClause 45 = .ok (.bipush 48, 2) := by decide +kernel
theorem dX7_takesClause_47 : decode cX7_takesClause 47 = .ok (.isub, 1) := by decide +kernel
theorem dX7_takesClause_48 : decode cX7_takesClause 48 = .ok (.iastore, 1) := by decide +kernel
theorem dX7_takesClause_49 : decode cX7_takesClause 49 = .ok (.aload_n 0, 1) := by decide +kernel
theorem dX7_takesClause_50 : decode cX7_takesClause 50 = .ok (.dup, 1) := by decide +kernel
theorem dX7_takesClause_51 : decode cX7_takesClause 51 = .ok (.getfield 41, 3) := by decide +kernel
theorem dX7_takesClause_54 : decode cX7_takesClause 54 = .ok (.iconst 1, 1) := by decide +kernel
theorem dX7_takesClause_55 : decode cX7_takesClause 55 = .ok (.iadd, 1) := by decide +kernel
theorem dX7_takesClause_56 : decode cX7_takesClause 56 = .ok (.putfield 41, 3) := by decide +kernel
theorem dX7_takesClause_59 : decode cX7_takesClause 59 = .ok (.aload_n 0, 1) := by decide +kernel
theorem dX7_takesClause_60 : decode cX7_takesClause 60 = .ok (.bipush 32, 2) := by decide +kernel
theorem dX7_takesClause_62 : decode cX7_takesClause 62 = .ok (.invokevirtual 228, 3) := by decide +kernel
theorem dX7_takesClause_65 : decode cX7_takesClause 65 = .ok (.ifCond .ne 5, 3) := by decide +kernel
theorem dX7_takesClause_68 : decode cX7_takesClause 68 = .ok (.iconst 0, 1) := by decide +kernel
theorem dX7_takesClause_69 : decode cX7_takesClause 69 = .ok (.ireturn, 1) := by decide +kernel
theorem dX7_takesClause_70 : decode cX7_takesClause 70 = .ok (.aload_n 0, 1) := by decide +kernel
theorem dX7_takesClause_71 : decode cX7_takesClause 71 = .ok (.invokevirtual 239, 3) := by decide +kernel
theorem dX7_takesClause_74 : decode cX7_takesClause 74 = .ok (.ifCond .ne 5, 3) := by decide +kernel
theorem dX7_takesClause_77 : decode cX7_takesClause 77 = .ok (.iconst 0, 1) := by decide +kernel
theorem dX7_takesClause_78 : decode cX7_takesClause 78 = .ok (.ireturn, 1) := by decide +kernel
theorem dX7_takesClause_79 : decode cX7_takesClause 79 = .ok (.aload_n 0, 1) := by decide +kernel
theorem dX7_takesClause_80 : decode cX7_takesClause 80 = .ok (.getfield 59, 3) := by decide +kernel
theorem dX7_takesClause_83 : decode cX7_takesClause 83 = .ok (.iload_n 1, 1) := by decide +kernel
theorem dX7_takesClause_84 : decode cX7_takesClause 84 = .ok (.aload_n 0, 1) := by decide +kernel
theorem dX7_takesClause_85 : decode cX7_takesClause 85 = .ok (.getfield 44, 3) := by decide +kernel
theorem dX7_takesClause_88 : decode cX7_takesClause 88 = .ok (.iastore, 1) := by decide +kernel
theorem dX7_takesClause_89 : decode cX7_takesClause 89 = .ok (.aload_n 0, 1) := by decide +kernel
theorem dX7_takesClause_90 : decode cX7_takesClause 90 = .ok (.getfield 53, 3) := by decide +kernel
theorem dX7_takesClause_93 : decode cX7_takesClause 93 = .ok (.iload_n 1, 1) := by decide +kernel
theorem dX7_takesClause_94 : decode cX7_takesClause 94 = .ok (.iaload, 1) := by decide +kernel
theorem dX7_takesClause_95 : decode cX7_takesClause 95 = .ok (.ifCond .ne 20, 3) := by decide +kernel
theorem dX7_takesClause_98 : decode cX7_takesClause 98 = .ok (.aload_n 0, 1) := by decide +kernel
theorem dX7_takesClause_99 : decode cX7_takesClause 99 = .ok (.bipush 32, 2) := by decide +kernel
theorem dX7_takesClause_101 : decode cX7_takesClause 101 = .ok (.invokevirtual 228, 3) := by decide +kernel
theorem dX7_takesClause_104 : decode cX7_takesClause 104 = .ok (.ifCond .eq 15, 3) := by decide +kernel
theorem dX7_takesClause_107 : decode cX7_takesClause 107 = .ok (.aload_n 0, 1) := by decide +kernel
theorem dX7_takesClause_108 : decode cX7_takesClause 108 = .ok (.iload_n 1, 1) := by decide +kernel
theorem dX7_takesClause_109 : decode cX7_takesClause 109 = .ok (.invokevirtual 265, 3) := by decide +kernel
theorem dX7_takesClause_112 : decode cX7_takesClause 112 = .ok (.ifCond .eq 7, 3) := by decide +kernel
theorem dX7_takesClause_115 : decode cX7_takesClause 115 = .ok (.iconst 1, 1) := by decide +kernel
theorem dX7_takesClause_116 : decode cX7_takesClause 116 = .ok (.goto 4, 3) := by decide +kernel
theorem dX7_takesClause_119 : decode cX7_takesClause 119 = .ok (.iconst 0, 1) := by decide +kernel
theorem dX7_takesClause_120 : decode cX7_takesClause 120 = .ok (.ireturn, 1) := by decide +kernel
def fX7_takesClause_b70 (sh : SH) (this : Nat) (v1 : Int32) (I : IH) : Option (Int32 × IH) :=
  b2 (fX7_takesNumber sh this I) fun x1 i2 =>
  if x1 = 0 then (
    some (0, i2)) else
  (gR sh 7 this 16).bind fun x3 =>
  (gI sh i2 7 this 11).bind fun x4 =>
  (sI sh i2 x3 v1 x4).bind fun i5 =>
  (gR sh 7 this 14).bind fun x6 =>
  (aI sh i5 0 x6 v1).bind fun x7 =>
  if x7 = 0 then (
    b2 (fX7_takesSign sh this 32 i5) fun x8 i9 =>
    if x8 = 0 then (
      some (0, i9)) else
    b2 (fX7_takesE sh this v1 i9) fun x10 i11 =>
    if x10 = 0 then (
      some (0, i11)) else
    some (1, i11)) else
  some (1, i5)
def fX7_takesClause (sh : SH) (this : Nat) (v1 : Int32) (I : IH) : Option (Int32 × IH) :=
  b2 (fX7_takesHead sh this v1 I) fun x1 i2 =>
  if x1 = 0 then (
    some (0, i2)) else
  (gR sh 7 this 14).bind fun x3 =>
  (aI sh i2 0 x3 v1).bind fun x4 =>
  if x4 = 0 then (
    fX7_takesClause_b70 sh this v1 i2) else
  (fX7_next sh i2 this).bind fun x5 =>
  if (fX7_in x5 48 52) = 0 then (
    some (0, i2)) else
  (gR sh 7 this 15).bind fun x6 =>
  (fX7_next sh i2 this).bind fun x7 =>
  (sI sh i2 x6 v1 (x7 - 48)).bind fun i8 =>
  (gI sh i8 7 this 10).bind fun x9 =>
  (pI sh i8 7 this 10 (x9 + 1)).bind fun i10 =>
  b2 (fX7_takesSign sh this 32 i10) fun x11 i12 =>
  if x11 = 0 then (
    some (0, i12)) else
  fX7_takesClause_b70 sh this v1 i12
set_option maxHeartbeats 4000000 in
set_option maxRecDepth 20000 in
theorem jbX7_takesClause_70 (G : GT) {X : XT} {sh : SH} {L : LH} {n : Nat} {r : Int32} {I' : IH}  {this : Nat}  {v1 : Int32} {I : IH} (F : MF G X RX7 cX7_takesClause 2 5 (some .boolean) "takesClause") (hth : isO sh 7 this) (h : fX7_takesClause_b70 sh this v1 I = some (r, I')) : J G X (QE G X (some (.int r)) sh I' L n) 2 sh I L n 0 0 70 [(0, .ref this), (1, .int v1)] [] := by
  unfold fX7_takesClause_b70 at h
  refine j_aload_n (pc := 70) (k0 := 0) F 0 rfl dX7_takesClause_70 ?_
  obtain ⟨x1, i2, hx1, h⟩ := b2_obt h
  refine j_callV1 (pc := 71) (ci := 7) (As := []) (st := []) (e1 := 0) (es1 := 0) F clX7_239 cwX7_takesNumber rfl hth (ctX7_takesNumber G hth hx1) rfl rfl rfl rfl rfl rfl dX7_takesClause_71 ?_
  refine j_if_ne (pc := 74) F 79 dX7_takesClause_74 rfl (fun c => ?_) (fun c => ?_)
  · have h := iz_f c h
    refine j_aload_n (pc := 79) (k0 := 0) F 0 rfl dX7_takesClause_79 ?_
    obtain ⟨x3, hx3, h⟩ := ob h
    refine j_getR (pc := 80) F flX7_59 hx3 dX7_takesClause_80 ?_
    refine j_iload_n (pc := 83) (k0 := 1) F 1 rfl dX7_takesClause_83 ?_
    refine j_aload_n (pc := 84) (k0 := 0) F 0 rfl dX7_takesClause_84 ?_
    obtain ⟨x4, hx4, h⟩ := ob h
    refine j_getI (pc := 85) F flX7_44 hx4 dX7_takesClause_85 ?_
    obtain ⟨i5, hi5, h⟩ := ob h
    refine j_iast (pc := 88) F hi5 dX7_takesClause_88 ?_
    refine j_aload_n (pc := 89) (k0 := 0) F 0 rfl dX7_takesClause_89 ?_
    obtain ⟨x6, hx6, h⟩ := ob h
    refine j_getR (pc := 90) F flX7_53 hx6 dX7_takesClause_90 ?_
    refine j_iload_n (pc := 93) (k0 := 1) F 1 rfl dX7_takesClause_93 ?_
    obtain ⟨x7, hx7, h⟩ := ob h
    refine j_iald (pc := 94) F hx7 dX7_takesClause_94 ?_
    refine j_if_ne (pc := 95) F 115 dX7_takesClause_95 rfl (fun c => ?_) (fun c => ?_)
    · have h := iz_f c h
      refine j_iconst (pc := 115) F 1 dX7_takesClause_115 (by decide) ?_
      refine j_goto (pc := 116) F 120 dX7_takesClause_116 rfl ?_
      have g1 := Option.some.inj h
      obtain ⟨q3, g2⟩ := Prod.mk.inj g1
      subst q3
      subst g2
      exact j_zret (pc := 120) F (Or.inr rfl) dX7_takesClause_120
    · have h := iz_t c h
      refine j_aload_n (pc := 98) (k0 := 0) F 0 rfl dX7_takesClause_98 ?_
      refine j_bipush (pc := 99) F 32 dX7_takesClause_99 (by decide) ?_
      obtain ⟨x8, i9, hx8, h⟩ := b2_obt h
      refine j_callV1 (pc := 101) (ci := 7) (As := [.int 32]) (st := []) (e1 := 0) (es1 := 0) F clX7_228 cwX7_takesSign rfl hth (ctX7_takesSign G hth hx8) rfl rfl rfl rfl rfl rfl dX7_takesClause_101 ?_
      refine j_if_eq (pc := 104) F 119 dX7_takesClause_104 rfl (fun c => ?_) (fun c => ?_)
      · have h := iz_t c h
        refine j_iconst (pc := 119) F 0 dX7_takesClause_119 (by decide) ?_
        have g1 := Option.some.inj h
        obtain ⟨q3, g2⟩ := Prod.mk.inj g1
        subst q3
        subst g2
        exact j_zret (pc := 120) F (Or.inl rfl) dX7_takesClause_120
      · have h := iz_f c h
        refine j_aload_n (pc := 107) (k0 := 0) F 0 rfl dX7_takesClause_107 ?_
        refine j_iload_n (pc := 108) (k0 := 1) F 1 rfl dX7_takesClause_108 ?_
        obtain ⟨x10, i11, hx10, h⟩ := b2_obt h
        refine j_callV1 (pc := 109) (ci := 7) (As := [.int v1]) (st := []) (e1 := 0) (es1 := 0) F clX7_265 cwX7_takesE rfl hth (ctX7_takesE G hth hx10) rfl rfl rfl rfl rfl rfl dX7_takesClause_109 ?_
        refine j_if_eq (pc := 112) F 119 dX7_takesClause_112 rfl (fun c => ?_) (fun c => ?_)
        · have h := iz_t c h
          refine j_iconst (pc := 119) F 0 dX7_takesClause_119 (by decide) ?_
          have g1 := Option.some.inj h
          obtain ⟨q3, g2⟩ := Prod.mk.inj g1
          subst q3
          subst g2
          exact j_zret (pc := 120) F (Or.inl rfl) dX7_takesClause_120
        · have h := iz_f c h
          refine j_iconst (pc := 115) F 1 dX7_takesClause_115 (by decide) ?_
          refine j_goto (pc := 116) F 120 dX7_takesClause_116 rfl ?_
          have g1 := Option.some.inj h
          obtain ⟨q3, g2⟩ := Prod.mk.inj g1
          subst q3
          subst g2
          exact j_zret (pc := 120) F (Or.inr rfl) dX7_takesClause_120
  · have h := iz_t c h
    refine j_iconst (pc := 77) F 0 dX7_takesClause_77 (by decide) ?_
    have g1 := Option.some.inj h
    obtain ⟨q3, g2⟩ := Prod.mk.inj g1
    subst q3
    subst g2
    exact j_zret (pc := 78) F (Or.inl rfl) dX7_takesClause_78
set_option maxHeartbeats 4000000 in
set_option maxRecDepth 20000 in
theorem jbX7_takesClause_0 (G : GT) {X : XT} {sh : SH} {L : LH} {n : Nat} {r : Int32} {I' : IH}  {this : Nat}  {v1 : Int32} {I : IH} (F : MF G X RX7 cX7_takesClause 2 5 (some .boolean) "takesClause") (hth : isO sh 7 this) (h : fX7_takesClause sh this v1 I = some (r, I')) : J G X (QE G X (some (.int r)) sh I' L n) 2 sh I L n 0 0 0 [(0, .ref this), (1, .int v1)] [] := by
  unfold fX7_takesClause at h
  refine j_aload_n (pc := 0) (k0 := 0) F 0 rfl dX7_takesClause_0 ?_
  refine j_iload_n (pc := 1) (k0 := 1) F 1 rfl dX7_takesClause_1 ?_
  obtain ⟨x1, i2, hx1, h⟩ := b2_obt h
  refine j_callV1 (pc := 2) (ci := 7) (As := [.int v1]) (st := []) (e1 := 0) (es1 := 0) F clX7_262 cwX7_takesHead rfl hth (ctX7_takesHead G hth hx1) rfl rfl rfl rfl rfl rfl dX7_takesClause_2 ?_
  refine j_if_ne (pc := 5) F 10 dX7_takesClause_5 rfl (fun c => ?_) (fun c => ?_)
  · have h := iz_f c h
    refine j_aload_n (pc := 10) (k0 := 0) F 0 rfl dX7_takesClause_10 ?_
    obtain ⟨x3, hx3, h⟩ := ob h
    refine j_getR (pc := 11) F flX7_53 hx3 dX7_takesClause_11 ?_
    refine j_iload_n (pc := 14) (k0 := 1) F 1 rfl dX7_takesClause_14 ?_
    obtain ⟨x4, hx4, h⟩ := ob h
    refine j_iald (pc := 15) F hx4 dX7_takesClause_15 ?_
    refine j_if_eq (pc := 16) F 70 dX7_takesClause_16 rfl (fun c => ?_) (fun c => ?_)
    · have h := iz_t c h
      exact jbX7_takesClause_70 G F hth h
    · have h := iz_f c h
      refine j_aload_n (pc := 19) (k0 := 0) F 0 rfl dX7_takesClause_19 ?_
      refine j_aload_n (pc := 20) (k0 := 0) F 0 rfl dX7_takesClause_20 ?_
      obtain ⟨x5, hx5, h⟩ := ob h
      refine j_callV1 (pc := 21) (ci := 7) (As := []) (st := [.ref this]) (e1 := 0) (es1 := 0) F clX7_224 cwX7_next rfl hth (ctX7_next G hx5) rfl rfl rfl rfl rfl rfl dX7_takesClause_21 ?_
      refine j_bipush (pc := 24) F 48 dX7_takesClause_24 (by decide) ?_
      refine j_bipush (pc := 26) F 52 dX7_takesClause_26 (by decide) ?_
      refine j_callV1 (pc := 28) (ci := 7) (As := [.int x5, .int 48, .int 52]) (st := []) (e1 := 0) (es1 := 0) F clX7_215 cwX7_in rfl hth (ctX7_in G) rfl rfl rfl rfl rfl rfl dX7_takesClause_28 ?_
      refine j_if_ne (pc := 31) F 36 dX7_takesClause_31 rfl (fun c => ?_) (fun c => ?_)
      · have h := iz_f c h
        refine j_aload_n (pc := 36) (k0 := 0) F 0 rfl dX7_takesClause_36 ?_
        obtain ⟨x6, hx6, h⟩ := ob h
        refine j_getR (pc := 37) F flX7_56 hx6 dX7_takesClause_37 ?_
        refine j_iload_n (pc := 40) (k0 := 1) F 1 rfl dX7_takesClause_40 ?_
        refine j_aload_n (pc := 41) (k0 := 0) F 0 rfl dX7_takesClause_41 ?_
        obtain ⟨x7, hx7, h⟩ := ob h
        refine j_callV1 (pc := 42) (ci := 7) (As := []) (st := [.int v1, .ref x6]) (e1 := 0) (es1 := 0) F clX7_224 cwX7_next rfl hth (ctX7_next G hx7) rfl rfl rfl rfl rfl rfl dX7_takesClause_42 ?_
        refine j_bipush (pc := 45) F 48 dX7_takesClause_45 (by decide) ?_
        refine j_isub (pc := 47) F dX7_takesClause_47 ?_
        obtain ⟨i8, hi8, h⟩ := ob h
        refine j_iast (pc := 48) F hi8 dX7_takesClause_48 ?_
        refine j_aload_n (pc := 49) (k0 := 0) F 0 rfl dX7_takesClause_49 ?_
        refine j_dup (pc := 50) F dX7_takesClause_50 rfl ?_
        obtain ⟨x9, hx9, h⟩ := ob h
        refine j_getI (pc := 51) F flX7_41 hx9 dX7_takesClause_51 ?_
        refine j_iconst (pc := 54) F 1 dX7_takesClause_54 (by decide) ?_
        refine j_iadd (pc := 55) F dX7_takesClause_55 ?_
        obtain ⟨i10, hi10, h⟩ := ob h
        refine j_putI (pc := 56) F flX7_41 fp7_10 (fun z => by cases z) hi10 dX7_takesClause_56 ?_
        refine j_aload_n (pc := 59) (k0 := 0) F 0 rfl dX7_takesClause_59 ?_
        refine j_bipush (pc := 60) F 32 dX7_takesClause_60 (by decide) ?_
        obtain ⟨x11, i12, hx11, h⟩ := b2_obt h
        refine j_callV1 (pc := 62) (ci := 7) (As := [.int 32]) (st := []) (e1 := 0) (es1 := 0) F clX7_228 cwX7_takesSign rfl hth (ctX7_takesSign G hth hx11) rfl rfl rfl rfl rfl rfl dX7_takesClause_62 ?_
        refine j_if_ne (pc := 65) F 70 dX7_takesClause_65 rfl (fun c => ?_) (fun c => ?_)
        · have h := iz_f c h
          exact jbX7_takesClause_70 G F hth h
        · have h := iz_t c h
          refine j_iconst (pc := 68) F 0 dX7_takesClause_68 (by decide) ?_
          have g1 := Option.some.inj h
          obtain ⟨q3, g2⟩ := Prod.mk.inj g1
          subst q3
          subst g2
          exact j_zret (pc := 69) F (Or.inl rfl) dX7_takesClause_69
      · have h := iz_t c h
        refine j_iconst (pc := 34) F 0 dX7_takesClause_34 (by decide) ?_
        have g1 := Option.some.inj h
        obtain ⟨q3, g2⟩ := Prod.mk.inj g1
        subst q3
        subst g2
        exact j_zret (pc := 35) F (Or.inl rfl) dX7_takesClause_35
  · have h := iz_t c h
    refine j_iconst (pc := 8) F 0 dX7_takesClause_8 (by decide) ?_
    have g1 := Option.some.inj h
    obtain ⟨q3, g2⟩ := Prod.mk.inj g1
    subst q3
    subst g2
    exact j_zret (pc := 9) F (Or.inl rfl) dX7_takesClause_9
theorem ctX7_takesClause (G : GT) {sh : SH} {I : IH} {L : LH} {n : Nat} {this : Nat} {v1 : Int32} {r : Int32} {I' : IH}  (hth : isO sh 7 this) (h : fX7_takesClause sh this v1 I = some (r, I')) : Ct G yX7_takesClause cX7_takesClause 2 (some .boolean) 5 [.ref this, .int v1] sh I L n (some (.int r)) sh I' L n 0 0 := by
  refine ct_of (y := yX7_takesClause) (by decide +kernel) rfl (fun X F => ?_)
  exact jbX7_takesClause_0 G F hth h
theorem dX7_goesText_0 : decode cX7_goesText 0 = .ok (.aload_n 0, 1) := by decide +kernel
theorem dX7_goesText_1 : decode cX7_goesText 1 = .ok (.iconst 0, 1) := by decide +kernel
theorem dX7_goesText_2 : decode cX7_goesText 2 = .ok (.putfield 41, 3) := by decide +kernel
theorem dX7_goesText_5 : decode cX7_goesText 5 = .ok (.aload_n 0, 1) := by decide +kernel
theorem dX7_goesText_6 : decode cX7_goesText 6 = .ok (.bipush 100, 2) := by decide +kernel
theorem dX7_goesText_8 : decode cX7_goesText 8 = .ok (.iload_n 1, 1) := by decide +kernel
theorem dX7_goesText_9 : decode cX7_goesText 9 = .ok (.imul, 1) := by decide +kernel
theorem dX7_goesText_10 : decode cX7_goesText 10 = .ok (.putfield 74, 3) := by decide +kernel
theorem dX7_goesText_13 : decode cX7_goesText 13 = .ok (.iconst 0, 1) := by decide +kernel
theorem dX7_goesText_14 : decode cX7_goesText 14 = .ok (.istore_n 2, 1) := by decide +kernel
theorem dX7_goesText_15 : decode cX7_goesText 15 = .ok (.aload_n 0, 1) := by decide +kernel
theorem dX7_goesText_16 : decode cX7_goesText 16 = .ok (.bipush 12, 2) := by decide +kernel
theorem dX7_goesText_18 : decode cX7_goesText 18 = .ok (.iload_n 1, 1) := by decide +kernel
theorem dX7_goesText_19 : decode cX7_goesText 19 = .ok (.imul, 1) := by decide +kernel
theorem dX7_goesText_20 : decode cX7_goesText 20 = .ok (.iload_n 2, 1) := by decide +kernel
theorem dX7_goesText_21 : decode cX7_goesText 21 = .ok (.iadd, 1) := by decide +kernel
theorem dX7_goesText_22 : decode cX7_goesText 22 = .ok (.invokevirtual 268, 3) := by decide +kernel
theorem dX7_goesText_25 : decode cX7_goesText 25 = .ok (.ifCond .ne 5, 3) := by decide +kernel
theorem dX7_goesText_28 : decode cX7_goesText 28 = .ok (.iconst 0, 1) := by decide +kernel
theorem dX7_goesText_29 : decode cX7_goesText 29 = .ok (.ireturn, 1) := by decide +kernel
theorem dX7_goesText_30 : decode cX7_goesText 30 = .ok (.iinc 2 1, 3) := by decide +kernel
theorem dX7_goesText_33 : decode cX7_goesText 33 = .ok (.aload_n 0, 1) := by decide +kernel
theorem dX7_goesText_34 : decode cX7_goesText 34 = .ok (.getfield 50, 3) := by decide +kernel
theorem dX7_goesText_37 : decode cX7_goesText 37 = .ok (.iload_n 1, 1) := by decide +kernel
theorem dX7_goesText_38 : decode cX7_goesText 38 = .ok (.iload_n 2, 1) := by decide +kernel
theorem dX7_goesText_39 : decode cX7_goesText 39 = .ok (.iastore, 1) := by decide +kernel
theorem dX7_goesText_40 : decode cX7_goesText 40 = .ok (.aload_n 0, 1) := by decide +kernel
theorem dX7_goesText_41 : decode cX7_goesText 41 = .ok (.getfield 41, 3) := by decide +kernel
theorem dX7_goesText_44 : decode cX7_goesText 44 = .ok (.aload_n 0, 1) := by decide +kernel
theorem dX7_goesText_45 : decode cX7_goesText 45 = .ok (.getfield 38, 3) := by decide +kernel
theorem dX7_goesText_48 : decode cX7_goesText 48 = .ok (.if_icmp .ne 5, 3) := by decide +kernel
theorem dX7_goesText_51 : decode cX7_goesText 51 = .ok (.iconst 1, 1) := by decide +kernel
theorem dX7_goesText_52 : decode cX7_goesText 52 = .ok (.ireturn, 1) := by decide +kernel
theorem dX7_goesText_53 : decode cX7_goesText 53 = .ok (.iload_n 2, 1) := by decide +kernel
theorem dX7_goesText_54 : decode cX7_goesText 54 = .ok (.bipush 12, 2) := by decide +kernel
theorem dX7_goesText_56 : decode cX7_goesText 56 = .ok (.if_icmp .eq 12, 3) := by decide +kernel
theorem dX7_goesText_59 : decode cX7_goesText 59 = .ok (.aload_n 0, 1) := by decide +kernel
theorem dX7_goesText_60 : decode cX7_goesText 60 = .ok (.bipush 59, 2) := by decide +kernel
theorem dX7_goesText_62 : decode cX7_goesText 62 = .ok (.invokevirtual 228, 3) := by decide +kernel
theorem dX7_goesText_65 : decode cX7_goesText 65 = .ok (.ifCond .ne (-50), 3) := by decide +kernel
theorem dX7_goesText_68 : decode cX7_goesText 68 = .ok (.iconst 0, 1) := by decide +kernel
theorem dX7_goesText_69 : decode cX7_goesText 69 = .ok (.ireturn, 1) := by decide +kernel
def fX7_goesText_b15 (sh : SH) (this : Nat) : Nat → Int32 → Int32 → IH → Option (Int32 × IH)
  | 0, _, _, _ => none
  | fuel + 1, v1, v2, I =>
    b2 (fX7_takesClause sh this ((12 * v1) + v2) I) fun x1 i2 =>
    if x1 = 0 then (
      some (0, i2)) else
    (gR sh 7 this 13).bind fun x3 =>
    (sI sh i2 x3 v1 (v2 + 1)).bind fun i4 =>
    (gI sh i4 7 this 10).bind fun x5 =>
    (gI sh i4 7 this 9).bind fun x6 =>
    if x5 = x6 then (
      some (1, i4)) else
    if (v2 + 1) = 12 then (
      some (0, i4)) else
    b2 (fX7_takesSign sh this 59 i4) fun x7 i8 =>
    if x7 = 0 then (
      some (0, i8)) else
    fX7_goesText_b15 sh this fuel v1 (v2 + 1) i8
def fX7_goesText (sh : SH) (this : Nat) (v1 : Int32) (I : IH) : Option (Int32 × IH) :=
  (pI sh I 7 this 10 0).bind fun i1 =>
  (pI sh i1 7 this 21 (100 * v1)).bind fun i2 =>
  fX7_goesText_b15 sh this 1000 v1 0 i2
set_option maxHeartbeats 4000000 in
set_option maxRecDepth 20000 in
theorem jbX7_goesText_15 (G : GT) {X : XT} {sh : SH} {L : LH} {n : Nat} {r : Int32} {I' : IH}  {this : Nat}  (F : MF G X RX7 cX7_goesText 3 6 (some .boolean) "goesText") (hth : isO sh 7 this) : ∀ (fuel : Nat) (v1 : Int32) (v2 : Int32) (I : IH), fX7_goesText_b15 sh this fuel v1 v2 I = some (r, I') → J G X (QE G X (some (.int r)) sh I' L n) 3 sh I L n 0 0 15 [(0, .ref this), (1, .int v1), (2, .int v2)] []
  | 0 => by
    intros
    rename_i h
    exact absurd (show none = some _ from h) (by intro z; cases z)
  | fuel + 1 => by
    intro v1 v2 I h
    rw [fX7_goesText_b15] at h
    refine j_aload_n (pc := 15) (k0 := 0) F 0 rfl dX7_goesText_15 ?_
    refine j_bipush (pc := 16) F 12 dX7_goesText_16 (by decide) ?_
    refine j_iload_n (pc := 18) (k0 := 1) F 1 rfl dX7_goesText_18 ?_
    refine j_imul (pc := 19) F dX7_goesText_19 ?_
    refine j_iload_n (pc := 20) (k0 := 2) F 2 rfl dX7_goesText_20 ?_
    refine j_iadd (pc := 21) F dX7_goesText_21 ?_
    obtain ⟨x1, i2, hx1, h⟩ := b2_obt h
    refine j_callV1 (pc := 22) (ci := 7) (As := [.int ((12 * v1) + v2)]) (st := []) (e1 := 0) (es1 := 0) F clX7_268 cwX7_takesClause rfl hth (ctX7_takesClause G hth hx1) rfl rfl rfl rfl rfl rfl dX7_goesText_22 ?_
    refine j_if_ne (pc := 25) F 30 dX7_goesText_25 rfl (fun c => ?_) (fun c => ?_)
    · have h := iz_f c h
      refine j_iinc (pc := 30) (k1 := 2) (ls' := [(2, .int (v2 + 1)), (0, .ref this), (1, .int v1)]) F (v2 + 1) 2 rfl rfl rfl rfl dX7_goesText_30 ?_
      refine j_aload_n (pc := 33) (k0 := 0) F 1 rfl dX7_goesText_33 ?_
      obtain ⟨x3, hx3, h⟩ := ob h
      refine j_getR (pc := 34) F flX7_50 hx3 dX7_goesText_34 ?_
      refine j_iload_n (pc := 37) (k0 := 1) F 2 rfl dX7_goesText_37 ?_
      refine j_iload_n (pc := 38) (k0 := 2) F 0 rfl dX7_goesText_38 ?_
      obtain ⟨i4, hi4, h⟩ := ob h
      refine j_iast (pc := 39) F hi4 dX7_goesText_39 ?_
      refine j_aload_n (pc := 40) (k0 := 0) F 1 rfl dX7_goesText_40 ?_
      obtain ⟨x5, hx5, h⟩ := ob h
      refine j_getI (pc := 41) F flX7_41 hx5 dX7_goesText_41 ?_
      refine j_aload_n (pc := 44) (k0 := 0) F 1 rfl dX7_goesText_44 ?_
      obtain ⟨x6, hx6, h⟩ := ob h
      refine j_getI (pc := 45) F flX7_38 hx6 dX7_goesText_45 ?_
      refine j_icmp_ne (pc := 48) F 53 dX7_goesText_48 rfl (fun c => ?_) (fun c => ?_)
      · have h := iz_f c h
        refine j_iload_n (pc := 53) (k0 := 2) F 0 rfl dX7_goesText_53 ?_
        refine j_bipush (pc := 54) F 12 dX7_goesText_54 (by decide) ?_
        refine j_icmp_eq (pc := 56) F 68 dX7_goesText_56 rfl (fun c => ?_) (fun c => ?_)
        · have h := iz_t c h
          refine j_iconst (pc := 68) F 0 dX7_goesText_68 (by decide) ?_
          have g1 := Option.some.inj h
          obtain ⟨q3, g2⟩ := Prod.mk.inj g1
          subst q3
          subst g2
          exact j_zret (pc := 69) F (Or.inl rfl) dX7_goesText_69
        · have h := iz_f c h
          refine j_aload_n (pc := 59) (k0 := 0) F 1 rfl dX7_goesText_59 ?_
          refine j_bipush (pc := 60) F 59 dX7_goesText_60 (by decide) ?_
          obtain ⟨x7, i8, hx7, h⟩ := b2_obt h
          refine j_callV1 (pc := 62) (ci := 7) (As := [.int 59]) (st := []) (e1 := 0) (es1 := 0) F clX7_228 cwX7_takesSign rfl hth (ctX7_takesSign G hth hx7) rfl rfl rfl rfl rfl rfl dX7_goesText_62 ?_
          refine j_if_ne (pc := 65) F 15 dX7_goesText_65 rfl (fun c => ?_) (fun c => ?_)
          · have h := iz_f c h
            refine j_sub [1, 2, 0] rfl ?_
            exact jbX7_goesText_15 G F hth fuel _ _ _ h
          · have h := iz_t c h
            refine j_iconst (pc := 68) F 0 dX7_goesText_68 (by decide) ?_
            have g1 := Option.some.inj h
            obtain ⟨q3, g2⟩ := Prod.mk.inj g1
            subst q3
            subst g2
            exact j_zret (pc := 69) F (Or.inl rfl) dX7_goesText_69
      · have h := iz_t c h
        refine j_iconst (pc := 51) F 1 dX7_goesText_51 (by decide) ?_
        have g1 := Option.some.inj h
        obtain ⟨q3, g2⟩ := Prod.mk.inj g1
        subst q3
        subst g2
        exact j_zret (pc := 52) F (Or.inr rfl) dX7_goesText_52
    · have h := iz_t c h
      refine j_iconst (pc := 28) F 0 dX7_goesText_28 (by decide) ?_
      have g1 := Option.some.inj h
      obtain ⟨q3, g2⟩ := Prod.mk.inj g1
      subst q3
      subst g2
      exact j_zret (pc := 29) F (Or.inl rfl) dX7_goesText_29
set_option maxHeartbeats 4000000 in
set_option maxRecDepth 20000 in
theorem jbX7_goesText_0 (G : GT) {X : XT} {sh : SH} {L : LH} {n : Nat} {r : Int32} {I' : IH}  {this : Nat}  {v1 : Int32} {I : IH} (F : MF G X RX7 cX7_goesText 3 6 (some .boolean) "goesText") (hth : isO sh 7 this) (h : fX7_goesText sh this v1 I = some (r, I')) : J G X (QE G X (some (.int r)) sh I' L n) 3 sh I L n 0 0 0 [(0, .ref this), (1, .int v1)] [] := by
  unfold fX7_goesText at h
  refine j_aload_n (pc := 0) (k0 := 0) F 0 rfl dX7_goesText_0 ?_
  refine j_iconst (pc := 1) F 0 dX7_goesText_1 (by decide) ?_
  obtain ⟨i1, hi1, h⟩ := ob h
  refine j_putI (pc := 2) F flX7_41 fp7_10 (fun z => by cases z) hi1 dX7_goesText_2 ?_
  refine j_aload_n (pc := 5) (k0 := 0) F 0 rfl dX7_goesText_5 ?_
  refine j_bipush (pc := 6) F 100 dX7_goesText_6 (by decide) ?_
  refine j_iload_n (pc := 8) (k0 := 1) F 1 rfl dX7_goesText_8 ?_
  refine j_imul (pc := 9) F dX7_goesText_9 ?_
  obtain ⟨i2, hi2, h⟩ := ob h
  refine j_putI (pc := 10) F flX7_74 fp7_21 (fun z => by cases z) hi2 dX7_goesText_10 ?_
  refine j_iconst (pc := 13) F 0 dX7_goesText_13 (by decide) ?_
  refine j_istore_n (pc := 14) (k1 := 2) (ls' := [(2, .int 0), (0, .ref this), (1, .int v1)]) F rfl rfl rfl dX7_goesText_14 ?_
  refine j_sub [1, 2, 0] rfl ?_
  exact jbX7_goesText_15 G F hth 1000 _ _ _ h
theorem ctX7_goesText (G : GT) {sh : SH} {I : IH} {L : LH} {n : Nat} {this : Nat} {v1 : Int32} {r : Int32} {I' : IH}  (hth : isO sh 7 this) (h : fX7_goesText sh this v1 I = some (r, I')) : Ct G yX7_goesText cX7_goesText 3 (some .boolean) 6 [.ref this, .int v1] sh I L n (some (.int r)) sh I' L n 0 0 := by
  refine ct_of (y := yX7_goesText) (by decide +kernel) rfl (fun X F => ?_)
  exact jbX7_goesText_0 G F hth h
theorem dX7_valley_0 : decode cX7_valley 0 = .ok (.aload_n 0, 1) := by decide +kernel
theorem dX7_valley_1 : decode cX7_valley 1 = .ok (.getfield 32, 3) := by decide +kernel
theorem dX7_valley_4 : decode cX7_valley 4 = .ok (.iconst 5, 1) := by decide +kernel
theorem dX7_valley_5 : decode cX7_valley 5 = .ok (.if_icmp .ne 6, 3) := by decide +kernel
theorem dX7_valley_8 : decode cX7_valley 8 = .ok (.bipush (-4), 2) := by decide +kernel
theorem dX7_valley_10 : decode cX7_valley 10 = .ok (.ireturn, 1) := by decide +kernel
theorem dX7_valley_11 : decode cX7_valley 11 = .ok (.aload_n 0, 1) := by decide +kernel
theorem dX7_valley_12 : decode cX7_valley 12 = .ok (.aload_n 0, 1) := by decide +kernel
theorem dX7_valley_13 : decode cX7_valley 13 = .ok (.getfield 32, 3) := by decide +kernel
theorem dX7_valley_16 : decode cX7_valley 16 = .ok (.invokevirtual 271, 3) := by decide +kernel
theorem dX7_valley_19 : decode cX7_valley 19 = .ok (.istore_n 1, 1) := by decide +kernel
theorem dX7_valley_20 : decode cX7_valley 20 = .ok (.aload_n 0, 1) := by decide +kernel
theorem dX7_valley_21 : decode cX7_valley 21 = .ok (.iconst 0, 1) := by decide +kernel
theorem dX7_valley_22 : decode cX7_valley 22 = .ok (.putfield 38, 3) := by decide +kernel
theorem dX7_valley_25 : decode cX7_valley 25 = .ok (.iload_n 1, 1) := by decide +kernel
theorem dX7_valley_26 : decode cX7_valley 26 = .ok (.ifCond .ne 11, 3) := by decide +kernel
theorem dX7_valley_29 : decode cX7_valley 29 = .ok (.bipush (-10), 2) := by decide +kernel
theorem dX7_valley_31 : decode cX7_valley 31 = .ok (.aload_n 0, 1) := by decide +kernel
theorem dX7_valley_32 : decode cX7_valley 32 = .ok (.getfield 41, 3) := by decide +kernel
theorem dX7_valley_35 : decode cX7_valley 35 = .ok (.isub, 1) := by decide +kernel
theorem dX7_valley_36 : decode cX7_valley 36 = .ok (.ireturn, 1) := by decide +kernel
theorem dX7_valley_37 : decode cX7_valley 37 = .ok (.aload_n 0, 1) := by decide +kernel
theorem dX7_valley_38 : decode cX7_valley 38 = .ok (.aload_n 0, 1) := by decide +kernel
theorem dX7_valley_39 : decode cX7_valley 39 = .ok (.getfield 32, 3) := by decide +kernel
theorem dX7_valley_42 : decode cX7_valley 42 = .ok (.putfield 35, 3) := by decide +kernel
theorem dX7_valley_45 : decode cX7_valley 45 = .ok (.aload_n 0, 1) := by decide +kernel
theorem dX7_valley_46 : decode cX7_valley 46 = .ok (.dup, 1) := by decide +kernel
theorem dX7_valley_47 : decode cX7_valley 47 = .ok (.getfield 32, 3) := by decide +kernel
theorem dX7_valley_50 : decode cX7_valley 50 = .ok (.iconst 1, 1) := by decide +kernel
theorem dX7_valley_51 : decode cX7_valley 51 = .ok (.iadd, 1) := by decide +kernel
theorem dX7_valley_52 : decode cX7_valley 52 = .ok (.putfield 32, 3) := by decide +kernel
theorem dX7_valley_55 : decode cX7_valley 55 = .ok (.aload_n 0, 1) := by decide +kernel
theorem dX7_valley_56 : decode cX7_valley 56 = .ok (.getfield 35, 3) := by decide +kernel
theorem dX7_valley_59 : decode cX7_valley 59 = .ok (.ireturn, 1) := by decide +kernel
def fX7_valley (sh : SH) (this : Nat) (I : IH) : Option (Int32 × IH) :=
  (gI sh I 7 this 7).bind fun x1 =>
  if x1 = 5 then (
    some ((-4), I)) else
  (gI sh I 7 this 7).bind fun x2 =>
  b2 (fX7_goesText sh this x2 I) fun x3 i4 =>
  (pI sh i4 7 this 9 0).bind fun i5 =>
  if x3 = 0 then (
    (gI sh i5 7 this 10).bind fun x11 =>
    some (((-10) - x11), i5)) else
  (gI sh i5 7 this 7).bind fun x6 =>
  (pI sh i5 7 this 8 x6).bind fun i7 =>
  (gI sh i7 7 this 7).bind fun x8 =>
  (pI sh i7 7 this 7 (x8 + 1)).bind fun i9 =>
  (gI sh i9 7 this 8).bind fun x10 =>
  some (x10, i9)
set_option maxHeartbeats 4000000 in
set_option maxRecDepth 20000 in
theorem jbX7_valley_0 (G : GT) {X : XT} {sh : SH} {L : LH} {n : Nat} {r : Int32} {I' : IH}  {this : Nat}  {I : IH} (F : MF G X RX7 cX7_valley 2 7 (some .int) "valley") (hth : isO sh 7 this) (h : fX7_valley sh this I = some (r, I')) : J G X (QE G X (some (.int r)) sh I' L n) 2 sh I L n 0 0 0 [(0, .ref this)] [] := by
  unfold fX7_valley at h
  refine j_aload_n (pc := 0) (k0 := 0) F 0 rfl dX7_valley_0 ?_
  obtain ⟨x1, hx1, h⟩ := ob h
  refine j_getI (pc := 1) F flX7_32 hx1 dX7_valley_1 ?_
  refine j_iconst (pc := 4) F 5 dX7_valley_4 (by decide) ?_
  refine j_icmp_ne (pc := 5) F 11 dX7_valley_5 rfl (fun c => ?_) (fun c => ?_)
  · have h := iz_f c h
    refine j_aload_n (pc := 11) (k0 := 0) F 0 rfl dX7_valley_11 ?_
    refine j_aload_n (pc := 12) (k0 := 0) F 0 rfl dX7_valley_12 ?_
    obtain ⟨x2, hx2, h⟩ := ob h
    refine j_getI (pc := 13) F flX7_32 hx2 dX7_valley_13 ?_
    obtain ⟨x3, i4, hx3, h⟩ := b2_obt h
    refine j_callV1 (pc := 16) (ci := 7) (As := [.int x2]) (st := []) (e1 := 0) (es1 := 0) F clX7_271 cwX7_goesText rfl hth (ctX7_goesText G hth hx3) rfl rfl rfl rfl rfl rfl dX7_valley_16 ?_
    refine j_istore_n (pc := 19) (k1 := 1) (ls' := [(1, .int x3), (0, .ref this)]) F rfl rfl rfl dX7_valley_19 ?_
    refine j_aload_n (pc := 20) (k0 := 0) F 1 rfl dX7_valley_20 ?_
    refine j_iconst (pc := 21) F 0 dX7_valley_21 (by decide) ?_
    obtain ⟨i5, hi5, h⟩ := ob h
    refine j_putI (pc := 22) F flX7_38 fp7_9 (fun z => by cases z) hi5 dX7_valley_22 ?_
    refine j_iload_n (pc := 25) (k0 := 1) F 0 rfl dX7_valley_25 ?_
    refine j_if_ne (pc := 26) F 37 dX7_valley_26 rfl (fun c => ?_) (fun c => ?_)
    · have h := iz_f c h
      refine j_aload_n (pc := 37) (k0 := 0) F 1 rfl dX7_valley_37 ?_
      refine j_aload_n (pc := 38) (k0 := 0) F 1 rfl dX7_valley_38 ?_
      obtain ⟨x6, hx6, h⟩ := ob h
      refine j_getI (pc := 39) F flX7_32 hx6 dX7_valley_39 ?_
      obtain ⟨i7, hi7, h⟩ := ob h
      refine j_putI (pc := 42) F flX7_35 fp7_8 (fun z => by cases z) hi7 dX7_valley_42 ?_
      refine j_aload_n (pc := 45) (k0 := 0) F 1 rfl dX7_valley_45 ?_
      refine j_dup (pc := 46) F dX7_valley_46 rfl ?_
      obtain ⟨x8, hx8, h⟩ := ob h
      refine j_getI (pc := 47) F flX7_32 hx8 dX7_valley_47 ?_
      refine j_iconst (pc := 50) F 1 dX7_valley_50 (by decide) ?_
      refine j_iadd (pc := 51) F dX7_valley_51 ?_
      obtain ⟨i9, hi9, h⟩ := ob h
      refine j_putI (pc := 52) F flX7_32 fp7_7 (fun z => by cases z) hi9 dX7_valley_52 ?_
      refine j_aload_n (pc := 55) (k0 := 0) F 1 rfl dX7_valley_55 ?_
      obtain ⟨x10, hx10, h⟩ := ob h
      refine j_getI (pc := 56) F flX7_35 hx10 dX7_valley_56 ?_
      have g1 := Option.some.inj h
      obtain ⟨q3, g2⟩ := Prod.mk.inj g1
      subst q3
      subst g2
      exact j_iret (pc := 59) F dX7_valley_59
    · have h := iz_t c h
      refine j_bipush (pc := 29) F (-10) dX7_valley_29 (by decide) ?_
      refine j_aload_n (pc := 31) (k0 := 0) F 1 rfl dX7_valley_31 ?_
      obtain ⟨x11, hx11, h⟩ := ob h
      refine j_getI (pc := 32) F flX7_41 hx11 dX7_valley_32 ?_
      refine j_isub (pc := 35) F dX7_valley_35 ?_
      have g1 := Option.some.inj h
      obtain ⟨q3, g2⟩ := Prod.mk.inj g1
      subst q3
      subst g2
      exact j_iret (pc := 36) F dX7_valley_36
  · have h := iz_t c h
    refine j_bipush (pc := 8) F (-4) dX7_valley_8 (by decide) ?_
    have g1 := Option.some.inj h
    obtain ⟨q3, g2⟩ := Prod.mk.inj g1
    subst q3
    subst g2
    exact j_iret (pc := 10) F dX7_valley_10
theorem ctX7_valley (G : GT) {sh : SH} {I : IH} {L : LH} {n : Nat} {this : Nat} {r : Int32} {I' : IH}  (hth : isO sh 7 this) (h : fX7_valley sh this I = some (r, I')) : Ct G yX7_valley cX7_valley 2 (some .int) 7 [.ref this] sh I L n (some (.int r)) sh I' L n 0 0 := by
  refine ct_of (y := yX7_valley) (by decide +kernel) rfl (fun X F => ?_)
  exact jbX7_valley_0 G F hth h
theorem dX7_first_0 : decode cX7_first 0 = .ok (.aload_n 0, 1) := by decide +kernel
theorem dX7_first_1 : decode cX7_first 1 = .ok (.getfield 35, 3) := by decide +kernel
theorem dX7_first_4 : decode cX7_first 4 = .ok (.ifCond .ge 7, 3) := by decide +kernel
theorem dX7_first_7 : decode cX7_first 7 = .ok (.iconst 0, 1) := by decide +kernel
theorem dX7_first_8 : decode cX7_first 8 = .ok (.goto 10, 3) := by decide +kernel
theorem dX7_first_11 : decode cX7_first 11 = .ok (.bipush 12, 2) := by decide +kernel
theorem dX7_first_13 : decode cX7_first 13 = .ok (.aload_n 0, 1) := by decide +kernel
theorem dX7_first_14 : decode cX7_first 14 = .ok (.getfield 35, 3) := by decide +kernel
theorem dX7_first_17 : decode cX7_first 17 = .ok (.imul, 1) := by decide +kernel
theorem dX7_first_18 : decode cX7_first 18 = .ok (.ireturn, 1) := by decide +kernel
def fX7_first (sh : SH) (I : IH) (this : Nat) : Option (Int32) :=
  (gI sh I 7 this 8).bind fun x1 =>
  if 0 ≤ x1 then (
    (gI sh I 7 this 8).bind fun x2 =>
    some (12 * x2)) else
  some 0
set_option maxHeartbeats 4000000 in
set_option maxRecDepth 20000 in
theorem jbX7_first_0 (G : GT) {X : XT} {sh : SH} {I : IH} {L : LH} {n : Nat} {r : Int32}  {this : Nat}   (F : MF G X RX7 cX7_first 1 0 (some .int) "first") (h : fX7_first sh I this  = some r) : J G X (QE G X (some (.int r)) sh I L n) 1 sh I L n 0 0 0 [(0, .ref this)] [] := by
  unfold fX7_first at h
  refine j_aload_n (pc := 0) (k0 := 0) F 0 rfl dX7_first_0 ?_
  obtain ⟨x1, hx1, h⟩ := ob h
  refine j_getI (pc := 1) F flX7_35 hx1 dX7_first_1 ?_
  refine j_if_ge (pc := 4) F 11 dX7_first_4 rfl (fun c => ?_) (fun c => ?_)
  · have h := iz_t c h
    refine j_bipush (pc := 11) F 12 dX7_first_11 (by decide) ?_
    refine j_aload_n (pc := 13) (k0 := 0) F 0 rfl dX7_first_13 ?_
    obtain ⟨x2, hx2, h⟩ := ob h
    refine j_getI (pc := 14) F flX7_35 hx2 dX7_first_14 ?_
    refine j_imul (pc := 17) F dX7_first_17 ?_
    have g1 := Option.some.inj h
    subst g1
    exact j_iret (pc := 18) F dX7_first_18
  · have h := iz_f c h
    refine j_iconst (pc := 7) F 0 dX7_first_7 (by decide) ?_
    refine j_goto (pc := 8) F 18 dX7_first_8 rfl ?_
    have g1 := Option.some.inj h
    subst g1
    exact j_iret (pc := 18) F dX7_first_18
theorem ctX7_first (G : GT) {sh : SH} {I : IH} {L : LH} {n : Nat} {this : Nat} {r : Int32}  (h : fX7_first sh I this = some r) : Ct G yX7_first cX7_first 1 (some .int) 0 [.ref this] sh I L n (some (.int r)) sh I L n 0 0 := by
  refine ct_of (y := yX7_first) (by decide +kernel) rfl (fun X F => ?_)
  exact jbX7_first_0 G F h
theorem dX7_behind_0 : decode cX7_behind 0 = .ok (.aload_n 0, 1) := by decide +kernel
theorem dX7_behind_1 : decode cX7_behind 1 = .ok (.getfield 35, 3) := by decide +kernel
theorem dX7_behind_4 : decode cX7_behind 4 = .ok (.ifCond .ge 7, 3) := by decide +kernel
theorem dX7_behind_7 : decode cX7_behind 7 = .ok (.iconst 0, 1) := by decide +kernel
theorem dX7_behind_8 : decode cX7_behind 8 = .ok (.goto 20, 3) := by decide +kernel
theorem dX7_behind_11 : decode cX7_behind 11 = .ok (.bipush 12, 2) := by decide +kernel
theorem dX7_behind_13 : decode cX7_behind 13 = .ok (.aload_n 0, 1) := by decide +kernel
theorem dX7_behind_14 : decode cX7_behind 14 = .ok (.getfield 35, 3) := by decide +kernel
theorem dX7_behind_17 : decode cX7_behind 17 = .ok (.imul, 1) := by decide +kernel
theorem dX7_behind_18 : decode cX7_behind 18 = .ok (.aload_n 0, 1) := by decide +kernel
theorem dX7_behind_19 : decode cX7_behind 19 = .ok (.getfield 50, 3) := by decide +kernel
theorem dX7_behind_22 : decode cX7_behind 22 = .ok (.aload_n 0, 1) := by decide +kernel
theorem dX7_behind_23 : decode cX7_behind 23 = .ok (.getfield 35, 3) := by decide +kernel
theorem dX7_behind_26 : decode cX7_behind 26 = .ok (.iaload, 1) := by decide +kernel
theorem dX7_behind_27 : decode cX7_behind 27 = .ok (.iadd, 1) := by decide +kernel
theorem dX7_behind_28 : decode cX7_behind 28 = .ok (.ireturn, 1) := by decide +kernel
def fX7_behind (sh : SH) (I : IH) (this : Nat) : Option (Int32) :=
  (gI sh I 7 this 8).bind fun x1 =>
  if 0 ≤ x1 then (
    (gI sh I 7 this 8).bind fun x2 =>
    (gR sh 7 this 13).bind fun x3 =>
    (gI sh I 7 this 8).bind fun x4 =>
    (aI sh I 0 x3 x4).bind fun x5 =>
    some ((12 * x2) + x5)) else
  some 0
set_option maxHeartbeats 4000000 in
set_option maxRecDepth 20000 in
theorem jbX7_behind_0 (G : GT) {X : XT} {sh : SH} {I : IH} {L : LH} {n : Nat} {r : Int32}  {this : Nat}   (F : MF G X RX7 cX7_behind 1 0 (some .int) "behind") (h : fX7_behind sh I this  = some r) : J G X (QE G X (some (.int r)) sh I L n) 1 sh I L n 0 0 0 [(0, .ref this)] [] := by
  unfold fX7_behind at h
  refine j_aload_n (pc := 0) (k0 := 0) F 0 rfl dX7_behind_0 ?_
  obtain ⟨x1, hx1, h⟩ := ob h
  refine j_getI (pc := 1) F flX7_35 hx1 dX7_behind_1 ?_
  refine j_if_ge (pc := 4) F 11 dX7_behind_4 rfl (fun c => ?_) (fun c => ?_)
  · have h := iz_t c h
    refine j_bipush (pc := 11) F 12 dX7_behind_11 (by decide) ?_
    refine j_aload_n (pc := 13) (k0 := 0) F 0 rfl dX7_behind_13 ?_
    obtain ⟨x2, hx2, h⟩ := ob h
    refine j_getI (pc := 14) F flX7_35 hx2 dX7_behind_14 ?_
    refine j_imul (pc := 17) F dX7_behind_17 ?_
    refine j_aload_n (pc := 18) (k0 := 0) F 0 rfl dX7_behind_18 ?_
    obtain ⟨x3, hx3, h⟩ := ob h
    refine j_getR (pc := 19) F flX7_50 hx3 dX7_behind_19 ?_
    refine j_aload_n (pc := 22) (k0 := 0) F 0 rfl dX7_behind_22 ?_
    obtain ⟨x4, hx4, h⟩ := ob h
    refine j_getI (pc := 23) F flX7_35 hx4 dX7_behind_23 ?_
    obtain ⟨x5, hx5, h⟩ := ob h
    refine j_iald (pc := 26) F hx5 dX7_behind_26 ?_
    refine j_iadd (pc := 27) F dX7_behind_27 ?_
    have g1 := Option.some.inj h
    subst g1
    exact j_iret (pc := 28) F dX7_behind_28
  · have h := iz_f c h
    refine j_iconst (pc := 7) F 0 dX7_behind_7 (by decide) ?_
    refine j_goto (pc := 8) F 28 dX7_behind_8 rfl ?_
    have g1 := Option.some.inj h
    subst g1
    exact j_iret (pc := 28) F dX7_behind_28
theorem ctX7_behind (G : GT) {sh : SH} {I : IH} {L : LH} {n : Nat} {this : Nat} {r : Int32}  (h : fX7_behind sh I this = some r) : Ct G yX7_behind cX7_behind 1 (some .int) 0 [.ref this] sh I L n (some (.int r)) sh I L n 0 0 := by
  refine ct_of (y := yX7_behind) (by decide +kernel) rfl (fun X F => ?_)
  exact jbX7_behind_0 G F h
theorem dX7_last_0 : decode cX7_last 0 = .ok (.iload_n 3, 1) := by decide +kernel
theorem dX7_last_1 : decode cX7_last 1 = .ok (.istore 4, 2) := by decide +kernel
theorem dX7_last_3 : decode cX7_last 3 = .ok (.aload_n 0, 1) := by decide +kernel
theorem dX7_last_4 : decode cX7_last 4 = .ok (.invokevirtual 274, 3) := by decide +kernel
theorem dX7_last_7 : decode cX7_last 7 = .ok (.istore 5, 2) := by decide +kernel
theorem dX7_last_9 : decode cX7_last 9 = .ok (.iload 5, 2) := by decide +kernel
theorem dX7_last_11 : decode cX7_last 11 = .ok (.aload_n 0, 1) := by decide +kernel
theorem dX7_last_12 : decode cX7_last 12 = .ok (.invokevirtual 277, 3) := by decide +kernel
theorem dX7_last_15 : decode cX7_last 15 = .ok (.if_icmp .ge 45, 3) := by decide +kernel
theorem dX7_last_18 : decode cX7_last 18 = .ok (.aload_n 0, 1) := by decide +kernel
theorem dX7_last_19 : decode cX7_last 19 = .ok (.getfield 53, 3) := by decide +kernel
theorem dX7_last_22 : decode cX7_last 22 = .ok (.iload 5, 2) := by decide +kernel
theorem dX7_last_24 : decode cX7_last 24 = .ok (.iaload, 1) := by decide +kernel
theorem dX7_last_25 : decode cX7_last 25 = .ok (.iload_n 1, 1) := by decide +kernel
theorem dX7_last_26 : decode cX7_last 26 = .ok (.if_icmp .ne 24, 3) := by decide +kernel
theorem dX7_last_29 : decode cX7_last 29 = .ok (.aload_n 0, 1) := by decide +kernel
theorem dX7_last_30 : decode cX7_last 30 = .ok (.getfield 56, 3) := by decide +kernel
theorem dX7_last_33 : decode cX7_last 33 = .ok (.iload 5, 2) := by decide +kernel
theorem dX7_last_35 : decode cX7_last 35 = .ok (.iaload, 1) := by decide +kernel
theorem dX7_last_36 : decode cX7_last 36 = .ok (.iload_n 2, 1) := by decide +kernel
theorem dX7_last_37 : decode cX7_last 37 = .ok (.if_icmp .ne 13, 3) := by decide +kernel
theorem dX7_last_40 : decode cX7_last 40 = .ok (.aload_n 0, 1) := by decide +kernel
theorem dX7_last_41 : decode cX7_last 41 = .ok (.getfield 59, 3) := by decide +kernel
theorem dX7_last_44 : decode cX7_last 44 = .ok (.iload 5, 2) := by decide +kernel
theorem dX7_last_46 : decode cX7_last 46 = .ok (.iaload, 1) := by decide +kernel
theorem dX7_last_47 : decode cX7_last 47 = .ok (.goto 5, 3) := by decide +kernel
theorem dX7_last_50 : decode cX7_last 50 = .ok (.iload 4, 2) := by decide +kernel
theorem dX7_last_52 : decode cX7_last 52 = .ok (.istore 4, 2) := by decide +kernel
theorem dX7_last_54 : decode cX7_last 54 = .ok (.iinc 5 1, 3) := by decide +kernel
theorem dX7_last_57 : decode cX7_last 57 = .ok (.goto (-48), 3) := by decide +kernel
theorem dX7_last_60 : decode cX7_last 60 = .ok (.iload 4, 2) := by decide +kernel
theorem dX7_last_62 : decode cX7_last 62 = .ok (.ireturn, 1) := by decide +kernel
def fX7_last_b9 (sh : SH) (I : IH) (this : Nat) : Nat → Int32 → Int32 → Int32 → Int32 → Option (Int32)
  | 0, _, _, _, _ => none
  | fuel + 1, v1, v2, v4, v5 =>
    (fX7_behind sh I this).bind fun x1 =>
    if x1 ≤ v5 then (
      some v4) else
    (gR sh 7 this 14).bind fun x2 =>
    (aI sh I 0 x2 v5).bind fun x3 =>
    if x3 = v1 then (
      (gR sh 7 this 15).bind fun x4 =>
      (aI sh I 0 x4 v5).bind fun x5 =>
      if x5 = v2 then (
        (gR sh 7 this 16).bind fun x6 =>
        (aI sh I 0 x6 v5).bind fun x7 =>
        fX7_last_b9 sh I this fuel v1 v2 x7 (v5 + 1)) else
      fX7_last_b9 sh I this fuel v1 v2 v4 (v5 + 1)) else
    fX7_last_b9 sh I this fuel v1 v2 v4 (v5 + 1)
def fX7_last (sh : SH) (I : IH) (this : Nat) (v1 : Int32) (v2 : Int32) (v3 : Int32) : Option (Int32) :=
  (fX7_first sh I this).bind fun x1 =>
  fX7_last_b9 sh I this 1000 v1 v2 v3 x1
set_option maxHeartbeats 4000000 in
set_option maxRecDepth 20000 in
theorem jbX7_last_9 (G : GT) {X : XT} {sh : SH} {I : IH} {L : LH} {n : Nat} {r : Int32}  {this : Nat}  (F : MF G X RX7 cX7_last 6 1 (some .int) "last") (hth : isO sh 7 this) : ∀ (fuel : Nat) (v1 : Int32) (v2 : Int32) (v4 : Int32) (v5 : Int32), fX7_last_b9 sh I this fuel v1 v2 v4 v5 = some r → J G X (QE G X (some (.int r)) sh I L n) 6 sh I L n 0 0 9 [(0, .ref this), (1, .int v1), (2, .int v2), (4, .int v4), (5, .int v5)] []
  | 0 => by
    intros
    rename_i h
    exact absurd (show none = some _ from h) (by intro z; cases z)
  | fuel + 1 => by
    intro v1 v2 v4 v5 h
    rw [fX7_last_b9] at h
    refine j_iload (pc := 9) (k0 := 5) F 4 rfl dX7_last_9 ?_
    refine j_aload_n (pc := 11) (k0 := 0) F 0 rfl dX7_last_11 ?_
    obtain ⟨x1, hx1, h⟩ := ob h
    refine j_callV1 (pc := 12) (ci := 7) (As := []) (st := [.int v5]) (e1 := 0) (es1 := 0) F clX7_277 cwX7_behind rfl hth (ctX7_behind G hx1) rfl rfl rfl rfl rfl rfl dX7_last_12 ?_
    refine j_icmp_ge (pc := 15) F 60 dX7_last_15 rfl (fun c => ?_) (fun c => ?_)
    · have h := iz_t c h
      refine j_iload (pc := 60) (k0 := 4) F 3 rfl dX7_last_60 ?_
      have g1 := Option.some.inj h
      subst g1
      exact j_iret (pc := 62) F dX7_last_62
    · have h := iz_f c h
      refine j_aload_n (pc := 18) (k0 := 0) F 0 rfl dX7_last_18 ?_
      obtain ⟨x2, hx2, h⟩ := ob h
      refine j_getR (pc := 19) F flX7_53 hx2 dX7_last_19 ?_
      refine j_iload (pc := 22) (k0 := 5) F 4 rfl dX7_last_22 ?_
      obtain ⟨x3, hx3, h⟩ := ob h
      refine j_iald (pc := 24) F hx3 dX7_last_24 ?_
      refine j_iload_n (pc := 25) (k0 := 1) F 1 rfl dX7_last_25 ?_
      refine j_icmp_ne (pc := 26) F 50 dX7_last_26 rfl (fun c => ?_) (fun c => ?_)
      · have h := iz_f c h
        refine j_iload (pc := 50) (k0 := 4) F 3 rfl dX7_last_50 ?_
        refine j_istore (pc := 52) (k1 := 4) (ls' := [(4, .int v4), (0, .ref this), (1, .int v1), (2, .int v2), (5, .int v5)]) F rfl rfl dX7_last_52 ?_
        refine j_iinc (pc := 54) (k1 := 5) (ls' := [(5, .int (v5 + 1)), (4, .int v4), (0, .ref this), (1, .int v1), (2, .int v2)]) F (v5 + 1) 4 rfl rfl rfl rfl dX7_last_54 ?_
        refine j_goto (pc := 57) F 9 dX7_last_57 rfl ?_
        refine j_sub [2, 3, 4, 1, 0] rfl ?_
        exact jbX7_last_9 G F hth fuel _ _ _ _ h
      · have h := iz_t c h
        refine j_aload_n (pc := 29) (k0 := 0) F 0 rfl dX7_last_29 ?_
        obtain ⟨x4, hx4, h⟩ := ob h
        refine j_getR (pc := 30) F flX7_56 hx4 dX7_last_30 ?_
        refine j_iload (pc := 33) (k0 := 5) F 4 rfl dX7_last_33 ?_
        obtain ⟨x5, hx5, h⟩ := ob h
        refine j_iald (pc := 35) F hx5 dX7_last_35 ?_
        refine j_iload_n (pc := 36) (k0 := 2) F 2 rfl dX7_last_36 ?_
        refine j_icmp_ne (pc := 37) F 50 dX7_last_37 rfl (fun c => ?_) (fun c => ?_)
        · have h := iz_f c h
          refine j_iload (pc := 50) (k0 := 4) F 3 rfl dX7_last_50 ?_
          refine j_istore (pc := 52) (k1 := 4) (ls' := [(4, .int v4), (0, .ref this), (1, .int v1), (2, .int v2), (5, .int v5)]) F rfl rfl dX7_last_52 ?_
          refine j_iinc (pc := 54) (k1 := 5) (ls' := [(5, .int (v5 + 1)), (4, .int v4), (0, .ref this), (1, .int v1), (2, .int v2)]) F (v5 + 1) 4 rfl rfl rfl rfl dX7_last_54 ?_
          refine j_goto (pc := 57) F 9 dX7_last_57 rfl ?_
          refine j_sub [2, 3, 4, 1, 0] rfl ?_
          exact jbX7_last_9 G F hth fuel _ _ _ _ h
        · have h := iz_t c h
          refine j_aload_n (pc := 40) (k0 := 0) F 0 rfl dX7_last_40 ?_
          obtain ⟨x6, hx6, h⟩ := ob h
          refine j_getR (pc := 41) F flX7_59 hx6 dX7_last_41 ?_
          refine j_iload (pc := 44) (k0 := 5) F 4 rfl dX7_last_44 ?_
          obtain ⟨x7, hx7, h⟩ := ob h
          refine j_iald (pc := 46) F hx7 dX7_last_46 ?_
          refine j_goto (pc := 47) F 52 dX7_last_47 rfl ?_
          refine j_istore (pc := 52) (k1 := 4) (ls' := [(4, .int x7), (0, .ref this), (1, .int v1), (2, .int v2), (5, .int v5)]) F rfl rfl dX7_last_52 ?_
          refine j_iinc (pc := 54) (k1 := 5) (ls' := [(5, .int (v5 + 1)), (4, .int x7), (0, .ref this), (1, .int v1), (2, .int v2)]) F (v5 + 1) 4 rfl rfl rfl rfl dX7_last_54 ?_
          refine j_goto (pc := 57) F 9 dX7_last_57 rfl ?_
          refine j_sub [2, 3, 4, 1, 0] rfl ?_
          exact jbX7_last_9 G F hth fuel _ _ _ _ h
set_option maxHeartbeats 4000000 in
set_option maxRecDepth 20000 in
theorem jbX7_last_0 (G : GT) {X : XT} {sh : SH} {I : IH} {L : LH} {n : Nat} {r : Int32}  {this : Nat}  {v1 : Int32} {v2 : Int32} {v3 : Int32} (F : MF G X RX7 cX7_last 6 1 (some .int) "last") (hth : isO sh 7 this) (h : fX7_last sh I this v1 v2 v3 = some r) : J G X (QE G X (some (.int r)) sh I L n) 6 sh I L n 0 0 0 [(0, .ref this), (1, .int v1), (2, .int v2), (3, .int v3)] [] := by
  unfold fX7_last at h
  refine j_iload_n (pc := 0) (k0 := 3) F 3 rfl dX7_last_0 ?_
  refine j_istore (pc := 1) (k1 := 4) (ls' := [(4, .int v3), (0, .ref this), (1, .int v1), (2, .int v2), (3, .int v3)]) F rfl rfl dX7_last_1 ?_
  refine j_aload_n (pc := 3) (k0 := 0) F 1 rfl dX7_last_3 ?_
  obtain ⟨x1, hx1, h⟩ := ob h
  refine j_callV1 (pc := 4) (ci := 7) (As := []) (st := []) (e1 := 0) (es1 := 0) F clX7_274 cwX7_first rfl hth (ctX7_first G hx1) rfl rfl rfl rfl rfl rfl dX7_last_4 ?_
  refine j_istore (pc := 7) (k1 := 5) (ls' := [(5, .int x1), (4, .int v3), (0, .ref this), (1, .int v1), (2, .int v2), (3, .int v3)]) F rfl rfl dX7_last_7 ?_
  refine j_sub [2, 3, 4, 1, 0] rfl ?_
  exact jbX7_last_9 G F hth 1000 _ _ _ _ h
theorem ctX7_last (G : GT) {sh : SH} {I : IH} {L : LH} {n : Nat} {this : Nat} {v1 : Int32} {v2 : Int32} {v3 : Int32} {r : Int32}  (hth : isO sh 7 this) (h : fX7_last sh I this v1 v2 v3 = some r) : Ct G yX7_last cX7_last 6 (some .int) 1 [.ref this, .int v1, .int v2, .int v3] sh I L n (some (.int r)) sh I L n 0 0 := by
  refine ct_of (y := yX7_last) (by decide +kernel) rfl (fun X F => ?_)
  exact jbX7_last_0 G F hth h
theorem dX7_told_0 : decode cX7_told 0 = .ok (.aload_n 0, 1) := by decide +kernel
theorem dX7_told_1 : decode cX7_told 1 = .ok (.iload_n 1, 1) := by decide +kernel
theorem dX7_told_2 : decode cX7_told 2 = .ok (.invokevirtual 219, 3) := by decide +kernel
theorem dX7_told_5 : decode cX7_told 5 = .ok (.ifCond .ne 5, 3) := by decide +kernel
theorem dX7_told_8 : decode cX7_told 8 = .ok (.iconst (-1), 1) := by decide +kernel
theorem dX7_told_9 : decode cX7_told 9 = .ok (.ireturn, 1) := by decide +kernel
theorem dX7_told_10 : decode cX7_told 10 = .ok (.iload_n 2, 1) := by decide +kernel
theorem dX7_told_11 : decode cX7_told 11 = .ok (.tableswitch 68 0 3 #[29, 43, 51, 60], 29) := by decide +kernel
theorem dX7_told_40 : decode cX7_told 40 = .ok (.aload_n 0, 1) := by decide +kernel
theorem dX7_told_41 : decode cX7_told 41 = .ok (.bipush 20, 2) := by decide +kernel
theorem dX7_told_43 : decode cX7_told 43 = .ok (.aload_n 0, 1) := by decide +kernel
theorem dX7_told_44 : decode cX7_told 44 = .ok (.iconst 1, 1) := by decide +kernel
theorem dX7_told_45 : decode cX7_told 45 = .ok (.iload_n 1, 1) := by decide +kernel
theorem dX7_told_46 : decode cX7_told 46 = .ok (.iconst 1, 1) := by decide +kernel
theorem dX7_told_47 : decode cX7_told 47 = .ok (.invokevirtual 280, 3) := by decide +kernel
theorem dX7_told_50 : decode cX7_told 50 = .ok (.invokevirtual 284, 3) := by decide +kernel
theorem dX7_told_53 : decode cX7_told 53 = .ok (.ireturn, 1) := by decide +kernel
theorem dX7_told_54 : decode cX7_told 54 = .ok (.aload_n 0, 1) := by decide +kernel
theorem dX7_told_55 : decode cX7_told 55 = .ok (.iconst 2, 1) := by decide +kernel
theorem dX7_told_56 : decode cX7_told 56 = .ok (.iload_n 1, 1) := by decide +kernel
theorem dX7_told_57 : decode cX7_told 57 = .ok (.iconst 0, 1) := by decide +kernel
theorem dX7_told_58 : decode cX7_told 58 = .ok (.invokevirtual 280, 3) := by decide +kernel
theorem dX7_told_61 : decode cX7_told 61 = .ok (.ireturn, 1) := by decide +kernel
theorem dX7_told_62 : decode cX7_told 62 = .ok (.aload_n 0, 1) := by decide +kernel
theorem dX7_told_63 : decode cX7_told 63 = .ok (.iconst 3, 1) := by decide +kernel
theorem dX7_told_64 : decode cX7_told 64 = .ok (.iload_n 1, 1) := by decide +kernel
theorem dX7_told_65 : decode cX7_told 65 = .ok (.bipush 99, 2) := by decide +kernel
theorem dX7_told_67 : decode cX7_told 67 = .ok (.invokevirtual 280, 3) := by decide +kernel
theorem dX7_told_70 : decode cX7_told 70 = .ok (.ireturn, 1) := by decide +kernel
theorem dX7_told_71 : decode cX7_told 71 = .ok (.aload_n 0, 1) := by decide +kernel
theorem dX7_told_72 : decode cX7_told 72 = .ok (.iconst 4, 1) := by decide +kernel
theorem dX7_told_73 : decode cX7_told 73 = .ok (.iload_n 1, 1) := by decide +kernel
theorem dX7_told_74 : decode cX7_told 74 = .ok (.iconst 0, 1) := by decide +kernel
theorem dX7_told_75 : decode cX7_told 75 = .ok (.invokevirtual 280, 3) := by decide +kernel
theorem dX7_told_78 : decode cX7_told 78 = .ok (.ireturn, 1) := by decide +kernel
theorem dX7_told_79 : decode cX7_told 79 = .ok (.iconst (-1), 1) := by decide +kernel
theorem dX7_told_80 : decode cX7_told 80 = .ok (.ireturn, 1) := by decide +kernel
def fX7_told (sh : SH) (I : IH) (this : Nat) (v1 : Int32) (v2 : Int32) : Option (Int32) :=
  if (fX7_isGate v1) = 0 then (
    some (-1)) else
  if v2 = 0 then (
    (fX7_last sh I this 1 v1 1).bind fun x1 =>
    some (fX7_min 20 x1)) else
  if v2 = 1 then (
    (fX7_last sh I this 2 v1 0).bind fun x2 =>
    some x2) else
  if v2 = 2 then (
    (fX7_last sh I this 3 v1 99).bind fun x3 =>
    some x3) else
  if v2 = 3 then (
    (fX7_last sh I this 4 v1 0).bind fun x4 =>
    some x4) else
  some (-1)
set_option maxHeartbeats 4000000 in
set_option maxRecDepth 20000 in
theorem jbX7_told_0 (G : GT) {X : XT} {sh : SH} {I : IH} {L : LH} {n : Nat} {r : Int32}  {this : Nat}  {v1 : Int32} {v2 : Int32} (F : MF G X RX7 cX7_told 3 2 (some .int) "told") (hth : isO sh 7 this) (h : fX7_told sh I this v1 v2 = some r) : J G X (QE G X (some (.int r)) sh I L n) 3 sh I L n 0 0 0 [(0, .ref this), (1, .int v1), (2, .int v2)] [] := by
  unfold fX7_told at h
  refine j_aload_n (pc := 0) (k0 := 0) F 0 rfl dX7_told_0 ?_
  refine j_iload_n (pc := 1) (k0 := 1) F 1 rfl dX7_told_1 ?_
  refine j_callV1 (pc := 2) (ci := 7) (As := [.int v1]) (st := []) (e1 := 0) (es1 := 0) F clX7_219 cwX7_isGate rfl hth (ctX7_isGate G hth) rfl rfl rfl rfl rfl rfl dX7_told_2 ?_
  refine j_if_ne (pc := 5) F 10 dX7_told_5 rfl (fun c => ?_) (fun c => ?_)
  · have h := iz_f c h
    refine j_iload_n (pc := 10) (k0 := 2) F 2 rfl dX7_told_10 ?_
    by_cases c1 : v2 = 0
    · have h := iz_t c1 h
      refine j_tabIn (pc := 11) (k0 := 0) F 40 c1 dX7_told_11 (by decide) rfl rfl ?_
      refine j_aload_n (pc := 40) (k0 := 0) F 0 rfl dX7_told_40 ?_
      refine j_bipush (pc := 41) F 20 dX7_told_41 (by decide) ?_
      refine j_aload_n (pc := 43) (k0 := 0) F 0 rfl dX7_told_43 ?_
      refine j_iconst (pc := 44) F 1 dX7_told_44 (by decide) ?_
      refine j_iload_n (pc := 45) (k0 := 1) F 1 rfl dX7_told_45 ?_
      refine j_iconst (pc := 46) F 1 dX7_told_46 (by decide) ?_
      obtain ⟨x1, hx1, h⟩ := ob h
      refine j_callV1 (pc := 47) (ci := 7) (As := [.int 1, .int v1, .int 1]) (st := [.int 20, .ref this]) (e1 := 0) (es1 := 0) F clX7_280 cwX7_last rfl hth (ctX7_last G hth hx1) rfl rfl rfl rfl rfl rfl dX7_told_47 ?_
      refine j_callV1 (pc := 50) (ci := 7) (As := [.int 20, .int x1]) (st := []) (e1 := 0) (es1 := 0) F clX7_284 cwX7_min rfl hth (ctX7_min G) rfl rfl rfl rfl rfl rfl dX7_told_50 ?_
      have g1 := Option.some.inj h
      subst g1
      exact j_iret (pc := 53) F dX7_told_53
    have h := iz_f c1 h
    by_cases c2 : v2 = 1
    · have h := iz_t c2 h
      refine j_tabIn (pc := 11) (k0 := 1) F 54 c2 dX7_told_11 (by decide) rfl rfl ?_
      refine j_aload_n (pc := 54) (k0 := 0) F 0 rfl dX7_told_54 ?_
      refine j_iconst (pc := 55) F 2 dX7_told_55 (by decide) ?_
      refine j_iload_n (pc := 56) (k0 := 1) F 1 rfl dX7_told_56 ?_
      refine j_iconst (pc := 57) F 0 dX7_told_57 (by decide) ?_
      obtain ⟨x2, hx2, h⟩ := ob h
      refine j_callV1 (pc := 58) (ci := 7) (As := [.int 2, .int v1, .int 0]) (st := []) (e1 := 0) (es1 := 0) F clX7_280 cwX7_last rfl hth (ctX7_last G hth hx2) rfl rfl rfl rfl rfl rfl dX7_told_58 ?_
      have g1 := Option.some.inj h
      subst g1
      exact j_iret (pc := 61) F dX7_told_61
    have h := iz_f c2 h
    by_cases c3 : v2 = 2
    · have h := iz_t c3 h
      refine j_tabIn (pc := 11) (k0 := 2) F 62 c3 dX7_told_11 (by decide) rfl rfl ?_
      refine j_aload_n (pc := 62) (k0 := 0) F 0 rfl dX7_told_62 ?_
      refine j_iconst (pc := 63) F 3 dX7_told_63 (by decide) ?_
      refine j_iload_n (pc := 64) (k0 := 1) F 1 rfl dX7_told_64 ?_
      refine j_bipush (pc := 65) F 99 dX7_told_65 (by decide) ?_
      obtain ⟨x3, hx3, h⟩ := ob h
      refine j_callV1 (pc := 67) (ci := 7) (As := [.int 3, .int v1, .int 99]) (st := []) (e1 := 0) (es1 := 0) F clX7_280 cwX7_last rfl hth (ctX7_last G hth hx3) rfl rfl rfl rfl rfl rfl dX7_told_67 ?_
      have g1 := Option.some.inj h
      subst g1
      exact j_iret (pc := 70) F dX7_told_70
    have h := iz_f c3 h
    by_cases c4 : v2 = 3
    · have h := iz_t c4 h
      refine j_tabIn (pc := 11) (k0 := 3) F 71 c4 dX7_told_11 (by decide) rfl rfl ?_
      refine j_aload_n (pc := 71) (k0 := 0) F 0 rfl dX7_told_71 ?_
      refine j_iconst (pc := 72) F 4 dX7_told_72 (by decide) ?_
      refine j_iload_n (pc := 73) (k0 := 1) F 1 rfl dX7_told_73 ?_
      refine j_iconst (pc := 74) F 0 dX7_told_74 (by decide) ?_
      obtain ⟨x4, hx4, h⟩ := ob h
      refine j_callV1 (pc := 75) (ci := 7) (As := [.int 4, .int v1, .int 0]) (st := []) (e1 := 0) (es1 := 0) F clX7_280 cwX7_last rfl hth (ctX7_last G hth hx4) rfl rfl rfl rfl rfl rfl dX7_told_75 ?_
      have g1 := Option.some.inj h
      subst g1
      exact j_iret (pc := 78) F dX7_told_78
    have h := iz_f c4 h
    have tc1 := lv_neT (a := 0) c1 (by decide)
    have tc2 := lv_neT (a := 1) c2 (by decide)
    have tc3 := lv_neT (a := 2) c3 (by decide)
    have tc4 := lv_neT (a := 3) c4 (by decide)
    refine j_tabOut (pc := 11) F 79 dX7_told_11 (by omega) rfl ?_
    refine j_iconst (pc := 79) F (-1) dX7_told_79 (by decide) ?_
    have g1 := Option.some.inj h
    subst g1
    exact j_iret (pc := 80) F dX7_told_80
  · have h := iz_t c h
    refine j_iconst (pc := 8) F (-1) dX7_told_8 (by decide) ?_
    have g1 := Option.some.inj h
    subst g1
    exact j_iret (pc := 9) F dX7_told_9
theorem ctX7_told (G : GT) {sh : SH} {I : IH} {L : LH} {n : Nat} {this : Nat} {v1 : Int32} {v2 : Int32} {r : Int32}  (hth : isO sh 7 this) (h : fX7_told sh I this v1 v2 = some r) : Ct G yX7_told cX7_told 3 (some .int) 2 [.ref this, .int v1, .int v2] sh I L n (some (.int r)) sh I L n 0 0 := by
  refine ct_of (y := yX7_told) (by decide +kernel) rfl (fun X F => ?_)
  exact jbX7_told_0 G F hth h
