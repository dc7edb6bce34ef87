/-! decompiled: X0_init, X0_standAt, X0_began, X0_lets, X0_takes, X0_tells, X0_done, J7_fill_53178, X4_init, J9_min_7cf53, X1_init, X1_next, X1_passes, X1_expect, X1_ending, X1_word, X6_isUnder, X1_number, X1_oneOf, X1_whereHolds, X1_both, X1_either, X1_factor, X4_melt -/
theorem dX0_init_0 : decode cX0_init 0 = .ok (.aload_n 0, 1) := by decide +kernel
theorem dX0_init_1 : decode cX0_init 1 = .ok (.invokespecial 3, 3) := by decide +kernel
theorem dX0_init_4 : decode cX0_init 4 = .ok (.aload_n 0, 1) := by decide +kernel
theorem dX0_init_5 : decode cX0_init 5 = .ok (.bipush 20, 2) := by decide +kernel
theorem dX0_init_7 : decode cX0_init 7 = .ok (.newarray .int, 2) := by decide +kernel
theorem dX0_init_9 : decode cX0_init 9 = .ok (.putfield 9, 3) := by decide +kernel
theorem dX0_init_12 : decode cX0_init 12 = .ok (.return_, 1) := by decide +kernel
def fX0_init (this : Nat) (sh : SH) (I : IH) (n : Nat) : Option ((Nat × Nat) × (SH × IH × Nat)) :=
  b2 (nAI sh I n 0 20) fun h1 i2 =>
  addE 1 (20 : Int32).toNatClampNeg (
  (pR h1 0 this 3 n).bind fun h5 =>
  some ((0, 0), (h5, i2, (n + 1))))
set_option maxHeartbeats 4000000 in
set_option maxRecDepth 20000 in
theorem jbX0_init_0 (G : GT) {X : XT} {L : LH} {sh' : SH} {I' : IH} {n' : Nat}  {this : Nat}  {sh : SH} {I : IH} {n : Nat} {e es : Nat} (F : MF G X RX0 cX0_init 1 1 none "<init>") (h : fX0_init this sh I n = some ((e, es), (sh', I', n'))) : J G X (QE G X (none) sh' I' L n') 1 sh I L n e es 0 [(0, .ref this)] [] := by
  unfold fX0_init at h
  refine j_aload_n (pc := 0) (k0 := 0) F 0 rfl dX0_init_0 ?_
  refine j_objInit (pc := 1) F (good_of 217 (by decide +kernel) (by decide +kernel)) rfl rfl dX0_init_1 ?_
  refine j_aload_n (pc := 4) (k0 := 0) F 0 rfl dX0_init_4 ?_
  refine j_bipush (pc := 5) F 20 dX0_init_5 (by decide) ?_
  obtain ⟨h1, i2, hh1, h⟩ := b2_obt h
  obtain ⟨e3, es4, h, he, hes⟩ := addE_obt h
  refine j_newI (pc := 7) F (Or.inl ⟨rfl, rfl⟩) aw_int hh1 he hes dX0_init_7 ?_
  obtain ⟨h5, hh5, h⟩ := ob h
  refine j_putR (pc := 9) (ty := (.array .int)) F ⟨rfl, rfl⟩ flX0_9 fp0_3 (fun _ => ⟨rfl, rfl⟩) hh5 dX0_init_9 ?_
  have g0 := Option.some.inj h
  obtain ⟨hq, g1⟩ := Prod.mk.inj g0
  obtain ⟨q1, q2⟩ := Prod.mk.inj hq
  obtain ⟨q3, g2⟩ := Prod.mk.inj g1
  obtain ⟨q4, g3⟩ := Prod.mk.inj g2
  subst q1
  subst q2
  subst q3
  subst q4
  subst g3
  exact j_vret (pc := 12) F dX0_init_12
theorem ctX0_init (G : GT) {sh : SH} {I : IH} {L : LH} {n : Nat} {this : Nat} {sh' : SH} {I' : IH} {n' : Nat} {e es : Nat}  (h : fX0_init this sh I n = some ((e, es), (sh', I', n'))) : Ct G yX0_init cX0_init 1 none 1 [.ref this] sh I L n (none) sh' I' L n' e es := by
  refine ct_of (y := yX0_init) (by decide +kernel) rfl (fun X F => ?_)
  exact jbX0_init_0 G F h
theorem dX0_standAt_0 : decode cX0_standAt 0 = .ok (.aload_n 0, 1) := by decide +kernel
theorem dX0_standAt_1 : decode cX0_standAt 1 = .ok (.iload_n 1, 1) := by decide +kernel
theorem dX0_standAt_2 : decode cX0_standAt 2 = .ok (.putfield 15, 3) := by decide +kernel
theorem dX0_standAt_5 : decode cX0_standAt 5 = .ok (.aload_n 0, 1) := by decide +kernel
theorem dX0_standAt_6 : decode cX0_standAt 6 = .ok (.aload_n 2, 1) := by decide +kernel
theorem dX0_standAt_7 : decode cX0_standAt 7 = .ok (.iconst 0, 1) := by decide +kernel
theorem dX0_standAt_8 : decode cX0_standAt 8 = .ok (.iaload, 1) := by decide +kernel
theorem dX0_standAt_9 : decode cX0_standAt 9 = .ok (.putfield 19, 3) := by decide +kernel
theorem dX0_standAt_12 : decode cX0_standAt 12 = .ok (.aload_n 0, 1) := by decide +kernel
theorem dX0_standAt_13 : decode cX0_standAt 13 = .ok (.aload_n 2, 1) := by decide +kernel
theorem dX0_standAt_14 : decode cX0_standAt 14 = .ok (.iconst 1, 1) := by decide +kernel
theorem dX0_standAt_15 : decode cX0_standAt 15 = .ok (.iaload, 1) := by decide +kernel
theorem dX0_standAt_16 : decode cX0_standAt 16 = .ok (.putfield 22, 3) := by decide +kernel
theorem dX0_standAt_19 : decode cX0_standAt 19 = .ok (.return_, 1) := by decide +kernel
def fX0_standAt (sh : SH) (this : Nat) (v1 : Int32) (v2 : Nat) (I : IH) : Option (IH) :=
  (pI sh I 0 this 0 v1).bind fun i1 =>
  (aI sh i1 0 v2 0).bind fun x2 =>
  (pI sh i1 0 this 2 x2).bind fun i3 =>
  (aI sh i3 0 v2 1).bind fun x4 =>
  (pI sh i3 0 this 1 x4).bind fun i5 =>
  some i5
set_option maxHeartbeats 4000000 in
set_option maxRecDepth 20000 in
theorem jbX0_standAt_0 (G : GT) {X : XT} {sh : SH} {L : LH} {n : Nat} {I' : IH}  {this : Nat}  {v1 : Int32} {v2 : Nat} {I : IH} (F : MF G X RX0 cX0_standAt 3 0 none "standAt") (h : fX0_standAt sh this v1 v2 I = some I') : J G X (QE G X (none) sh I' L n) 3 sh I L n 0 0 0 [(0, .ref this), (1, .int v1), (2, .ref v2)] [] := by
  unfold fX0_standAt at h
  refine j_aload_n (pc := 0) (k0 := 0) F 0 rfl dX0_standAt_0 ?_
  refine j_iload_n (pc := 1) (k0 := 1) F 1 rfl dX0_standAt_1 ?_
  obtain ⟨i1, hi1, h⟩ := ob h
  refine j_putI (pc := 2) F flX0_15 fp0_0 (fun z => by cases z) hi1 dX0_standAt_2 ?_
  refine j_aload_n (pc := 5) (k0 := 0) F 0 rfl dX0_standAt_5 ?_
  refine j_aload_n (pc := 6) (k0 := 2) F 2 rfl dX0_standAt_6 ?_
  refine j_iconst (pc := 7) F 0 dX0_standAt_7 (by decide) ?_
  obtain ⟨x2, hx2, h⟩ := ob h
  refine j_iald (pc := 8) F hx2 dX0_standAt_8 ?_
  obtain ⟨i3, hi3, h⟩ := ob h
  refine j_putI (pc := 9) F flX0_19 fp0_2 (fun z => by cases z) hi3 dX0_standAt_9 ?_
  refine j_aload_n (pc := 12) (k0 := 0) F 0 rfl dX0_standAt_12 ?_
  refine j_aload_n (pc := 13) (k0 := 2) F 2 rfl dX0_standAt_13 ?_
  refine j_iconst (pc := 14) F 1 dX0_standAt_14 (by decide) ?_
  obtain ⟨x4, hx4, h⟩ := ob h
  refine j_iald (pc := 15) F hx4 dX0_standAt_15 ?_
  obtain ⟨i5, hi5, h⟩ := ob h
  refine j_putI (pc := 16) F flX0_22 fp0_1 (fun z => by cases z) hi5 dX0_standAt_16 ?_
  have g1 := Option.some.inj h
  subst g1
  exact j_vret (pc := 19) F dX0_standAt_19
theorem ctX0_standAt (G : GT) {sh : SH} {I : IH} {L : LH} {n : Nat} {this : Nat} {v1 : Int32} {v2 : Nat} {I' : IH}  (h : fX0_standAt sh this v1 v2 I = some I') : Ct G yX0_standAt cX0_standAt 3 none 0 [.ref this, .int v1, .ref v2] sh I L n (none) sh I' L n 0 0 := by
  refine ct_of (y := yX0_standAt) (by decide +kernel) rfl (fun X F => ?_)
  exact jbX0_standAt_0 G F h
theorem dX0_began_0 : decode cX0_began 0 = .ok (.aload_n 0, 1) := by decide +kernel
theorem dX0_began_1 : decode cX0_began 1 = .ok (.getfield 39, 3) := by decide +kernel
theorem dX0_began_4 : decode cX0_began 4 = .ok (.aload_n 0, 1) := by decide +kernel
theorem dX0_began_5 : decode cX0_began 5 = .ok (.getfield 9, 3) := by decide +kernel
theorem dX0_began_8 : decode cX0_began 8 = .ok (.arraylength, 1) := by decide +kernel
theorem dX0_began_9 : decode cX0_began 9 = .ok (.if_icmp .ge 13, 3) := by decide +kernel
theorem dX0_began_12 : decode cX0_began 12 = .ok (.aload_n 0, 1) := by decide +kernel
theorem dX0_began_13 : decode cX0_began 13 = .ok (.getfield 9, 3) := by decide +kernel
theorem dX0_began_16 : decode cX0_began 16 = .ok (.aload_n 0, 1) := by decide +kernel
theorem dX0_began_17 : decode cX0_began 17 = .ok (.getfield 39, 3) := by decide +kernel
theorem dX0_began_20 : decode cX0_began 20 = .ok (.iload_n 1, 1) := by decide +kernel
theorem dX0_began_21 : decode cX0_began 21 = .ok (.iastore, 1) := by decide +kernel
theorem dX0_began_22 : decode cX0_began 22 = .ok (.aload_n 0, 1) := by decide +kernel
theorem dX0_began_23 : decode cX0_began 23 = .ok (.dup, 1) := by decide +kernel
theorem dX0_began_24 : decode cX0_began 24 = .ok (.getfield 39, 3) := by decide +kernel
theorem dX0_began_27 : decode cX0_began 27 = .ok (.iconst 1, 1) := by decide +kernel
theorem dX0_began_28 : decode cX0_began 28 = .ok (.iadd, 1) := by decide +kernel
theorem dX0_began_29 : decode cX0_began 29 = .ok (.putfield 39, 3) := by decide +kernel
theorem dX0_began_32 : decode cX0_began 32 = .ok (.return_, 1) := by decide +kernel
def fX0_began_b22 (sh : SH) (this : Nat) (I : IH) : Option (IH) :=
  (gI sh I 0 this 4).bind fun x1 =>
  (pI sh I 0 this 4 (x1 + 1)).bind fun i2 =>
  some i2
def fX0_began (sh : SH) (this : Nat) (v1 : Int32) (I : IH) : Option (IH) :=
  (gI sh I 0 this 4).bind fun x1 =>
  (gR sh 0 this 3).bind fun x2 =>
  (aL sh x2).bind fun x3 =>
  if x3 ≤ x1 then (
    fX0_began_b22 sh this I) else
  (gR sh 0 this 3).bind fun x4 =>
  (gI sh I 0 this 4).bind fun x5 =>
  (sI sh I x4 x5 v1).bind fun i6 =>
  fX0_began_b22 sh this i6
set_option maxHeartbeats 4000000 in
set_option maxRecDepth 20000 in
theorem jbX0_began_22 (G : GT) {X : XT} {sh : SH} {L : LH} {n : Nat} {I' : IH}  {this : Nat}  {I : IH} (F : MF G X RX0 cX0_began 2 0 none "began") (h : fX0_began_b22 sh this I = some I') : J G X (QE G X (none) sh I' L n) 2 sh I L n 0 0 22 [(0, .ref this)] [] := by
  unfold fX0_began_b22 at h
  refine j_aload_n (pc := 22) (k0 := 0) F 0 rfl dX0_began_22 ?_
  refine j_dup (pc := 23) F dX0_began_23 rfl ?_
  obtain ⟨x1, hx1, h⟩ := ob h
  refine j_getI (pc := 24) F flX0_39 hx1 dX0_began_24 ?_
  refine j_iconst (pc := 27) F 1 dX0_began_27 (by decide) ?_
  refine j_iadd (pc := 28) F dX0_began_28 ?_
  obtain ⟨i2, hi2, h⟩ := ob h
  refine j_putI (pc := 29) F flX0_39 fp0_4 (fun z => by cases z) hi2 dX0_began_29 ?_
  have g1 := Option.some.inj h
  subst g1
  exact j_vret (pc := 32) F dX0_began_32
set_option maxHeartbeats 4000000 in
set_option maxRecDepth 20000 in
theorem jbX0_began_0 (G : GT) {X : XT} {sh : SH} {L : LH} {n : Nat} {I' : IH}  {this : Nat}  {v1 : Int32} {I : IH} (F : MF G X RX0 cX0_began 2 0 none "began") (h : fX0_began sh this v1 I = some I') : J G X (QE G X (none) sh I' L n) 2 sh I L n 0 0 0 [(0, .ref this), (1, .int v1)] [] := by
  unfold fX0_began at h
  refine j_aload_n (pc := 0) (k0 := 0) F 0 rfl dX0_began_0 ?_
  obtain ⟨x1, hx1, h⟩ := ob h
  refine j_getI (pc := 1) F flX0_39 hx1 dX0_began_1 ?_
  refine j_aload_n (pc := 4) (k0 := 0) F 0 rfl dX0_began_4 ?_
  obtain ⟨x2, hx2, h⟩ := ob h
  refine j_getR (pc := 5) F flX0_9 hx2 dX0_began_5 ?_
  obtain ⟨x3, hx3, h⟩ := ob h
  refine j_alen (pc := 8) F hx3 dX0_began_8 ?_
  refine j_icmp_ge (pc := 9) F 22 dX0_began_9 rfl (fun c => ?_) (fun c => ?_)
  · have h := iz_t c h
    refine j_sub [0] rfl ?_
    exact jbX0_began_22 G F h
  · have h := iz_f c h
    refine j_aload_n (pc := 12) (k0 := 0) F 0 rfl dX0_began_12 ?_
    obtain ⟨x4, hx4, h⟩ := ob h
    refine j_getR (pc := 13) F flX0_9 hx4 dX0_began_13 ?_
    refine j_aload_n (pc := 16) (k0 := 0) F 0 rfl dX0_began_16 ?_
    obtain ⟨x5, hx5, h⟩ := ob h
    refine j_getI (pc := 17) F flX0_39 hx5 dX0_began_17 ?_
    refine j_iload_n (pc := 20) (k0 := 1) F 1 rfl dX0_began_20 ?_
    obtain ⟨i6, hi6, h⟩ := ob h
    refine j_iast (pc := 21) F hi6 dX0_began_21 ?_
    refine j_sub [0] rfl ?_
    exact jbX0_began_22 G F h
theorem ctX0_began (G : GT) {sh : SH} {I : IH} {L : LH} {n : Nat} {this : Nat} {v1 : Int32} {I' : IH}  (h : fX0_began sh this v1 I = some I') : Ct G yX0_began cX0_began 2 none 0 [.ref this, .int v1] sh I L n (none) sh I' L n 0 0 := by
  refine ct_of (y := yX0_began) (by decide +kernel) rfl (fun X F => ?_)
  exact jbX0_began_0 G F h
theorem dX0_lets_0 : decode cX0_lets 0 = .ok (.iload_n 1, 1) := by decide +kernel
theorem dX0_lets_1 : decode cX0_lets 1 = .ok (.tableswitch 82 2 6 #[35, 82, 50, 35, 64], 35) := by decide +kernel
theorem dX0_lets_36 : decode cX0_lets 36 = .ok (.aload_n 0, 1) := by decide +kernel
theorem dX0_lets_37 : decode cX0_lets 37 = .ok (.bipush 30, 2) := by decide +kernel
theorem dX0_lets_39 : decode cX0_lets 39 = .ok (.invokevirtual 35, 3) := by decide +kernel
theorem dX0_lets_42 : decode cX0_lets 42 = .ok (.aload_n 0, 1) := by decide +kernel
theorem dX0_lets_43 : decode cX0_lets 43 = .ok (.iconst 0, 1) := by decide +kernel
theorem dX0_lets_44 : decode cX0_lets 44 = .ok (.iload_n 2, 1) := by decide +kernel
theorem dX0_lets_45 : decode cX0_lets 45 = .ok (.iconst 3, 1) := by decide +kernel
theorem dX0_lets_46 : decode cX0_lets 46 = .ok (.imul, 1) := by decide +kernel
theorem dX0_lets_47 : decode cX0_lets 47 = .ok (.invokevirtual 25, 3) := by decide +kernel
theorem dX0_lets_50 : decode cX0_lets 50 = .ok (.ireturn, 1) := by decide +kernel
theorem dX0_lets_51 : decode cX0_lets 51 = .ok (.aload_n 0, 1) := by decide +kernel
theorem dX0_lets_52 : decode cX0_lets 52 = .ok (.bipush 50, 2) := by decide +kernel
theorem dX0_lets_54 : decode cX0_lets 54 = .ok (.invokevirtual 35, 3) := by decide +kernel
theorem dX0_lets_57 : decode cX0_lets 57 = .ok (.aload_n 0, 1) := by decide +kernel
theorem dX0_lets_58 : decode cX0_lets 58 = .ok (.iconst 1, 1) := by decide +kernel
theorem dX0_lets_59 : decode cX0_lets 59 = .ok (.iload_n 2, 1) := by decide +kernel
theorem dX0_lets_60 : decode cX0_lets 60 = .ok (.invokevirtual 25, 3) := by decide +kernel
theorem dX0_lets_63 : decode cX0_lets 63 = .ok (.ineg, 1) := by decide +kernel
theorem dX0_lets_64 : decode cX0_lets 64 = .ok (.ireturn, 1) := by decide +kernel
theorem dX0_lets_65 : decode cX0_lets 65 = .ok (.aload_n 0, 1) := by decide +kernel
theorem dX0_lets_66 : decode cX0_lets 66 = .ok (.bipush 71, 2) := by decide +kernel
theorem dX0_lets_68 : decode cX0_lets 68 = .ok (.invokevirtual 35, 3) := by decide +kernel
theorem dX0_lets_71 : decode cX0_lets 71 = .ok (.aload_n 0, 1) := by decide +kernel
theorem dX0_lets_72 : decode cX0_lets 72 = .ok (.iconst 3, 1) := by decide +kernel
theorem dX0_lets_73 : decode cX0_lets 73 = .ok (.iload_n 2, 1) := by decide +kernel
theorem dX0_lets_74 : decode cX0_lets 74 = .ok (.invokevirtual 25, 3) := by decide +kernel
theorem dX0_lets_77 : decode cX0_lets 77 = .ok (.aload_n 0, 1) := by decide +kernel
theorem dX0_lets_78 : decode cX0_lets 78 = .ok (.getfield 22, 3) := by decide +kernel
theorem dX0_lets_81 : decode cX0_lets 81 = .ok (.ixor, 1) := by decide +kernel
theorem dX0_lets_82 : decode cX0_lets 82 = .ok (.ireturn, 1) := by decide +kernel
theorem dX0_lets_83 : decode cX0_lets 83 = .ok (.aload_n 0, 1) := by decide +kernel
theorem dX0_lets_84 : decode cX0_lets 84 = .ok (.bipush 10, 2) := by decide +kernel
theorem dX0_lets_86 : decode cX0_lets 86 = .ok (.invokevirtual 35, 3) := by decide +kernel
theorem dX0_lets_89 : decode cX0_lets 89 = .ok (.iload_n 2, 1) := by decide +kernel
theorem dX0_lets_90 : decode cX0_lets 90 = .ok (.aload_n 0, 1) := by decide +kernel
theorem dX0_lets_91 : decode cX0_lets 91 = .ok (.getfield 15, 3) := by decide +kernel
theorem dX0_lets_94 : decode cX0_lets 94 = .ok (.iadd, 1) := by decide +kernel
theorem dX0_lets_95 : decode cX0_lets 95 = .ok (.ireturn, 1) := by decide +kernel
def fX0_lets_b0 (sh : SH) (this : Nat) (rc : (Nat → Int32 → Int32 → IH → Option (Int32 × IH))) (v1 : Int32) (v2 : Int32) (I : IH) : Option (Int32 × IH) :=
  if v1 = 2 then (
    (fX0_began sh this 30 I).bind fun i1 =>
    b2 (rc this 0 (v2 * 3) i1) fun x2 i3 =>
    some (x2, i3)) else
  if v1 = 4 then (
    (fX0_began sh this 50 I).bind fun i4 =>
    b2 (rc this 1 v2 i4) fun x5 i6 =>
    some ((-x5), i6)) else
  if v1 = 5 then (
    (fX0_began sh this 30 I).bind fun i7 =>
    b2 (rc this 0 (v2 * 3) i7) fun x8 i9 =>
    some (x8, i9)) else
  if v1 = 6 then (
    (fX0_began sh this 71 I).bind fun i10 =>
    b2 (rc this 3 v2 i10) fun x11 i12 =>
    (gI sh i12 0 this 1).bind fun x13 =>
    some ((x11 ^^^ x13), i12)) else
  (fX0_began sh this 10 I).bind fun i14 =>
  (gI sh i14 0 this 0).bind fun x15 =>
  some ((v2 + x15), i14)
def fX0_lets (sh : SH) : Nat → Nat → Int32 → Int32 → IH → Option (Int32 × IH)
  | 0, _, _, _, _ => none
  | dp + 1, this, v1, v2, I => fX0_lets_b0 sh this (fX0_lets sh dp) v1 v2 I
set_option maxHeartbeats 4000000 in
set_option maxRecDepth 20000 in
theorem jbX0_lets_0 (G : GT) {X : XT} {dR : Nat} {sh : SH} {L : LH} {n : Nat} {r : Int32} {I' : IH}  {this : Nat} {rc : (Nat → Int32 → Int32 → IH → Option (Int32 × IH))} {v1 : Int32} {v2 : Int32} {I : IH} (F : MF G X RX0 cX0_lets 3 (dR + 10) (some .int) "lets") (hth : isO sh 0 this) (hrc : ∀ {I : IH} {L : LH} {n : Nat} {this : Nat} {v1 : Int32} {v2 : Int32} {r : Int32} {I' : IH} , isO sh 0 this → rc this v1 v2 I = some (r, I') → Ct G yX0_lets cX0_lets 3 (some .int) dR [.ref this, .int v1, .int v2] sh I L n (some (.int r)) sh I' L n 0 0) (hb9 : 0 ≤ dR) (h : fX0_lets_b0 sh this rc v1 v2 I = some (r, I')) : J G X (QE G X (some (.int r)) sh I' L n) 3 sh I L n 0 0 0 [(0, .ref this), (1, .int v1), (2, .int v2)] [] := by
  unfold fX0_lets_b0 at h
  refine j_iload_n (pc := 0) (k0 := 1) F 1 rfl dX0_lets_0 ?_
  by_cases c1 : v1 = 2
  · have h := iz_t c1 h
    refine j_tabIn (pc := 1) (k0 := 2) F 36 c1 dX0_lets_1 (by decide) rfl rfl ?_
    refine j_aload_n (pc := 36) (k0 := 0) F 0 rfl dX0_lets_36 ?_
    refine j_bipush (pc := 37) F 30 dX0_lets_37 (by decide) ?_
    obtain ⟨i1, hi1, h⟩ := ob h
    refine j_callV0 (pc := 39) (ci := 0) (As := [.int 30]) (st := []) (e1 := 0) (es1 := 0) F clX0_35 cwX0_began rfl hth (ctX0_began G hi1) (dok_of (by omega) (by decide)) rfl rfl rfl rfl rfl dX0_lets_39 ?_
    refine j_aload_n (pc := 42) (k0 := 0) F 0 rfl dX0_lets_42 ?_
    refine j_iconst (pc := 43) F 0 dX0_lets_43 (by decide) ?_
    refine j_iload_n (pc := 44) (k0 := 2) F 2 rfl dX0_lets_44 ?_
    refine j_iconst (pc := 45) F 3 dX0_lets_45 (by decide) ?_
    refine j_imul (pc := 46) F dX0_lets_46 ?_
    obtain ⟨x2, i3, hx2, h⟩ := b2_obt h
    refine j_callV1 (pc := 47) (ci := 0) (As := [.int 0, .int (v2 * 3)]) (st := []) (e1 := 0) (es1 := 0) F clX0_25 cwX0_lets rfl hth (hrc hth hx2) (dok_of (by omega) (by decide)) rfl rfl rfl rfl rfl dX0_lets_47 ?_
    have g1 := Option.some.inj h
    obtain ⟨q3, g2⟩ := Prod.mk.inj g1
    subst q3
    subst g2
    exact j_iret (pc := 50) F dX0_lets_50
  have h := iz_f c1 h
  by_cases c2 : v1 = 4
  · have h := iz_t c2 h
    refine j_tabIn (pc := 1) (k0 := 4) F 51 c2 dX0_lets_1 (by decide) rfl rfl ?_
    refine j_aload_n (pc := 51) (k0 := 0) F 0 rfl dX0_lets_51 ?_
    refine j_bipush (pc := 52) F 50 dX0_lets_52 (by decide) ?_
    obtain ⟨i4, hi4, h⟩ := ob h
    refine j_callV0 (pc := 54) (ci := 0) (As := [.int 50]) (st := []) (e1 := 0) (es1 := 0) F clX0_35 cwX0_began rfl hth (ctX0_began G hi4) (dok_of (by omega) (by decide)) rfl rfl rfl rfl rfl dX0_lets_54 ?_
    refine j_aload_n (pc := 57) (k0 := 0) F 0 rfl dX0_lets_57 ?_
    refine j_iconst (pc := 58) F 1 dX0_lets_58 (by decide) ?_
    refine j_iload_n (pc := 59) (k0 := 2) F 2 rfl dX0_lets_59 ?_
    obtain ⟨x5, i6, hx5, h⟩ := b2_obt h
    refine j_callV1 (pc := 60) (ci := 0) (As := [.int 1, .int v2]) (st := []) (e1 := 0) (es1 := 0) F clX0_25 cwX0_lets rfl hth (hrc hth hx5) (dok_of (by omega) (by decide)) rfl rfl rfl rfl rfl dX0_lets_60 ?_
    refine j_ineg (pc := 63) F dX0_lets_63 ?_
    have g1 := Option.some.inj h
    obtain ⟨q3, g2⟩ := Prod.mk.inj g1
    subst q3
    subst g2
    exact j_iret (pc := 64) F dX0_lets_64
  have h := iz_f c2 h
  by_cases c3 : v1 = 5
  · have h := iz_t c3 h
    refine j_tabIn (pc := 1) (k0 := 5) F 36 c3 dX0_lets_1 (by decide) rfl rfl ?_
    refine j_aload_n (pc := 36) (k0 := 0) F 0 rfl dX0_lets_36 ?_
    refine j_bipush (pc := 37) F 30 dX0_lets_37 (by decide) ?_
    obtain ⟨i7, hi7, h⟩ := ob h
    refine j_callV0 (pc := 39) (ci := 0) (As := [.int 30]) (st := []) (e1 := 0) (es1 := 0) F clX0_35 cwX0_began rfl hth (ctX0_began G hi7) (dok_of (by omega) (by decide)) rfl rfl rfl rfl rfl dX0_lets_39 ?_
    refine j_aload_n (pc := 42) (k0 := 0) F 0 rfl dX0_lets_42 ?_
    refine j_iconst (pc := 43) F 0 dX0_lets_43 (by decide) ?_
    refine j_iload_n (pc := 44) (k0 := 2) F 2 rfl dX0_lets_44 ?_
    refine j_iconst (pc := 45) F 3 dX0_lets_45 (by decide) ?_
    refine j_imul (pc := 46) F dX0_lets_46 ?_
    obtain ⟨x8, i9, hx8, h⟩ := b2_obt h
    refine j_callV1 (pc := 47) (ci := 0) (As := [.int 0, .int (v2 * 3)]) (st := []) (e1 := 0) (es1 := 0) F clX0_25 cwX0_lets rfl hth (hrc hth hx8) (dok_of (by omega) (by decide)) rfl rfl rfl rfl rfl dX0_lets_47 ?_
    have g1 := Option.some.inj h
    obtain ⟨q3, g2⟩ := Prod.mk.inj g1
    subst q3
    subst g2
    exact j_iret (pc := 50) F dX0_lets_50
  have h := iz_f c3 h
  by_cases c4 : v1 = 6
  · have h := iz_t c4 h
    refine j_tabIn (pc := 1) (k0 := 6) F 65 c4 dX0_lets_1 (by decide) rfl rfl ?_
    refine j_aload_n (pc := 65) (k0 := 0) F 0 rfl dX0_lets_65 ?_
    refine j_bipush (pc := 66) F 71 dX0_lets_66 (by decide) ?_
    obtain ⟨i10, hi10, h⟩ := ob h
    refine j_callV0 (pc := 68) (ci := 0) (As := [.int 71]) (st := []) (e1 := 0) (es1 := 0) F clX0_35 cwX0_began rfl hth (ctX0_began G hi10) (dok_of (by omega) (by decide)) rfl rfl rfl rfl rfl dX0_lets_68 ?_
    refine j_aload_n (pc := 71) (k0 := 0) F 0 rfl dX0_lets_71 ?_
    refine j_iconst (pc := 72) F 3 dX0_lets_72 (by decide) ?_
    refine j_iload_n (pc := 73) (k0 := 2) F 2 rfl dX0_lets_73 ?_
    obtain ⟨x11, i12, hx11, h⟩ := b2_obt h
    refine j_callV1 (pc := 74) (ci := 0) (As := [.int 3, .int v2]) (st := []) (e1 := 0) (es1 := 0) F clX0_25 cwX0_lets rfl hth (hrc hth hx11) (dok_of (by omega) (by decide)) rfl rfl rfl rfl rfl dX0_lets_74 ?_
    refine j_aload_n (pc := 77) (k0 := 0) F 0 rfl dX0_lets_77 ?_
    obtain ⟨x13, hx13, h⟩ := ob h
    refine j_getI (pc := 78) F flX0_22 hx13 dX0_lets_78 ?_
    refine j_ixor (pc := 81) F dX0_lets_81 ?_
    have g1 := Option.some.inj h
    obtain ⟨q3, g2⟩ := Prod.mk.inj g1
    subst q3
    subst g2
    exact j_iret (pc := 82) F dX0_lets_82
  have h := iz_f c4 h
  by_cases d1 : v1 = 3
  · refine j_tabIn (pc := 1) (k0 := 3) F 83 d1 dX0_lets_1 (by decide) rfl rfl ?_
    refine j_aload_n (pc := 83) (k0 := 0) F 0 rfl dX0_lets_83 ?_
    refine j_bipush (pc := 84) F 10 dX0_lets_84 (by decide) ?_
    obtain ⟨i14, hi14, h⟩ := ob h
    refine j_callV0 (pc := 86) (ci := 0) (As := [.int 10]) (st := []) (e1 := 0) (es1 := 0) F clX0_35 cwX0_began rfl hth (ctX0_began G hi14) (dok_of (by omega) (by decide)) rfl rfl rfl rfl rfl dX0_lets_86 ?_
    refine j_iload_n (pc := 89) (k0 := 2) F 2 rfl dX0_lets_89 ?_
    refine j_aload_n (pc := 90) (k0 := 0) F 0 rfl dX0_lets_90 ?_
    obtain ⟨x15, hx15, h⟩ := ob h
    refine j_getI (pc := 91) F flX0_15 hx15 dX0_lets_91 ?_
    refine j_iadd (pc := 94) F dX0_lets_94 ?_
    have g1 := Option.some.inj h
    obtain ⟨q3, g2⟩ := Prod.mk.inj g1
    subst q3
    subst g2
    exact j_iret (pc := 95) F dX0_lets_95
  have tc1 := lv_neT (a := 2) c1 (by decide)
  have tc2 := lv_neT (a := 4) c2 (by decide)
  have tc3 := lv_neT (a := 5) c3 (by decide)
  have tc4 := lv_neT (a := 6) c4 (by decide)
  have td1 := lv_neT (a := 3) d1 (by decide)
  refine j_tabOut (pc := 1) F 83 dX0_lets_1 (by omega) rfl ?_
  refine j_aload_n (pc := 83) (k0 := 0) F 0 rfl dX0_lets_83 ?_
  refine j_bipush (pc := 84) F 10 dX0_lets_84 (by decide) ?_
  obtain ⟨i14, hi14, h⟩ := ob h
  refine j_callV0 (pc := 86) (ci := 0) (As := [.int 10]) (st := []) (e1 := 0) (es1 := 0) F clX0_35 cwX0_began rfl hth (ctX0_began G hi14) (dok_of (by omega) (by decide)) rfl rfl rfl rfl rfl dX0_lets_86 ?_
  refine j_iload_n (pc := 89) (k0 := 2) F 2 rfl dX0_lets_89 ?_
  refine j_aload_n (pc := 90) (k0 := 0) F 0 rfl dX0_lets_90 ?_
  obtain ⟨x15, hx15, h⟩ := ob h
  refine j_getI (pc := 91) F flX0_15 hx15 dX0_lets_91 ?_
  refine j_iadd (pc := 94) F dX0_lets_94 ?_
  have g1 := Option.some.inj h
  obtain ⟨q3, g2⟩ := Prod.mk.inj g1
  subst q3
  subst g2
  exact j_iret (pc := 95) F dX0_lets_95
theorem ctX0_lets (G : GT) : ∀ (dp : Nat) (sh : SH) (I : IH) (L : LH) (n : Nat) (this : Nat) (v1 : Int32) (v2 : Int32) (r : Int32) (I' : IH) , isO sh 0 this → fX0_lets sh dp this v1 v2 I = some (r, I') → Ct G yX0_lets cX0_lets 3 (some .int) (0 + 10 * dp) [.ref this, .int v1, .int v2] sh I L n (some (.int r)) sh I' L n 0 0
  | 0 => by
    intros
    rename_i h
    exact absurd (show none = some _ from h) (by intro z; cases z)
  | dp + 1 => by
    intro sh I L n this v1 v2 r I' hth h
    refine ct_of (y := yX0_lets) (by decide +kernel) rfl (fun X F => ?_)
    exact jbX0_lets_0 G F hth (hrc := fun hth h => ctX0_lets G dp _ _ _ _ _ _ _ _ _ hth h) (Nat.le_add_right _ _) h
theorem dX0_takes_0 : decode cX0_takes 0 = .ok (.iload_n 1, 1) := by decide +kernel
theorem dX0_takes_1 : decode cX0_takes 1 = .ok (.lookupswitch 86 #[(1, 35), (4, 51), (6, 66)], 35) := by decide +kernel
theorem dX0_takes_36 : decode cX0_takes 36 = .ok (.aload_n 0, 1) := by decide +kernel
theorem dX0_takes_37 : decode cX0_takes 37 = .ok (.bipush 20, 2) := by decide +kernel
theorem dX0_takes_39 : decode cX0_takes 39 = .ok (.invokevirtual 35, 3) := by decide +kernel
theorem dX0_takes_42 : decode cX0_takes 42 = .ok (.aload_n 0, 1) := by decide +kernel
theorem dX0_takes_43 : decode cX0_takes 43 = .ok (.iconst 0, 1) := by decide +kernel
theorem dX0_takes_44 : decode cX0_takes 44 = .ok (.iload_n 2, 1) := by decide +kernel
theorem dX0_takes_45 : decode cX0_takes 45 = .ok (.invokevirtual 29, 3) := by decide +kernel
theorem dX0_takes_48 : decode cX0_takes 48 = .ok (.bipush 6, 2) := by decide +kernel
theorem dX0_takes_50 : decode cX0_takes 50 = .ok (.ixor, 1) := by decide +kernel
theorem dX0_takes_51 : decode cX0_takes 51 = .ok (.ireturn, 1) := by decide +kernel
theorem dX0_takes_52 : decode cX0_takes 52 = .ok (.aload_n 0, 1) := by decide +kernel
theorem dX0_takes_53 : decode cX0_takes 53 = .ok (.bipush 51, 2) := by decide +kernel
theorem dX0_takes_55 : decode cX0_takes 55 = .ok (.invokevirtual 35, 3) := by decide +kernel
theorem dX0_takes_58 : decode cX0_takes 58 = .ok (.aload_n 0, 1) := by decide +kernel
theorem dX0_takes_59 : decode cX0_takes 59 = .ok (.iconst 1, 1) := by decide +kernel
theorem dX0_takes_60 : decode cX0_takes 60 = .ok (.iload_n 2, 1) := by decide +kernel
theorem dX0_takes_61 : decode cX0_takes 61 = .ok (.iconst 1, 1) := by decide +kernel
theorem dX0_takes_62 : decode cX0_takes 62 = .ok (.iadd, 1) := by decide +kernel
theorem dX0_takes_63 : decode cX0_takes 63 = .ok (.invokevirtual 29, 3) := by decide +kernel
theorem dX0_takes_66 : decode cX0_takes 66 = .ok (.ireturn, 1) := by decide +kernel
theorem dX0_takes_67 : decode cX0_takes 67 = .ok (.aload_n 0, 1) := by decide +kernel
theorem dX0_takes_68 : decode cX0_takes 68 = .ok (.bipush 70, 2) := by decide +kernel
theorem dX0_takes_70 : decode cX0_takes 70 = .ok (.invokevirtual 35, 3) := by decide +kernel
theorem dX0_takes_73 : decode cX0_takes 73 = .ok (.aload_n 0, 1) := by decide +kernel
theorem dX0_takes_74 : decode cX0_takes 74 = .ok (.iconst 3, 1) := by decide +kernel
theorem dX0_takes_75 : decode cX0_takes 75 = .ok (.iload_n 2, 1) := by decide +kernel
theorem dX0_takes_76 : decode cX0_takes 76 = .ok (.invokevirtual 29, 3) := by decide +kernel
theorem dX0_takes_79 : decode cX0_takes 79 = .ok (.aload_n 0, 1) := by decide +kernel
theorem dX0_takes_80 : decode cX0_takes 80 = .ok (.iconst 3, 1) := by decide +kernel
theorem dX0_takes_81 : decode cX0_takes 81 = .ok (.iconst 2, 1) := by decide +kernel
theorem dX0_takes_82 : decode cX0_takes 82 = .ok (.invokevirtual 25, 3) := by decide +kernel
theorem dX0_takes_85 : decode cX0_takes 85 = .ok (.iadd, 1) := by decide +kernel
theorem dX0_takes_86 : decode cX0_takes 86 = .ok (.ireturn, 1) := by decide +kernel
theorem dX0_takes_87 : decode cX0_takes 87 = .ok (.aload_n 0, 1) := by decide +kernel
theorem dX0_takes_88 : decode cX0_takes 88 = .ok (.bipush 11, 2) := by decide +kernel
theorem dX0_takes_90 : decode cX0_takes 90 = .ok (.invokevirtual 35, 3) := by decide +kernel
theorem dX0_takes_93 : decode cX0_takes 93 = .ok (.aload_n 0, 1) := by decide +kernel
theorem dX0_takes_94 : decode cX0_takes 94 = .ok (.aload_n 0, 1) := by decide +kernel
theorem dX0_takes_95 : decode cX0_takes 95 = .ok (.getfield 19, 3) := by decide +kernel
theorem dX0_takes_98 : decode cX0_takes 98 = .ok (.iload_n 2, 1) := by decide +kernel
theorem dX0_takes_99 : decode cX0_takes 99 = .ok (.invokevirtual 25, 3) := by decide +kernel
theorem dX0_takes_102 : decode cX0_takes 102 = .ok (.aload_n 0, 1) := by decide +kernel
theorem dX0_takes_103 : decode cX0_takes 103 = .ok (.getfield 22, 3) := by decide +kernel
theorem dX0_takes_106 : decode cX0_takes 106 = .ok (.isub, 1) := by decide +kernel
theorem dX0_takes_107 : decode cX0_takes 107 = .ok (.ireturn, 1) := by decide +kernel
def fX0_takes_b0 (sh : SH) (this : Nat) (rc : (Nat → Int32 → Int32 → IH → Option (Int32 × IH))) (v1 : Int32) (v2 : Int32) (I : IH) : Option (Int32 × IH) :=
  if v1 = 1 then (
    (fX0_began sh this 20 I).bind fun i1 =>
    b2 (rc this 0 v2 i1) fun x2 i3 =>
    some ((x2 ^^^ 6), i3)) else
  if v1 = 4 then (
    (fX0_began sh this 51 I).bind fun i4 =>
    b2 (rc this 1 (v2 + 1) i4) fun x5 i6 =>
    some (x5, i6)) else
  if v1 = 6 then (
    (fX0_began sh this 70 I).bind fun i7 =>
    b2 (rc this 3 v2 i7) fun x8 i9 =>
    b2 (fX0_lets sh 6 this 3 2 i9) fun x10 i11 =>
    some ((x8 + x10), i11)) else
  (fX0_began sh this 11 I).bind fun i12 =>
  (gI sh i12 0 this 2).bind fun x13 =>
  b2 (fX0_lets sh 6 this x13 v2 i12) fun x14 i15 =>
  (gI sh i15 0 this 1).bind fun x16 =>
  some ((x14 - x16), i15)
def fX0_takes (sh : SH) : Nat → Nat → Int32 → Int32 → IH → Option (Int32 × IH)
  | 0, _, _, _, _ => none
  | dp + 1, this, v1, v2, I => fX0_takes_b0 sh this (fX0_takes sh dp) v1 v2 I
set_option maxHeartbeats 4000000 in
set_option maxRecDepth 20000 in
theorem jbX0_takes_0 (G : GT) {X : XT} {dR : Nat} {sh : SH} {L : LH} {n : Nat} {r : Int32} {I' : IH}  {this : Nat} {rc : (Nat → Int32 → Int32 → IH → Option (Int32 × IH))} {v1 : Int32} {v2 : Int32} {I : IH} (F : MF G X RX0 cX0_takes 3 (dR + 10) (some .int) "takes") (hth : isO sh 0 this) (hrc : ∀ {I : IH} {L : LH} {n : Nat} {this : Nat} {v1 : Int32} {v2 : Int32} {r : Int32} {I' : IH} , isO sh 0 this → rc this v1 v2 I = some (r, I') → Ct G yX0_takes cX0_takes 3 (some .int) dR [.ref this, .int v1, .int v2] sh I L n (some (.int r)) sh I' L n 0 0) (hb9 : 60 ≤ dR) (h : fX0_takes_b0 sh this rc v1 v2 I = some (r, I')) : J G X (QE G X (some (.int r)) sh I' L n) 3 sh I L n 0 0 0 [(0, .ref this), (1, .int v1), (2, .int v2)] [] := by
  unfold fX0_takes_b0 at h
  refine j_iload_n (pc := 0) (k0 := 1) F 1 rfl dX0_takes_0 ?_
  by_cases c1 : v1 = 1
  · have h := iz_t c1 h
    refine j_look (pc := 1) F 36 dX0_takes_1 rfl (by first | (rw [c1]; done) | (rw [c1]; rfl)) rfl ?_
    refine j_aload_n (pc := 36) (k0 := 0) F 0 rfl dX0_takes_36 ?_
    refine j_bipush (pc := 37) F 20 dX0_takes_37 (by decide) ?_
    obtain ⟨i1, hi1, h⟩ := ob h
    refine j_callV0 (pc := 39) (ci := 0) (As := [.int 20]) (st := []) (e1 := 0) (es1 := 0) F clX0_35 cwX0_began rfl hth (ctX0_began G hi1) (dok_of (by omega) (by decide)) rfl rfl rfl rfl rfl dX0_takes_39 ?_
    refine j_aload_n (pc := 42) (k0 := 0) F 0 rfl dX0_takes_42 ?_
    refine j_iconst (pc := 43) F 0 dX0_takes_43 (by decide) ?_
    refine j_iload_n (pc := 44) (k0 := 2) F 2 rfl dX0_takes_44 ?_
    obtain ⟨x2, i3, hx2, h⟩ := b2_obt h
    refine j_callV1 (pc := 45) (ci := 0) (As := [.int 0, .int v2]) (st := []) (e1 := 0) (es1 := 0) F clX0_29 cwX0_takes rfl hth (hrc hth hx2) (dok_of (by omega) (by decide)) rfl rfl rfl rfl rfl dX0_takes_45 ?_
    refine j_bipush (pc := 48) F 6 dX0_takes_48 (by decide) ?_
    refine j_ixor (pc := 50) F dX0_takes_50 ?_
    have g1 := Option.some.inj h
    obtain ⟨q3, g2⟩ := Prod.mk.inj g1
    subst q3
    subst g2
    exact j_iret (pc := 51) F dX0_takes_51
  have h := iz_f c1 h
  by_cases c2 : v1 = 4
  · have h := iz_t c2 h
    refine j_look (pc := 1) F 52 dX0_takes_1 rfl ((lv_osw c1 rfl).trans (by first | (rw [c2]; done) | (rw [c2]; rfl))) rfl ?_
    refine j_aload_n (pc := 52) (k0 := 0) F 0 rfl dX0_takes_52 ?_
    refine j_bipush (pc := 53) F 51 dX0_takes_53 (by decide) ?_
    obtain ⟨i4, hi4, h⟩ := ob h
    refine j_callV0 (pc := 55) (ci := 0) (As := [.int 51]) (st := []) (e1 := 0) (es1 := 0) F clX0_35 cwX0_began rfl hth (ctX0_began G hi4) (dok_of (by omega) (by decide)) rfl rfl rfl rfl rfl dX0_takes_55 ?_
    refine j_aload_n (pc := 58) (k0 := 0) F 0 rfl dX0_takes_58 ?_
    refine j_iconst (pc := 59) F 1 dX0_takes_59 (by decide) ?_
    refine j_iload_n (pc := 60) (k0 := 2) F 2 rfl dX0_takes_60 ?_
    refine j_iconst (pc := 61) F 1 dX0_takes_61 (by decide) ?_
    refine j_iadd (pc := 62) F dX0_takes_62 ?_
    obtain ⟨x5, i6, hx5, h⟩ := b2_obt h
    refine j_callV1 (pc := 63) (ci := 0) (As := [.int 1, .int (v2 + 1)]) (st := []) (e1 := 0) (es1 := 0) F clX0_29 cwX0_takes rfl hth (hrc hth hx5) (dok_of (by omega) (by decide)) rfl rfl rfl rfl rfl dX0_takes_63 ?_
    have g1 := Option.some.inj h
    obtain ⟨q3, g2⟩ := Prod.mk.inj g1
    subst q3
    subst g2
    exact j_iret (pc := 66) F dX0_takes_66
  have h := iz_f c2 h
  by_cases c3 : v1 = 6
  · have h := iz_t c3 h
    refine j_look (pc := 1) F 67 dX0_takes_1 rfl ((lv_osw c1 rfl).trans ((lv_osw c2 rfl).trans (by first | (rw [c3]; done) | (rw [c3]; rfl)))) rfl ?_
    refine j_aload_n (pc := 67) (k0 := 0) F 0 rfl dX0_takes_67 ?_
    refine j_bipush (pc := 68) F 70 dX0_takes_68 (by decide) ?_
    obtain ⟨i7, hi7, h⟩ := ob h
    refine j_callV0 (pc := 70) (ci := 0) (As := [.int 70]) (st := []) (e1 := 0) (es1 := 0) F clX0_35 cwX0_began rfl hth (ctX0_began G hi7) (dok_of (by omega) (by decide)) rfl rfl rfl rfl rfl dX0_takes_70 ?_
    refine j_aload_n (pc := 73) (k0 := 0) F 0 rfl dX0_takes_73 ?_
    refine j_iconst (pc := 74) F 3 dX0_takes_74 (by decide) ?_
    refine j_iload_n (pc := 75) (k0 := 2) F 2 rfl dX0_takes_75 ?_
    obtain ⟨x8, i9, hx8, h⟩ := b2_obt h
    refine j_callV1 (pc := 76) (ci := 0) (As := [.int 3, .int v2]) (st := []) (e1 := 0) (es1 := 0) F clX0_29 cwX0_takes rfl hth (hrc hth hx8) (dok_of (by omega) (by decide)) rfl rfl rfl rfl rfl dX0_takes_76 ?_
    refine j_aload_n (pc := 79) (k0 := 0) F 0 rfl dX0_takes_79 ?_
    refine j_iconst (pc := 80) F 3 dX0_takes_80 (by decide) ?_
    refine j_iconst (pc := 81) F 2 dX0_takes_81 (by decide) ?_
    obtain ⟨x10, i11, hx10, h⟩ := b2_obt h
    refine j_callV1 (pc := 82) (ci := 0) (As := [.int 3, .int 2]) (st := [.int x8]) (e1 := 0) (es1 := 0) F clX0_25 cwX0_lets rfl hth (ctX0_lets G 6 _ _ _ _ _ _ _ _ _ hth hx10) (dok_of (by omega) (by decide)) rfl rfl rfl rfl rfl dX0_takes_82 ?_
    refine j_iadd (pc := 85) F dX0_takes_85 ?_
    have g1 := Option.some.inj h
    obtain ⟨q3, g2⟩ := Prod.mk.inj g1
    subst q3
    subst g2
    exact j_iret (pc := 86) F dX0_takes_86
  have h := iz_f c3 h
  refine j_look (pc := 1) F 87 dX0_takes_1 rfl ((lv_osw c1 rfl).trans ((lv_osw c2 rfl).trans ((lv_osw c3 rfl).trans (rfl)))) rfl ?_
  refine j_aload_n (pc := 87) (k0 := 0) F 0 rfl dX0_takes_87 ?_
  refine j_bipush (pc := 88) F 11 dX0_takes_88 (by decide) ?_
  obtain ⟨i12, hi12, h⟩ := ob h
  refine j_callV0 (pc := 90) (ci := 0) (As := [.int 11]) (st := []) (e1 := 0) (es1 := 0) F clX0_35 cwX0_began rfl hth (ctX0_began G hi12) (dok_of (by omega) (by decide)) rfl rfl rfl rfl rfl dX0_takes_90 ?_
  refine j_aload_n (pc := 93) (k0 := 0) F 0 rfl dX0_takes_93 ?_
  refine j_aload_n (pc := 94) (k0 := 0) F 0 rfl dX0_takes_94 ?_
  obtain ⟨x13, hx13, h⟩ := ob h
  refine j_getI (pc := 95) F flX0_19 hx13 dX0_takes_95 ?_
  refine j_iload_n (pc := 98) (k0 := 2) F 2 rfl dX0_takes_98 ?_
  obtain ⟨x14, i15, hx14, h⟩ := b2_obt h
  refine j_callV1 (pc := 99) (ci := 0) (As := [.int x13, .int v2]) (st := []) (e1 := 0) (es1 := 0) F clX0_25 cwX0_lets rfl hth (ctX0_lets G 6 _ _ _ _ _ _ _ _ _ hth hx14) (dok_of (by omega) (by decide)) rfl rfl rfl rfl rfl dX0_takes_99 ?_
  refine j_aload_n (pc := 102) (k0 := 0) F 0 rfl dX0_takes_102 ?_
  obtain ⟨x16, hx16, h⟩ := ob h
  refine j_getI (pc := 103) F flX0_22 hx16 dX0_takes_103 ?_
  refine j_isub (pc := 106) F dX0_takes_106 ?_
  have g1 := Option.some.inj h
  obtain ⟨q3, g2⟩ := Prod.mk.inj g1
  subst q3
  subst g2
  exact j_iret (pc := 107) F dX0_takes_107
theorem ctX0_takes (G : GT) : ∀ (dp : Nat) (sh : SH) (I : IH) (L : LH) (n : Nat) (this : Nat) (v1 : Int32) (v2 : Int32) (r : Int32) (I' : IH) , isO sh 0 this → fX0_takes sh dp this v1 v2 I = some (r, I') → Ct G yX0_takes cX0_takes 3 (some .int) (60 + 10 * dp) [.ref this, .int v1, .int v2] sh I L n (some (.int r)) sh I' L n 0 0
  | 0 => by
    intros
    rename_i h
    exact absurd (show none = some _ from h) (by intro z; cases z)
  | dp + 1 => by
    intro sh I L n this v1 v2 r I' hth h
    refine ct_of (y := yX0_takes) (by decide +kernel) rfl (fun X F => ?_)
    exact jbX0_takes_0 G F hth (hrc := fun hth h => ctX0_takes G dp _ _ _ _ _ _ _ _ _ hth h) (Nat.le_add_right _ _) h
theorem dX0_tells_0 : decode cX0_tells 0 = .ok (.iload_n 1, 1) := by decide +kernel
theorem dX0_tells_1 : decode cX0_tells 1 = .ok (.tableswitch 72 3 6 #[31, 72, 54, 31], 31) := by decide +kernel
theorem dX0_tells_32 : decode cX0_tells 32 = .ok (.aload_n 0, 1) := by decide +kernel
theorem dX0_tells_33 : decode cX0_tells 33 = .ok (.bipush 40, 2) := by decide +kernel
theorem dX0_tells_35 : decode cX0_tells 35 = .ok (.invokevirtual 35, 3) := by decide +kernel
theorem dX0_tells_38 : decode cX0_tells 38 = .ok (.aload_n 0, 1) := by decide +kernel
theorem dX0_tells_39 : decode cX0_tells 39 = .ok (.iconst 0, 1) := by decide +kernel
theorem dX0_tells_40 : decode cX0_tells 40 = .ok (.iload_n 2, 1) := by decide +kernel
theorem dX0_tells_41 : decode cX0_tells 41 = .ok (.invokevirtual 32, 3) := by decide +kernel
theorem dX0_tells_44 : decode cX0_tells 44 = .ok (.aload_n 0, 1) := by decide +kernel
theorem dX0_tells_45 : decode cX0_tells 45 = .ok (.aload_n 0, 1) := by decide +kernel
theorem dX0_tells_46 : decode cX0_tells 46 = .ok (.getfield 19, 3) := by decide +kernel
theorem dX0_tells_49 : decode cX0_tells 49 = .ok (.iconst 1, 1) := by decide +kernel
theorem dX0_tells_50 : decode cX0_tells 50 = .ok (.invokevirtual 29, 3) := by decide +kernel
theorem dX0_tells_53 : decode cX0_tells 53 = .ok (.iadd, 1) := by decide +kernel
theorem dX0_tells_54 : decode cX0_tells 54 = .ok (.ireturn, 1) := by decide +kernel
theorem dX0_tells_55 : decode cX0_tells 55 = .ok (.aload_n 0, 1) := by decide +kernel
theorem dX0_tells_56 : decode cX0_tells 56 = .ok (.bipush 60, 2) := by decide +kernel
theorem dX0_tells_58 : decode cX0_tells 58 = .ok (.invokevirtual 35, 3) := by decide +kernel
theorem dX0_tells_61 : decode cX0_tells 61 = .ok (.aload_n 0, 1) := by decide +kernel
theorem dX0_tells_62 : decode cX0_tells 62 = .ok (.iconst 2, 1) := by decide +kernel
theorem dX0_tells_63 : decode cX0_tells 63 = .ok (.iload_n 2, 1) := by decide +kernel
theorem dX0_tells_64 : decode cX0_tells 64 = .ok (.aload_n 0, 1) := by decide +kernel
theorem dX0_tells_65 : decode cX0_tells 65 = .ok (.getfield 15, 3) := by decide +kernel
theorem dX0_tells_68 : decode cX0_tells 68 = .ok (.isub, 1) := by decide +kernel
theorem dX0_tells_69 : decode cX0_tells 69 = .ok (.invokevirtual 32, 3) := by decide +kernel
theorem dX0_tells_72 : decode cX0_tells 72 = .ok (.ireturn, 1) := by decide +kernel
theorem dX0_tells_73 : decode cX0_tells 73 = .ok (.aload_n 0, 1) := by decide +kernel
theorem dX0_tells_74 : decode cX0_tells 74 = .ok (.bipush 12, 2) := by decide +kernel
theorem dX0_tells_76 : decode cX0_tells 76 = .ok (.invokevirtual 35, 3) := by decide +kernel
theorem dX0_tells_79 : decode cX0_tells 79 = .ok (.aload_n 0, 1) := by decide +kernel
theorem dX0_tells_80 : decode cX0_tells 80 = .ok (.aload_n 0, 1) := by decide +kernel
theorem dX0_tells_81 : decode cX0_tells 81 = .ok (.getfield 19, 3) := by decide +kernel
theorem dX0_tells_84 : decode cX0_tells 84 = .ok (.iload_n 2, 1) := by decide +kernel
theorem dX0_tells_85 : decode cX0_tells 85 = .ok (.invokevirtual 29, 3) := by decide +kernel
theorem dX0_tells_88 : decode cX0_tells 88 = .ok (.iconst 2, 1) := by decide +kernel
theorem dX0_tells_89 : decode cX0_tells 89 = .ok (.imul, 1) := by decide +kernel
theorem dX0_tells_90 : decode cX0_tells 90 = .ok (.ireturn, 1) := by decide +kernel
def fX0_tells_b0 (sh : SH) (this : Nat) (rc : (Nat → Int32 → Int32 → IH → Option (Int32 × IH))) (v1 : Int32) (v2 : Int32) (I : IH) : Option (Int32 × IH) :=
  if v1 = 3 then (
    (fX0_began sh this 40 I).bind fun i1 =>
    b2 (rc this 0 v2 i1) fun x2 i3 =>
    (gI sh i3 0 this 2).bind fun x4 =>
    b2 (fX0_takes sh 6 this x4 1 i3) fun x5 i6 =>
    some ((x2 + x5), i6)) else
  if v1 = 5 then (
    (fX0_began sh this 60 I).bind fun i7 =>
    (gI sh i7 0 this 0).bind fun x8 =>
    b2 (rc this 2 (v2 - x8) i7) fun x9 i10 =>
    some (x9, i10)) else
  if v1 = 6 then (
    (fX0_began sh this 40 I).bind fun i11 =>
    b2 (rc this 0 v2 i11) fun x12 i13 =>
    (gI sh i13 0 this 2).bind fun x14 =>
    b2 (fX0_takes sh 6 this x14 1 i13) fun x15 i16 =>
    some ((x12 + x15), i16)) else
  (fX0_began sh this 12 I).bind fun i17 =>
  (gI sh i17 0 this 2).bind fun x18 =>
  b2 (fX0_takes sh 6 this x18 v2 i17) fun x19 i20 =>
  some ((x19 * 2), i20)
def fX0_tells (sh : SH) : Nat → Nat → Int32 → Int32 → IH → Option (Int32 × IH)
  | 0, _, _, _, _ => none
  | dp + 1, this, v1, v2, I => fX0_tells_b0 sh this (fX0_tells sh dp) v1 v2 I
set_option maxHeartbeats 4000000 in
set_option maxRecDepth 20000 in
theorem jbX0_tells_0 (G : GT) {X : XT} {dR : Nat} {sh : SH} {L : LH} {n : Nat} {r : Int32} {I' : IH}  {this : Nat} {rc : (Nat → Int32 → Int32 → IH → Option (Int32 × IH))} {v1 : Int32} {v2 : Int32} {I : IH} (F : MF G X RX0 cX0_tells 3 (dR + 10) (some .int) "tells") (hth : isO sh 0 this) (hrc : ∀ {I : IH} {L : LH} {n : Nat} {this : Nat} {v1 : Int32} {v2 : Int32} {r : Int32} {I' : IH} , isO sh 0 this → rc this v1 v2 I = some (r, I') → Ct G yX0_tells cX0_tells 3 (some .int) dR [.ref this, .int v1, .int v2] sh I L n (some (.int r)) sh I' L n 0 0) (hb9 : 120 ≤ dR) (h : fX0_tells_b0 sh this rc v1 v2 I = some (r, I')) : J G X (QE G X (some (.int r)) sh I' L n) 3 sh I L n 0 0 0 [(0, .ref this), (1, .int v1), (2, .int v2)] [] := by
  unfold fX0_tells_b0 at h
  refine j_iload_n (pc := 0) (k0 := 1) F 1 rfl dX0_tells_0 ?_
  by_cases c1 : v1 = 3
  · have h := iz_t c1 h
    refine j_tabIn (pc := 1) (k0 := 3) F 32 c1 dX0_tells_1 (by decide) rfl rfl ?_
    refine j_aload_n (pc := 32) (k0 := 0) F 0 rfl dX0_tells_32 ?_
    refine j_bipush (pc := 33) F 40 dX0_tells_33 (by decide) ?_
    obtain ⟨i1, hi1, h⟩ := ob h
    refine j_callV0 (pc := 35) (ci := 0) (As := [.int 40]) (st := []) (e1 := 0) (es1 := 0) F clX0_35 cwX0_began rfl hth (ctX0_began G hi1) (dok_of (by omega) (by decide)) rfl rfl rfl rfl rfl dX0_tells_35 ?_
    refine j_aload_n (pc := 38) (k0 := 0) F 0 rfl dX0_tells_38 ?_
    refine j_iconst (pc := 39) F 0 dX0_tells_39 (by decide) ?_
    refine j_iload_n (pc := 40) (k0 := 2) F 2 rfl dX0_tells_40 ?_
    obtain ⟨x2, i3, hx2, h⟩ := b2_obt h
    refine j_callV1 (pc := 41) (ci := 0) (As := [.int 0, .int v2]) (st := []) (e1 := 0) (es1 := 0) F clX0_32 cwX0_tells rfl hth (hrc hth hx2) (dok_of (by omega) (by decide)) rfl rfl rfl rfl rfl dX0_tells_41 ?_
    refine j_aload_n (pc := 44) (k0 := 0) F 0 rfl dX0_tells_44 ?_
    refine j_aload_n (pc := 45) (k0 := 0) F 0 rfl dX0_tells_45 ?_
    obtain ⟨x4, hx4, h⟩ := ob h
    refine j_getI (pc := 46) F flX0_19 hx4 dX0_tells_46 ?_
    refine j_iconst (pc := 49) F 1 dX0_tells_49 (by decide) ?_
    obtain ⟨x5, i6, hx5, h⟩ := b2_obt h
    refine j_callV1 (pc := 50) (ci := 0) (As := [.int x4, .int 1]) (st := [.int x2]) (e1 := 0) (es1 := 0) F clX0_29 cwX0_takes rfl hth (ctX0_takes G 6 _ _ _ _ _ _ _ _ _ hth hx5) (dok_of (by omega) (by decide)) rfl rfl rfl rfl rfl dX0_tells_50 ?_
    refine j_iadd (pc := 53) F dX0_tells_53 ?_
    have g1 := Option.some.inj h
    obtain ⟨q3, g2⟩ := Prod.mk.inj g1
    subst q3
    subst g2
    exact j_iret (pc := 54) F dX0_tells_54
  have h := iz_f c1 h
  by_cases c2 : v1 = 5
  · have h := iz_t c2 h
    refine j_tabIn (pc := 1) (k0 := 5) F 55 c2 dX0_tells_1 (by decide) rfl rfl ?_
    refine j_aload_n (pc := 55) (k0 := 0) F 0 rfl dX0_tells_55 ?_
    refine j_bipush (pc := 56) F 60 dX0_tells_56 (by decide) ?_
    obtain ⟨i7, hi7, h⟩ := ob h
    refine j_callV0 (pc := 58) (ci := 0) (As := [.int 60]) (st := []) (e1 := 0) (es1 := 0) F clX0_35 cwX0_began rfl hth (ctX0_began G hi7) (dok_of (by omega) (by decide)) rfl rfl rfl rfl rfl dX0_tells_58 ?_
    refine j_aload_n (pc := 61) (k0 := 0) F 0 rfl dX0_tells_61 ?_
    refine j_iconst (pc := 62) F 2 dX0_tells_62 (by decide) ?_
    refine j_iload_n (pc := 63) (k0 := 2) F 2 rfl dX0_tells_63 ?_
    refine j_aload_n (pc := 64) (k0 := 0) F 0 rfl dX0_tells_64 ?_
    obtain ⟨x8, hx8, h⟩ := ob h
    refine j_getI (pc := 65) F flX0_15 hx8 dX0_tells_65 ?_
    refine j_isub (pc := 68) F dX0_tells_68 ?_
    obtain ⟨x9, i10, hx9, h⟩ := b2_obt h
    refine j_callV1 (pc := 69) (ci := 0) (As := [.int 2, .int (v2 - x8)]) (st := []) (e1 := 0) (es1 := 0) F clX0_32 cwX0_tells rfl hth (hrc hth hx9) (dok_of (by omega) (by decide)) rfl rfl rfl rfl rfl dX0_tells_69 ?_
    have g1 := Option.some.inj h
    obtain ⟨q3, g2⟩ := Prod.mk.inj g1
    subst q3
    subst g2
    exact j_iret (pc := 72) F dX0_tells_72
  have h := iz_f c2 h
  by_cases c3 : v1 = 6
  · have h := iz_t c3 h
    refine j_tabIn (pc := 1) (k0 := 6) F 32 c3 dX0_tells_1 (by decide) rfl rfl ?_
    refine j_aload_n (pc := 32) (k0 := 0) F 0 rfl dX0_tells_32 ?_
    refine j_bipush (pc := 33) F 40 dX0_tells_33 (by decide) ?_
    obtain ⟨i11, hi11, h⟩ := ob h
    refine j_callV0 (pc := 35) (ci := 0) (As := [.int 40]) (st := []) (e1 := 0) (es1 := 0) F clX0_35 cwX0_began rfl hth (ctX0_began G hi11) (dok_of (by omega) (by decide)) rfl rfl rfl rfl rfl dX0_tells_35 ?_
    refine j_aload_n (pc := 38) (k0 := 0) F 0 rfl dX0_tells_38 ?_
    refine j_iconst (pc := 39) F 0 dX0_tells_39 (by decide) ?_
    refine j_iload_n (pc := 40) (k0 := 2) F 2 rfl dX0_tells_40 ?_
    obtain ⟨x12, i13, hx12, h⟩ := b2_obt h
    refine j_callV1 (pc := 41) (ci := 0) (As := [.int 0, .int v2]) (st := []) (e1 := 0) (es1 := 0) F clX0_32 cwX0_tells rfl hth (hrc hth hx12) (dok_of (by omega) (by decide)) rfl rfl rfl rfl rfl dX0_tells_41 ?_
    refine j_aload_n (pc := 44) (k0 := 0) F 0 rfl dX0_tells_44 ?_
    refine j_aload_n (pc := 45) (k0 := 0) F 0 rfl dX0_tells_45 ?_
    obtain ⟨x14, hx14, h⟩ := ob h
    refine j_getI (pc := 46) F flX0_19 hx14 dX0_tells_46 ?_
    refine j_iconst (pc := 49) F 1 dX0_tells_49 (by decide) ?_
    obtain ⟨x15, i16, hx15, h⟩ := b2_obt h
    refine j_callV1 (pc := 50) (ci := 0) (As := [.int x14, .int 1]) (st := [.int x12]) (e1 := 0) (es1 := 0) F clX0_29 cwX0_takes rfl hth (ctX0_takes G 6 _ _ _ _ _ _ _ _ _ hth hx15) (dok_of (by omega) (by decide)) rfl rfl rfl rfl rfl dX0_tells_50 ?_
    refine j_iadd (pc := 53) F dX0_tells_53 ?_
    have g1 := Option.some.inj h
    obtain ⟨q3, g2⟩ := Prod.mk.inj g1
    subst q3
    subst g2
    exact j_iret (pc := 54) F dX0_tells_54
  have h := iz_f c3 h
  by_cases d1 : v1 = 4
  · refine j_tabIn (pc := 1) (k0 := 4) F 73 d1 dX0_tells_1 (by decide) rfl rfl ?_
    refine j_aload_n (pc := 73) (k0 := 0) F 0 rfl dX0_tells_73 ?_
    refine j_bipush (pc := 74) F 12 dX0_tells_74 (by decide) ?_
    obtain ⟨i17, hi17, h⟩ := ob h
    refine j_callV0 (pc := 76) (ci := 0) (As := [.int 12]) (st := []) (e1 := 0) (es1 := 0) F clX0_35 cwX0_began rfl hth (ctX0_began G hi17) (dok_of (by omega) (by decide)) rfl rfl rfl rfl rfl dX0_tells_76 ?_
    refine j_aload_n (pc := 79) (k0 := 0) F 0 rfl dX0_tells_79 ?_
    refine j_aload_n (pc := 80) (k0 := 0) F 0 rfl dX0_tells_80 ?_
    obtain ⟨x18, hx18, h⟩ := ob h
    refine j_getI (pc := 81) F flX0_19 hx18 dX0_tells_81 ?_
    refine j_iload_n (pc := 84) (k0 := 2) F 2 rfl dX0_tells_84 ?_
    obtain ⟨x19, i20, hx19, h⟩ := b2_obt h
    refine j_callV1 (pc := 85) (ci := 0) (As := [.int x18, .int v2]) (st := []) (e1 := 0) (es1 := 0) F clX0_29 cwX0_takes rfl hth (ctX0_takes G 6 _ _ _ _ _ _ _ _ _ hth hx19) (dok_of (by omega) (by decide)) rfl rfl rfl rfl rfl dX0_tells_85 ?_
    refine j_iconst (pc := 88) F 2 dX0_tells_88 (by decide) ?_
    refine j_imul (pc := 89) F dX0_tells_89 ?_
    have g1 := Option.some.inj h
    obtain ⟨q3, g2⟩ := Prod.mk.inj g1
    subst q3
    subst g2
    exact j_iret (pc := 90) F dX0_tells_90
  have tc1 := lv_neT (a := 3) c1 (by decide)
  have tc2 := lv_neT (a := 5) c2 (by decide)
  have tc3 := lv_neT (a := 6) c3 (by decide)
  have td1 := lv_neT (a := 4) d1 (by decide)
  refine j_tabOut (pc := 1) F 73 dX0_tells_1 (by omega) rfl ?_
  refine j_aload_n (pc := 73) (k0 := 0) F 0 rfl dX0_tells_73 ?_
  refine j_bipush (pc := 74) F 12 dX0_tells_74 (by decide) ?_
  obtain ⟨i17, hi17, h⟩ := ob h
  refine j_callV0 (pc := 76) (ci := 0) (As := [.int 12]) (st := []) (e1 := 0) (es1 := 0) F clX0_35 cwX0_began rfl hth (ctX0_began G hi17) (dok_of (by omega) (by decide)) rfl rfl rfl rfl rfl dX0_tells_76 ?_
  refine j_aload_n (pc := 79) (k0 := 0) F 0 rfl dX0_tells_79 ?_
  refine j_aload_n (pc := 80) (k0 := 0) F 0 rfl dX0_tells_80 ?_
  obtain ⟨x18, hx18, h⟩ := ob h
  refine j_getI (pc := 81) F flX0_19 hx18 dX0_tells_81 ?_
  refine j_iload_n (pc := 84) (k0 := 2) F 2 rfl dX0_tells_84 ?_
  obtain ⟨x19, i20, hx19, h⟩ := b2_obt h
  refine j_callV1 (pc := 85) (ci := 0) (As := [.int x18, .int v2]) (st := []) (e1 := 0) (es1 := 0) F clX0_29 cwX0_takes rfl hth (ctX0_takes G 6 _ _ _ _ _ _ _ _ _ hth hx19) (dok_of (by omega) (by decide)) rfl rfl rfl rfl rfl dX0_tells_85 ?_
  refine j_iconst (pc := 88) F 2 dX0_tells_88 (by decide) ?_
  refine j_imul (pc := 89) F dX0_tells_89 ?_
  have g1 := Option.some.inj h
  obtain ⟨q3, g2⟩ := Prod.mk.inj g1
  subst q3
  subst g2
  exact j_iret (pc := 90) F dX0_tells_90
theorem ctX0_tells (G : GT) : ∀ (dp : Nat) (sh : SH) (I : IH) (L : LH) (n : Nat) (this : Nat) (v1 : Int32) (v2 : Int32) (r : Int32) (I' : IH) , isO sh 0 this → fX0_tells sh dp this v1 v2 I = some (r, I') → Ct G yX0_tells cX0_tells 3 (some .int) (120 + 10 * dp) [.ref this, .int v1, .int v2] sh I L n (some (.int r)) sh I' L n 0 0
  | 0 => by
    intros
    rename_i h
    exact absurd (show none = some _ from h) (by intro z; cases z)
  | dp + 1 => by
    intro sh I L n this v1 v2 r I' hth h
    refine ct_of (y := yX0_tells) (by decide +kernel) rfl (fun X F => ?_)
    exact jbX0_tells_0 G F hth (hrc := fun hth h => ctX0_tells G dp _ _ _ _ _ _ _ _ _ hth h) (Nat.le_add_right _ _) h
theorem dX0_done_0 : decode cX0_done 0 = .ok (.iload_n 1, 1) := by decide +kernel
theorem dX0_done_1 : decode cX0_done 1 = .ok (.lookupswitch 47 #[(0, 27), (1, 37)], 27) := by decide +kernel
theorem dX0_done_28 : decode cX0_done 28 = .ok (.aload_n 0, 1) := by decide +kernel
theorem dX0_done_29 : decode cX0_done 29 = .ok (.aload_n 0, 1) := by decide +kernel
theorem dX0_done_30 : decode cX0_done 30 = .ok (.getfield 19, 3) := by decide +kernel
theorem dX0_done_33 : decode cX0_done 33 = .ok (.iload_n 2, 1) := by decide +kernel
theorem dX0_done_34 : decode cX0_done 34 = .ok (.invokevirtual 25, 3) := by decide +kernel
theorem dX0_done_37 : decode cX0_done 37 = .ok (.ireturn, 1) := by decide +kernel
theorem dX0_done_38 : decode cX0_done 38 = .ok (.aload_n 0, 1) := by decide +kernel
theorem dX0_done_39 : decode cX0_done 39 = .ok (.aload_n 0, 1) := by decide +kernel
theorem dX0_done_40 : decode cX0_done 40 = .ok (.getfield 19, 3) := by decide +kernel
theorem dX0_done_43 : decode cX0_done 43 = .ok (.iload_n 2, 1) := by decide +kernel
theorem dX0_done_44 : decode cX0_done 44 = .ok (.invokevirtual 29, 3) := by decide +kernel
theorem dX0_done_47 : decode cX0_done 47 = .ok (.ireturn, 1) := by decide +kernel
theorem dX0_done_48 : decode cX0_done 48 = .ok (.aload_n 0, 1) := by decide +kernel
theorem dX0_done_49 : decode cX0_done 49 = .ok (.aload_n 0, 1) := by decide +kernel
theorem dX0_done_50 : decode cX0_done 50 = .ok (.getfield 19, 3) := by decide +kernel
theorem dX0_done_53 : decode cX0_done 53 = .ok (.iload_n 2, 1) := by decide +kernel
theorem dX0_done_54 : decode cX0_done 54 = .ok (.invokevirtual 32, 3) := by decide +kernel
theorem dX0_done_57 : decode cX0_done 57 = .ok (.ireturn, 1) := by decide +kernel
def fX0_done (sh : SH) (this : Nat) (v1 : Int32) (v2 : Int32) (I : IH) : Option (Int32 × IH) :=
  if v1 = 0 then (
    (gI sh I 0 this 2).bind fun x1 =>
    b2 (fX0_lets sh 6 this x1 v2 I) fun x2 i3 =>
    some (x2, i3)) else
  if v1 = 1 then (
    (gI sh I 0 this 2).bind fun x4 =>
    b2 (fX0_takes sh 6 this x4 v2 I) fun x5 i6 =>
    some (x5, i6)) else
  (gI sh I 0 this 2).bind fun x7 =>
  b2 (fX0_tells sh 6 this x7 v2 I) fun x8 i9 =>
  some (x8, i9)
set_option maxHeartbeats 4000000 in
set_option maxRecDepth 20000 in
theorem jbX0_done_0 (G : GT) {X : XT} {sh : SH} {L : LH} {n : Nat} {r : Int32} {I' : IH}  {this : Nat}  {v1 : Int32} {v2 : Int32} {I : IH} (F : MF G X RX0 cX0_done 3 181 (some .int) "done") (hth : isO sh 0 this) (h : fX0_done sh this v1 v2 I = some (r, I')) : J G X (QE G X (some (.int r)) sh I' L n) 3 sh I L n 0 0 0 [(0, .ref this), (1, .int v1), (2, .int v2)] [] := by
  unfold fX0_done at h
  refine j_iload_n (pc := 0) (k0 := 1) F 1 rfl dX0_done_0 ?_
  by_cases c1 : v1 = 0
  · have h := iz_t c1 h
    refine j_look (pc := 1) F 28 dX0_done_1 rfl (by first | (rw [c1]; done) | (rw [c1]; rfl)) rfl ?_
    refine j_aload_n (pc := 28) (k0 := 0) F 0 rfl dX0_done_28 ?_
    refine j_aload_n (pc := 29) (k0 := 0) F 0 rfl dX0_done_29 ?_
    obtain ⟨x1, hx1, h⟩ := ob h
    refine j_getI (pc := 30) F flX0_19 hx1 dX0_done_30 ?_
    refine j_iload_n (pc := 33) (k0 := 2) F 2 rfl dX0_done_33 ?_
    obtain ⟨x2, i3, hx2, h⟩ := b2_obt h
    refine j_callV1 (pc := 34) (ci := 0) (As := [.int x1, .int v2]) (st := []) (e1 := 0) (es1 := 0) F clX0_25 cwX0_lets rfl hth (ctX0_lets G 6 _ _ _ _ _ _ _ _ _ hth hx2) rfl rfl rfl rfl rfl rfl dX0_done_34 ?_
    have g1 := Option.some.inj h
    obtain ⟨q3, g2⟩ := Prod.mk.inj g1
    subst q3
    subst g2
    exact j_iret (pc := 37) F dX0_done_37
  have h := iz_f c1 h
  by_cases c2 : v1 = 1
  · have h := iz_t c2 h
    refine j_look (pc := 1) F 38 dX0_done_1 rfl ((lv_osw c1 rfl).trans (by first | (rw [c2]; done) | (rw [c2]; rfl))) rfl ?_
    refine j_aload_n (pc := 38) (k0 := 0) F 0 rfl dX0_done_38 ?_
    refine j_aload_n (pc := 39) (k0 := 0) F 0 rfl dX0_done_39 ?_
    obtain ⟨x4, hx4, h⟩ := ob h
    refine j_getI (pc := 40) F flX0_19 hx4 dX0_done_40 ?_
    refine j_iload_n (pc := 43) (k0 := 2) F 2 rfl dX0_done_43 ?_
    obtain ⟨x5, i6, hx5, h⟩ := b2_obt h
    refine j_callV1 (pc := 44) (ci := 0) (As := [.int x4, .int v2]) (st := []) (e1 := 0) (es1 := 0) F clX0_29 cwX0_takes rfl hth (ctX0_takes G 6 _ _ _ _ _ _ _ _ _ hth hx5) rfl rfl rfl rfl rfl rfl dX0_done_44 ?_
    have g1 := Option.some.inj h
    obtain ⟨q3, g2⟩ := Prod.mk.inj g1
    subst q3
    subst g2
    exact j_iret (pc := 47) F dX0_done_47
  have h := iz_f c2 h
  refine j_look (pc := 1) F 48 dX0_done_1 rfl ((lv_osw c1 rfl).trans ((lv_osw c2 rfl).trans (rfl))) rfl ?_
  refine j_aload_n (pc := 48) (k0 := 0) F 0 rfl dX0_done_48 ?_
  refine j_aload_n (pc := 49) (k0 := 0) F 0 rfl dX0_done_49 ?_
  obtain ⟨x7, hx7, h⟩ := ob h
  refine j_getI (pc := 50) F flX0_19 hx7 dX0_done_50 ?_
  refine j_iload_n (pc := 53) (k0 := 2) F 2 rfl dX0_done_53 ?_
  obtain ⟨x8, i9, hx8, h⟩ := b2_obt h
  refine j_callV1 (pc := 54) (ci := 0) (As := [.int x7, .int v2]) (st := []) (e1 := 0) (es1 := 0) F clX0_32 cwX0_tells rfl hth (ctX0_tells G 6 _ _ _ _ _ _ _ _ _ hth hx8) rfl rfl rfl rfl rfl rfl dX0_done_54 ?_
  have g1 := Option.some.inj h
  obtain ⟨q3, g2⟩ := Prod.mk.inj g1
  subst q3
  subst g2
  exact j_iret (pc := 57) F dX0_done_57
theorem ctX0_done (G : GT) {sh : SH} {I : IH} {L : LH} {n : Nat} {this : Nat} {v1 : Int32} {v2 : Int32} {r : Int32} {I' : IH}  (hth : isO sh 0 this) (h : fX0_done sh this v1 v2 I = some (r, I')) : Ct G yX0_done cX0_done 3 (some .int) 181 [.ref this, .int v1, .int v2] sh I L n (some (.int r)) sh I' L n 0 0 := by
  refine ct_of (y := yX0_done) (by decide +kernel) rfl (fun X F => ?_)
  exact jbX0_done_0 G F hth h
theorem dJ7_fill_53178_0 : decode cJ7_fill_53178 0 = .ok (.iconst 0, 1) := by decide +kernel
theorem dJ7_fill_53178_1 : decode cJ7_fill_53178 1 = .ok (.istore_n 2, 1) := by decide +kernel
theorem dJ7_fill_53178_2 : decode cJ7_fill_53178 2 = .ok (.aload_n 0, 1) := by decide +kernel
theorem dJ7_fill_53178_3 : decode cJ7_fill_53178 3 = .ok (.arraylength, 1) := by decide +kernel
theorem dJ7_fill_53178_4 : decode cJ7_fill_53178 4 = .ok (.istore_n 3, 1) := by decide +kernel
theorem dJ7_fill_53178_5 : decode cJ7_fill_53178 5 = .ok (.iload_n 2, 1) := by decide +kernel
theorem dJ7_fill_53178_6 : decode cJ7_fill_53178 6 = .ok (.iload_n 3, 1) := by decide +kernel
theorem dJ7_fill_53178_7 : decode cJ7_fill_53178 7 = .ok (.if_icmp .ge 13, 3) := by decide +kernel
theorem dJ7_fill_53178_10 : decode cJ7_fill_53178 10 = .ok (.aload_n 0, 1) := by decide +kernel
theorem dJ7_fill_53178_11 : decode cJ7_fill_53178 11 = .ok (.iload_n 2, 1) := by decide +kernel
theorem dJ7_fill_53178_12 : decode cJ7_fill_53178 12 = .ok (.iload_n 1, 1) := by decide +kernel
theorem dJ7_fill_53178_13 : decode cJ7_fill_53178 13 = .ok (.iastore, 1) := by decide +kernel
theorem dJ7_fill_53178_14 : decode cJ7_fill_53178 14 = .ok (.iinc 2 1, 3) := by decide +kernel
theorem dJ7_fill_53178_17 : decode cJ7_fill_53178 17 = .ok (.goto (-12), 3) := by decide +kernel
theorem dJ7_fill_53178_20 : decode cJ7_fill_53178 20 = .ok (.return_, 1) := by decide +kernel
def fJ7_fill_53178_b5 (sh : SH) : Nat → Nat → Int32 → Int32 → Int32 → IH → Option (IH)
  | 0, _, _, _, _, _ => none
  | fuel + 1, v0, v1, v2, v3, I =>
    if v3 ≤ v2 then (
      some I) else
    (sI sh I v0 v2 v1).bind fun i1 =>
    fJ7_fill_53178_b5 sh fuel v0 v1 (v2 + 1) v3 i1
def fJ7_fill_53178 (sh : SH) (v0 : Nat) (v1 : Int32) (I : IH) : Option (IH) :=
  (aL sh v0).bind fun x1 =>
  fJ7_fill_53178_b5 sh 1000 v0 v1 0 x1 I
set_option maxHeartbeats 4000000 in
set_option maxRecDepth 20000 in
theorem jbJ7_fill_53178_5 (G : GT) {X : XT} {sh : SH} {L : LH} {n : Nat} {I' : IH}   (F : MF G X RJ7 cJ7_fill_53178 4 0 none "fill") : ∀ (fuel : Nat) (v0 : Nat) (v1 : Int32) (v2 : Int32) (v3 : Int32) (I : IH), fJ7_fill_53178_b5 sh fuel v0 v1 v2 v3 I = some I' → J G X (QE G X (none) sh I' L n) 4 sh I L n 0 0 5 [(0, .ref v0), (1, .int v1), (2, .int v2), (3, .int v3)] []
  | 0 => by
    intros
    rename_i h
    exact absurd (show none = some _ from h) (by intro z; cases z)
  | fuel + 1 => by
    intro v0 v1 v2 v3 I h
    rw [fJ7_fill_53178_b5] at h
    refine j_iload_n (pc := 5) (k0 := 2) F 2 rfl dJ7_fill_53178_5 ?_
    refine j_iload_n (pc := 6) (k0 := 3) F 3 rfl dJ7_fill_53178_6 ?_
    refine j_icmp_ge (pc := 7) F 20 dJ7_fill_53178_7 rfl (fun c => ?_) (fun c => ?_)
    · have h := iz_t c h
      have g1 := Option.some.inj h
      subst g1
      exact j_vret (pc := 20) F dJ7_fill_53178_20
    · have h := iz_f c h
      refine j_aload_n (pc := 10) (k0 := 0) F 0 rfl dJ7_fill_53178_10 ?_
      refine j_iload_n (pc := 11) (k0 := 2) F 2 rfl dJ7_fill_53178_11 ?_
      refine j_iload_n (pc := 12) (k0 := 1) F 1 rfl dJ7_fill_53178_12 ?_
      obtain ⟨i1, hi1, h⟩ := ob h
      refine j_iast (pc := 13) F hi1 dJ7_fill_53178_13 ?_
      refine j_iinc (pc := 14) (k1 := 2) (ls' := [(2, .int (v2 + 1)), (0, .ref v0), (1, .int v1), (3, .int v3)]) F (v2 + 1) 2 rfl rfl rfl rfl dJ7_fill_53178_14 ?_
      refine j_goto (pc := 17) F 5 dJ7_fill_53178_17 rfl ?_
      refine j_sub [1, 2, 0, 3] rfl ?_
      exact jbJ7_fill_53178_5 G F fuel _ _ _ _ _ h
set_option maxHeartbeats 4000000 in
set_option maxRecDepth 20000 in
theorem jbJ7_fill_53178_0 (G : GT) {X : XT} {sh : SH} {L : LH} {n : Nat} {I' : IH}   {v0 : Nat} {v1 : Int32} {I : IH} (F : MF G X RJ7 cJ7_fill_53178 4 0 none "fill") (h : fJ7_fill_53178 sh v0 v1 I = some I') : J G X (QE G X (none) sh I' L n) 4 sh I L n 0 0 0 [(0, .ref v0), (1, .int v1)] [] := by
  unfold fJ7_fill_53178 at h
  refine j_iconst (pc := 0) F 0 dJ7_fill_53178_0 (by decide) ?_
  refine j_istore_n (pc := 1) (k1 := 2) (ls' := [(2, .int 0), (0, .ref v0), (1, .int v1)]) F rfl rfl rfl dJ7_fill_53178_1 ?_
  refine j_aload_n (pc := 2) (k0 := 0) F 1 rfl dJ7_fill_53178_2 ?_
  obtain ⟨x1, hx1, h⟩ := ob h
  refine j_alen (pc := 3) F hx1 dJ7_fill_53178_3 ?_
  refine j_istore_n (pc := 4) (k1 := 3) (ls' := [(3, .int x1), (2, .int 0), (0, .ref v0), (1, .int v1)]) F rfl rfl rfl dJ7_fill_53178_4 ?_
  refine j_sub [2, 3, 1, 0] rfl ?_
  exact jbJ7_fill_53178_5 G F 1000 _ _ _ _ _ h
theorem ctJ7_fill_53178 (G : GT) {sh : SH} {I : IH} {L : LH} {n : Nat} {v0 : Nat} {v1 : Int32} {I' : IH}  (h : fJ7_fill_53178 sh v0 v1 I = some I') : Ct G yJ7_fill_53178 cJ7_fill_53178 4 none 0 [.ref v0, .int v1] sh I L n (none) sh I' L n 0 0 := by
  refine ct_ofJ (y := yJ7_fill_53178) (by decide +kernel) rfl (fun X F => ?_)
  exact jbJ7_fill_53178_0 G F h
theorem dX4_init_0 : decode cX4_init 0 = .ok (.aload_n 0, 1) := by decide +kernel
theorem dX4_init_1 : decode cX4_init 1 = .ok (.invokespecial 3, 3) := by decide +kernel
theorem dX4_init_4 : decode cX4_init 4 = .ok (.aload_n 0, 1) := by decide +kernel
theorem dX4_init_5 : decode cX4_init 5 = .ok (.iconst 4, 1) := by decide +kernel
theorem dX4_init_6 : decode cX4_init 6 = .ok (.iconst 5, 1) := by decide +kernel
theorem dX4_init_7 : decode cX4_init 7 = .ok (.multianewarray 9 2, 4) := by decide +kernel
theorem dX4_init_11 : decode cX4_init 11 = .ok (.putfield 11, 3) := by decide +kernel
theorem dX4_init_14 : decode cX4_init 14 = .ok (.aload_n 0, 1) := by decide +kernel
theorem dX4_init_15 : decode cX4_init 15 = .ok (.sipush 144, 3) := by decide +kernel
theorem dX4_init_18 : decode cX4_init 18 = .ok (.newarray .int, 2) := by decide +kernel
theorem dX4_init_20 : decode cX4_init 20 = .ok (.putfield 16, 3) := by decide +kernel
theorem dX4_init_23 : decode cX4_init 23 = .ok (.aload_n 0, 1) := by decide +kernel
theorem dX4_init_24 : decode cX4_init 24 = .ok (.getfield 11, 3) := by decide +kernel
theorem dX4_init_27 : decode cX4_init 27 = .ok (.iconst 0, 1) := by decide +kernel
theorem dX4_init_28 : decode cX4_init 28 = .ok (.aaload, 1) := by decide +kernel
theorem dX4_init_29 : decode cX4_init 29 = .ok (.iconst 1, 1) := by decide +kernel
theorem dX4_init_30 : decode cX4_init 30 = .ok (.invokestatic 20, 3) := by decide +kernel
theorem dX4_init_33 : decode cX4_init 33 = .ok (.aload_n 0, 1) := by decide +kernel
theorem dX4_init_34 : decode cX4_init 34 = .ok (.getfield 11, 3) := by decide +kernel
theorem dX4_init_37 : decode cX4_init 37 = .ok (.iconst 2, 1) := by decide +kernel
theorem dX4_init_38 : decode cX4_init 38 = .ok (.aaload, 1) := by decide +kernel
theorem dX4_init_39 : decode cX4_init 39 = .ok (.bipush 99, 2) := by decide +kernel
theorem dX4_init_41 : decode cX4_init 41 = .ok (.invokestatic 20, 3) := by decide +kernel
theorem dX4_init_44 : decode cX4_init 44 = .ok (.return_, 1) := by decide +kernel
def fX4_init (this : Nat) (sh : SH) (I : IH) (n : Nat) : Option ((Nat × Nat) × (SH × IH × Nat)) :=
  b2 (nM sh I n 4 5) fun h1 i2 =>
  addE (1 + (4 : Int32).toNatClampNeg) ((4 : Int32).toNatClampNeg + (4 : Int32).toNatClampNeg * (5 : Int32).toNatClampNeg) (
  (pR h1 4 this 0 n).bind fun h5 =>
  b2 (nAI h5 i2 (n + (1 + (4 : Int32).toNatClampNeg)) 0 144) fun h6 i7 =>
  addE 1 (144 : Int32).toNatClampNeg (
  (pR h6 4 this 1 (n + (1 + (4 : Int32).toNatClampNeg))).bind fun h10 =>
  (gR h10 4 this 0).bind fun x11 =>
  (aR h10 4 x11 0).bind fun x12 =>
  (fJ7_fill_53178 h10 x12 1 i7).bind fun i13 =>
  (gR h10 4 this 0).bind fun x14 =>
  (aR h10 4 x14 2).bind fun x15 =>
  (fJ7_fill_53178 h10 x15 99 i13).bind fun i16 =>
  some ((0, 0), (h10, i16, ((n + (1 + (4 : Int32).toNatClampNeg)) + 1)))))
set_option maxHeartbeats 4000000 in
set_option maxRecDepth 20000 in
theorem jbX4_init_0 (G : GT) {X : XT} {L : LH} {sh' : SH} {I' : IH} {n' : Nat}  {this : Nat}  {sh : SH} {I : IH} {n : Nat} {e es : Nat} (F : MF G X RX4 cX4_init 1 1 none "<init>") (h : fX4_init this sh I n = some ((e, es), (sh', I', n'))) : J G X (QE G X (none) sh' I' L n') 1 sh I L n e es 0 [(0, .ref this)] [] := by
  unfold fX4_init at h
  refine j_aload_n (pc := 0) (k0 := 0) F 0 rfl dX4_init_0 ?_
  refine j_objInit (pc := 1) F (good_of 102 (by decide +kernel) (by decide +kernel)) rfl rfl dX4_init_1 ?_
  refine j_aload_n (pc := 4) (k0 := 0) F 0 rfl dX4_init_4 ?_
  refine j_iconst (pc := 5) F 4 dX4_init_5 (by decide) ?_
  refine j_iconst (pc := 6) F 5 dX4_init_6 (by decide) ?_
  obtain ⟨h1, i2, hh1, h⟩ := b2_obt h
  obtain ⟨e3, es4, h, he, hes⟩ := addE_obt h
  refine j_multi (pc := 7) F (good_of 103 (by decide +kernel) (by decide +kernel)) aw_int hh1 he hes dX4_init_7 ?_
  obtain ⟨h5, hh5, h⟩ := ob h
  refine j_putR (pc := 11) (ty := (.array (.array .int))) F ⟨rfl, rfl⟩ flX4_11 fp4_0 (fun _ => ⟨rfl, rfl⟩) hh5 dX4_init_11 ?_
  refine j_aload_n (pc := 14) (k0 := 0) F 0 rfl dX4_init_14 ?_
  refine j_sipush (pc := 15) F 144 dX4_init_15 (by decide) ?_
  obtain ⟨h6, i7, hh6, h⟩ := b2_obt h
  obtain ⟨e8, es9, h, he, hes⟩ := addE_obt h
  refine j_newI (pc := 18) F (Or.inl ⟨rfl, rfl⟩) aw_int hh6 he hes dX4_init_18 ?_
  obtain ⟨h10, hh10, h⟩ := ob h
  refine j_putR (pc := 20) (ty := (.array .int)) F ⟨rfl, rfl⟩ flX4_16 fp4_1 (fun _ => ⟨rfl, rfl⟩) hh10 dX4_init_20 ?_
  refine j_aload_n (pc := 23) (k0 := 0) F 0 rfl dX4_init_23 ?_
  obtain ⟨x11, hx11, h⟩ := ob h
  refine j_getR (pc := 24) F flX4_11 hx11 dX4_init_24 ?_
  refine j_iconst (pc := 27) F 0 dX4_init_27 (by decide) ?_
  obtain ⟨x12, hx12, h⟩ := ob h
  refine j_aald (pc := 28) F (Or.inr rfl) hx12 dX4_init_28 ?_
  refine j_iconst (pc := 29) F 1 dX4_init_29 (by decide) ?_
  obtain ⟨i13, hi13, h⟩ := ob h
  refine j_callS0 (pc := 30) (As := [.ref x12, .int 1]) (st := []) (e1 := e8) (es1 := es9) F clX4_20 cwJ7_fill_53178 (ctJ7_fill_53178 G hi13) rfl rfl rfl rfl (Nat.zero_add _).symm (Nat.zero_add _).symm dX4_init_30 ?_
  refine j_aload_n (pc := 33) (k0 := 0) F 0 rfl dX4_init_33 ?_
  obtain ⟨x14, hx14, h⟩ := ob h
  refine j_getR (pc := 34) F flX4_11 hx14 dX4_init_34 ?_
  refine j_iconst (pc := 37) F 2 dX4_init_37 (by decide) ?_
  obtain ⟨x15, hx15, h⟩ := ob h
  refine j_aald (pc := 38) F (Or.inr rfl) hx15 dX4_init_38 ?_
  refine j_bipush (pc := 39) F 99 dX4_init_39 (by decide) ?_
  obtain ⟨i16, hi16, h⟩ := ob h
  refine j_callS0 (pc := 41) (As := [.ref x15, .int 99]) (st := []) (e1 := e8) (es1 := es9) F clX4_20 cwJ7_fill_53178 (ctJ7_fill_53178 G hi16) rfl rfl rfl rfl (Nat.zero_add _).symm (Nat.zero_add _).symm dX4_init_41 ?_
  have g0 := Option.some.inj h
  obtain ⟨hq, g1⟩ := Prod.mk.inj g0
  obtain ⟨q1, q2⟩ := Prod.mk.inj hq
  obtain ⟨q3, g2⟩ := Prod.mk.inj g1
  obtain ⟨q4, g3⟩ := Prod.mk.inj g2
  subst q1
  subst q2
  subst q3
  subst q4
  subst g3
  exact j_vret (pc := 44) F dX4_init_44
theorem ctX4_init (G : GT) {sh : SH} {I : IH} {L : LH} {n : Nat} {this : Nat} {sh' : SH} {I' : IH} {n' : Nat} {e es : Nat}  (h : fX4_init this sh I n = some ((e, es), (sh', I', n'))) : Ct G yX4_init cX4_init 1 none 1 [.ref this] sh I L n (none) sh' I' L n' e es := by
  refine ct_of (y := yX4_init) (by decide +kernel) rfl (fun X F => ?_)
  exact jbX4_init_0 G F h
theorem dJ9_min_7cf53_0 : decode cJ9_min_7cf53 0 = .ok (.iload_n 0, 1) := by decide +kernel
theorem dJ9_min_7cf53_1 : decode cJ9_min_7cf53 1 = .ok (.iload_n 1, 1) := by decide +kernel
theorem dJ9_min_7cf53_2 : decode cJ9_min_7cf53 2 = .ok (.if_icmp .gt 7, 3) := by decide +kernel
theorem dJ9_min_7cf53_5 : decode cJ9_min_7cf53 5 = .ok (.iload_n 0, 1) := by decide +kernel
theorem dJ9_min_7cf53_6 : decode cJ9_min_7cf53 6 = .ok (.goto 4, 3) := by decide +kernel
theorem dJ9_min_7cf53_9 : decode cJ9_min_7cf53 9 = .ok (.iload_n 1, 1) := by decide +kernel
theorem dJ9_min_7cf53_10 : decode cJ9_min_7cf53 10 = .ok (.ireturn, 1) := by decide +kernel
def fJ9_min_7cf53 (v0 : Int32) (v1 : Int32) : Int32 :=
  if v1 < v0 then (
    v1) else
  v0
set_option maxHeartbeats 4000000 in
set_option maxRecDepth 20000 in
theorem jbJ9_min_7cf53_0 (G : GT) {X : XT} {sh : SH} {I : IH} {L : LH} {n : Nat} {r : Int32}   {v0 : Int32} {v1 : Int32} (F : MF G X RJ9 cJ9_min_7cf53 2 0 (some .int) "min") (h : fJ9_min_7cf53 v0 v1 = r) : J G X (QE G X (some (.int r)) sh I L n) 2 sh I L n 0 0 0 [(0, .int v0), (1, .int v1)] [] := by
  unfold fJ9_min_7cf53 at h
  refine j_iload_n (pc := 0) (k0 := 0) F 0 rfl dJ9_min_7cf53_0 ?_
  refine j_iload_n (pc := 1) (k0 := 1) F 1 rfl dJ9_min_7cf53_1 ?_
  refine j_icmp_gt (pc := 2) F 9 dJ9_min_7cf53_2 rfl (fun c => ?_) (fun c => ?_)
  · have h := iz_t c h
    refine j_iload_n (pc := 9) (k0 := 1) F 1 rfl dJ9_min_7cf53_9 ?_
    subst h
    exact j_iret (pc := 10) F dJ9_min_7cf53_10
  · have h := iz_f c h
    refine j_iload_n (pc := 5) (k0 := 0) F 0 rfl dJ9_min_7cf53_5 ?_
    refine j_goto (pc := 6) F 10 dJ9_min_7cf53_6 rfl ?_
    subst h
    exact j_iret (pc := 10) F dJ9_min_7cf53_10
theorem ctJ9_min_7cf53 (G : GT) {sh : SH} {I : IH} {L : LH} {n : Nat} {v0 : Int32} {v1 : Int32} : Ct G yJ9_min_7cf53 cJ9_min_7cf53 2 (some .int) 0 [.int v0, .int v1] sh I L n (some (.int (fJ9_min_7cf53 v0 v1))) sh I L n 0 0 := by
  refine ct_ofJ (y := yJ9_min_7cf53) (by decide +kernel) rfl (fun X F => ?_)
  exact jbJ9_min_7cf53_0 G F rfl
theorem dX1_init_0 : decode cX1_init 0 = .ok (.aload_n 0, 1) := by decide +kernel
theorem dX1_init_1 : decode cX1_init 1 = .ok (.invokespecial 3, 3) := by decide +kernel
theorem dX1_init_4 : decode cX1_init 4 = .ok (.aload_n 0, 1) := by decide +kernel
theorem dX1_init_5 : decode cX1_init 5 = .ok (.iconst 1, 1) := by decide +kernel
theorem dX1_init_6 : decode cX1_init 6 = .ok (.putfield 9, 3) := by decide +kernel
theorem dX1_init_9 : decode cX1_init 9 = .ok (.aload_n 0, 1) := by decide +kernel
theorem dX1_init_10 : decode cX1_init 10 = .ok (.new 15, 3) := by decide +kernel
theorem dX1_init_13 : decode cX1_init 13 = .ok (.dup, 1) := by decide +kernel
theorem dX1_init_14 : decode cX1_init 14 = .ok (.invokespecial 17, 3) := by decide +kernel
theorem dX1_init_17 : decode cX1_init 17 = .ok (.putfield 18, 3) := by decide +kernel
theorem dX1_init_20 : decode cX1_init 20 = .ok (.aload_n 0, 1) := by decide +kernel
theorem dX1_init_21 : decode cX1_init 21 = .ok (.aload_n 1, 1) := by decide +kernel
theorem dX1_init_22 : decode cX1_init 22 = .ok (.putfield 22, 3) := by decide +kernel
theorem dX1_init_25 : decode cX1_init 25 = .ok (.aload_n 0, 1) := by decide +kernel
theorem dX1_init_26 : decode cX1_init 26 = .ok (.iload_n 2, 1) := by decide +kernel
theorem dX1_init_27 : decode cX1_init 27 = .ok (.aload_n 1, 1) := by decide +kernel
theorem dX1_init_28 : decode cX1_init 28 = .ok (.arraylength, 1) := by decide +kernel
theorem dX1_init_29 : decode cX1_init 29 = .ok (.invokestatic 26, 3) := by decide +kernel
theorem dX1_init_32 : decode cX1_init 32 = .ok (.putfield 32, 3) := by decide +kernel
theorem dX1_init_35 : decode cX1_init 35 = .ok (.return_, 1) := by decide +kernel
def fX1_init (this : Nat) (v1 : Nat) (v2 : Int32) (sh : SH) (I : IH) (n : Nat) : Option ((Nat × Nat) × (SH × IH × Nat)) :=
  (pI sh I 1 this 2 1).bind fun i1 =>
  b2 (some (nO sh n 4, nOI i1 n)) fun h2 i3 =>
  addE 1 2 (
  bE3 (fX4_init n (nO sh n 4) (nOI i1 n) (n + 1)) fun h6 i7 n8 =>
  (pR h6 1 this 4 n).bind fun h13 =>
  (pR h13 1 this 0 v1).bind fun h14 =>
  (aL h14 v1).bind fun x15 =>
  (pI h14 i7 1 this 1 (fJ9_min_7cf53 v2 x15)).bind fun i16 =>
  some ((0, 0), (h14, i16, n8)))
set_option maxHeartbeats 4000000 in
set_option maxRecDepth 20000 in
theorem jbX1_init_0 (G : GT) {X : XT} {L : LH} {sh' : SH} {I' : IH} {n' : Nat}  {this : Nat}  {v1 : Nat} {v2 : Int32} {sh : SH} {I : IH} {n : Nat} {e es : Nat} (F : MF G X RX1 cX1_init 3 2 none "<init>") (h : fX1_init this v1 v2 sh I n = some ((e, es), (sh', I', n'))) : J G X (QE G X (none) sh' I' L n') 3 sh I L n e es 0 [(0, .ref this), (1, .ref v1), (2, .int v2)] [] := by
  unfold fX1_init at h
  refine j_aload_n (pc := 0) (k0 := 0) F 0 rfl dX1_init_0 ?_
  refine j_objInit (pc := 1) F (good_of 309 (by decide +kernel) (by decide +kernel)) rfl rfl dX1_init_1 ?_
  refine j_aload_n (pc := 4) (k0 := 0) F 0 rfl dX1_init_4 ?_
  refine j_iconst (pc := 5) F 1 dX1_init_5 (by decide) ?_
  obtain ⟨i1, hi1, h⟩ := ob h
  refine j_putZ (pc := 6) F (Or.inr rfl) flX1_9 fp1_2 (fun z => by cases z) hi1 dX1_init_6 ?_
  refine j_aload_n (pc := 9) (k0 := 0) F 0 rfl dX1_init_9 ?_
  obtain ⟨h2, i3, hh2, h⟩ := b2_obt h
  cases hh2
  obtain ⟨e4, es5, h, he, hes⟩ := addE_obt h
  refine j_new (pc := 10) F cnX1_15 he hes dX1_init_10 ?_
  refine j_dup (pc := 13) F dX1_init_13 rfl ?_
  obtain ⟨d9, ds10, h6, i7, n8, e11, es12, hh6, h, he, hes⟩ := bE3_obt h
  refine j_callI (pc := 14) (As := []) (st := [.ref n, .ref this]) (e1 := e11) (es1 := es12) F clX1_17 cwX4_init (ctX4_init G hh6) rfl rfl rfl rfl he hes dX1_init_14 ?_
  obtain ⟨h13, hh13, h⟩ := ob h
  refine j_putR (pc := 17) (ty := (.object "MeltHours$Valley")) F ⟨rfl, rfl⟩ flX1_18 fp1_4 (fun _ => ⟨rfl, rfl⟩) hh13 dX1_init_17 ?_
  refine j_aload_n (pc := 20) (k0 := 0) F 0 rfl dX1_init_20 ?_
  refine j_aload_n (pc := 21) (k0 := 1) F 1 rfl dX1_init_21 ?_
  obtain ⟨h14, hh14, h⟩ := ob h
  refine j_putR (pc := 22) (ty := (.array .int)) F ⟨rfl, rfl⟩ flX1_22 fp1_0 (fun _ => ⟨rfl, rfl⟩) hh14 dX1_init_22 ?_
  refine j_aload_n (pc := 25) (k0 := 0) F 0 rfl dX1_init_25 ?_
  refine j_iload_n (pc := 26) (k0 := 2) F 2 rfl dX1_init_26 ?_
  refine j_aload_n (pc := 27) (k0 := 1) F 1 rfl dX1_init_27 ?_
  obtain ⟨x15, hx15, h⟩ := ob h
  refine j_alen (pc := 28) F hx15 dX1_init_28 ?_
  refine j_callS1 (pc := 29) (As := [.int v2, .int x15]) (st := [.ref this]) (e1 := e11) (es1 := es12) F clX1_26 cwJ9_min_7cf53 (ctJ9_min_7cf53 G) rfl rfl rfl rfl (Nat.zero_add _).symm (Nat.zero_add _).symm dX1_init_29 ?_
  obtain ⟨i16, hi16, h⟩ := ob h
  refine j_putI (pc := 32) F flX1_32 fp1_1 (fun _ => ⟨rfl, rfl⟩) hi16 dX1_init_32 ?_
  have g0 := Option.some.inj h
  obtain ⟨hq, g1⟩ := Prod.mk.inj g0
  obtain ⟨q1, q2⟩ := Prod.mk.inj hq
  obtain ⟨q3, g2⟩ := Prod.mk.inj g1
  obtain ⟨q4, g3⟩ := Prod.mk.inj g2
  subst q1
  subst q2
  subst q3
  subst q4
  subst g3
  exact j_vret (pc := 35) F dX1_init_35
theorem ctX1_init (G : GT) {sh : SH} {I : IH} {L : LH} {n : Nat} {this : Nat} {v1 : Nat} {v2 : Int32} {sh' : SH} {I' : IH} {n' : Nat} {e es : Nat}  (h : fX1_init this v1 v2 sh I n = some ((e, es), (sh', I', n'))) : Ct G yX1_init cX1_init 3 none 2 [.ref this, .ref v1, .int v2] sh I L n (none) sh' I' L n' e es := by
  refine ct_of (y := yX1_init) (by decide +kernel) rfl (fun X F => ?_)
  exact jbX1_init_0 G F h
theorem dX1_next_0 : decode cX1_next 0 = .ok (.aload_n 0, 1) := by decide +kernel
theorem dX1_next_1 : decode cX1_next 1 = .ok (.getfield 9, 3) := by decide +kernel
theorem dX1_next_4 : decode cX1_next 4 = .ok (.ifCond .eq 26, 3) := by decide +kernel
theorem dX1_next_7 : decode cX1_next 7 = .ok (.aload_n 0, 1) := by decide +kernel
theorem dX1_next_8 : decode cX1_next 8 = .ok (.getfield 43, 3) := by decide +kernel
theorem dX1_next_11 : decode cX1_next 11 = .ok (.aload_n 0, 1) := by decide +kernel
theorem dX1_next_12 : decode cX1_next 12 = .ok (.getfield 32, 3) := by decide +kernel
theorem dX1_next_15 : decode cX1_next 15 = .ok (.if_icmp .ge 15, 3) := by decide +kernel
theorem dX1_next_18 : decode cX1_next 18 = .ok (.aload_n 0, 1) := by decide +kernel
theorem dX1_next_19 : decode cX1_next 19 = .ok (.getfield 22, 3) := by decide +kernel
theorem dX1_next_22 : decode cX1_next 22 = .ok (.aload_n 0, 1) := by decide +kernel
theorem dX1_next_23 : decode cX1_next 23 = .ok (.getfield 43, 3) := by decide +kernel
theorem dX1_next_26 : decode cX1_next 26 = .ok (.iaload, 1) := by decide +kernel
theorem dX1_next_27 : decode cX1_next 27 = .ok (.goto 4, 3) := by decide +kernel
theorem dX1_next_30 : decode cX1_next 30 = .ok (.iconst (-1), 1) := by decide +kernel
theorem dX1_next_31 : decode cX1_next 31 = .ok (.ireturn, 1) := by decide +kernel
def fX1_next (sh : SH) (I : IH) (this : Nat) : Option (Int32) :=
  (gI sh I 1 this 2).bind fun x1 =>
  if x1 = 0 then (
    some (-1)) else
  (gI sh I 1 this 3).bind fun x2 =>
  (gI sh I 1 this 1).bind fun x3 =>
  if x3 ≤ x2 then (
    some (-1)) else
  (gR sh 1 this 0).bind fun x4 =>
  (gI sh I 1 this 3).bind fun x5 =>
  (aI sh I 0 x4 x5).bind fun x6 =>
  some x6
set_option maxHeartbeats 4000000 in
set_option maxRecDepth 20000 in
theorem jbX1_next_0 (G : GT) {X : XT} {sh : SH} {I : IH} {L : LH} {n : Nat} {r : Int32}  {this : Nat}   (F : MF G X RX1 cX1_next 1 0 (some .int) "next") (h : fX1_next sh I this  = some r) : J G X (QE G X (some (.int r)) sh I L n) 1 sh I L n 0 0 0 [(0, .ref this)] [] := by
  unfold fX1_next at h
  refine j_aload_n (pc := 0) (k0 := 0) F 0 rfl dX1_next_0 ?_
  obtain ⟨x1, hx1, h⟩ := ob h
  refine j_getI (pc := 1) F flX1_9 hx1 dX1_next_1 ?_
  refine j_if_eq (pc := 4) F 30 dX1_next_4 rfl (fun c => ?_) (fun c => ?_)
  · have h := iz_t c h
    refine j_iconst (pc := 30) F (-1) dX1_next_30 (by decide) ?_
    have g1 := Option.some.inj h
    subst g1
    exact j_iret (pc := 31) F dX1_next_31
  · have h := iz_f c h
    refine j_aload_n (pc := 7) (k0 := 0) F 0 rfl dX1_next_7 ?_
    obtain ⟨x2, hx2, h⟩ := ob h
    refine j_getI (pc := 8) F flX1_43 hx2 dX1_next_8 ?_
    refine j_aload_n (pc := 11) (k0 := 0) F 0 rfl dX1_next_11 ?_
    obtain ⟨x3, hx3, h⟩ := ob h
    refine j_getI (pc := 12) F flX1_32 hx3 dX1_next_12 ?_
    refine j_icmp_ge (pc := 15) F 30 dX1_next_15 rfl (fun c => ?_) (fun c => ?_)
    · have h := iz_t c h
      refine j_iconst (pc := 30) F (-1) dX1_next_30 (by decide) ?_
      have g1 := Option.some.inj h
      subst g1
      exact j_iret (pc := 31) F dX1_next_31
    · have h := iz_f c h
      refine j_aload_n (pc := 18) (k0 := 0) F 0 rfl dX1_next_18 ?_
      obtain ⟨x4, hx4, h⟩ := ob h
      refine j_getR (pc := 19) F flX1_22 hx4 dX1_next_19 ?_
      refine j_aload_n (pc := 22) (k0 := 0) F 0 rfl dX1_next_22 ?_
      obtain ⟨x5, hx5, h⟩ := ob h
      refine j_getI (pc := 23) F flX1_43 hx5 dX1_next_23 ?_
      obtain ⟨x6, hx6, h⟩ := ob h
      refine j_iald (pc := 26) F hx6 dX1_next_26 ?_
      refine j_goto (pc := 27) F 31 dX1_next_27 rfl ?_
      have g1 := Option.some.inj h
      subst g1
      exact j_iret (pc := 31) F dX1_next_31
theorem ctX1_next (G : GT) {sh : SH} {I : IH} {L : LH} {n : Nat} {this : Nat} {r : Int32}  (h : fX1_next sh I this = some r) : Ct G yX1_next cX1_next 1 (some .int) 0 [.ref this] sh I L n (some (.int r)) sh I L n 0 0 := by
  refine ct_of (y := yX1_next) (by decide +kernel) rfl (fun X F => ?_)
  exact jbX1_next_0 G F h
theorem dX1_passes_0 : decode cX1_passes 0 = .ok (.aload_n 0, 1) := by decide +kernel
theorem dX1_passes_1 : decode cX1_passes 1 = .ok (.invokevirtual 109, 3) := by decide +kernel
theorem dX1_passes_4 : decode cX1_passes 4 = .ok (.iload_n 1, 1) := by decide +kernel
theorem dX1_passes_5 : decode cX1_passes 5 = .ok (.if_icmp .eq 5, 3) := by decide +kernel
theorem dX1_passes_8 : decode cX1_passes 8 = .ok (.iconst 0, 1) := by decide +kernel
theorem dX1_passes_9 : decode cX1_passes 9 = .ok (.ireturn, 1) := by decide +kernel
theorem dX1_passes_10 : decode cX1_passes 10 = .ok (.aload_n 0, 1) := by decide +kernel
theorem dX1_passes_11 : decode cX1_passes 11 = .ok (.dup, 1) := by decide +kernel
theorem dX1_passes_12 : decode cX1_passes 12 = .ok (.getfield 43, 3) := by decide +kernel
theorem dX1_passes_15 : decode cX1_passes 15 = .ok (.iconst 1, 1) := by decide +kernel
theorem dX1_passes_16 : decode cX1_passes 16 = .ok (.iadd, 1) := by decide +kernel
theorem dX1_passes_17 : decode cX1_passes 17 = .ok (.putfield 43, 3) := by decide +kernel
theorem dX1_passes_20 : decode cX1_passes 20 = .ok (.iconst 1, 1) := by decide +kernel
theorem dX1_passes_21 : decode cX1_passes 21 = .ok (.ireturn, 1) := by decide +kernel
def fX1_passes (sh : SH) (this : Nat) (v1 : Int32) (I : IH) : Option (Int32 × IH) :=
  (fX1_next sh I this).bind fun x1 =>
  if x1 = v1 then (
    (gI sh I 1 this 3).bind fun x2 =>
    (pI sh I 1 this 3 (x2 + 1)).bind fun i3 =>
    some (1, i3)) else
  some (0, I)
set_option maxHeartbeats 4000000 in
set_option maxRecDepth 20000 in
theorem jbX1_passes_0 (G : GT) {X : XT} {sh : SH} {L : LH} {n : Nat} {r : Int32} {I' : IH}  {this : Nat}  {v1 : Int32} {I : IH} (F : MF G X RX1 cX1_passes 2 1 (some .boolean) "passes") (hth : isO sh 1 this) (h : fX1_passes sh this v1 I = some (r, I')) : J G X (QE G X (some (.int r)) sh I' L n) 2 sh I L n 0 0 0 [(0, .ref this), (1, .int v1)] [] := by
  unfold fX1_passes at h
  refine j_aload_n (pc := 0) (k0 := 0) F 0 rfl dX1_passes_0 ?_
  obtain ⟨x1, hx1, h⟩ := ob h
  refine j_callV1 (pc := 1) (ci := 1) (As := []) (st := []) (e1 := 0) (es1 := 0) F clX1_109 cwX1_next rfl hth (ctX1_next G hx1) rfl rfl rfl rfl rfl rfl dX1_passes_1 ?_
  refine j_iload_n (pc := 4) (k0 := 1) F 1 rfl dX1_passes_4 ?_
  refine j_icmp_eq (pc := 5) F 10 dX1_passes_5 rfl (fun c => ?_) (fun c => ?_)
  · have h := iz_t c h
    refine j_aload_n (pc := 10) (k0 := 0) F 0 rfl dX1_passes_10 ?_
    refine j_dup (pc := 11) F dX1_passes_11 rfl ?_
    obtain ⟨x2, hx2, h⟩ := ob h
    refine j_getI (pc := 12) F flX1_43 hx2 dX1_passes_12 ?_
    refine j_iconst (pc := 15) F 1 dX1_passes_15 (by decide) ?_
    refine j_iadd (pc := 16) F dX1_passes_16 ?_
    obtain ⟨i3, hi3, h⟩ := ob h
    refine j_putI (pc := 17) F flX1_43 fp1_3 (fun z => by cases z) hi3 dX1_passes_17 ?_
    refine j_iconst (pc := 20) F 1 dX1_passes_20 (by decide) ?_
    have g1 := Option.some.inj h
    obtain ⟨q3, g2⟩ := Prod.mk.inj g1
    subst q3
    subst g2
    exact j_zret (pc := 21) F (Or.inr rfl) dX1_passes_21
  · have h := iz_f c h
    refine j_iconst (pc := 8) F 0 dX1_passes_8 (by decide) ?_
    have g1 := Option.some.inj h
    obtain ⟨q3, g2⟩ := Prod.mk.inj g1
    subst q3
    subst g2
    exact j_zret (pc := 9) F (Or.inl rfl) dX1_passes_9
theorem ctX1_passes (G : GT) {sh : SH} {I : IH} {L : LH} {n : Nat} {this : Nat} {v1 : Int32} {r : Int32} {I' : IH}  (hth : isO sh 1 this) (h : fX1_passes sh this v1 I = some (r, I')) : Ct G yX1_passes cX1_passes 2 (some .boolean) 1 [.ref this, .int v1] sh I L n (some (.int r)) sh I' L n 0 0 := by
  refine ct_of (y := yX1_passes) (by decide +kernel) rfl (fun X F => ?_)
  exact jbX1_passes_0 G F hth h
theorem dX1_expect_0 : decode cX1_expect 0 = .ok (.aload_n 0, 1) := by decide +kernel
theorem dX1_expect_1 : decode cX1_expect 1 = .ok (.iload_n 1, 1) := by decide +kernel
theorem dX1_expect_2 : decode cX1_expect 2 = .ok (.invokevirtual 39, 3) := by decide +kernel
theorem dX1_expect_5 : decode cX1_expect 5 = .ok (.ifCond .ne 8, 3) := by decide +kernel
theorem dX1_expect_8 : decode cX1_expect 8 = .ok (.aload_n 0, 1) := by decide +kernel
theorem dX1_expect_9 : decode cX1_expect 9 = .ok (.iconst 0, 1) := by decide +kernel
theorem dX1_expect_10 : decode cX1_expect 10 = .ok (.putfield 9, 3) := by decide +kernel
theorem dX1_expect_13 : decode cX1_expect 13 = .ok (.return_, 1) := by decide +kernel
def fX1_expect (sh : SH) (this : Nat) (v1 : Int32) (I : IH) : Option (IH) :=
  b2 (fX1_passes sh this v1 I) fun x1 i2 =>
  if x1 = 0 then (
    (pI sh i2 1 this 2 0).bind fun i3 =>
    some i3) else
  some i2
set_option maxHeartbeats 4000000 in
set_option maxRecDepth 20000 in
theorem jbX1_expect_0 (G : GT) {X : XT} {sh : SH} {L : LH} {n : Nat} {I' : IH}  {this : Nat}  {v1 : Int32} {I : IH} (F : MF G X RX1 cX1_expect 2 2 none "expect") (hth : isO sh 1 this) (h : fX1_expect sh this v1 I = some I') : J G X (QE G X (none) sh I' L n) 2 sh I L n 0 0 0 [(0, .ref this), (1, .int v1)] [] := by
  unfold fX1_expect at h
  refine j_aload_n (pc := 0) (k0 := 0) F 0 rfl dX1_expect_0 ?_
  refine j_iload_n (pc := 1) (k0 := 1) F 1 rfl dX1_expect_1 ?_
  obtain ⟨x1, i2, hx1, h⟩ := b2_obt h
  refine j_callV1 (pc := 2) (ci := 1) (As := [.int v1]) (st := []) (e1 := 0) (es1 := 0) F clX1_39 cwX1_passes rfl hth (ctX1_passes G hth hx1) rfl rfl rfl rfl rfl rfl dX1_expect_2 ?_
  refine j_if_ne (pc := 5) F 13 dX1_expect_5 rfl (fun c => ?_) (fun c => ?_)
  · have h := iz_f c h
    have g1 := Option.some.inj h
    subst g1
    exact j_vret (pc := 13) F dX1_expect_13
  · have h := iz_t c h
    refine j_aload_n (pc := 8) (k0 := 0) F 0 rfl dX1_expect_8 ?_
    refine j_iconst (pc := 9) F 0 dX1_expect_9 (by decide) ?_
    obtain ⟨i3, hi3, h⟩ := ob h
    refine j_putZ (pc := 10) F (Or.inl rfl) flX1_9 fp1_2 (fun z => by cases z) hi3 dX1_expect_10 ?_
    have g1 := Option.some.inj h
    subst g1
    exact j_vret (pc := 13) F dX1_expect_13
theorem ctX1_expect (G : GT) {sh : SH} {I : IH} {L : LH} {n : Nat} {this : Nat} {v1 : Int32} {I' : IH}  (hth : isO sh 1 this) (h : fX1_expect sh this v1 I = some I') : Ct G yX1_expect cX1_expect 2 none 2 [.ref this, .int v1] sh I L n (none) sh I' L n 0 0 := by
  refine ct_of (y := yX1_expect) (by decide +kernel) rfl (fun X F => ?_)
  exact jbX1_expect_0 G F hth h
theorem dX1_ending_0 : decode cX1_ending 0 = .ok (.iconst 0, 1) := by decide +kernel
theorem dX1_ending_1 : decode cX1_ending 1 = .ok (.istore_n 3, 1) := by decide +kernel
theorem dX1_ending_2 : decode cX1_ending 2 = .ok (.iload_n 3, 1) := by decide +kernel
theorem dX1_ending_3 : decode cX1_ending 3 = .ok (.aload_n 1, 1) := by decide +kernel
theorem dX1_ending_4 : decode cX1_ending 4 = .ok (.invokevirtual 87, 3) := by decide +kernel
theorem dX1_ending_7 : decode cX1_ending 7 = .ok (.if_icmp .ge 18, 3) := by decide +kernel
theorem dX1_ending_10 : decode cX1_ending 10 = .ok (.aload_n 0, 1) := by decide +kernel
theorem dX1_ending_11 : decode cX1_ending 11 = .ok (.aload_n 1, 1) := by decide +kernel
theorem dX1_ending_12 : decode cX1_ending 12 = .ok (.iload_n 3, 1) := by decide +kernel
theorem dX1_ending_13 : decode cX1_ending 13 = .ok (.invokevirtual 91, 3) := by decide +kernel
theorem dX1_ending_16 : decode cX1_ending 16 = .ok (.invokevirtual 50, 3) := by decide +kernel
theorem dX1_ending_19 : decode cX1_ending 19 = .ok (.iinc 3 1, 3) := by decide +kernel
theorem dX1_ending_22 : decode cX1_ending 22 = .ok (.goto (-20), 3) := by decide +kernel
theorem dX1_ending_25 : decode cX1_ending 25 = .ok (.iload_n 2, 1) := by decide +kernel
theorem dX1_ending_26 : decode cX1_ending 26 = .ok (.ireturn, 1) := by decide +kernel
def fX1_ending_b2 (sh : SH) (this : Nat) : Nat → Nat → Int32 → Int32 → IH → Option (Int32 × IH)
  | 0, _, _, _, _ => none
  | fuel + 1, v1, v2, v3, I =>
    (stL v1).bind fun z4 =>
    if z4 ≤ v3 then (
      some (v2, I)) else
    (stC v1 v3).bind fun z13 =>
    (fX1_expect sh this z13 I).bind fun i1 =>
    fX1_ending_b2 sh this fuel v1 v2 (v3 + 1) i1
def fX1_ending (sh : SH) (this : Nat) (v1 : Nat) (v2 : Int32) (I : IH) : Option (Int32 × IH) :=
  fX1_ending_b2 sh this 1000 v1 v2 0 I
set_option maxHeartbeats 4000000 in
set_option maxRecDepth 20000 in
theorem jbX1_ending_2 (G : GT) {X : XT} {sh : SH} {L : LH} {n : Nat} {r : Int32} {I' : IH}  {this : Nat}  (F : MF G X RX1 cX1_ending 4 4 (some .int) "ending") (hth : isO sh 1 this) : ∀ (fuel : Nat) (v1 : Nat) (v2 : Int32) (v3 : Int32) (I : IH), fX1_ending_b2 sh this fuel v1 v2 v3 I = some (r, I') → J G X (QE G X (some (.int r)) sh I' L n) 4 sh I L n 0 0 2 [(0, .ref this), (1, .ref (G.2.2.2.2.1 v1)), (2, .int v2), (3, .int v3)] []
  | 0 => by
    intros
    rename_i h
    exact absurd (show none = some _ from h) (by intro z; cases z)
  | fuel + 1 => by
    intro v1 v2 v3 I h
    rw [fX1_ending_b2] at h
    refine j_iload_n (pc := 2) (k0 := 3) F 3 rfl dX1_ending_2 ?_
    refine j_aload_n (pc := 3) (k0 := 1) F 1 rfl dX1_ending_3 ?_
    obtain ⟨z4, hz4, h⟩ := ob h
    refine j_strL (pc := 4) F clX1_87 hz4 rfl rfl dX1_ending_4 ?_
    refine j_icmp_ge (pc := 7) F 25 dX1_ending_7 rfl (fun c => ?_) (fun c => ?_)
    · have h := iz_t c h
      refine j_iload_n (pc := 25) (k0 := 2) F 2 rfl dX1_ending_25 ?_
      have g1 := Option.some.inj h
      obtain ⟨q3, g2⟩ := Prod.mk.inj g1
      subst q3
      subst g2
      exact j_iret (pc := 26) F dX1_ending_26
    · have h := iz_f c h
      refine j_aload_n (pc := 10) (k0 := 0) F 0 rfl dX1_ending_10 ?_
      refine j_aload_n (pc := 11) (k0 := 1) F 1 rfl dX1_ending_11 ?_
      refine j_iload_n (pc := 12) (k0 := 3) F 3 rfl dX1_ending_12 ?_
      obtain ⟨z13, hz13, h⟩ := ob h
      refine j_strC (pc := 13) F clX1_91 hz13 rfl rfl dX1_ending_13 ?_
      obtain ⟨i1, hi1, h⟩ := ob h
      refine j_callV0 (pc := 16) (ci := 1) (As := [.int z13]) (st := []) (e1 := 0) (es1 := 0) F clX1_50 cwX1_expect rfl hth (ctX1_expect G hth hi1) rfl rfl rfl rfl rfl rfl dX1_ending_16 ?_
      refine j_iinc (pc := 19) (k1 := 3) (ls' := [(3, .int (v3 + 1)), (0, .ref this), (1, .ref (G.2.2.2.2.1 v1)), (2, .int v2)]) F (v3 + 1) 3 rfl rfl rfl rfl dX1_ending_19 ?_
      refine j_goto (pc := 22) F 2 dX1_ending_22 rfl ?_
      refine j_sub [1, 2, 3, 0] rfl ?_
      exact jbX1_ending_2 G F hth fuel _ _ _ _ h
set_option maxHeartbeats 4000000 in
set_option maxRecDepth 20000 in
theorem jbX1_ending_0 (G : GT) {X : XT} {sh : SH} {L : LH} {n : Nat} {r : Int32} {I' : IH}  {this : Nat}  {v1 : Nat} {v2 : Int32} {I : IH} (F : MF G X RX1 cX1_ending 4 4 (some .int) "ending") (hth : isO sh 1 this) (h : fX1_ending sh this v1 v2 I = some (r, I')) : J G X (QE G X (some (.int r)) sh I' L n) 4 sh I L n 0 0 0 [(0, .ref this), (1, .ref (G.2.2.2.2.1 v1)), (2, .int v2)] [] := by
  unfold fX1_ending at h
  refine j_iconst (pc := 0) F 0 dX1_ending_0 (by decide) ?_
  refine j_istore_n (pc := 1) (k1 := 3) (ls' := [(3, .int 0), (0, .ref this), (1, .ref (G.2.2.2.2.1 v1)), (2, .int v2)]) F rfl rfl rfl dX1_ending_1 ?_
  refine j_sub [1, 2, 3, 0] rfl ?_
  exact jbX1_ending_2 G F hth 1000 _ _ _ _ h
theorem ctX1_ending (G : GT) {sh : SH} {I : IH} {L : LH} {n : Nat} {this : Nat} {v1 : Nat} {v2 : Int32} {r : Int32} {I' : IH}  (hth : isO sh 1 this) (h : fX1_ending sh this v1 v2 I = some (r, I')) : Ct G yX1_ending cX1_ending 4 (some .int) 4 [.ref this, .ref (G.2.2.2.2.1 v1), .int v2] sh I L n (some (.int r)) sh I' L n 0 0 := by
  refine ct_of (y := yX1_ending) (by decide +kernel) rfl (fun X F => ?_)
  exact jbX1_ending_0 G F hth h
theorem dX1_word_0 : decode cX1_word 0 = .ok (.aload_n 0, 1) := by decide +kernel
theorem dX1_word_1 : decode cX1_word 1 = .ok (.bipush 109, 2) := by decide +kernel
theorem dX1_word_3 : decode cX1_word 3 = .ok (.invokevirtual 39, 3) := by decide +kernel
theorem dX1_word_6 : decode cX1_word 6 = .ok (.ifCond .eq 30, 3) := by decide +kernel
theorem dX1_word_9 : decode cX1_word 9 = .ok (.aload_n 0, 1) := by decide +kernel
theorem dX1_word_10 : decode cX1_word 10 = .ok (.bipush 101, 2) := by decide +kernel
theorem dX1_word_12 : decode cX1_word 12 = .ok (.invokevirtual 39, 3) := by decide +kernel
theorem dX1_word_15 : decode cX1_word 15 = .ok (.ifCond .eq 13, 3) := by decide +kernel
theorem dX1_word_18 : decode cX1_word 18 = .ok (.aload_n 0, 1) := by decide +kernel
theorem dX1_word_19 : decode cX1_word 19 = .ok (.ldc 73, 2) := by decide +kernel
theorem dX1_word_21 : decode cX1_word 21 = .ok (.iconst 4, 1) := by decide +kernel
theorem dX1_word_22 : decode cX1_word 22 = .ok (.invokevirtual 75, 3) := by decide +kernel
theorem dX1_word_25 : decode cX1_word 25 = .ok (.goto 10, 3) := by decide +kernel
theorem dX1_word_28 : decode cX1_word 28 = .ok (.aload_n 0, 1) := by decide +kernel
theorem dX1_word_29 : decode cX1_word 29 = .ok (.ldc 79, 2) := by decide +kernel
theorem dX1_word_31 : decode cX1_word 31 = .ok (.iconst 2, 1) := by decide +kernel
theorem dX1_word_32 : decode cX1_word 32 = .ok (.invokevirtual 75, 3) := by decide +kernel
theorem dX1_word_35 : decode cX1_word 35 = .ok (.ireturn, 1) := by decide +kernel
theorem dX1_word_36 : decode cX1_word 36 = .ok (.aload_n 0, 1) := by decide +kernel
theorem dX1_word_37 : decode cX1_word 37 = .ok (.bipush 108, 2) := by decide +kernel
theorem dX1_word_39 : decode cX1_word 39 = .ok (.invokevirtual 39, 3) := by decide +kernel
theorem dX1_word_42 : decode cX1_word 42 = .ok (.ifCond .eq 30, 3) := by decide +kernel
theorem dX1_word_45 : decode cX1_word 45 = .ok (.aload_n 0, 1) := by decide +kernel
theorem dX1_word_46 : decode cX1_word 46 = .ok (.bipush 97, 2) := by decide +kernel
theorem dX1_word_48 : decode cX1_word 48 = .ok (.invokevirtual 39, 3) := by decide +kernel
theorem dX1_word_51 : decode cX1_word 51 = .ok (.ifCond .eq 13, 3) := by decide +kernel
theorem dX1_word_54 : decode cX1_word 54 = .ok (.aload_n 0, 1) := by decide +kernel
theorem dX1_word_55 : decode cX1_word 55 = .ok (.ldc 81, 2) := by decide +kernel
theorem dX1_word_57 : decode cX1_word 57 = .ok (.iconst 0, 1) := by decide +kernel
theorem dX1_word_58 : decode cX1_word 58 = .ok (.invokevirtual 75, 3) := by decide +kernel
theorem dX1_word_61 : decode cX1_word 61 = .ok (.goto 10, 3) := by decide +kernel
theorem dX1_word_64 : decode cX1_word 64 = .ok (.aload_n 0, 1) := by decide +kernel
theorem dX1_word_65 : decode cX1_word 65 = .ok (.ldc 83, 2) := by decide +kernel
theorem dX1_word_67 : decode cX1_word 67 = .ok (.iconst 1, 1) := by decide +kernel
theorem dX1_word_68 : decode cX1_word 68 = .ok (.invokevirtual 75, 3) := by decide +kernel
theorem dX1_word_71 : decode cX1_word 71 = .ok (.ireturn, 1) := by decide +kernel
theorem dX1_word_72 : decode cX1_word 72 = .ok (.aload_n 0, 1) := by decide +kernel
theorem dX1_word_73 : decode cX1_word 73 = .ok (.ldc 85, 2) := by decide +kernel
theorem dX1_word_75 : decode cX1_word 75 = .ok (.iconst 3, 1) := by decide +kernel
theorem dX1_word_76 : decode cX1_word 76 = .ok (.invokevirtual 75, 3) := by decide +kernel
theorem dX1_word_79 : decode cX1_word 79 = .ok (.ireturn, 1) := by decide +kernel
def fX1_word (sh : SH) (this : Nat) (I : IH) : Option (Int32 × IH) :=
  b2 (fX1_passes sh this 109 I) fun x1 i2 =>
  if x1 = 0 then (
    b2 (fX1_passes sh this 108 i2) fun x3 i4 =>
    if x3 = 0 then (
      b2 (fX1_ending sh this 4 3 i4) fun x5 i6 =>
      some (x5, i6)) else
    b2 (fX1_passes sh this 97 i4) fun x7 i8 =>
    if x7 = 0 then (
      b2 (fX1_ending sh this 3 1 i8) fun x9 i10 =>
      some (x9, i10)) else
    b2 (fX1_ending sh this 2 0 i8) fun x11 i12 =>
    some (x11, i12)) else
  b2 (fX1_passes sh this 101 i2) fun x13 i14 =>
  if x13 = 0 then (
    b2 (fX1_ending sh this 1 2 i14) fun x15 i16 =>
    some (x15, i16)) else
  b2 (fX1_ending sh this 0 4 i14) fun x17 i18 =>
  some (x17, i18)
set_option maxHeartbeats 4000000 in
set_option maxRecDepth 20000 in
theorem jbX1_word_0 (G : GT) {X : XT} {sh : SH} {L : LH} {n : Nat} {r : Int32} {I' : IH}  {this : Nat}  {I : IH} (F : MF G X RX1 cX1_word 1 5 (some .int) "word") (hth : isO sh 1 this) (h : fX1_word sh this I = some (r, I')) : J G X (QE G X (some (.int r)) sh I' L n) 1 sh I L n 0 0 0 [(0, .ref this)] [] := by
  unfold fX1_word at h
  refine j_aload_n (pc := 0) (k0 := 0) F 0 rfl dX1_word_0 ?_
  refine j_bipush (pc := 1) F 109 dX1_word_1 (by decide) ?_
  obtain ⟨x1, i2, hx1, h⟩ := b2_obt h
  refine j_callV1 (pc := 3) (ci := 1) (As := [.int 109]) (st := []) (e1 := 0) (es1 := 0) F clX1_39 cwX1_passes rfl hth (ctX1_passes G hth hx1) rfl rfl rfl rfl rfl rfl dX1_word_3 ?_
  refine j_if_eq (pc := 6) F 36 dX1_word_6 rfl (fun c => ?_) (fun c => ?_)
  · have h := iz_t c h
    refine j_aload_n (pc := 36) (k0 := 0) F 0 rfl dX1_word_36 ?_
    refine j_bipush (pc := 37) F 108 dX1_word_37 (by decide) ?_
    obtain ⟨x3, i4, hx3, h⟩ := b2_obt h
    refine j_callV1 (pc := 39) (ci := 1) (As := [.int 108]) (st := []) (e1 := 0) (es1 := 0) F clX1_39 cwX1_passes rfl hth (ctX1_passes G hth hx3) rfl rfl rfl rfl rfl rfl dX1_word_39 ?_
    refine j_if_eq (pc := 42) F 72 dX1_word_42 rfl (fun c => ?_) (fun c => ?_)
    · have h := iz_t c h
      refine j_aload_n (pc := 72) (k0 := 0) F 0 rfl dX1_word_72 ?_
      refine j_ldcS (pc := 73) F 4 rfl dX1_word_73 ?_
      refine j_iconst (pc := 75) F 3 dX1_word_75 (by decide) ?_
      obtain ⟨x5, i6, hx5, h⟩ := b2_obt h
      refine j_callV1 (pc := 76) (ci := 1) (As := [.ref (G.2.2.2.2.1 4), .int 3]) (st := []) (e1 := 0) (es1 := 0) F clX1_75 cwX1_ending rfl hth (ctX1_ending G hth hx5) rfl rfl rfl rfl rfl rfl dX1_word_76 ?_
      have g1 := Option.some.inj h
      obtain ⟨q3, g2⟩ := Prod.mk.inj g1
      subst q3
      subst g2
      exact j_iret (pc := 79) F dX1_word_79
    · have h := iz_f c h
      refine j_aload_n (pc := 45) (k0 := 0) F 0 rfl dX1_word_45 ?_
      refine j_bipush (pc := 46) F 97 dX1_word_46 (by decide) ?_
      obtain ⟨x7, i8, hx7, h⟩ := b2_obt h
      refine j_callV1 (pc := 48) (ci := 1) (As := [.int 97]) (st := []) (e1 := 0) (es1 := 0) F clX1_39 cwX1_passes rfl hth (ctX1_passes G hth hx7) rfl rfl rfl rfl rfl rfl dX1_word_48 ?_
      refine j_if_eq (pc := 51) F 64 dX1_word_51 rfl (fun c => ?_) (fun c => ?_)
      · have h := iz_t c h
        refine j_aload_n (pc := 64) (k0 := 0) F 0 rfl dX1_word_64 ?_
        refine j_ldcS (pc := 65) F 3 rfl dX1_word_65 ?_
        refine j_iconst (pc := 67) F 1 dX1_word_67 (by decide) ?_
        obtain ⟨x9, i10, hx9, h⟩ := b2_obt h
        refine j_callV1 (pc := 68) (ci := 1) (As := [.ref (G.2.2.2.2.1 3), .int 1]) (st := []) (e1 := 0) (es1 := 0) F clX1_75 cwX1_ending rfl hth (ctX1_ending G hth hx9) rfl rfl rfl rfl rfl rfl dX1_word_68 ?_
        have g1 := Option.some.inj h
        obtain ⟨q3, g2⟩ := Prod.mk.inj g1
        subst q3
        subst g2
        exact j_iret (pc := 71) F dX1_word_71
      · have h := iz_f c h
        refine j_aload_n (pc := 54) (k0 := 0) F 0 rfl dX1_word_54 ?_
        refine j_ldcS (pc := 55) F 2 rfl dX1_word_55 ?_
        refine j_iconst (pc := 57) F 0 dX1_word_57 (by decide) ?_
        obtain ⟨x11, i12, hx11, h⟩ := b2_obt h
        refine j_callV1 (pc := 58) (ci := 1) (As := [.ref (G.2.2.2.2.1 2), .int 0]) (st := []) (e1 := 0) (es1 := 0) F clX1_75 cwX1_ending rfl hth (ctX1_ending G hth hx11) rfl rfl rfl rfl rfl rfl dX1_word_58 ?_
        refine j_goto (pc := 61) F 71 dX1_word_61 rfl ?_
        have g1 := Option.some.inj h
        obtain ⟨q3, g2⟩ := Prod.mk.inj g1
        subst q3
        subst g2
        exact j_iret (pc := 71) F dX1_word_71
  · have h := iz_f c h
    refine j_aload_n (pc := 9) (k0 := 0) F 0 rfl dX1_word_9 ?_
    refine j_bipush (pc := 10) F 101 dX1_word_10 (by decide) ?_
    obtain ⟨x13, i14, hx13, h⟩ := b2_obt h
    refine j_callV1 (pc := 12) (ci := 1) (As := [.int 101]) (st := []) (e1 := 0) (es1 := 0) F clX1_39 cwX1_passes rfl hth (ctX1_passes G hth hx13) rfl rfl rfl rfl rfl rfl dX1_word_12 ?_
    refine j_if_eq (pc := 15) F 28 dX1_word_15 rfl (fun c => ?_) (fun c => ?_)
    · have h := iz_t c h
      refine j_aload_n (pc := 28) (k0 := 0) F 0 rfl dX1_word_28 ?_
      refine j_ldcS (pc := 29) F 1 rfl dX1_word_29 ?_
      refine j_iconst (pc := 31) F 2 dX1_word_31 (by decide) ?_
      obtain ⟨x15, i16, hx15, h⟩ := b2_obt h
      refine j_callV1 (pc := 32) (ci := 1) (As := [.ref (G.2.2.2.2.1 1), .int 2]) (st := []) (e1 := 0) (es1 := 0) F clX1_75 cwX1_ending rfl hth (ctX1_ending G hth hx15) rfl rfl rfl rfl rfl rfl dX1_word_32 ?_
      have g1 := Option.some.inj h
      obtain ⟨q3, g2⟩ := Prod.mk.inj g1
      subst q3
      subst g2
      exact j_iret (pc := 35) F dX1_word_35
    · have h := iz_f c h
      refine j_aload_n (pc := 18) (k0 := 0) F 0 rfl dX1_word_18 ?_
      refine j_ldcS (pc := 19) F 0 rfl dX1_word_19 ?_
      refine j_iconst (pc := 21) F 4 dX1_word_21 (by decide) ?_
      obtain ⟨x17, i18, hx17, h⟩ := b2_obt h
      refine j_callV1 (pc := 22) (ci := 1) (As := [.ref (G.2.2.2.2.1 0), .int 4]) (st := []) (e1 := 0) (es1 := 0) F clX1_75 cwX1_ending rfl hth (ctX1_ending G hth hx17) rfl rfl rfl rfl rfl rfl dX1_word_22 ?_
      refine j_goto (pc := 25) F 35 dX1_word_25 rfl ?_
      have g1 := Option.some.inj h
      obtain ⟨q3, g2⟩ := Prod.mk.inj g1
      subst q3
      subst g2
      exact j_iret (pc := 35) F dX1_word_35
theorem ctX1_word (G : GT) {sh : SH} {I : IH} {L : LH} {n : Nat} {this : Nat} {r : Int32} {I' : IH}  (hth : isO sh 1 this) (h : fX1_word sh this I = some (r, I')) : Ct G yX1_word cX1_word 1 (some .int) 5 [.ref this] sh I L n (some (.int r)) sh I' L n 0 0 := by
  refine ct_of (y := yX1_word) (by decide +kernel) rfl (fun X F => ?_)
  exact jbX1_word_0 G F hth h
theorem dX6_isUnder_0 : decode cX6_isUnder 0 = .ok (.iload_n 0, 1) := by decide +kernel
theorem dX6_isUnder_1 : decode cX6_isUnder 1 = .ok (.ifCond .lt 12, 3) := by decide +kernel
theorem dX6_isUnder_4 : decode cX6_isUnder 4 = .ok (.iload_n 0, 1) := by decide +kernel
theorem dX6_isUnder_5 : decode cX6_isUnder 5 = .ok (.iload_n 1, 1) := by decide +kernel
theorem dX6_isUnder_6 : decode cX6_isUnder 6 = .ok (.if_icmp .ge 7, 3) := by decide +kernel
theorem dX6_isUnder_9 : decode cX6_isUnder 9 = .ok (.iconst 1, 1) := by decide +kernel
theorem dX6_isUnder_10 : decode cX6_isUnder 10 = .ok (.goto 4, 3) := by decide +kernel
theorem dX6_isUnder_13 : decode cX6_isUnder 13 = .ok (.iconst 0, 1) := by decide +kernel
theorem dX6_isUnder_14 : decode cX6_isUnder 14 = .ok (.ireturn, 1) := by decide +kernel
def fX6_isUnder (v0 : Int32) (v1 : Int32) : Int32 :=
  if v0 < 0 then (
    0) else
  if v1 ≤ v0 then (
    0) else
  1
set_option maxHeartbeats 4000000 in
set_option maxRecDepth 20000 in
theorem jbX6_isUnder_0 (G : GT) {X : XT} {sh : SH} {I : IH} {L : LH} {n : Nat} {r : Int32}   {v0 : Int32} {v1 : Int32} (F : MF G X RX6 cX6_isUnder 2 0 (some .boolean) "isUnder") (h : fX6_isUnder v0 v1 = r) : J G X (QE G X (some (.int r)) sh I L n) 2 sh I L n 0 0 0 [(0, .int v0), (1, .int v1)] [] := by
  unfold fX6_isUnder at h
  refine j_iload_n (pc := 0) (k0 := 0) F 0 rfl dX6_isUnder_0 ?_
  refine j_if_lt (pc := 1) F 13 dX6_isUnder_1 rfl (fun c => ?_) (fun c => ?_)
  · have h := iz_t c h
    refine j_iconst (pc := 13) F 0 dX6_isUnder_13 (by decide) ?_
    subst h
    exact j_zret (pc := 14) F (Or.inl rfl) dX6_isUnder_14
  · have h := iz_f c h
    refine j_iload_n (pc := 4) (k0 := 0) F 0 rfl dX6_isUnder_4 ?_
    refine j_iload_n (pc := 5) (k0 := 1) F 1 rfl dX6_isUnder_5 ?_
    refine j_icmp_ge (pc := 6) F 13 dX6_isUnder_6 rfl (fun c => ?_) (fun c => ?_)
    · have h := iz_t c h
      refine j_iconst (pc := 13) F 0 dX6_isUnder_13 (by decide) ?_
      subst h
      exact j_zret (pc := 14) F (Or.inl rfl) dX6_isUnder_14
    · have h := iz_f c h
      refine j_iconst (pc := 9) F 1 dX6_isUnder_9 (by decide) ?_
      refine j_goto (pc := 10) F 14 dX6_isUnder_10 rfl ?_
      subst h
      exact j_zret (pc := 14) F (Or.inr rfl) dX6_isUnder_14
theorem ctX6_isUnder (G : GT) {sh : SH} {I : IH} {L : LH} {n : Nat} {v0 : Int32} {v1 : Int32} : Ct G yX6_isUnder cX6_isUnder 2 (some .boolean) 0 [.int v0, .int v1] sh I L n (some (.int (fX6_isUnder v0 v1))) sh I L n 0 0 := by
  refine ct_of (y := yX6_isUnder) (by decide +kernel) rfl (fun X F => ?_)
  exact jbX6_isUnder_0 G F rfl
theorem zbX6_isUnder {v0 : Int32} {v1 : Int32} : fX6_isUnder v0 v1 = 0 ∨ fX6_isUnder v0 v1 = 1 := by
  unfold fX6_isUnder
  repeat' split
  all_goals first | exact Or.inl rfl | exact Or.inr rfl
theorem dX1_number_0 : decode cX1_number 0 = .ok (.iconst 0, 1) := by decide +kernel
theorem dX1_number_1 : decode cX1_number 1 = .ok (.istore_n 1, 1) := by decide +kernel
theorem dX1_number_2 : decode cX1_number 2 = .ok (.iconst 0, 1) := by decide +kernel
theorem dX1_number_3 : decode cX1_number 3 = .ok (.istore_n 2, 1) := by decide +kernel
theorem dX1_number_4 : decode cX1_number 4 = .ok (.iload_n 2, 1) := by decide +kernel
theorem dX1_number_5 : decode cX1_number 5 = .ok (.iconst 2, 1) := by decide +kernel
theorem dX1_number_6 : decode cX1_number 6 = .ok (.if_icmp .ge 47, 3) := by decide +kernel
theorem dX1_number_9 : decode cX1_number 9 = .ok (.aload_n 0, 1) := by decide +kernel
theorem dX1_number_10 : decode cX1_number 10 = .ok (.invokevirtual 109, 3) := by decide +kernel
theorem dX1_number_13 : decode cX1_number 13 = .ok (.bipush 48, 2) := by decide +kernel
theorem dX1_number_15 : decode cX1_number 15 = .ok (.isub, 1) := by decide +kernel
theorem dX1_number_16 : decode cX1_number 16 = .ok (.bipush 10, 2) := by decide +kernel
theorem dX1_number_18 : decode cX1_number 18 = .ok (.invokestatic 112, 3) := by decide +kernel
theorem dX1_number_21 : decode cX1_number 21 = .ok (.ifCond .eq 32, 3) := by decide +kernel
theorem dX1_number_24 : decode cX1_number 24 = .ok (.bipush 10, 2) := by decide +kernel
theorem dX1_number_26 : decode cX1_number 26 = .ok (.iload_n 1, 1) := by decide +kernel
theorem dX1_number_27 : decode cX1_number 27 = .ok (.imul, 1) := by decide +kernel
theorem dX1_number_28 : decode cX1_number 28 = .ok (.aload_n 0, 1) := by decide +kernel
theorem dX1_number_29 : decode cX1_number 29 = .ok (.invokevirtual 109, 3) := by decide +kernel
theorem dX1_number_32 : decode cX1_number 32 = .ok (.iadd, 1) := by decide +kernel
theorem dX1_number_33 : decode cX1_number 33 = .ok (.bipush 48, 2) := by decide +kernel
theorem dX1_number_35 : decode cX1_number 35 = .ok (.isub, 1) := by decide +kernel
theorem dX1_number_36 : decode cX1_number 36 = .ok (.istore_n 1, 1) := by decide +kernel
theorem dX1_number_37 : decode cX1_number 37 = .ok (.aload_n 0, 1) := by decide +kernel
theorem dX1_number_38 : decode cX1_number 38 = .ok (.dup, 1) := by decide +kernel
theorem dX1_number_39 : decode cX1_number 39 = .ok (.getfield 43, 3) := by decide +kernel
theorem dX1_number_42 : decode cX1_number 42 = .ok (.iconst 1, 1) := by decide +kernel
theorem dX1_number_43 : decode cX1_number 43 = .ok (.iadd, 1) := by decide +kernel
theorem dX1_number_44 : decode cX1_number 44 = .ok (.putfield 43, 3) := by decide +kernel
theorem dX1_number_47 : decode cX1_number 47 = .ok (.iinc 2 1, 3) := by decide +kernel
theorem dX1_number_50 : decode cX1_number 50 = .ok (.goto (-46), 3) := by decide +kernel
theorem dX1_number_53 : decode cX1_number 53 = .ok (.iload_n 2, 1) := by decide +kernel
theorem dX1_number_54 : decode cX1_number 54 = .ok (.ifCond .ne 8, 3) := by decide +kernel
theorem dX1_number_57 : decode cX1_number 57 = .ok (.aload_n 0, 1) := by decide +kernel
theorem dX1_number_58 : decode cX1_number 58 = .ok (.iconst 0, 1) := by decide +kernel
theorem dX1_number_59 : decode cX1_number 59 = .ok (.putfield 9, 3) := by decide +kernel
theorem dX1_number_62 : decode cX1_number 62 = .ok (.iload_n 1, 1) := by decide +kernel
theorem dX1_number_63 : decode cX1_number 63 = .ok (.ireturn, 1) := by decide +kernel
def fX1_number_b4 (sh : SH) (this : Nat) (k53 : (Int32 → Int32 → IH → Option (Int32 × IH))) : Nat → Int32 → Int32 → IH → Option (Int32 × IH)
  | 0, _, _, _ => none
  | fuel + 1, v1, v2, I =>
    if 2 ≤ v2 then (
      k53 v1 v2 I) else
    (fX1_next sh I this).bind fun x1 =>
    if (fX6_isUnder (x1 - 48) 10) = 0 then (
      k53 v1 v2 I) else
    (fX1_next sh I this).bind fun x2 =>
    (gI sh I 1 this 3).bind fun x3 =>
    (pI sh I 1 this 3 (x3 + 1)).bind fun i4 =>
    fX1_number_b4 sh this k53 fuel (((10 * v1) + x2) - 48) (v2 + 1) i4
def fX1_number_b53 (sh : SH) (this : Nat) (v1 : Int32) (v2 : Int32) (I : IH) : Option (Int32 × IH) :=
  if v2 = 0 then (
    (pI sh I 1 this 2 0).bind fun i1 =>
    some (v1, i1)) else
  some (v1, I)
def fX1_number (sh : SH) (this : Nat) (I : IH) : Option (Int32 × IH) :=
  fX1_number_b4 sh this (fX1_number_b53 sh this) 1000 0 0 I
set_option maxHeartbeats 4000000 in
set_option maxRecDepth 20000 in
theorem jbX1_number_4 (G : GT) {X : XT} {sh : SH} {L : LH} {n : Nat} {r : Int32} {I' : IH}  {this : Nat} {k53 : (Int32 → Int32 → IH → Option (Int32 × IH))} (F : MF G X RX1 cX1_number 3 1 (some .int) "number") (hth : isO sh 1 this)
    (hk53 : ∀ {v1 : Int32} {v2 : Int32} {I : IH}, k53 v1 v2 I = some (r, I') → J G X (QE G X (some (.int r)) sh I' L n) 3 sh I L n 0 0 53 [(0, .ref this), (1, .int v1), (2, .int v2)] []) : ∀ (fuel : Nat) (v1 : Int32) (v2 : Int32) (I : IH), fX1_number_b4 sh this k53 fuel v1 v2 I = some (r, I') → J G X (QE G X (some (.int r)) sh I' L n) 3 sh I L n 0 0 4 [(0, .ref this), (1, .int v1), (2, .int v2)] []
  | 0 => by
    intros
    rename_i h
    exact absurd (show none = some _ from h) (by intro z; cases z)
  | fuel + 1 => by
    intro v1 v2 I h
    rw [fX1_number_b4] at h
    refine j_iload_n (pc := 4) (k0 := 2) F 2 rfl dX1_number_4 ?_
    refine j_iconst (pc := 5) F 2 dX1_number_5 (by decide) ?_
    refine j_icmp_ge (pc := 6) F 53 dX1_number_6 rfl (fun c => ?_) (fun c => ?_)
    · have h := iz_t c h
      exact hk53 h
    · have h := iz_f c h
      refine j_aload_n (pc := 9) (k0 := 0) F 0 rfl dX1_number_9 ?_
      obtain ⟨x1, hx1, h⟩ := ob h
      refine j_callV1 (pc := 10) (ci := 1) (As := []) (st := []) (e1 := 0) (es1 := 0) F clX1_109 cwX1_next rfl hth (ctX1_next G hx1) rfl rfl rfl rfl rfl rfl dX1_number_10 ?_
      refine j_bipush (pc := 13) F 48 dX1_number_13 (by decide) ?_
      refine j_isub (pc := 15) F dX1_number_15 ?_
      refine j_bipush (pc := 16) F 10 dX1_number_16 (by decide) ?_
      refine j_callSN1 (pc := 18) (As := [.int (x1 - 48), .int 10]) (st := []) (e1 := 0) (es1 := 0) F clX1_112 cwX6_isUnder (ctX6_isUnder G) rfl rfl rfl rfl rfl rfl dX1_number_18 ?_
      refine j_if_eq (pc := 21) F 53 dX1_number_21 rfl (fun c => ?_) (fun c => ?_)
      · have h := iz_t c h
        exact hk53 h
      · have h := iz_f c h
        refine j_bipush (pc := 24) F 10 dX1_number_24 (by decide) ?_
        refine j_iload_n (pc := 26) (k0 := 1) F 1 rfl dX1_number_26 ?_
        refine j_imul (pc := 27) F dX1_number_27 ?_
        refine j_aload_n (pc := 28) (k0 := 0) F 0 rfl dX1_number_28 ?_
        obtain ⟨x2, hx2, h⟩ := ob h
        refine j_callV1 (pc := 29) (ci := 1) (As := []) (st := [.int (10 * v1)]) (e1 := 0) (es1 := 0) F clX1_109 cwX1_next rfl hth (ctX1_next G hx2) rfl rfl rfl rfl rfl rfl dX1_number_29 ?_
        refine j_iadd (pc := 32) F dX1_number_32 ?_
        refine j_bipush (pc := 33) F 48 dX1_number_33 (by decide) ?_
        refine j_isub (pc := 35) F dX1_number_35 ?_
        refine j_istore_n (pc := 36) (k1 := 1) (ls' := [(1, .int (((10 * v1) + x2) - 48)), (0, .ref this), (2, .int v2)]) F rfl rfl rfl dX1_number_36 ?_
        refine j_aload_n (pc := 37) (k0 := 0) F 1 rfl dX1_number_37 ?_
        refine j_dup (pc := 38) F dX1_number_38 rfl ?_
        obtain ⟨x3, hx3, h⟩ := ob h
        refine j_getI (pc := 39) F flX1_43 hx3 dX1_number_39 ?_
        refine j_iconst (pc := 42) F 1 dX1_number_42 (by decide) ?_
        refine j_iadd (pc := 43) F dX1_number_43 ?_
        obtain ⟨i4, hi4, h⟩ := ob h
        refine j_putI (pc := 44) F flX1_43 fp1_3 (fun z => by cases z) hi4 dX1_number_44 ?_
        refine j_iinc (pc := 47) (k1 := 2) (ls' := [(2, .int (v2 + 1)), (1, .int (((10 * v1) + x2) - 48)), (0, .ref this)]) F (v2 + 1) 2 rfl rfl rfl rfl dX1_number_47 ?_
        refine j_goto (pc := 50) F 4 dX1_number_50 rfl ?_
        refine j_sub [2, 1, 0] rfl ?_
        exact jbX1_number_4 G F hth hk53 fuel _ _ _ h
set_option maxHeartbeats 4000000 in
set_option maxRecDepth 20000 in
theorem jbX1_number_53 (G : GT) {X : XT} {sh : SH} {L : LH} {n : Nat} {r : Int32} {I' : IH}  {this : Nat}  {v1 : Int32} {v2 : Int32} {I : IH} (F : MF G X RX1 cX1_number 3 1 (some .int) "number") (hth : isO sh 1 this) (h : fX1_number_b53 sh this v1 v2 I = some (r, I')) : J G X (QE G X (some (.int r)) sh I' L n) 3 sh I L n 0 0 53 [(0, .ref this), (1, .int v1), (2, .int v2)] [] := by
  unfold fX1_number_b53 at h
  refine j_iload_n (pc := 53) (k0 := 2) F 2 rfl dX1_number_53 ?_
  refine j_if_ne (pc := 54) F 62 dX1_number_54 rfl (fun c => ?_) (fun c => ?_)
  · have h := iz_f c h
    refine j_iload_n (pc := 62) (k0 := 1) F 1 rfl dX1_number_62 ?_
    have g1 := Option.some.inj h
    obtain ⟨q3, g2⟩ := Prod.mk.inj g1
    subst q3
    subst g2
    exact j_iret (pc := 63) F dX1_number_63
  · have h := iz_t c h
    refine j_aload_n (pc := 57) (k0 := 0) F 0 rfl dX1_number_57 ?_
    refine j_iconst (pc := 58) F 0 dX1_number_58 (by decide) ?_
    obtain ⟨i1, hi1, h⟩ := ob h
    refine j_putZ (pc := 59) F (Or.inl rfl) flX1_9 fp1_2 (fun z => by cases z) hi1 dX1_number_59 ?_
    refine j_iload_n (pc := 62) (k0 := 1) F 1 rfl dX1_number_62 ?_
    have g1 := Option.some.inj h
    obtain ⟨q3, g2⟩ := Prod.mk.inj g1
    subst q3
    subst g2
    exact j_iret (pc := 63) F dX1_number_63
set_option maxHeartbeats 4000000 in
set_option maxRecDepth 20000 in
theorem jbX1_number_0 (G : GT) {X : XT} {sh : SH} {L : LH} {n : Nat} {r : Int32} {I' : IH}  {this : Nat}  {I : IH} (F : MF G X RX1 cX1_number 3 1 (some .int) "number") (hth : isO sh 1 this) (h : fX1_number sh this I = some (r, I')) : J G X (QE G X (some (.int r)) sh I' L n) 3 sh I L n 0 0 0 [(0, .ref this)] [] := by
  unfold fX1_number at h
  refine j_iconst (pc := 0) F 0 dX1_number_0 (by decide) ?_
  refine j_istore_n (pc := 1) (k1 := 1) (ls' := [(1, .int 0), (0, .ref this)]) F rfl rfl rfl dX1_number_1 ?_
  refine j_iconst (pc := 2) F 0 dX1_number_2 (by decide) ?_
  refine j_istore_n (pc := 3) (k1 := 2) (ls' := [(2, .int 0), (1, .int 0), (0, .ref this)]) F rfl rfl rfl dX1_number_3 ?_
  refine j_sub [2, 1, 0] rfl ?_
  exact jbX1_number_4 G F hth (fun h => jbX1_number_53 G F hth h) 1000 _ _ _ h
theorem ctX1_number (G : GT) {sh : SH} {I : IH} {L : LH} {n : Nat} {this : Nat} {r : Int32} {I' : IH}  (hth : isO sh 1 this) (h : fX1_number sh this I = some (r, I')) : Ct G yX1_number cX1_number 3 (some .int) 1 [.ref this] sh I L n (some (.int r)) sh I' L n 0 0 := by
  refine ct_of (y := yX1_number) (by decide +kernel) rfl (fun X F => ?_)
  exact jbX1_number_0 G F hth h
theorem dX1_oneOf_0 : decode cX1_oneOf 0 = .ok (.aload_n 0, 1) := by decide +kernel
theorem dX1_oneOf_1 : decode cX1_oneOf 1 = .ok (.invokevirtual 109, 3) := by decide +kernel
theorem dX1_oneOf_4 : decode cX1_oneOf 4 = .ok (.istore 4, 2) := by decide +kernel
theorem dX1_oneOf_6 : decode cX1_oneOf 6 = .ok (.iload 4, 2) := by decide +kernel
theorem dX1_oneOf_8 : decode cX1_oneOf 8 = .ok (.iload_n 1, 1) := by decide +kernel
theorem dX1_oneOf_9 : decode cX1_oneOf 9 = .ok (.if_icmp .eq 22, 3) := by decide +kernel
theorem dX1_oneOf_12 : decode cX1_oneOf 12 = .ok (.iload 4, 2) := by decide +kernel
theorem dX1_oneOf_14 : decode cX1_oneOf 14 = .ok (.iload_n 2, 1) := by decide +kernel
theorem dX1_oneOf_15 : decode cX1_oneOf 15 = .ok (.if_icmp .eq 16, 3) := by decide +kernel
theorem dX1_oneOf_18 : decode cX1_oneOf 18 = .ok (.iload 4, 2) := by decide +kernel
theorem dX1_oneOf_20 : decode cX1_oneOf 20 = .ok (.iload_n 3, 1) := by decide +kernel
theorem dX1_oneOf_21 : decode cX1_oneOf 21 = .ok (.if_icmp .eq 10, 3) := by decide +kernel
theorem dX1_oneOf_24 : decode cX1_oneOf 24 = .ok (.aload_n 0, 1) := by decide +kernel
theorem dX1_oneOf_25 : decode cX1_oneOf 25 = .ok (.iconst 0, 1) := by decide +kernel
theorem dX1_oneOf_26 : decode cX1_oneOf 26 = .ok (.putfield 9, 3) := by decide +kernel
theorem dX1_oneOf_29 : decode cX1_oneOf 29 = .ok (.iconst (-1), 1) := by decide +kernel
theorem dX1_oneOf_30 : decode cX1_oneOf 30 = .ok (.ireturn, 1) := by decide +kernel
theorem dX1_oneOf_31 : decode cX1_oneOf 31 = .ok (.aload_n 0, 1) := by decide +kernel
theorem dX1_oneOf_32 : decode cX1_oneOf 32 = .ok (.dup, 1) := by decide +kernel
theorem dX1_oneOf_33 : decode cX1_oneOf 33 = .ok (.getfield 43, 3) := by decide +kernel
theorem dX1_oneOf_36 : decode cX1_oneOf 36 = .ok (.iconst 1, 1) := by decide +kernel
theorem dX1_oneOf_37 : decode cX1_oneOf 37 = .ok (.iadd, 1) := by decide +kernel
theorem dX1_oneOf_38 : decode cX1_oneOf 38 = .ok (.putfield 43, 3) := by decide +kernel
theorem dX1_oneOf_41 : decode cX1_oneOf 41 = .ok (.iload 4, 2) := by decide +kernel
theorem dX1_oneOf_43 : decode cX1_oneOf 43 = .ok (.ireturn, 1) := by decide +kernel
def fX1_oneOf_b31 (sh : SH) (this : Nat) (v4 : Int32) (I : IH) : Option (Int32 × IH) :=
  (gI sh I 1 this 3).bind fun x1 =>
  (pI sh I 1 this 3 (x1 + 1)).bind fun i2 =>
  some (v4, i2)
def fX1_oneOf (sh : SH) (this : Nat) (v1 : Int32) (v2 : Int32) (v3 : Int32) (I : IH) : Option (Int32 × IH) :=
  (fX1_next sh I this).bind fun x1 =>
  if x1 = v1 then (
    fX1_oneOf_b31 sh this x1 I) else
  if x1 = v2 then (
    fX1_oneOf_b31 sh this x1 I) else
  if x1 = v3 then (
    fX1_oneOf_b31 sh this x1 I) else
  (pI sh I 1 this 2 0).bind fun i2 =>
  some ((-1), i2)
set_option maxHeartbeats 4000000 in
set_option maxRecDepth 20000 in
theorem jbX1_oneOf_31 (G : GT) {X : XT} {sh : SH} {L : LH} {n : Nat} {r : Int32} {I' : IH}  {this : Nat}  {v4 : Int32} {I : IH} (F : MF G X RX1 cX1_oneOf 5 1 (some .int) "oneOf") (hth : isO sh 1 this) (h : fX1_oneOf_b31 sh this v4 I = some (r, I')) : J G X (QE G X (some (.int r)) sh I' L n) 5 sh I L n 0 0 31 [(0, .ref this), (4, .int v4)] [] := by
  unfold fX1_oneOf_b31 at h
  refine j_aload_n (pc := 31) (k0 := 0) F 0 rfl dX1_oneOf_31 ?_
  refine j_dup (pc := 32) F dX1_oneOf_32 rfl ?_
  obtain ⟨x1, hx1, h⟩ := ob h
  refine j_getI (pc := 33) F flX1_43 hx1 dX1_oneOf_33 ?_
  refine j_iconst (pc := 36) F 1 dX1_oneOf_36 (by decide) ?_
  refine j_iadd (pc := 37) F dX1_oneOf_37 ?_
  obtain ⟨i2, hi2, h⟩ := ob h
  refine j_putI (pc := 38) F flX1_43 fp1_3 (fun z => by cases z) hi2 dX1_oneOf_38 ?_
  refine j_iload (pc := 41) (k0 := 4) F 1 rfl dX1_oneOf_41 ?_
  have g1 := Option.some.inj h
  obtain ⟨q3, g2⟩ := Prod.mk.inj g1
  subst q3
  subst g2
  exact j_iret (pc := 43) F dX1_oneOf_43
set_option maxHeartbeats 4000000 in
set_option maxRecDepth 20000 in
theorem jbX1_oneOf_0 (G : GT) {X : XT} {sh : SH} {L : LH} {n : Nat} {r : Int32} {I' : IH}  {this : Nat}  {v1 : Int32} {v2 : Int32} {v3 : Int32} {I : IH} (F : MF G X RX1 cX1_oneOf 5 1 (some .int) "oneOf") (hth : isO sh 1 this) (h : fX1_oneOf sh this v1 v2 v3 I = some (r, I')) : J G X (QE G X (some (.int r)) sh I' L n) 5 sh I L n 0 0 0 [(0, .ref this), (1, .int v1), (2, .int v2), (3, .int v3)] [] := by
  unfold fX1_oneOf at h
  refine j_aload_n (pc := 0) (k0 := 0) F 0 rfl dX1_oneOf_0 ?_
  obtain ⟨x1, hx1, h⟩ := ob h
  refine j_callV1 (pc := 1) (ci := 1) (As := []) (st := []) (e1 := 0) (es1 := 0) F clX1_109 cwX1_next rfl hth (ctX1_next G hx1) rfl rfl rfl rfl rfl rfl dX1_oneOf_1 ?_
  refine j_istore (pc := 4) (k1 := 4) (ls' := [(4, .int x1), (0, .ref this), (1, .int v1), (2, .int v2), (3, .int v3)]) F rfl rfl dX1_oneOf_4 ?_
  refine j_iload (pc := 6) (k0 := 4) F 0 rfl dX1_oneOf_6 ?_
  refine j_iload_n (pc := 8) (k0 := 1) F 2 rfl dX1_oneOf_8 ?_
  refine j_icmp_eq (pc := 9) F 31 dX1_oneOf_9 rfl (fun c => ?_) (fun c => ?_)
  · have h := iz_t c h
    refine j_sub [1, 0] rfl ?_
    exact jbX1_oneOf_31 G F hth h
  · have h := iz_f c h
    refine j_iload (pc := 12) (k0 := 4) F 0 rfl dX1_oneOf_12 ?_
    refine j_iload_n (pc := 14) (k0 := 2) F 3 rfl dX1_oneOf_14 ?_
    refine j_icmp_eq (pc := 15) F 31 dX1_oneOf_15 rfl (fun c => ?_) (fun c => ?_)
    · have h := iz_t c h
      refine j_sub [1, 0] rfl ?_
      exact jbX1_oneOf_31 G F hth h
    · have h := iz_f c h
      refine j_iload (pc := 18) (k0 := 4) F 0 rfl dX1_oneOf_18 ?_
      refine j_iload_n (pc := 20) (k0 := 3) F 4 rfl dX1_oneOf_20 ?_
      refine j_icmp_eq (pc := 21) F 31 dX1_oneOf_21 rfl (fun c => ?_) (fun c => ?_)
      · have h := iz_t c h
        refine j_sub [1, 0] rfl ?_
        exact jbX1_oneOf_31 G F hth h
      · have h := iz_f c h
        refine j_aload_n (pc := 24) (k0 := 0) F 1 rfl dX1_oneOf_24 ?_
        refine j_iconst (pc := 25) F 0 dX1_oneOf_25 (by decide) ?_
        obtain ⟨i2, hi2, h⟩ := ob h
        refine j_putZ (pc := 26) F (Or.inl rfl) flX1_9 fp1_2 (fun z => by cases z) hi2 dX1_oneOf_26 ?_
        refine j_iconst (pc := 29) F (-1) dX1_oneOf_29 (by decide) ?_
        have g1 := Option.some.inj h
        obtain ⟨q3, g2⟩ := Prod.mk.inj g1
        subst q3
        subst g2
        exact j_iret (pc := 30) F dX1_oneOf_30
theorem ctX1_oneOf (G : GT) {sh : SH} {I : IH} {L : LH} {n : Nat} {this : Nat} {v1 : Int32} {v2 : Int32} {v3 : Int32} {r : Int32} {I' : IH}  (hth : isO sh 1 this) (h : fX1_oneOf sh this v1 v2 v3 I = some (r, I')) : Ct G yX1_oneOf cX1_oneOf 5 (some .int) 1 [.ref this, .int v1, .int v2, .int v3] sh I L n (some (.int r)) sh I' L n 0 0 := by
  refine ct_of (y := yX1_oneOf) (by decide +kernel) rfl (fun X F => ?_)
  exact jbX1_oneOf_0 G F hth h
theorem dX1_whereHolds_0 : decode cX1_whereHolds 0 = .ok (.sipush 144, 3) := by decide +kernel
theorem dX1_whereHolds_3 : decode cX1_whereHolds 3 = .ok (.newarray .boolean, 2) := by decide +kernel
theorem dX1_whereHolds_5 : decode cX1_whereHolds 5 = .ok (.astore_n 3, 1) := by decide +kernel
theorem dX1_whereHolds_6 : decode cX1_whereHolds 6 = .ok (.iconst 0, 1) := by decide +kernel
theorem dX1_whereHolds_7 : decode cX1_whereHolds 7 = .ok (.istore 4, 2) := by decide +kernel
theorem dX1_whereHolds_9 : decode cX1_whereHolds 9 = .ok (.iload 4, 2) := by decide +kernel
theorem dX1_whereHolds_11 : decode cX1_whereHolds 11 = .ok (.sipush 144, 3) := by decide +kernel
theorem dX1_whereHolds_14 : decode cX1_whereHolds 14 = .ok (.if_icmp .ge 103, 3) := by decide +kernel
theorem dX1_whereHolds_17 : decode cX1_whereHolds 17 = .ok (.iload_n 0, 1) := by decide +kernel
theorem dX1_whereHolds_18 : decode cX1_whereHolds 18 = .ok (.bipush 104, 2) := by decide +kernel
theorem dX1_whereHolds_20 : decode cX1_whereHolds 20 = .ok (.if_icmp .ne 11, 3) := by decide +kernel
theorem dX1_whereHolds_23 : decode cX1_whereHolds 23 = .ok (.iload 4, 2) := by decide +kernel
theorem dX1_whereHolds_25 : decode cX1_whereHolds 25 = .ok (.bipush 24, 2) := by decide +kernel
theorem dX1_whereHolds_27 : decode cX1_whereHolds 27 = .ok (.irem, 1) := by decide +kernel
theorem dX1_whereHolds_28 : decode cX1_whereHolds 28 = .ok (.goto 26, 3) := by decide +kernel
theorem dX1_whereHolds_31 : decode cX1_whereHolds 31 = .ok (.iload_n 0, 1) := by decide +kernel
theorem dX1_whereHolds_32 : decode cX1_whereHolds 32 = .ok (.bipush 100, 2) := by decide +kernel
theorem dX1_whereHolds_34 : decode cX1_whereHolds 34 = .ok (.if_icmp .ne 13, 3) := by decide +kernel
theorem dX1_whereHolds_37 : decode cX1_whereHolds 37 = .ok (.iload 4, 2) := by decide +kernel
theorem dX1_whereHolds_39 : decode cX1_whereHolds 39 = .ok (.bipush 24, 2) := by decide +kernel
theorem dX1_whereHolds_41 : decode cX1_whereHolds 41 = .ok (.idiv, 1) := by decide +kernel
theorem dX1_whereHolds_42 : decode cX1_whereHolds 42 = .ok (.iconst 3, 1) := by decide +kernel
theorem dX1_whereHolds_43 : decode cX1_whereHolds 43 = .ok (.idiv, 1) := by decide +kernel
theorem dX1_whereHolds_44 : decode cX1_whereHolds 44 = .ok (.goto 10, 3) := by decide +kernel
theorem dX1_whereHolds_47 : decode cX1_whereHolds 47 = .ok (.iload 4, 2) := by decide +kernel
theorem dX1_whereHolds_49 : decode cX1_whereHolds 49 = .ok (.bipush 24, 2) := by decide +kernel
theorem dX1_whereHolds_51 : decode cX1_whereHolds 51 = .ok (.idiv, 1) := by decide +kernel
theorem dX1_whereHolds_52 : decode cX1_whereHolds 52 = .ok (.iconst 3, 1) := by decide +kernel
theorem dX1_whereHolds_53 : decode cX1_whereHolds 53 = .ok (.irem, 1) := by decide +kernel
theorem dX1_whereHolds_54 : decode cX1_whereHolds 54 = .ok (.istore 5, 2) := by decide +kernel
theorem dX1_whereHolds_56 : decode cX1_whereHolds 56 = .ok (.aload_n 3, 1) := by decide +kernel
theorem dX1_whereHolds_57 : decode cX1_whereHolds 57 = .ok (.iload 4, 2) := by decide +kernel
theorem dX1_whereHolds_59 : decode cX1_whereHolds 59 = .ok (.iload_n 1, 1) := by decide +kernel
theorem dX1_whereHolds_60 : decode cX1_whereHolds 60 = .ok (.bipush 60, 2) := by decide +kernel
theorem dX1_whereHolds_62 : decode cX1_whereHolds 62 = .ok (.if_icmp .ne 17, 3) := by decide +kernel
theorem dX1_whereHolds_65 : decode cX1_whereHolds 65 = .ok (.iload 5, 2) := by decide +kernel
theorem dX1_whereHolds_67 : decode cX1_whereHolds 67 = .ok (.iload_n 2, 1) := by decide +kernel
theorem dX1_whereHolds_68 : decode cX1_whereHolds 68 = .ok (.if_icmp .ge 7, 3) := by decide +kernel
theorem dX1_whereHolds_71 : decode cX1_whereHolds 71 = .ok (.iconst 1, 1) := by decide +kernel
theorem dX1_whereHolds_72 : decode cX1_whereHolds 72 = .ok (.goto 38, 3) := by decide +kernel
theorem dX1_whereHolds_75 : decode cX1_whereHolds 75 = .ok (.iconst 0, 1) := by decide +kernel
theorem dX1_whereHolds_76 : decode cX1_whereHolds 76 = .ok (.goto 34, 3) := by decide +kernel
theorem dX1_whereHolds_79 : decode cX1_whereHolds 79 = .ok (.iload_n 1, 1) := by decide +kernel
theorem dX1_whereHolds_80 : decode cX1_whereHolds 80 = .ok (.bipush 61, 2) := by decide +kernel
theorem dX1_whereHolds_82 : decode cX1_whereHolds 82 = .ok (.if_icmp .ne 17, 3) := by decide +kernel
theorem dX1_whereHolds_85 : decode cX1_whereHolds 85 = .ok (.iload 5, 2) := by decide +kernel
theorem dX1_whereHolds_87 : decode cX1_whereHolds 87 = .ok (.iload_n 2, 1) := by decide +kernel
theorem dX1_whereHolds_88 : decode cX1_whereHolds 88 = .ok (.if_icmp .ne 7, 3) := by decide +kernel
theorem dX1_whereHolds_91 : decode cX1_whereHolds 91 = .ok (.iconst 1, 1) := by decide +kernel
theorem dX1_whereHolds_92 : decode cX1_whereHolds 92 = .ok (.goto 18, 3) := by decide +kernel
theorem dX1_whereHolds_95 : decode cX1_whereHolds 95 = .ok (.iconst 0, 1) := by decide +kernel
theorem dX1_whereHolds_96 : decode cX1_whereHolds 96 = .ok (.goto 14, 3) := by decide +kernel
theorem dX1_whereHolds_99 : decode cX1_whereHolds 99 = .ok (.iload 5, 2) := by decide +kernel
theorem dX1_whereHolds_101 : decode cX1_whereHolds 101 = .ok (.iload_n 2, 1) := by decide +kernel
theorem dX1_whereHolds_102 : decode cX1_whereHolds 102 = .ok (.if_icmp .le 7, 3) := by decide +kernel
theorem dX1_whereHolds_105 : decode cX1_whereHolds 105 = .ok (.iconst 1, 1) := by decide +kernel
theorem dX1_whereHolds_106 : decode cX1_whereHolds 106 = .ok (.goto 4, 3) := by decide +kernel
theorem dX1_whereHolds_109 : decode cX1_whereHolds 109 = .ok (.iconst 0, 1) := by decide +kernel
theorem dX1_whereHolds_110 : decode cX1_whereHolds 110 = .ok (.bastore, 1) := by decide +kernel
theorem dX1_whereHolds_111 : decode cX1_whereHolds 111 = .ok (.iinc 4 1, 3) := by decide +kernel
theorem dX1_whereHolds_114 : decode cX1_whereHolds 114 = .ok (.goto (-105), 3) := by decide +kernel
theorem dX1_whereHolds_117 : decode cX1_whereHolds 117 = .ok (.aload_n 3, 1) := by decide +kernel
theorem dX1_whereHolds_118 : decode cX1_whereHolds 118 = .ok (.areturn, 1) := by decide +kernel
def fX1_whereHolds_b54 (k9 : (Int32 → Int32 → Int32 → Nat → Int32 → SH → IH → Nat → Option ((Nat × Nat) × (Nat × SH × IH × Nat)))) (v0 : Int32) (v1 : Int32) (v2 : Int32) (v3 : Nat) (v4 : Int32) (s0 : Int32) (sh : SH) (I : IH) (n : Nat) : Option ((Nat × Nat) × (Nat × SH × IH × Nat)) :=
  if v1 = 60 then (
    if v2 ≤ s0 then (
      (sZ sh I v3 v4 0).bind fun i5 =>
      k9 v0 v1 v2 v3 (v4 + 1) sh i5 n) else
    (sZ sh I v3 v4 1).bind fun i6 =>
    k9 v0 v1 v2 v3 (v4 + 1) sh i6 n) else
  if v1 = 61 then (
    if s0 = v2 then (
      (sZ sh I v3 v4 1).bind fun i4 =>
      k9 v0 v1 v2 v3 (v4 + 1) sh i4 n) else
    (sZ sh I v3 v4 0).bind fun i3 =>
    k9 v0 v1 v2 v3 (v4 + 1) sh i3 n) else
  if s0 ≤ v2 then (
    (sZ sh I v3 v4 0).bind fun i1 =>
    k9 v0 v1 v2 v3 (v4 + 1) sh i1 n) else
  (sZ sh I v3 v4 1).bind fun i2 =>
  k9 v0 v1 v2 v3 (v4 + 1) sh i2 n
def fX1_whereHolds_b9  : Nat → Int32 → Int32 → Int32 → Nat → Int32 → SH → IH → Nat → Option ((Nat × Nat) × (Nat × SH × IH × Nat))
  | 0, _, _, _, _, _, _, _, _ => none
  | fuel + 1, v0, v1, v2, v3, v4, sh, I, n =>
    if 144 ≤ v4 then (
      some ((0, 0), (v3, sh, I, n))) else
    if v0 = 104 then (
      fX1_whereHolds_b54 (fX1_whereHolds_b9 fuel) v0 v1 v2 v3 v4 (v4 - v4 / 24 * 24) sh I n) else
    if v0 = 100 then (
      fX1_whereHolds_b54 (fX1_whereHolds_b9 fuel) v0 v1 v2 v3 v4 ((v4 / 24) / 3) sh I n) else
    fX1_whereHolds_b54 (fX1_whereHolds_b9 fuel) v0 v1 v2 v3 v4 ((v4 / 24) - (v4 / 24) / 3 * 3) sh I n
def fX1_whereHolds (v0 : Int32) (v1 : Int32) (v2 : Int32) (sh : SH) (I : IH) (n : Nat) : Option ((Nat × Nat) × (Nat × SH × IH × Nat)) :=
  b2 (nAI sh I n 1 144) fun h1 i2 =>
  addE 1 (144 : Int32).toNatClampNeg (
  fX1_whereHolds_b9 1000 v0 v1 v2 n 0 h1 i2 (n + 1))
set_option maxHeartbeats 4000000 in
set_option maxRecDepth 20000 in
theorem jbX1_whereHolds_54 (G : GT) {X : XT} {L : LH} {r : Nat} {sh' : SH} {I' : IH} {n' : Nat}  {k9 : (Int32 → Int32 → Int32 → Nat → Int32 → SH → IH → Nat → Option ((Nat × Nat) × (Nat × SH × IH × Nat)))} {v0 : Int32} {v1 : Int32} {v2 : Int32} {v3 : Nat} {v4 : Int32} {s0 : Int32} {sh : SH} {I : IH} {n : Nat} {e es : Nat} (F : MF G X RX1 cX1_whereHolds 6 0 (some (.array .boolean)) "whereHolds")
    (hk9 : ∀ {v0 : Int32} {v1 : Int32} {v2 : Int32} {v3 : Nat} {v4 : Int32} {sh : SH} {I : IH} {n : Nat} {e es : Nat}, k9 v0 v1 v2 v3 v4 sh I n = some ((e, es), (r, sh', I', n')) → J G X (QE G X (some (.ref r)) sh' I' L n') 6 sh I L n e es 9 [(0, .int v0), (1, .int v1), (2, .int v2), (3, .ref v3), (4, .int v4)] []) (h : fX1_whereHolds_b54 k9 v0 v1 v2 v3 v4 s0 sh I n = some ((e, es), (r, sh', I', n'))) : J G X (QE G X (some (.ref r)) sh' I' L n') 6 sh I L n e es 54 [(0, .int v0), (1, .int v1), (2, .int v2), (3, .ref v3), (4, .int v4)] [.int s0] := by
  unfold fX1_whereHolds_b54 at h
  refine j_istore (pc := 54) (k1 := 5) (ls' := [(5, .int s0), (0, .int v0), (1, .int v1), (2, .int v2), (3, .ref v3), (4, .int v4)]) F rfl rfl dX1_whereHolds_54 ?_
  refine j_aload_n (pc := 56) (k0 := 3) F 4 rfl dX1_whereHolds_56 ?_
  refine j_iload (pc := 57) (k0 := 4) F 5 rfl dX1_whereHolds_57 ?_
  refine j_iload_n (pc := 59) (k0 := 1) F 2 rfl dX1_whereHolds_59 ?_
  refine j_bipush (pc := 60) F 60 dX1_whereHolds_60 (by decide) ?_
  refine j_icmp_ne (pc := 62) F 79 dX1_whereHolds_62 rfl (fun c => ?_) (fun c => ?_)
  · have h := iz_f c h
    refine j_iload_n (pc := 79) (k0 := 1) F 2 rfl dX1_whereHolds_79 ?_
    refine j_bipush (pc := 80) F 61 dX1_whereHolds_80 (by decide) ?_
    refine j_icmp_ne (pc := 82) F 99 dX1_whereHolds_82 rfl (fun c => ?_) (fun c => ?_)
    · have h := iz_f c h
      refine j_iload (pc := 99) (k0 := 5) F 0 rfl dX1_whereHolds_99 ?_
      refine j_iload_n (pc := 101) (k0 := 2) F 3 rfl dX1_whereHolds_101 ?_
      refine j_icmp_le (pc := 102) F 109 dX1_whereHolds_102 rfl (fun c => ?_) (fun c => ?_)
      · have h := iz_t c h
        refine j_iconst (pc := 109) F 0 dX1_whereHolds_109 (by decide) ?_
        obtain ⟨i1, hi1, h⟩ := ob h
        refine j_zast (pc := 110) F hi1 dX1_whereHolds_110 ?_
        refine j_iinc (pc := 111) (k1 := 4) (ls' := [(4, .int (v4 + 1)), (5, .int s0), (0, .int v0), (1, .int v1), (2, .int v2), (3, .ref v3)]) F (v4 + 1) 5 rfl rfl rfl rfl dX1_whereHolds_111 ?_
        refine j_goto (pc := 114) F 9 dX1_whereHolds_114 rfl ?_
        refine j_sub [2, 3, 4, 5, 0] rfl ?_
        exact hk9 h
      · have h := iz_f c h
        refine j_iconst (pc := 105) F 1 dX1_whereHolds_105 (by decide) ?_
        refine j_goto (pc := 106) F 110 dX1_whereHolds_106 rfl ?_
        obtain ⟨i2, hi2, h⟩ := ob h
        refine j_zast (pc := 110) F hi2 dX1_whereHolds_110 ?_
        refine j_iinc (pc := 111) (k1 := 4) (ls' := [(4, .int (v4 + 1)), (5, .int s0), (0, .int v0), (1, .int v1), (2, .int v2), (3, .ref v3)]) F (v4 + 1) 5 rfl rfl rfl rfl dX1_whereHolds_111 ?_
        refine j_goto (pc := 114) F 9 dX1_whereHolds_114 rfl ?_
        refine j_sub [2, 3, 4, 5, 0] rfl ?_
        exact hk9 h
    · have h := iz_t c h
      refine j_iload (pc := 85) (k0 := 5) F 0 rfl dX1_whereHolds_85 ?_
      refine j_iload_n (pc := 87) (k0 := 2) F 3 rfl dX1_whereHolds_87 ?_
      refine j_icmp_ne (pc := 88) F 95 dX1_whereHolds_88 rfl (fun c => ?_) (fun c => ?_)
      · have h := iz_f c h
        refine j_iconst (pc := 95) F 0 dX1_whereHolds_95 (by decide) ?_
        refine j_goto (pc := 96) F 110 dX1_whereHolds_96 rfl ?_
        obtain ⟨i3, hi3, h⟩ := ob h
        refine j_zast (pc := 110) F hi3 dX1_whereHolds_110 ?_
        refine j_iinc (pc := 111) (k1 := 4) (ls' := [(4, .int (v4 + 1)), (5, .int s0), (0, .int v0), (1, .int v1), (2, .int v2), (3, .ref v3)]) F (v4 + 1) 5 rfl rfl rfl rfl dX1_whereHolds_111 ?_
        refine j_goto (pc := 114) F 9 dX1_whereHolds_114 rfl ?_
        refine j_sub [2, 3, 4, 5, 0] rfl ?_
        exact hk9 h
      · have h := iz_t c h
        refine j_iconst (pc := 91) F 1 dX1_whereHolds_91 (by decide) ?_
        refine j_goto (pc := 92) F 110 dX1_whereHolds_92 rfl ?_
        obtain ⟨i4, hi4, h⟩ := ob h
        refine j_zast (pc := 110) F hi4 dX1_whereHolds_110 ?_
        refine j_iinc (pc := 111) (k1 := 4) (ls' := [(4, .int (v4 + 1)), (5, .int s0), (0, .int v0), (1, .int v1), (2, .int v2), (3, .ref v3)]) F (v4 + 1) 5 rfl rfl rfl rfl dX1_whereHolds_111 ?_
        refine j_goto (pc := 114) F 9 dX1_whereHolds_114 rfl ?_
        refine j_sub [2, 3, 4, 5, 0] rfl ?_
        exact hk9 h
  · have h := iz_t c h
    refine j_iload (pc := 65) (k0 := 5) F 0 rfl dX1_whereHolds_65 ?_
    refine j_iload_n (pc := 67) (k0 := 2) F 3 rfl dX1_whereHolds_67 ?_
    refine j_icmp_ge (pc := 68) F 75 dX1_whereHolds_68 rfl (fun c => ?_) (fun c => ?_)
    · have h := iz_t c h
      refine j_iconst (pc := 75) F 0 dX1_whereHolds_75 (by decide) ?_
      refine j_goto (pc := 76) F 110 dX1_whereHolds_76 rfl ?_
      obtain ⟨i5, hi5, h⟩ := ob h
      refine j_zast (pc := 110) F hi5 dX1_whereHolds_110 ?_
      refine j_iinc (pc := 111) (k1 := 4) (ls' := [(4, .int (v4 + 1)), (5, .int s0), (0, .int v0), (1, .int v1), (2, .int v2), (3, .ref v3)]) F (v4 + 1) 5 rfl rfl rfl rfl dX1_whereHolds_111 ?_
      refine j_goto (pc := 114) F 9 dX1_whereHolds_114 rfl ?_
      refine j_sub [2, 3, 4, 5, 0] rfl ?_
      exact hk9 h
    · have h := iz_f c h
      refine j_iconst (pc := 71) F 1 dX1_whereHolds_71 (by decide) ?_
      refine j_goto (pc := 72) F 110 dX1_whereHolds_72 rfl ?_
      obtain ⟨i6, hi6, h⟩ := ob h
      refine j_zast (pc := 110) F hi6 dX1_whereHolds_110 ?_
      refine j_iinc (pc := 111) (k1 := 4) (ls' := [(4, .int (v4 + 1)), (5, .int s0), (0, .int v0), (1, .int v1), (2, .int v2), (3, .ref v3)]) F (v4 + 1) 5 rfl rfl rfl rfl dX1_whereHolds_111 ?_
      refine j_goto (pc := 114) F 9 dX1_whereHolds_114 rfl ?_
      refine j_sub [2, 3, 4, 5, 0] rfl ?_
      exact hk9 h
set_option maxHeartbeats 4000000 in
set_option maxRecDepth 20000 in
theorem jbX1_whereHolds_9 (G : GT) {X : XT} {L : LH} {r : Nat} {sh' : SH} {I' : IH} {n' : Nat}   (F : MF G X RX1 cX1_whereHolds 6 0 (some (.array .boolean)) "whereHolds") : ∀ (fuel : Nat) (v0 : Int32) (v1 : Int32) (v2 : Int32) (v3 : Nat) (v4 : Int32) (sh : SH) (I : IH) (n : Nat) (e es : Nat), fX1_whereHolds_b9 fuel v0 v1 v2 v3 v4 sh I n = some ((e, es), (r, sh', I', n')) → J G X (QE G X (some (.ref r)) sh' I' L n') 6 sh I L n e es 9 [(0, .int v0), (1, .int v1), (2, .int v2), (3, .ref v3), (4, .int v4)] []
  | 0 => by
    intros
    rename_i h
    exact absurd (show none = some _ from h) (by intro z; cases z)
  | fuel + 1 => by
    intro v0 v1 v2 v3 v4 sh I n e es h
    rw [fX1_whereHolds_b9] at h
    refine j_iload (pc := 9) (k0 := 4) F 4 rfl dX1_whereHolds_9 ?_
    refine j_sipush (pc := 11) F 144 dX1_whereHolds_11 (by decide) ?_
    refine j_icmp_ge (pc := 14) F 117 dX1_whereHolds_14 rfl (fun c => ?_) (fun c => ?_)
    · have h := iz_t c h
      refine j_aload_n (pc := 117) (k0 := 3) F 3 rfl dX1_whereHolds_117 ?_
      have g0 := Option.some.inj h
      obtain ⟨hq, g1⟩ := Prod.mk.inj g0
      obtain ⟨q1, q2⟩ := Prod.mk.inj hq
      obtain ⟨q3, g2⟩ := Prod.mk.inj g1
      obtain ⟨q4, g3⟩ := Prod.mk.inj g2
      obtain ⟨q5, g4⟩ := Prod.mk.inj g3
      subst q1
      subst q2
      subst q3
      subst q4
      subst q5
      subst g4
      exact j_aretR (pc := 118) F rfl (Or.inr ⟨_, rfl⟩) dX1_whereHolds_118
    · have h := iz_f c h
      refine j_iload_n (pc := 17) (k0 := 0) F 0 rfl dX1_whereHolds_17 ?_
      refine j_bipush (pc := 18) F 104 dX1_whereHolds_18 (by decide) ?_
      refine j_icmp_ne (pc := 20) F 31 dX1_whereHolds_20 rfl (fun c => ?_) (fun c => ?_)
      · have h := iz_f c h
        refine j_iload_n (pc := 31) (k0 := 0) F 0 rfl dX1_whereHolds_31 ?_
        refine j_bipush (pc := 32) F 100 dX1_whereHolds_32 (by decide) ?_
        refine j_icmp_ne (pc := 34) F 47 dX1_whereHolds_34 rfl (fun c => ?_) (fun c => ?_)
        · have h := iz_f c h
          refine j_iload (pc := 47) (k0 := 4) F 4 rfl dX1_whereHolds_47 ?_
          refine j_bipush (pc := 49) F 24 dX1_whereHolds_49 (by decide) ?_
          refine j_idiv (pc := 51) F (by decide) dX1_whereHolds_51 ?_
          refine j_iconst (pc := 52) F 3 dX1_whereHolds_52 (by decide) ?_
          refine j_irem (pc := 53) F (by decide) dX1_whereHolds_53 ?_
          exact jbX1_whereHolds_54 G F (fun h => jbX1_whereHolds_9 G F fuel _ _ _ _ _ _ _ _ _ _ h) h
        · have h := iz_t c h
          refine j_iload (pc := 37) (k0 := 4) F 4 rfl dX1_whereHolds_37 ?_
          refine j_bipush (pc := 39) F 24 dX1_whereHolds_39 (by decide) ?_
          refine j_idiv (pc := 41) F (by decide) dX1_whereHolds_41 ?_
          refine j_iconst (pc := 42) F 3 dX1_whereHolds_42 (by decide) ?_
          refine j_idiv (pc := 43) F (by decide) dX1_whereHolds_43 ?_
          refine j_goto (pc := 44) F 54 dX1_whereHolds_44 rfl ?_
          exact jbX1_whereHolds_54 G F (fun h => jbX1_whereHolds_9 G F fuel _ _ _ _ _ _ _ _ _ _ h) h
      · have h := iz_t c h
        refine j_iload (pc := 23) (k0 := 4) F 4 rfl dX1_whereHolds_23 ?_
        refine j_bipush (pc := 25) F 24 dX1_whereHolds_25 (by decide) ?_
        refine j_irem (pc := 27) F (by decide) dX1_whereHolds_27 ?_
        refine j_goto (pc := 28) F 54 dX1_whereHolds_28 rfl ?_
        exact jbX1_whereHolds_54 G F (fun h => jbX1_whereHolds_9 G F fuel _ _ _ _ _ _ _ _ _ _ h) h
set_option maxHeartbeats 4000000 in
set_option maxRecDepth 20000 in
theorem jbX1_whereHolds_0 (G : GT) {X : XT} {L : LH} {r : Nat} {sh' : SH} {I' : IH} {n' : Nat}   {v0 : Int32} {v1 : Int32} {v2 : Int32} {sh : SH} {I : IH} {n : Nat} {e es : Nat} (F : MF G X RX1 cX1_whereHolds 6 0 (some (.array .boolean)) "whereHolds") (h : fX1_whereHolds v0 v1 v2 sh I n = some ((e, es), (r, sh', I', n'))) : J G X (QE G X (some (.ref r)) sh' I' L n') 6 sh I L n e es 0 [(0, .int v0), (1, .int v1), (2, .int v2)] [] := by
  unfold fX1_whereHolds at h
  refine j_sipush (pc := 0) F 144 dX1_whereHolds_0 (by decide) ?_
  obtain ⟨h1, i2, hh1, h⟩ := b2_obt h
  obtain ⟨e3, es4, h, he, hes⟩ := addE_obt h
  refine j_newI (pc := 3) F (Or.inr ⟨rfl, rfl⟩) aw_boolean hh1 he hes dX1_whereHolds_3 ?_
  refine j_astore_n (pc := 5) (k1 := 3) (ls' := [(3, .ref n), (0, .int v0), (1, .int v1), (2, .int v2)]) F rfl rfl rfl dX1_whereHolds_5 ?_
  refine j_iconst (pc := 6) F 0 dX1_whereHolds_6 (by decide) ?_
  refine j_istore (pc := 7) (k1 := 4) (ls' := [(4, .int 0), (3, .ref n), (0, .int v0), (1, .int v1), (2, .int v2)]) F rfl rfl dX1_whereHolds_7 ?_
  refine j_sub [2, 3, 4, 1, 0] rfl ?_
  exact jbX1_whereHolds_9 G F 1000 _ _ _ _ _ _ _ _ _ _ h
theorem ctX1_whereHolds (G : GT) {sh : SH} {I : IH} {L : LH} {n : Nat} {v0 : Int32} {v1 : Int32} {v2 : Int32} {r : Nat} {sh' : SH} {I' : IH} {n' : Nat} {e es : Nat}  (h : fX1_whereHolds v0 v1 v2 sh I n = some ((e, es), (r, sh', I', n'))) : Ct G yX1_whereHolds cX1_whereHolds 6 (some (.array .boolean)) 0 [.int v0, .int v1, .int v2] sh I L n (some (.ref r)) sh' I' L n' e es := by
  refine ct_of (y := yX1_whereHolds) (by decide +kernel) rfl (fun X F => ?_)
  exact jbX1_whereHolds_0 G F h
theorem dX1_both_0 : decode cX1_both 0 = .ok (.aload_n 0, 1) := by decide +kernel
theorem dX1_both_1 : decode cX1_both 1 = .ok (.iload_n 1, 1) := by decide +kernel
theorem dX1_both_2 : decode cX1_both 2 = .ok (.invokevirtual 98, 3) := by decide +kernel
theorem dX1_both_5 : decode cX1_both 5 = .ok (.astore_n 2, 1) := by decide +kernel
theorem dX1_both_6 : decode cX1_both 6 = .ok (.iconst 0, 1) := by decide +kernel
theorem dX1_both_7 : decode cX1_both 7 = .ok (.istore_n 3, 1) := by decide +kernel
theorem dX1_both_8 : decode cX1_both 8 = .ok (.iload_n 3, 1) := by decide +kernel
theorem dX1_both_9 : decode cX1_both 9 = .ok (.aload_n 0, 1) := by decide +kernel
theorem dX1_both_10 : decode cX1_both 10 = .ok (.getfield 32, 3) := by decide +kernel
theorem dX1_both_13 : decode cX1_both 13 = .ok (.if_icmp .ge 54, 3) := by decide +kernel
theorem dX1_both_16 : decode cX1_both 16 = .ok (.aload_n 0, 1) := by decide +kernel
theorem dX1_both_17 : decode cX1_both 17 = .ok (.bipush 38, 2) := by decide +kernel
theorem dX1_both_19 : decode cX1_both 19 = .ok (.invokevirtual 39, 3) := by decide +kernel
theorem dX1_both_22 : decode cX1_both 22 = .ok (.ifCond .eq 45, 3) := by decide +kernel
theorem dX1_both_25 : decode cX1_both 25 = .ok (.aload_n 0, 1) := by decide +kernel
theorem dX1_both_26 : decode cX1_both 26 = .ok (.iload_n 1, 1) := by decide +kernel
theorem dX1_both_27 : decode cX1_both 27 = .ok (.invokevirtual 98, 3) := by decide +kernel
theorem dX1_both_30 : decode cX1_both 30 = .ok (.astore 4, 2) := by decide +kernel
theorem dX1_both_32 : decode cX1_both 32 = .ok (.iconst 0, 1) := by decide +kernel
theorem dX1_both_33 : decode cX1_both 33 = .ok (.istore 5, 2) := by decide +kernel
theorem dX1_both_35 : decode cX1_both 35 = .ok (.iload 5, 2) := by decide +kernel
theorem dX1_both_37 : decode cX1_both 37 = .ok (.sipush 144, 3) := by decide +kernel
theorem dX1_both_40 : decode cX1_both 40 = .ok (.if_icmp .ge 21, 3) := by decide +kernel
theorem dX1_both_43 : decode cX1_both 43 = .ok (.aload_n 2, 1) := by decide +kernel
theorem dX1_both_44 : decode cX1_both 44 = .ok (.iload 5, 2) := by decide +kernel
theorem dX1_both_46 : decode cX1_both 46 = .ok (.dup2, 1) := by decide +kernel
theorem dX1_both_47 : decode cX1_both 47 = .ok (.baload, 1) := by decide +kernel
theorem dX1_both_48 : decode cX1_both 48 = .ok (.aload 4, 2) := by decide +kernel
theorem dX1_both_50 : decode cX1_both 50 = .ok (.iload 5, 2) := by decide +kernel
theorem dX1_both_52 : decode cX1_both 52 = .ok (.baload, 1) := by decide +kernel
theorem dX1_both_53 : decode cX1_both 53 = .ok (.iand, 1) := by decide +kernel
theorem dX1_both_54 : decode cX1_both 54 = .ok (.bastore, 1) := by decide +kernel
theorem dX1_both_55 : decode cX1_both 55 = .ok (.iinc 5 1, 3) := by decide +kernel
theorem dX1_both_58 : decode cX1_both 58 = .ok (.goto (-23), 3) := by decide +kernel
theorem dX1_both_61 : decode cX1_both 61 = .ok (.iinc 3 1, 3) := by decide +kernel
theorem dX1_both_64 : decode cX1_both 64 = .ok (.goto (-56), 3) := by decide +kernel
theorem dX1_both_67 : decode cX1_both 67 = .ok (.aload_n 2, 1) := by decide +kernel
theorem dX1_both_68 : decode cX1_both 68 = .ok (.areturn, 1) := by decide +kernel
def fX1_both_b35 (this : Nat) (rc : (Nat → Int32 → SH → IH → Nat → Option ((Nat × Nat) × (Nat × SH × IH × Nat)))) (k8 : (Int32 → Nat → Int32 → SH → IH → Nat → Option ((Nat × Nat) × (Nat × SH × IH × Nat)))) : Nat → Int32 → Nat → Int32 → Nat → Int32 → SH → IH → Nat → Option ((Nat × Nat) × (Nat × SH × IH × Nat))
  | 0, _, _, _, _, _, _, _, _ => none
  | fuel + 1, v1, v2, v3, v4, v5, sh, I, n =>
    if 144 ≤ v5 then (
      k8 v1 v2 (v3 + 1) sh I n) else
    (aI sh I 1 v2 v5).bind fun x1 =>
    (aI sh I 1 v4 v5).bind fun x2 =>
    (sZ sh I v2 v5 (x1 &&& x2)).bind fun i3 =>
    fX1_both_b35 this rc k8 fuel v1 v2 v3 v4 (v5 + 1) sh i3 n
def fX1_both_b8 (this : Nat) (rc : (Nat → Int32 → SH → IH → Nat → Option ((Nat × Nat) × (Nat × SH × IH × Nat)))) : Nat → Int32 → Nat → Int32 → SH → IH → Nat → Option ((Nat × Nat) × (Nat × SH × IH × Nat))
  | 0, _, _, _, _, _, _ => none
  | fuel + 1, v1, v2, v3, sh, I, n =>
    (gI sh I 1 this 1).bind fun x1 =>
    if x1 ≤ v3 then (
      some ((0, 0), (v2, sh, I, n))) else
    (ck sh 1 this).bind fun u2 =>
    b2 (fX1_passes sh this 38 I) fun x3 i4 =>
    if x3 = 0 then (
      some ((0, 0), (v2, sh, i4, n))) else
    bE4 (rc this v1 sh i4 n) fun x5 h6 i7 n8 =>
    fX1_both_b35 this rc (fX1_both_b8 this rc fuel) 1000 v1 v2 v3 x5 0 h6 i7 n8
def fX1_both_b0 (this : Nat) (rc : (Nat → Int32 → SH → IH → Nat → Option ((Nat × Nat) × (Nat × SH × IH × Nat)))) (v1 : Int32) (sh : SH) (I : IH) (n : Nat) : Option ((Nat × Nat) × (Nat × SH × IH × Nat)) :=
  bE4 (rc this v1 sh I n) fun x1 h2 i3 n4 =>
  fX1_both_b8 this rc 1000 v1 x1 0 h2 i3 n4
def fX1_both (this : Nat) (rc : (Nat → Int32 → SH → IH → Nat → Option ((Nat × Nat) × (Nat × SH × IH × Nat)))) (v1 : Int32) (sh : SH) (I : IH) (n : Nat) : Option ((Nat × Nat) × (Nat × SH × IH × Nat)) := fX1_both_b0 this rc v1 sh I n
set_option maxHeartbeats 4000000 in
set_option maxRecDepth 20000 in
theorem jbX1_both_35 (G : GT) {X : XT} {dR : Nat} {L : LH} {r : Nat} {sh' : SH} {I' : IH} {n' : Nat}  {this : Nat} {k8 : (Int32 → Nat → Int32 → SH → IH → Nat → Option ((Nat × Nat) × (Nat × SH × IH × Nat)))} {rc : (Nat → Int32 → SH → IH → Nat → Option ((Nat × Nat) × (Nat × SH × IH × Nat)))} (F : MF G X RX1 cX1_both 6 (dR + 10) (some (.array .boolean)) "both") (hrc : ∀ {sh : SH} {I : IH} {L : LH} {n : Nat} {this : Nat} {v1 : Int32} {r : Nat} {sh' : SH} {I' : IH} {n' : Nat} {e es : Nat} , isO sh 1 this → rc this v1 sh I n = some ((e, es), (r, sh', I', n')) → Ct G yX1_factor cX1_factor 4 (some (.array .boolean)) dR [.ref this, .int v1] sh I L n (some (.ref r)) sh' I' L n' e es)
    (hk8 : ∀ {v1 : Int32} {v2 : Nat} {v3 : Int32} {sh : SH} {I : IH} {n : Nat} {e es : Nat}, k8 v1 v2 v3 sh I n = some ((e, es), (r, sh', I', n')) → J G X (QE G X (some (.ref r)) sh' I' L n') 6 sh I L n e es 8 [(0, .ref this), (1, .int v1), (2, .ref v2), (3, .int v3)] []) : ∀ (fuel : Nat) (v1 : Int32) (v2 : Nat) (v3 : Int32) (v4 : Nat) (v5 : Int32) (sh : SH) (I : IH) (n : Nat) (e es : Nat), fX1_both_b35 this rc k8 fuel v1 v2 v3 v4 v5 sh I n = some ((e, es), (r, sh', I', n')) → J G X (QE G X (some (.ref r)) sh' I' L n') 6 sh I L n e es 35 [(0, .ref this), (1, .int v1), (2, .ref v2), (3, .int v3), (4, .ref v4), (5, .int v5)] []
  | 0 => by
    intros
    rename_i h
    exact absurd (show none = some _ from h) (by intro z; cases z)
  | fuel + 1 => by
    intro v1 v2 v3 v4 v5 sh I n e es h
    rw [fX1_both_b35] at h
    refine j_iload (pc := 35) (k0 := 5) F 5 rfl dX1_both_35 ?_
    refine j_sipush (pc := 37) F 144 dX1_both_37 (by decide) ?_
    refine j_icmp_ge (pc := 40) F 61 dX1_both_40 rfl (fun c => ?_) (fun c => ?_)
    · have h := iz_t c h
      refine j_iinc (pc := 61) (k1 := 3) (ls' := [(3, .int (v3 + 1)), (0, .ref this), (1, .int v1), (2, .ref v2), (4, .ref v4), (5, .int v5)]) F (v3 + 1) 3 rfl rfl rfl rfl dX1_both_61 ?_
      refine j_goto (pc := 64) F 8 dX1_both_64 rfl ?_
      refine j_sub [1, 2, 3, 0] rfl ?_
      exact hk8 h
    · have h := iz_f c h
      refine j_aload_n (pc := 43) (k0 := 2) F 2 rfl dX1_both_43 ?_
      refine j_iload (pc := 44) (k0 := 5) F 5 rfl dX1_both_44 ?_
      refine j_dup2 (pc := 46) F dX1_both_46 rfl rfl ?_
      obtain ⟨x1, hx1, h⟩ := ob h
      refine j_zald (pc := 47) F hx1 dX1_both_47 ?_
      refine j_aload (pc := 48) (k0 := 4) F 4 rfl dX1_both_48 ?_
      refine j_iload (pc := 50) (k0 := 5) F 5 rfl dX1_both_50 ?_
      obtain ⟨x2, hx2, h⟩ := ob h
      refine j_zald (pc := 52) F hx2 dX1_both_52 ?_
      refine j_iand (pc := 53) F dX1_both_53 ?_
      obtain ⟨i3, hi3, h⟩ := ob h
      refine j_zast (pc := 54) F hi3 dX1_both_54 ?_
      refine j_iinc (pc := 55) (k1 := 5) (ls' := [(5, .int (v5 + 1)), (0, .ref this), (1, .int v1), (2, .ref v2), (3, .int v3), (4, .ref v4)]) F (v5 + 1) 5 rfl rfl rfl rfl dX1_both_55 ?_
      refine j_goto (pc := 58) F 35 dX1_both_58 rfl ?_
      refine j_sub [1, 2, 3, 4, 5, 0] rfl ?_
      exact jbX1_both_35 G F hrc hk8 fuel _ _ _ _ _ _ _ _ _ _ h
set_option maxHeartbeats 4000000 in
set_option maxRecDepth 20000 in
theorem jbX1_both_8 (G : GT) {X : XT} {dR : Nat} {L : LH} {r : Nat} {sh' : SH} {I' : IH} {n' : Nat}  {this : Nat} {rc : (Nat → Int32 → SH → IH → Nat → Option ((Nat × Nat) × (Nat × SH × IH × Nat)))} (F : MF G X RX1 cX1_both 6 (dR + 10) (some (.array .boolean)) "both") (hrc : ∀ {sh : SH} {I : IH} {L : LH} {n : Nat} {this : Nat} {v1 : Int32} {r : Nat} {sh' : SH} {I' : IH} {n' : Nat} {e es : Nat} , isO sh 1 this → rc this v1 sh I n = some ((e, es), (r, sh', I', n')) → Ct G yX1_factor cX1_factor 4 (some (.array .boolean)) dR [.ref this, .int v1] sh I L n (some (.ref r)) sh' I' L n' e es) : ∀ (fuel : Nat) (v1 : Int32) (v2 : Nat) (v3 : Int32) (sh : SH) (I : IH) (n : Nat) (e es : Nat), fX1_both_b8 this rc fuel v1 v2 v3 sh I n = some ((e, es), (r, sh', I', n')) → J G X (QE G X (some (.ref r)) sh' I' L n') 6 sh I L n e es 8 [(0, .ref this), (1, .int v1), (2, .ref v2), (3, .int v3)] []
  | 0 => by
    intros
    rename_i h
    exact absurd (show none = some _ from h) (by intro z; cases z)
  | fuel + 1 => by
    intro v1 v2 v3 sh I n e es h
    rw [fX1_both_b8] at h
    refine j_iload_n (pc := 8) (k0 := 3) F 3 rfl dX1_both_8 ?_
    refine j_aload_n (pc := 9) (k0 := 0) F 0 rfl dX1_both_9 ?_
    obtain ⟨x1, hx1, h⟩ := ob h
    refine j_getI (pc := 10) F flX1_32 hx1 dX1_both_10 ?_
    refine j_icmp_ge (pc := 13) F 67 dX1_both_13 rfl (fun c => ?_) (fun c => ?_)
    · have h := iz_t c h
      refine j_aload_n (pc := 67) (k0 := 2) F 2 rfl dX1_both_67 ?_
      have g0 := Option.some.inj h
      obtain ⟨hq, g1⟩ := Prod.mk.inj g0
      obtain ⟨q1, q2⟩ := Prod.mk.inj hq
      obtain ⟨q3, g2⟩ := Prod.mk.inj g1
      obtain ⟨q4, g3⟩ := Prod.mk.inj g2
      obtain ⟨q5, g4⟩ := Prod.mk.inj g3
      subst q1
      subst q2
      subst q3
      subst q4
      subst q5
      subst g4
      exact j_aretR (pc := 68) F rfl (Or.inr ⟨_, rfl⟩) dX1_both_68
    · have h := iz_f c h
      refine j_aload_n (pc := 16) (k0 := 0) F 0 rfl dX1_both_16 ?_
      refine j_bipush (pc := 17) F 38 dX1_both_17 (by decide) ?_
      obtain ⟨u2, hu2, h⟩ := ob h
      have hou2 := ck_obt hu2
      obtain ⟨x3, i4, hx3, h⟩ := b2_obt h
      refine j_callV1 (pc := 19) (ci := 1) (As := [.int 38]) (st := []) (e1 := e) (es1 := es) F clX1_39 cwX1_passes rfl hou2 (ctX1_passes G hou2 hx3) (dok_of (by omega) (by decide)) rfl rfl rfl (Nat.zero_add _).symm (Nat.zero_add _).symm dX1_both_19 ?_
      refine j_if_eq (pc := 22) F 67 dX1_both_22 rfl (fun c => ?_) (fun c => ?_)
      · have h := iz_t c h
        refine j_aload_n (pc := 67) (k0 := 2) F 2 rfl dX1_both_67 ?_
        have g0 := Option.some.inj h
        obtain ⟨hq, g1⟩ := Prod.mk.inj g0
        obtain ⟨q1, q2⟩ := Prod.mk.inj hq
        obtain ⟨q3, g2⟩ := Prod.mk.inj g1
        obtain ⟨q4, g3⟩ := Prod.mk.inj g2
        obtain ⟨q5, g4⟩ := Prod.mk.inj g3
        subst q1
        subst q2
        subst q3
        subst q4
        subst q5
        subst g4
        exact j_aretR (pc := 68) F rfl (Or.inr ⟨_, rfl⟩) dX1_both_68
      · have h := iz_f c h
        refine j_aload_n (pc := 25) (k0 := 0) F 0 rfl dX1_both_25 ?_
        refine j_iload_n (pc := 26) (k0 := 1) F 1 rfl dX1_both_26 ?_
        obtain ⟨d9, ds10, x5, h6, i7, n8, e11, es12, hx5, h, he, hes⟩ := bE4_obt h
        refine j_callV1 (pc := 27) (ci := 1) (As := [.int v1]) (st := []) (e1 := e11) (es1 := es12) F clX1_98 cwX1_factor rfl hou2 (hrc hou2 hx5) (dok_of (by omega) (by decide)) rfl rfl rfl he hes dX1_both_27 ?_
        refine j_astore (pc := 30) (k1 := 4) (ls' := [(4, .ref x5), (0, .ref this), (1, .int v1), (2, .ref v2), (3, .int v3)]) F rfl rfl dX1_both_30 ?_
        refine j_iconst (pc := 32) F 0 dX1_both_32 (by decide) ?_
        refine j_istore (pc := 33) (k1 := 5) (ls' := [(5, .int 0), (4, .ref x5), (0, .ref this), (1, .int v1), (2, .ref v2), (3, .int v3)]) F rfl rfl dX1_both_33 ?_
        refine j_sub [2, 3, 4, 5, 1, 0] rfl ?_
        exact jbX1_both_35 G F hrc (fun h => jbX1_both_8 G F hrc fuel _ _ _ _ _ _ _ _ h) 1000 _ _ _ _ _ _ _ _ _ _ h
set_option maxHeartbeats 4000000 in
set_option maxRecDepth 20000 in
theorem jbX1_both_0 (G : GT) {X : XT} {dR : Nat} {L : LH} {r : Nat} {sh' : SH} {I' : IH} {n' : Nat}  {this : Nat} {rc : (Nat → Int32 → SH → IH → Nat → Option ((Nat × Nat) × (Nat × SH × IH × Nat)))} {v1 : Int32} {sh : SH} {I : IH} {n : Nat} {e es : Nat} (F : MF G X RX1 cX1_both 6 (dR + 10) (some (.array .boolean)) "both") (hth : isO sh 1 this) (hrc : ∀ {sh : SH} {I : IH} {L : LH} {n : Nat} {this : Nat} {v1 : Int32} {r : Nat} {sh' : SH} {I' : IH} {n' : Nat} {e es : Nat} , isO sh 1 this → rc this v1 sh I n = some ((e, es), (r, sh', I', n')) → Ct G yX1_factor cX1_factor 4 (some (.array .boolean)) dR [.ref this, .int v1] sh I L n (some (.ref r)) sh' I' L n' e es) (h : fX1_both_b0 this rc v1 sh I n = some ((e, es), (r, sh', I', n'))) : J G X (QE G X (some (.ref r)) sh' I' L n') 6 sh I L n e es 0 [(0, .ref this), (1, .int v1)] [] := by
  unfold fX1_both_b0 at h
  refine j_aload_n (pc := 0) (k0 := 0) F 0 rfl dX1_both_0 ?_
  refine j_iload_n (pc := 1) (k0 := 1) F 1 rfl dX1_both_1 ?_
  obtain ⟨d5, ds6, x1, h2, i3, n4, e7, es8, hx1, h, he, hes⟩ := bE4_obt h
  refine j_callV1 (pc := 2) (ci := 1) (As := [.int v1]) (st := []) (e1 := e7) (es1 := es8) F clX1_98 cwX1_factor rfl hth (hrc hth hx1) (dok_of (by omega) (by decide)) rfl rfl rfl he hes dX1_both_2 ?_
  refine j_astore_n (pc := 5) (k1 := 2) (ls' := [(2, .ref x1), (0, .ref this), (1, .int v1)]) F rfl rfl rfl dX1_both_5 ?_
  refine j_iconst (pc := 6) F 0 dX1_both_6 (by decide) ?_
  refine j_istore_n (pc := 7) (k1 := 3) (ls' := [(3, .int 0), (2, .ref x1), (0, .ref this), (1, .int v1)]) F rfl rfl rfl dX1_both_7 ?_
  refine j_sub [2, 3, 1, 0] rfl ?_
  exact jbX1_both_8 G F hrc 1000 _ _ _ _ _ _ _ _ h
theorem ctX1_both (G : GT) {rc : (Nat → Int32 → SH → IH → Nat → Option ((Nat × Nat) × (Nat × SH × IH × Nat)))} {dR : Nat} {sh : SH} {I : IH} {L : LH} {n : Nat} {this : Nat} {v1 : Int32} {r : Nat} {sh' : SH} {I' : IH} {n' : Nat} {e es : Nat}  (hth : isO sh 1 this) (hrc : ∀ {sh : SH} {I : IH} {L : LH} {n : Nat} {this : Nat} {v1 : Int32} {r : Nat} {sh' : SH} {I' : IH} {n' : Nat} {e es : Nat} , isO sh 1 this → rc this v1 sh I n = some ((e, es), (r, sh', I', n')) → Ct G yX1_factor cX1_factor 4 (some (.array .boolean)) dR [.ref this, .int v1] sh I L n (some (.ref r)) sh' I' L n' e es) (h : fX1_both this rc v1 sh I n = some ((e, es), (r, sh', I', n'))) : Ct G yX1_both cX1_both 6 (some (.array .boolean)) (dR + 10) [.ref this, .int v1] sh I L n (some (.ref r)) sh' I' L n' e es := by
  refine ct_of (y := yX1_both) (by decide +kernel) rfl (fun X F => ?_)
  exact jbX1_both_0 G F hth hrc h
theorem dX1_either_0 : decode cX1_either 0 = .ok (.aload_n 0, 1) := by decide +kernel
theorem dX1_either_1 : decode cX1_either 1 = .ok (.iload_n 1, 1) := by decide +kernel
theorem dX1_either_2 : decode cX1_either 2 = .ok (.invokevirtual 95, 3) := by decide +kernel
theorem dX1_either_5 : decode cX1_either 5 = .ok (.astore_n 2, 1) := by decide +kernel
theorem dX1_either_6 : decode cX1_either 6 = .ok (.iconst 0, 1) := by decide +kernel
theorem dX1_either_7 : decode cX1_either 7 = .ok (.istore_n 3, 1) := by decide +kernel
theorem dX1_either_8 : decode cX1_either 8 = .ok (.iload_n 3, 1) := by decide +kernel
theorem dX1_either_9 : decode cX1_either 9 = .ok (.aload_n 0, 1) := by decide +kernel
theorem dX1_either_10 : decode cX1_either 10 = .ok (.getfield 32, 3) := by decide +kernel
theorem dX1_either_13 : decode cX1_either 13 = .ok (.if_icmp .ge 54, 3) := by decide +kernel
theorem dX1_either_16 : decode cX1_either 16 = .ok (.aload_n 0, 1) := by decide +kernel
theorem dX1_either_17 : decode cX1_either 17 = .ok (.bipush 124, 2) := by decide +kernel
theorem dX1_either_19 : decode cX1_either 19 = .ok (.invokevirtual 39, 3) := by decide +kernel
theorem dX1_either_22 : decode cX1_either 22 = .ok (.ifCond .eq 45, 3) := by decide +kernel
theorem dX1_either_25 : decode cX1_either 25 = .ok (.aload_n 0, 1) := by decide +kernel
theorem dX1_either_26 : decode cX1_either 26 = .ok (.iload_n 1, 1) := by decide +kernel
theorem dX1_either_27 : decode cX1_either 27 = .ok (.invokevirtual 95, 3) := by decide +kernel
theorem dX1_either_30 : decode cX1_either 30 = .ok (.astore 4, 2) := by decide +kernel
theorem dX1_either_32 : decode cX1_either 32 = .ok (.iconst 0, 1) := by decide +kernel
theorem dX1_either_33 : decode cX1_either 33 = .ok (.istore 5, 2) := by decide +kernel
theorem dX1_either_35 : decode cX1_either 35 = .ok (.iload 5, 2) := by decide +kernel
theorem dX1_either_37 : decode cX1_either 37 = .ok (.sipush 144, 3) := by decide +kernel
theorem dX1_either_40 : decode cX1_either 40 = .ok (.if_icmp .ge 21, 3) := by decide +kernel
theorem dX1_either_43 : decode cX1_either 43 = .ok (.aload_n 2, 1) := by decide +kernel
theorem dX1_either_44 : decode cX1_either 44 = .ok (.iload 5, 2) := by decide +kernel
theorem dX1_either_46 : decode cX1_either 46 = .ok (.dup2, 1) := by decide +kernel
theorem dX1_either_47 : decode cX1_either 47 = .ok (.baload, 1) := by decide +kernel
theorem dX1_either_48 : decode cX1_either 48 = .ok (.aload 4, 2) := by decide +kernel
theorem dX1_either_50 : decode cX1_either 50 = .ok (.iload 5, 2) := by decide +kernel
theorem dX1_either_52 : decode cX1_either 52 = .ok (.baload, 1) := by decide +kernel
theorem dX1_either_53 : decode cX1_either 53 = .ok (.ior, 1) := by decide +kernel
theorem dX1_either_54 : decode cX1_either 54 = .ok (.bastore, 1) := by decide +kernel
theorem dX1_either_55 : decode cX1_either 55 = .ok (.iinc 5 1, 3) := by decide +kernel
theorem dX1_either_58 : decode cX1_either 58 = .ok (.goto (-23), 3) := by decide +kernel
theorem dX1_either_61 : decode cX1_either 61 = .ok (.iinc 3 1, 3) := by decide +kernel
theorem dX1_either_64 : decode cX1_either 64 = .ok (.goto (-56), 3) := by decide +kernel
theorem dX1_either_67 : decode cX1_either 67 = .ok (.aload_n 2, 1) := by decide +kernel
theorem dX1_either_68 : decode cX1_either 68 = .ok (.areturn, 1) := by decide +kernel
def fX1_either_b35 (this : Nat) (rc : (Nat → Int32 → SH → IH → Nat → Option ((Nat × Nat) × (Nat × SH × IH × Nat)))) (k8 : (Int32 → Nat → Int32 → SH → IH → Nat → Option ((Nat × Nat) × (Nat × SH × IH × Nat)))) : Nat → Int32 → Nat → Int32 → Nat → Int32 → SH → IH → Nat → Option ((Nat × Nat) × (Nat × SH × IH × Nat))
  | 0, _, _, _, _, _, _, _, _ => none
  | fuel + 1, v1, v2, v3, v4, v5, sh, I, n =>
    if 144 ≤ v5 then (
      k8 v1 v2 (v3 + 1) sh I n) else
    (aI sh I 1 v2 v5).bind fun x1 =>
    (aI sh I 1 v4 v5).bind fun x2 =>
    (sZ sh I v2 v5 (x1 ||| x2)).bind fun i3 =>
    fX1_either_b35 this rc k8 fuel v1 v2 v3 v4 (v5 + 1) sh i3 n
def fX1_either_b8 (this : Nat) (rc : (Nat → Int32 → SH → IH → Nat → Option ((Nat × Nat) × (Nat × SH × IH × Nat)))) : Nat → Int32 → Nat → Int32 → SH → IH → Nat → Option ((Nat × Nat) × (Nat × SH × IH × Nat))
  | 0, _, _, _, _, _, _ => none
  | fuel + 1, v1, v2, v3, sh, I, n =>
    (gI sh I 1 this 1).bind fun x1 =>
    if x1 ≤ v3 then (
      some ((0, 0), (v2, sh, I, n))) else
    (ck sh 1 this).bind fun u2 =>
    b2 (fX1_passes sh this 124 I) fun x3 i4 =>
    if x3 = 0 then (
      some ((0, 0), (v2, sh, i4, n))) else
    bE4 (fX1_both this rc v1 sh i4 n) fun x5 h6 i7 n8 =>
    fX1_either_b35 this rc (fX1_either_b8 this rc fuel) 1000 v1 v2 v3 x5 0 h6 i7 n8
def fX1_either_b0 (this : Nat) (rc : (Nat → Int32 → SH → IH → Nat → Option ((Nat × Nat) × (Nat × SH × IH × Nat)))) (v1 : Int32) (sh : SH) (I : IH) (n : Nat) : Option ((Nat × Nat) × (Nat × SH × IH × Nat)) :=
  bE4 (fX1_both this rc v1 sh I n) fun x1 h2 i3 n4 =>
  fX1_either_b8 this rc 1000 v1 x1 0 h2 i3 n4
def fX1_either (this : Nat) (rc : (Nat → Int32 → SH → IH → Nat → Option ((Nat × Nat) × (Nat × SH × IH × Nat)))) (v1 : Int32) (sh : SH) (I : IH) (n : Nat) : Option ((Nat × Nat) × (Nat × SH × IH × Nat)) := fX1_either_b0 this rc v1 sh I n
set_option maxHeartbeats 4000000 in
set_option maxRecDepth 20000 in
theorem jbX1_either_35 (G : GT) {X : XT} {dR : Nat} {L : LH} {r : Nat} {sh' : SH} {I' : IH} {n' : Nat}  {this : Nat} {k8 : (Int32 → Nat → Int32 → SH → IH → Nat → Option ((Nat × Nat) × (Nat × SH × IH × Nat)))} {rc : (Nat → Int32 → SH → IH → Nat → Option ((Nat × Nat) × (Nat × SH × IH × Nat)))} (F : MF G X RX1 cX1_either 6 (dR + 11) (some (.array .boolean)) "either") (hrc : ∀ {sh : SH} {I : IH} {L : LH} {n : Nat} {this : Nat} {v1 : Int32} {r : Nat} {sh' : SH} {I' : IH} {n' : Nat} {e es : Nat} , isO sh 1 this → rc this v1 sh I n = some ((e, es), (r, sh', I', n')) → Ct G yX1_factor cX1_factor 4 (some (.array .boolean)) dR [.ref this, .int v1] sh I L n (some (.ref r)) sh' I' L n' e es)
    (hk8 : ∀ {v1 : Int32} {v2 : Nat} {v3 : Int32} {sh : SH} {I : IH} {n : Nat} {e es : Nat}, k8 v1 v2 v3 sh I n = some ((e, es), (r, sh', I', n')) → J G X (QE G X (some (.ref r)) sh' I' L n') 6 sh I L n e es 8 [(0, .ref this), (1, .int v1), (2, .ref v2), (3, .int v3)] []) : ∀ (fuel : Nat) (v1 : Int32) (v2 : Nat) (v3 : Int32) (v4 : Nat) (v5 : Int32) (sh : SH) (I : IH) (n : Nat) (e es : Nat), fX1_either_b35 this rc k8 fuel v1 v2 v3 v4 v5 sh I n = some ((e, es), (r, sh', I', n')) → J G X (QE G X (some (.ref r)) sh' I' L n') 6 sh I L n e es 35 [(0, .ref this), (1, .int v1), (2, .ref v2), (3, .int v3), (4, .ref v4), (5, .int v5)] []
  | 0 => by
    intros
    rename_i h
    exact absurd (show none = some _ from h) (by intro z; cases z)
  | fuel + 1 => by
    intro v1 v2 v3 v4 v5 sh I n e es h
    rw [fX1_either_b35] at h
    refine j_iload (pc := 35) (k0 := 5) F 5 rfl dX1_either_35 ?_
    refine j_sipush (pc := 37) F 144 dX1_either_37 (by decide) ?_
    refine j_icmp_ge (pc := 40) F 61 dX1_either_40 rfl (fun c => ?_) (fun c => ?_)
    · have h := iz_t c h
      refine j_iinc (pc := 61) (k1 := 3) (ls' := [(3, .int (v3 + 1)), (0, .ref this), (1, .int v1), (2, .ref v2), (4, .ref v4), (5, .int v5)]) F (v3 + 1) 3 rfl rfl rfl rfl dX1_either_61 ?_
      refine j_goto (pc := 64) F 8 dX1_either_64 rfl ?_
      refine j_sub [1, 2, 3, 0] rfl ?_
      exact hk8 h
    · have h := iz_f c h
      refine j_aload_n (pc := 43) (k0 := 2) F 2 rfl dX1_either_43 ?_
      refine j_iload (pc := 44) (k0 := 5) F 5 rfl dX1_either_44 ?_
      refine j_dup2 (pc := 46) F dX1_either_46 rfl rfl ?_
      obtain ⟨x1, hx1, h⟩ := ob h
      refine j_zald (pc := 47) F hx1 dX1_either_47 ?_
      refine j_aload (pc := 48) (k0 := 4) F 4 rfl dX1_either_48 ?_
      refine j_iload (pc := 50) (k0 := 5) F 5 rfl dX1_either_50 ?_
      obtain ⟨x2, hx2, h⟩ := ob h
      refine j_zald (pc := 52) F hx2 dX1_either_52 ?_
      refine j_ior (pc := 53) F dX1_either_53 ?_
      obtain ⟨i3, hi3, h⟩ := ob h
      refine j_zast (pc := 54) F hi3 dX1_either_54 ?_
      refine j_iinc (pc := 55) (k1 := 5) (ls' := [(5, .int (v5 + 1)), (0, .ref this), (1, .int v1), (2, .ref v2), (3, .int v3), (4, .ref v4)]) F (v5 + 1) 5 rfl rfl rfl rfl dX1_either_55 ?_
      refine j_goto (pc := 58) F 35 dX1_either_58 rfl ?_
      refine j_sub [1, 2, 3, 4, 5, 0] rfl ?_
      exact jbX1_either_35 G F hrc hk8 fuel _ _ _ _ _ _ _ _ _ _ h
set_option maxHeartbeats 4000000 in
set_option maxRecDepth 20000 in
theorem jbX1_either_8 (G : GT) {X : XT} {dR : Nat} {L : LH} {r : Nat} {sh' : SH} {I' : IH} {n' : Nat}  {this : Nat} {rc : (Nat → Int32 → SH → IH → Nat → Option ((Nat × Nat) × (Nat × SH × IH × Nat)))} (F : MF G X RX1 cX1_either 6 (dR + 11) (some (.array .boolean)) "either") (hrc : ∀ {sh : SH} {I : IH} {L : LH} {n : Nat} {this : Nat} {v1 : Int32} {r : Nat} {sh' : SH} {I' : IH} {n' : Nat} {e es : Nat} , isO sh 1 this → rc this v1 sh I n = some ((e, es), (r, sh', I', n')) → Ct G yX1_factor cX1_factor 4 (some (.array .boolean)) dR [.ref this, .int v1] sh I L n (some (.ref r)) sh' I' L n' e es) : ∀ (fuel : Nat) (v1 : Int32) (v2 : Nat) (v3 : Int32) (sh : SH) (I : IH) (n : Nat) (e es : Nat), fX1_either_b8 this rc fuel v1 v2 v3 sh I n = some ((e, es), (r, sh', I', n')) → J G X (QE G X (some (.ref r)) sh' I' L n') 6 sh I L n e es 8 [(0, .ref this), (1, .int v1), (2, .ref v2), (3, .int v3)] []
  | 0 => by
    intros
    rename_i h
    exact absurd (show none = some _ from h) (by intro z; cases z)
  | fuel + 1 => by
    intro v1 v2 v3 sh I n e es h
    rw [fX1_either_b8] at h
    refine j_iload_n (pc := 8) (k0 := 3) F 3 rfl dX1_either_8 ?_
    refine j_aload_n (pc := 9) (k0 := 0) F 0 rfl dX1_either_9 ?_
    obtain ⟨x1, hx1, h⟩ := ob h
    refine j_getI (pc := 10) F flX1_32 hx1 dX1_either_10 ?_
    refine j_icmp_ge (pc := 13) F 67 dX1_either_13 rfl (fun c => ?_) (fun c => ?_)
    · have h := iz_t c h
      refine j_aload_n (pc := 67) (k0 := 2) F 2 rfl dX1_either_67 ?_
      have g0 := Option.some.inj h
      obtain ⟨hq, g1⟩ := Prod.mk.inj g0
      obtain ⟨q1, q2⟩ := Prod.mk.inj hq
      obtain ⟨q3, g2⟩ := Prod.mk.inj g1
      obtain ⟨q4, g3⟩ := Prod.mk.inj g2
      obtain ⟨q5, g4⟩ := Prod.mk.inj g3
      subst q1
      subst q2
      subst q3
      subst q4
      subst q5
      subst g4
      exact j_aretR (pc := 68) F rfl (Or.inr ⟨_, rfl⟩) dX1_either_68
    · have h := iz_f c h
      refine j_aload_n (pc := 16) (k0 := 0) F 0 rfl dX1_either_16 ?_
      refine j_bipush (pc := 17) F 124 dX1_either_17 (by decide) ?_
      obtain ⟨u2, hu2, h⟩ := ob h
      have hou2 := ck_obt hu2
      obtain ⟨x3, i4, hx3, h⟩ := b2_obt h
      refine j_callV1 (pc := 19) (ci := 1) (As := [.int 124]) (st := []) (e1 := e) (es1 := es) F clX1_39 cwX1_passes rfl hou2 (ctX1_passes G hou2 hx3) (dok_of (by omega) (by decide)) rfl rfl rfl (Nat.zero_add _).symm (Nat.zero_add _).symm dX1_either_19 ?_
      refine j_if_eq (pc := 22) F 67 dX1_either_22 rfl (fun c => ?_) (fun c => ?_)
      · have h := iz_t c h
        refine j_aload_n (pc := 67) (k0 := 2) F 2 rfl dX1_either_67 ?_
        have g0 := Option.some.inj h
        obtain ⟨hq, g1⟩ := Prod.mk.inj g0
        obtain ⟨q1, q2⟩ := Prod.mk.inj hq
        obtain ⟨q3, g2⟩ := Prod.mk.inj g1
        obtain ⟨q4, g3⟩ := Prod.mk.inj g2
        obtain ⟨q5, g4⟩ := Prod.mk.inj g3
        subst q1
        subst q2
        subst q3
        subst q4
        subst q5
        subst g4
        exact j_aretR (pc := 68) F rfl (Or.inr ⟨_, rfl⟩) dX1_either_68
      · have h := iz_f c h
        refine j_aload_n (pc := 25) (k0 := 0) F 0 rfl dX1_either_25 ?_
        refine j_iload_n (pc := 26) (k0 := 1) F 1 rfl dX1_either_26 ?_
        obtain ⟨d9, ds10, x5, h6, i7, n8, e11, es12, hx5, h, he, hes⟩ := bE4_obt h
        refine j_callV1 (pc := 27) (ci := 1) (As := [.int v1]) (st := []) (e1 := e11) (es1 := es12) F clX1_95 cwX1_both rfl hou2 (ctX1_both G hou2 hrc hx5) (dok_of (by omega) (by decide)) rfl rfl rfl he hes dX1_either_27 ?_
        refine j_astore (pc := 30) (k1 := 4) (ls' := [(4, .ref x5), (0, .ref this), (1, .int v1), (2, .ref v2), (3, .int v3)]) F rfl rfl dX1_either_30 ?_
        refine j_iconst (pc := 32) F 0 dX1_either_32 (by decide) ?_
        refine j_istore (pc := 33) (k1 := 5) (ls' := [(5, .int 0), (4, .ref x5), (0, .ref this), (1, .int v1), (2, .ref v2), (3, .int v3)]) F rfl rfl dX1_either_33 ?_
        refine j_sub [2, 3, 4, 5, 1, 0] rfl ?_
        exact jbX1_either_35 G F hrc (fun h => jbX1_either_8 G F hrc fuel _ _ _ _ _ _ _ _ h) 1000 _ _ _ _ _ _ _ _ _ _ h
set_option maxHeartbeats 4000000 in
set_option maxRecDepth 20000 in
theorem jbX1_either_0 (G : GT) {X : XT} {dR : Nat} {L : LH} {r : Nat} {sh' : SH} {I' : IH} {n' : Nat}  {this : Nat} {rc : (Nat → Int32 → SH → IH → Nat → Option ((Nat × Nat) × (Nat × SH × IH × Nat)))} {v1 : Int32} {sh : SH} {I : IH} {n : Nat} {e es : Nat} (F : MF G X RX1 cX1_either 6 (dR + 11) (some (.array .boolean)) "either") (hth : isO sh 1 this) (hrc : ∀ {sh : SH} {I : IH} {L : LH} {n : Nat} {this : Nat} {v1 : Int32} {r : Nat} {sh' : SH} {I' : IH} {n' : Nat} {e es : Nat} , isO sh 1 this → rc this v1 sh I n = some ((e, es), (r, sh', I', n')) → Ct G yX1_factor cX1_factor 4 (some (.array .boolean)) dR [.ref this, .int v1] sh I L n (some (.ref r)) sh' I' L n' e es) (h : fX1_either_b0 this rc v1 sh I n = some ((e, es), (r, sh', I', n'))) : J G X (QE G X (some (.ref r)) sh' I' L n') 6 sh I L n e es 0 [(0, .ref this), (1, .int v1)] [] := by
  unfold fX1_either_b0 at h
  refine j_aload_n (pc := 0) (k0 := 0) F 0 rfl dX1_either_0 ?_
  refine j_iload_n (pc := 1) (k0 := 1) F 1 rfl dX1_either_1 ?_
  obtain ⟨d5, ds6, x1, h2, i3, n4, e7, es8, hx1, h, he, hes⟩ := bE4_obt h
  refine j_callV1 (pc := 2) (ci := 1) (As := [.int v1]) (st := []) (e1 := e7) (es1 := es8) F clX1_95 cwX1_both rfl hth (ctX1_both G hth hrc hx1) (dok_of (by omega) (by decide)) rfl rfl rfl he hes dX1_either_2 ?_
  refine j_astore_n (pc := 5) (k1 := 2) (ls' := [(2, .ref x1), (0, .ref this), (1, .int v1)]) F rfl rfl rfl dX1_either_5 ?_
  refine j_iconst (pc := 6) F 0 dX1_either_6 (by decide) ?_
  refine j_istore_n (pc := 7) (k1 := 3) (ls' := [(3, .int 0), (2, .ref x1), (0, .ref this), (1, .int v1)]) F rfl rfl rfl dX1_either_7 ?_
  refine j_sub [2, 3, 1, 0] rfl ?_
  exact jbX1_either_8 G F hrc 1000 _ _ _ _ _ _ _ _ h
theorem ctX1_either (G : GT) {rc : (Nat → Int32 → SH → IH → Nat → Option ((Nat × Nat) × (Nat × SH × IH × Nat)))} {dR : Nat} {sh : SH} {I : IH} {L : LH} {n : Nat} {this : Nat} {v1 : Int32} {r : Nat} {sh' : SH} {I' : IH} {n' : Nat} {e es : Nat}  (hth : isO sh 1 this) (hrc : ∀ {sh : SH} {I : IH} {L : LH} {n : Nat} {this : Nat} {v1 : Int32} {r : Nat} {sh' : SH} {I' : IH} {n' : Nat} {e es : Nat} , isO sh 1 this → rc this v1 sh I n = some ((e, es), (r, sh', I', n')) → Ct G yX1_factor cX1_factor 4 (some (.array .boolean)) dR [.ref this, .int v1] sh I L n (some (.ref r)) sh' I' L n' e es) (h : fX1_either this rc v1 sh I n = some ((e, es), (r, sh', I', n'))) : Ct G yX1_either cX1_either 6 (some (.array .boolean)) (dR + 11) [.ref this, .int v1] sh I L n (some (.ref r)) sh' I' L n' e es := by
  refine ct_of (y := yX1_either) (by decide +kernel) rfl (fun X F => ?_)
  exact jbX1_either_0 G F hth hrc h
theorem dX1_factor_0 : decode cX1_factor 0 = .ok (.iload_n 1, 1) := by decide +kernel
theorem dX1_factor_1 : decode cX1_factor 1 = .ok (.iconst 4, 1) := by decide +kernel
theorem dX1_factor_2 : decode cX1_factor 2 = .ok (.if_icmp .ge 51, 3) := by decide +kernel
theorem dX1_factor_5 : decode cX1_factor 5 = .ok (.aload_n 0, 1) := by decide +kernel
theorem dX1_factor_6 : decode cX1_factor 6 = .ok (.bipush 33, 2) := by decide +kernel
theorem dX1_factor_8 : decode cX1_factor 8 = .ok (.invokevirtual 39, 3) := by decide +kernel
theorem dX1_factor_11 : decode cX1_factor 11 = .ok (.ifCond .eq 42, 3) := by decide +kernel
theorem dX1_factor_14 : decode cX1_factor 14 = .ok (.aload_n 0, 1) := by decide +kernel
theorem dX1_factor_15 : decode cX1_factor 15 = .ok (.iload_n 1, 1) := by decide +kernel
theorem dX1_factor_16 : decode cX1_factor 16 = .ok (.iconst 1, 1) := by decide +kernel
theorem dX1_factor_17 : decode cX1_factor 17 = .ok (.iadd, 1) := by decide +kernel
theorem dX1_factor_18 : decode cX1_factor 18 = .ok (.invokevirtual 98, 3) := by decide +kernel
theorem dX1_factor_21 : decode cX1_factor 21 = .ok (.astore_n 2, 1) := by decide +kernel
theorem dX1_factor_22 : decode cX1_factor 22 = .ok (.iconst 0, 1) := by decide +kernel
theorem dX1_factor_23 : decode cX1_factor 23 = .ok (.istore_n 3, 1) := by decide +kernel
theorem dX1_factor_24 : decode cX1_factor 24 = .ok (.iload_n 3, 1) := by decide +kernel
theorem dX1_factor_25 : decode cX1_factor 25 = .ok (.sipush 144, 3) := by decide +kernel
theorem dX1_factor_28 : decode cX1_factor 28 = .ok (.if_icmp .ge 23, 3) := by decide +kernel
theorem dX1_factor_31 : decode cX1_factor 31 = .ok (.aload_n 2, 1) := by decide +kernel
theorem dX1_factor_32 : decode cX1_factor 32 = .ok (.iload_n 3, 1) := by decide +kernel
theorem dX1_factor_33 : decode cX1_factor 33 = .ok (.aload_n 2, 1) := by decide +kernel
theorem dX1_factor_34 : decode cX1_factor 34 = .ok (.iload_n 3, 1) := by decide +kernel
theorem dX1_factor_35 : decode cX1_factor 35 = .ok (.baload, 1) := by decide +kernel
theorem dX1_factor_36 : decode cX1_factor 36 = .ok (.ifCond .ne 7, 3) := by decide +kernel
theorem dX1_factor_39 : decode cX1_factor 39 = .ok (.iconst 1, 1) := by decide +kernel
theorem dX1_factor_40 : decode cX1_factor 40 = .ok (.goto 4, 3) := by decide +kernel
theorem dX1_factor_43 : decode cX1_factor 43 = .ok (.iconst 0, 1) := by decide +kernel
theorem dX1_factor_44 : decode cX1_factor 44 = .ok (.bastore, 1) := by decide +kernel
theorem dX1_factor_45 : decode cX1_factor 45 = .ok (.iinc 3 1, 3) := by decide +kernel
theorem dX1_factor_48 : decode cX1_factor 48 = .ok (.goto (-24), 3) := by decide +kernel
theorem dX1_factor_51 : decode cX1_factor 51 = .ok (.aload_n 2, 1) := by decide +kernel
theorem dX1_factor_52 : decode cX1_factor 52 = .ok (.areturn, 1) := by decide +kernel
theorem dX1_factor_53 : decode cX1_factor 53 = .ok (.iload_n 1, 1) := by decide +kernel
theorem dX1_factor_54 : decode cX1_factor 54 = .ok (.iconst 4, 1) := by decide +kernel
theorem dX1_factor_55 : decode cX1_factor 55 = .ok (.if_icmp .ge 28, 3) := by decide +kernel
theorem dX1_factor_58 : decode cX1_factor 58 = .ok (.aload_n 0, 1) := by decide +kernel
theorem dX1_factor_59 : decode cX1_factor 59 = .ok (.bipush 40, 2) := by decide +kernel
theorem dX1_factor_61 : decode cX1_factor 61 = .ok (.invokevirtual 39, 3) := by decide +kernel
theorem dX1_factor_64 : decode cX1_factor 64 = .ok (.ifCond .eq 19, 3) := by decide +kernel
theorem dX1_factor_67 : decode cX1_factor 67 = .ok (.aload_n 0, 1) := by decide +kernel
theorem dX1_factor_68 : decode cX1_factor 68 = .ok (.iload_n 1, 1) := by decide +kernel
theorem dX1_factor_69 : decode cX1_factor 69 = .ok (.iconst 1, 1) := by decide +kernel
theorem dX1_factor_70 : decode cX1_factor 70 = .ok (.iadd, 1) := by decide +kernel
theorem dX1_factor_71 : decode cX1_factor 71 = .ok (.invokevirtual 57, 3) := by decide +kernel
theorem dX1_factor_74 : decode cX1_factor 74 = .ok (.astore_n 2, 1) := by decide +kernel
theorem dX1_factor_75 : decode cX1_factor 75 = .ok (.aload_n 0, 1) := by decide +kernel
theorem dX1_factor_76 : decode cX1_factor 76 = .ok (.bipush 41, 2) := by decide +kernel
theorem dX1_factor_78 : decode cX1_factor 78 = .ok (.invokevirtual 50, 3) := by decide +kernel
theorem dX1_factor_81 : decode cX1_factor 81 = .ok (.aload_n 2, 1) := by decide +kernel
theorem dX1_factor_82 : decode cX1_factor 82 = .ok (.areturn, 1) := by decide +kernel
theorem dX1_factor_83 : decode cX1_factor 83 = .ok (.aload_n 0, 1) := by decide +kernel
theorem dX1_factor_84 : decode cX1_factor 84 = .ok (.bipush 104, 2) := by decide +kernel
theorem dX1_factor_86 : decode cX1_factor 86 = .ok (.bipush 100, 2) := by decide +kernel
theorem dX1_factor_88 : decode cX1_factor 88 = .ok (.bipush 107, 2) := by decide +kernel
theorem dX1_factor_90 : decode cX1_factor 90 = .ok (.invokevirtual 101, 3) := by decide +kernel
theorem dX1_factor_93 : decode cX1_factor 93 = .ok (.istore_n 2, 1) := by decide +kernel
theorem dX1_factor_94 : decode cX1_factor 94 = .ok (.aload_n 0, 1) := by decide +kernel
theorem dX1_factor_95 : decode cX1_factor 95 = .ok (.bipush 60, 2) := by decide +kernel
theorem dX1_factor_97 : decode cX1_factor 97 = .ok (.bipush 61, 2) := by decide +kernel
theorem dX1_factor_99 : decode cX1_factor 99 = .ok (.bipush 62, 2) := by decide +kernel
theorem dX1_factor_101 : decode cX1_factor 101 = .ok (.invokevirtual 101, 3) := by decide +kernel
theorem dX1_factor_104 : decode cX1_factor 104 = .ok (.istore_n 3, 1) := by decide +kernel
theorem dX1_factor_105 : decode cX1_factor 105 = .ok (.iload_n 2, 1) := by decide +kernel
theorem dX1_factor_106 : decode cX1_factor 106 = .ok (.iload_n 3, 1) := by decide +kernel
theorem dX1_factor_107 : decode cX1_factor 107 = .ok (.aload_n 0, 1) := by decide +kernel
theorem dX1_factor_108 : decode cX1_factor 108 = .ok (.invokevirtual 54, 3) := by decide +kernel
theorem dX1_factor_111 : decode cX1_factor 111 = .ok (.invokestatic 105, 3) := by decide +kernel
theorem dX1_factor_114 : decode cX1_factor 114 = .ok (.areturn, 1) := by decide +kernel
def fX1_factor_b24 (this : Nat) (rc : (Nat → Int32 → SH → IH → Nat → Option ((Nat × Nat) × (Nat × SH × IH × Nat)))) : Nat → Nat → Int32 → SH → IH → Nat → Option ((Nat × Nat) × (Nat × SH × IH × Nat))
  | 0, _, _, _, _, _ => none
  | fuel + 1, v2, v3, sh, I, n =>
    if 144 ≤ v3 then (
      some ((0, 0), (v2, sh, I, n))) else
    (aI sh I 1 v2 v3).bind fun x1 =>
    if x1 = 0 then (
      (sZ sh I v2 v3 1).bind fun i3 =>
      fX1_factor_b24 this rc fuel v2 (v3 + 1) sh i3 n) else
    (sZ sh I v2 v3 0).bind fun i2 =>
    fX1_factor_b24 this rc fuel v2 (v3 + 1) sh i2 n
def fX1_factor_b83 (this : Nat) (rc : (Nat → Int32 → SH → IH → Nat → Option ((Nat × Nat) × (Nat × SH × IH × Nat)))) (sh : SH) (I : IH) (n : Nat) : Option ((Nat × Nat) × (Nat × SH × IH × Nat)) :=
  (ck sh 1 this).bind fun u1 =>
  b2 (fX1_oneOf sh this 104 100 107 I) fun x2 i3 =>
  b2 (fX1_oneOf sh this 60 61 62 i3) fun x4 i5 =>
  b2 (fX1_number sh this i5) fun x6 i7 =>
  bE4 (fX1_whereHolds x2 x4 x6 sh i7 n) fun x8 h9 i10 n11 =>
  some ((0, 0), (x8, h9, i10, n11))
def fX1_factor_b53 (this : Nat) (rc : (Nat → Int32 → SH → IH → Nat → Option ((Nat × Nat) × (Nat × SH × IH × Nat)))) (v1 : Int32) (sh : SH) (I : IH) (n : Nat) : Option ((Nat × Nat) × (Nat × SH × IH × Nat)) :=
  if 4 ≤ v1 then (
    fX1_factor_b83 this rc sh I n) else
  (ck sh 1 this).bind fun u1 =>
  b2 (fX1_passes sh this 40 I) fun x2 i3 =>
  if x2 = 0 then (
    fX1_factor_b83 this rc sh i3 n) else
  bE4 (fX1_either this rc (v1 + 1) sh i3 n) fun x4 h5 i6 n7 =>
  (ck h5 1 this).bind fun u12 =>
  (fX1_expect h5 this 41 i6).bind fun i13 =>
  some ((0, 0), (x4, h5, i13, n7))
def fX1_factor_b0 (this : Nat) (rc : (Nat → Int32 → SH → IH → Nat → Option ((Nat × Nat) × (Nat × SH × IH × Nat)))) (v1 : Int32) (sh : SH) (I : IH) (n : Nat) : Option ((Nat × Nat) × (Nat × SH × IH × Nat)) :=
  if 4 ≤ v1 then (
    fX1_factor_b53 this rc v1 sh I n) else
  b2 (fX1_passes sh this 33 I) fun x1 i2 =>
  if x1 = 0 then (
    fX1_factor_b53 this rc v1 sh i2 n) else
  bE4 (rc this (v1 + 1) sh i2 n) fun x3 h4 i5 n6 =>
  fX1_factor_b24 this rc 1000 x3 0 h4 i5 n6
def fX1_factor  : Nat → Nat → Int32 → SH → IH → Nat → Option ((Nat × Nat) × (Nat × SH × IH × Nat))
  | 0, _, _, _, _, _ => none
  | dp + 1, this, v1, sh, I, n => fX1_factor_b0 this (fX1_factor dp) v1 sh I n
set_option maxHeartbeats 4000000 in
set_option maxRecDepth 20000 in
theorem jbX1_factor_24 (G : GT) {X : XT} {dR : Nat} {L : LH} {r : Nat} {sh' : SH} {I' : IH} {n' : Nat}  {this : Nat} {rc : (Nat → Int32 → SH → IH → Nat → Option ((Nat × Nat) × (Nat × SH × IH × Nat)))} (F : MF G X RX1 cX1_factor 4 (dR + 12) (some (.array .boolean)) "factor") (hrc : ∀ {sh : SH} {I : IH} {L : LH} {n : Nat} {this : Nat} {v1 : Int32} {r : Nat} {sh' : SH} {I' : IH} {n' : Nat} {e es : Nat} , isO sh 1 this → rc this v1 sh I n = some ((e, es), (r, sh', I', n')) → Ct G yX1_factor cX1_factor 4 (some (.array .boolean)) dR [.ref this, .int v1] sh I L n (some (.ref r)) sh' I' L n' e es) (hb9 : 0 ≤ dR) : ∀ (fuel : Nat) (v2 : Nat) (v3 : Int32) (sh : SH) (I : IH) (n : Nat) (e es : Nat), fX1_factor_b24 this rc fuel v2 v3 sh I n = some ((e, es), (r, sh', I', n')) → J G X (QE G X (some (.ref r)) sh' I' L n') 4 sh I L n e es 24 [(0, .ref this), (2, .ref v2), (3, .int v3)] []
  | 0 => by
    intros
    rename_i h
    exact absurd (show none = some _ from h) (by intro z; cases z)
  | fuel + 1 => by
    intro v2 v3 sh I n e es h
    rw [fX1_factor_b24] at h
    refine j_iload_n (pc := 24) (k0 := 3) F 2 rfl dX1_factor_24 ?_
    refine j_sipush (pc := 25) F 144 dX1_factor_25 (by decide) ?_
    refine j_icmp_ge (pc := 28) F 51 dX1_factor_28 rfl (fun c => ?_) (fun c => ?_)
    · have h := iz_t c h
      refine j_aload_n (pc := 51) (k0 := 2) F 1 rfl dX1_factor_51 ?_
      have g0 := Option.some.inj h
      obtain ⟨hq, g1⟩ := Prod.mk.inj g0
      obtain ⟨q1, q2⟩ := Prod.mk.inj hq
      obtain ⟨q3, g2⟩ := Prod.mk.inj g1
      obtain ⟨q4, g3⟩ := Prod.mk.inj g2
      obtain ⟨q5, g4⟩ := Prod.mk.inj g3
      subst q1
      subst q2
      subst q3
      subst q4
      subst q5
      subst g4
      exact j_aretR (pc := 52) F rfl (Or.inr ⟨_, rfl⟩) dX1_factor_52
    · have h := iz_f c h
      refine j_aload_n (pc := 31) (k0 := 2) F 1 rfl dX1_factor_31 ?_
      refine j_iload_n (pc := 32) (k0 := 3) F 2 rfl dX1_factor_32 ?_
      refine j_aload_n (pc := 33) (k0 := 2) F 1 rfl dX1_factor_33 ?_
      refine j_iload_n (pc := 34) (k0 := 3) F 2 rfl dX1_factor_34 ?_
      obtain ⟨x1, hx1, h⟩ := ob h
      refine j_zald (pc := 35) F hx1 dX1_factor_35 ?_
      refine j_if_ne (pc := 36) F 43 dX1_factor_36 rfl (fun c => ?_) (fun c => ?_)
      · have h := iz_f c h
        refine j_iconst (pc := 43) F 0 dX1_factor_43 (by decide) ?_
        obtain ⟨i2, hi2, h⟩ := ob h
        refine j_zast (pc := 44) F hi2 dX1_factor_44 ?_
        refine j_iinc (pc := 45) (k1 := 3) (ls' := [(3, .int (v3 + 1)), (0, .ref this), (2, .ref v2)]) F (v3 + 1) 2 rfl rfl rfl rfl dX1_factor_45 ?_
        refine j_goto (pc := 48) F 24 dX1_factor_48 rfl ?_
        refine j_sub [1, 2, 0] rfl ?_
        exact jbX1_factor_24 G F hrc hb9 fuel _ _ _ _ _ _ _ h
      · have h := iz_t c h
        refine j_iconst (pc := 39) F 1 dX1_factor_39 (by decide) ?_
        refine j_goto (pc := 40) F 44 dX1_factor_40 rfl ?_
        obtain ⟨i3, hi3, h⟩ := ob h
        refine j_zast (pc := 44) F hi3 dX1_factor_44 ?_
        refine j_iinc (pc := 45) (k1 := 3) (ls' := [(3, .int (v3 + 1)), (0, .ref this), (2, .ref v2)]) F (v3 + 1) 2 rfl rfl rfl rfl dX1_factor_45 ?_
        refine j_goto (pc := 48) F 24 dX1_factor_48 rfl ?_
        refine j_sub [1, 2, 0] rfl ?_
        exact jbX1_factor_24 G F hrc hb9 fuel _ _ _ _ _ _ _ h
set_option maxHeartbeats 4000000 in
set_option maxRecDepth 20000 in
theorem jbX1_factor_83 (G : GT) {X : XT} {dR : Nat} {L : LH} {r : Nat} {sh' : SH} {I' : IH} {n' : Nat}  {this : Nat} {rc : (Nat → Int32 → SH → IH → Nat → Option ((Nat × Nat) × (Nat × SH × IH × Nat)))} {sh : SH} {I : IH} {n : Nat} {e es : Nat} (F : MF G X RX1 cX1_factor 4 (dR + 12) (some (.array .boolean)) "factor") (hrc : ∀ {sh : SH} {I : IH} {L : LH} {n : Nat} {this : Nat} {v1 : Int32} {r : Nat} {sh' : SH} {I' : IH} {n' : Nat} {e es : Nat} , isO sh 1 this → rc this v1 sh I n = some ((e, es), (r, sh', I', n')) → Ct G yX1_factor cX1_factor 4 (some (.array .boolean)) dR [.ref this, .int v1] sh I L n (some (.ref r)) sh' I' L n' e es) (hb9 : 0 ≤ dR) (h : fX1_factor_b83 this rc sh I n = some ((e, es), (r, sh', I', n'))) : J G X (QE G X (some (.ref r)) sh' I' L n') 4 sh I L n e es 83 [(0, .ref this)] [] := by
  unfold fX1_factor_b83 at h
  refine j_aload_n (pc := 83) (k0 := 0) F 0 rfl dX1_factor_83 ?_
  refine j_bipush (pc := 84) F 104 dX1_factor_84 (by decide) ?_
  refine j_bipush (pc := 86) F 100 dX1_factor_86 (by decide) ?_
  refine j_bipush (pc := 88) F 107 dX1_factor_88 (by decide) ?_
  obtain ⟨u1, hu1, h⟩ := ob h
  have hou1 := ck_obt hu1
  obtain ⟨x2, i3, hx2, h⟩ := b2_obt h
  refine j_callV1 (pc := 90) (ci := 1) (As := [.int 104, .int 100, .int 107]) (st := []) (e1 := e) (es1 := es) F clX1_101 cwX1_oneOf rfl hou1 (ctX1_oneOf G hou1 hx2) (dok_of (by omega) (by decide)) rfl rfl rfl (Nat.zero_add _).symm (Nat.zero_add _).symm dX1_factor_90 ?_
  refine j_istore_n (pc := 93) (k1 := 2) (ls' := [(2, .int x2), (0, .ref this)]) F rfl rfl rfl dX1_factor_93 ?_
  refine j_aload_n (pc := 94) (k0 := 0) F 1 rfl dX1_factor_94 ?_
  refine j_bipush (pc := 95) F 60 dX1_factor_95 (by decide) ?_
  refine j_bipush (pc := 97) F 61 dX1_factor_97 (by decide) ?_
  refine j_bipush (pc := 99) F 62 dX1_factor_99 (by decide) ?_
  obtain ⟨x4, i5, hx4, h⟩ := b2_obt h
  refine j_callV1 (pc := 101) (ci := 1) (As := [.int 60, .int 61, .int 62]) (st := []) (e1 := e) (es1 := es) F clX1_101 cwX1_oneOf rfl hou1 (ctX1_oneOf G hou1 hx4) (dok_of (by omega) (by decide)) rfl rfl rfl (Nat.zero_add _).symm (Nat.zero_add _).symm dX1_factor_101 ?_
  refine j_istore_n (pc := 104) (k1 := 3) (ls' := [(3, .int x4), (2, .int x2), (0, .ref this)]) F rfl rfl rfl dX1_factor_104 ?_
  refine j_iload_n (pc := 105) (k0 := 2) F 1 rfl dX1_factor_105 ?_
  refine j_iload_n (pc := 106) (k0 := 3) F 0 rfl dX1_factor_106 ?_
  refine j_aload_n (pc := 107) (k0 := 0) F 2 rfl dX1_factor_107 ?_
  obtain ⟨x6, i7, hx6, h⟩ := b2_obt h
  refine j_callV1 (pc := 108) (ci := 1) (As := []) (st := [.int x4, .int x2]) (e1 := e) (es1 := es) F clX1_54 cwX1_number rfl hou1 (ctX1_number G hou1 hx6) (dok_of (by omega) (by decide)) rfl rfl rfl (Nat.zero_add _).symm (Nat.zero_add _).symm dX1_factor_108 ?_
  obtain ⟨d12, ds13, x8, h9, i10, n11, e14, es15, hx8, h, he, hes⟩ := bE4_obt h
  refine j_callS1 (pc := 111) (As := [.int x2, .int x4, .int x6]) (st := []) (e1 := e14) (es1 := es15) F clX1_105 cwX1_whereHolds (ctX1_whereHolds G hx8) (dok_of (by omega) (by decide)) rfl rfl rfl he hes dX1_factor_111 ?_
  have g0 := Option.some.inj h
  obtain ⟨hq, g1⟩ := Prod.mk.inj g0
  obtain ⟨q1, q2⟩ := Prod.mk.inj hq
  obtain ⟨q3, g2⟩ := Prod.mk.inj g1
  obtain ⟨q4, g3⟩ := Prod.mk.inj g2
  obtain ⟨q5, g4⟩ := Prod.mk.inj g3
  subst q1
  subst q2
  subst q3
  subst q4
  subst q5
  subst g4
  exact j_aretR (pc := 114) F rfl (Or.inr ⟨_, rfl⟩) dX1_factor_114
set_option maxHeartbeats 4000000 in
set_option maxRecDepth 20000 in
theorem jbX1_factor_53 (G : GT) {X : XT} {dR : Nat} {L : LH} {r : Nat} {sh' : SH} {I' : IH} {n' : Nat}  {this : Nat} {rc : (Nat → Int32 → SH → IH → Nat → Option ((Nat × Nat) × (Nat × SH × IH × Nat)))} {v1 : Int32} {sh : SH} {I : IH} {n : Nat} {e es : Nat} (F : MF G X RX1 cX1_factor 4 (dR + 12) (some (.array .boolean)) "factor") (hrc : ∀ {sh : SH} {I : IH} {L : LH} {n : Nat} {this : Nat} {v1 : Int32} {r : Nat} {sh' : SH} {I' : IH} {n' : Nat} {e es : Nat} , isO sh 1 this → rc this v1 sh I n = some ((e, es), (r, sh', I', n')) → Ct G yX1_factor cX1_factor 4 (some (.array .boolean)) dR [.ref this, .int v1] sh I L n (some (.ref r)) sh' I' L n' e es) (hb9 : 0 ≤ dR) (h : fX1_factor_b53 this rc v1 sh I n = some ((e, es), (r, sh', I', n'))) : J G X (QE G X (some (.ref r)) sh' I' L n') 4 sh I L n e es 53 [(0, .ref this), (1, .int v1)] [] := by
  unfold fX1_factor_b53 at h
  refine j_iload_n (pc := 53) (k0 := 1) F 1 rfl dX1_factor_53 ?_
  refine j_iconst (pc := 54) F 4 dX1_factor_54 (by decide) ?_
  refine j_icmp_ge (pc := 55) F 83 dX1_factor_55 rfl (fun c => ?_) (fun c => ?_)
  · have h := iz_t c h
    refine j_sub [0] rfl ?_
    exact jbX1_factor_83 G F hrc hb9 h
  · have h := iz_f c h
    refine j_aload_n (pc := 58) (k0 := 0) F 0 rfl dX1_factor_58 ?_
    refine j_bipush (pc := 59) F 40 dX1_factor_59 (by decide) ?_
    obtain ⟨u1, hu1, h⟩ := ob h
    have hou1 := ck_obt hu1
    obtain ⟨x2, i3, hx2, h⟩ := b2_obt h
    refine j_callV1 (pc := 61) (ci := 1) (As := [.int 40]) (st := []) (e1 := e) (es1 := es) F clX1_39 cwX1_passes rfl hou1 (ctX1_passes G hou1 hx2) (dok_of (by omega) (by decide)) rfl rfl rfl (Nat.zero_add _).symm (Nat.zero_add _).symm dX1_factor_61 ?_
    refine j_if_eq (pc := 64) F 83 dX1_factor_64 rfl (fun c => ?_) (fun c => ?_)
    · have h := iz_t c h
      refine j_sub [0] rfl ?_
      exact jbX1_factor_83 G F hrc hb9 h
    · have h := iz_f c h
      refine j_aload_n (pc := 67) (k0 := 0) F 0 rfl dX1_factor_67 ?_
      refine j_iload_n (pc := 68) (k0 := 1) F 1 rfl dX1_factor_68 ?_
      refine j_iconst (pc := 69) F 1 dX1_factor_69 (by decide) ?_
      refine j_iadd (pc := 70) F dX1_factor_70 ?_
      obtain ⟨d8, ds9, x4, h5, i6, n7, e10, es11, hx4, h, he, hes⟩ := bE4_obt h
      refine j_callV1 (pc := 71) (ci := 1) (As := [.int (v1 + 1)]) (st := []) (e1 := e10) (es1 := es11) F clX1_57 cwX1_either rfl hou1 (ctX1_either G hou1 hrc hx4) (dok_of (by omega) (by decide)) rfl rfl rfl he hes dX1_factor_71 ?_
      refine j_astore_n (pc := 74) (k1 := 2) (ls' := [(2, .ref x4), (0, .ref this), (1, .int v1)]) F rfl rfl rfl dX1_factor_74 ?_
      refine j_aload_n (pc := 75) (k0 := 0) F 1 rfl dX1_factor_75 ?_
      refine j_bipush (pc := 76) F 41 dX1_factor_76 (by decide) ?_
      obtain ⟨u12, hu12, h⟩ := ob h
      have hou12 := ck_obt hu12
      obtain ⟨i13, hi13, h⟩ := ob h
      refine j_callV0 (pc := 78) (ci := 1) (As := [.int 41]) (st := []) (e1 := e10) (es1 := es11) F clX1_50 cwX1_expect rfl hou12 (ctX1_expect G hou12 hi13) (dok_of (by omega) (by decide)) rfl rfl rfl (Nat.zero_add _).symm (Nat.zero_add _).symm dX1_factor_78 ?_
      refine j_aload_n (pc := 81) (k0 := 2) F 0 rfl dX1_factor_81 ?_
      have g0 := Option.some.inj h
      obtain ⟨hq, g1⟩ := Prod.mk.inj g0
      obtain ⟨q1, q2⟩ := Prod.mk.inj hq
      obtain ⟨q3, g2⟩ := Prod.mk.inj g1
      obtain ⟨q4, g3⟩ := Prod.mk.inj g2
      obtain ⟨q5, g4⟩ := Prod.mk.inj g3
      subst q1
      subst q2
      subst q3
      subst q4
      subst q5
      subst g4
      exact j_aretR (pc := 82) F rfl (Or.inr ⟨_, rfl⟩) dX1_factor_82
set_option maxHeartbeats 4000000 in
set_option maxRecDepth 20000 in
theorem jbX1_factor_0 (G : GT) {X : XT} {dR : Nat} {L : LH} {r : Nat} {sh' : SH} {I' : IH} {n' : Nat}  {this : Nat} {rc : (Nat → Int32 → SH → IH → Nat → Option ((Nat × Nat) × (Nat × SH × IH × Nat)))} {v1 : Int32} {sh : SH} {I : IH} {n : Nat} {e es : Nat} (F : MF G X RX1 cX1_factor 4 (dR + 12) (some (.array .boolean)) "factor") (hth : isO sh 1 this) (hrc : ∀ {sh : SH} {I : IH} {L : LH} {n : Nat} {this : Nat} {v1 : Int32} {r : Nat} {sh' : SH} {I' : IH} {n' : Nat} {e es : Nat} , isO sh 1 this → rc this v1 sh I n = some ((e, es), (r, sh', I', n')) → Ct G yX1_factor cX1_factor 4 (some (.array .boolean)) dR [.ref this, .int v1] sh I L n (some (.ref r)) sh' I' L n' e es) (hb9 : 0 ≤ dR) (h : fX1_factor_b0 this rc v1 sh I n = some ((e, es), (r, sh', I', n'))) : J G X (QE G X (some (.ref r)) sh' I' L n') 4 sh I L n e es 0 [(0, .ref this), (1, .int v1)] [] := by
  unfold fX1_factor_b0 at h
  refine j_iload_n (pc := 0) (k0 := 1) F 1 rfl dX1_factor_0 ?_
  refine j_iconst (pc := 1) F 4 dX1_factor_1 (by decide) ?_
  refine j_icmp_ge (pc := 2) F 53 dX1_factor_2 rfl (fun c => ?_) (fun c => ?_)
  · have h := iz_t c h
    exact jbX1_factor_53 G F hrc hb9 h
  · have h := iz_f c h
    refine j_aload_n (pc := 5) (k0 := 0) F 0 rfl dX1_factor_5 ?_
    refine j_bipush (pc := 6) F 33 dX1_factor_6 (by decide) ?_
    obtain ⟨x1, i2, hx1, h⟩ := b2_obt h
    refine j_callV1 (pc := 8) (ci := 1) (As := [.int 33]) (st := []) (e1 := e) (es1 := es) F clX1_39 cwX1_passes rfl hth (ctX1_passes G hth hx1) (dok_of (by omega) (by decide)) rfl rfl rfl (Nat.zero_add _).symm (Nat.zero_add _).symm dX1_factor_8 ?_
    refine j_if_eq (pc := 11) F 53 dX1_factor_11 rfl (fun c => ?_) (fun c => ?_)
    · have h := iz_t c h
      exact jbX1_factor_53 G F hrc hb9 h
    · have h := iz_f c h
      refine j_aload_n (pc := 14) (k0 := 0) F 0 rfl dX1_factor_14 ?_
      refine j_iload_n (pc := 15) (k0 := 1) F 1 rfl dX1_factor_15 ?_
      refine j_iconst (pc := 16) F 1 dX1_factor_16 (by decide) ?_
      refine j_iadd (pc := 17) F dX1_factor_17 ?_
      obtain ⟨d7, ds8, x3, h4, i5, n6, e9, es10, hx3, h, he, hes⟩ := bE4_obt h
      refine j_callV1 (pc := 18) (ci := 1) (As := [.int (v1 + 1)]) (st := []) (e1 := e9) (es1 := es10) F clX1_98 cwX1_factor rfl hth (hrc hth hx3) (dok_of (by omega) (by decide)) rfl rfl rfl he hes dX1_factor_18 ?_
      refine j_astore_n (pc := 21) (k1 := 2) (ls' := [(2, .ref x3), (0, .ref this), (1, .int v1)]) F rfl rfl rfl dX1_factor_21 ?_
      refine j_iconst (pc := 22) F 0 dX1_factor_22 (by decide) ?_
      refine j_istore_n (pc := 23) (k1 := 3) (ls' := [(3, .int 0), (2, .ref x3), (0, .ref this), (1, .int v1)]) F rfl rfl rfl dX1_factor_23 ?_
      refine j_sub [2, 1, 0] rfl ?_
      exact jbX1_factor_24 G F hrc hb9 1000 _ _ _ _ _ _ _ h
theorem ctX1_factor (G : GT) : ∀ (dp : Nat) (sh : SH) (I : IH) (L : LH) (n : Nat) (this : Nat) (v1 : Int32) (r : Nat) (sh' : SH) (I' : IH) (n' : Nat) (e es : Nat) , isO sh 1 this → fX1_factor dp this v1 sh I n = some ((e, es), (r, sh', I', n')) → Ct G yX1_factor cX1_factor 4 (some (.array .boolean)) (0 + 12 * dp) [.ref this, .int v1] sh I L n (some (.ref r)) sh' I' L n' e es
  | 0 => by
    intros
    rename_i h
    exact absurd (show none = some _ from h) (by intro z; cases z)
  | dp + 1 => by
    intro sh I L n this v1 r sh' I' n' e es hth h
    refine ct_of (y := yX1_factor) (by decide +kernel) rfl (fun X F => ?_)
    exact jbX1_factor_0 G F hth (hrc := fun hth h => ctX1_factor G dp _ _ _ _ _ _ _ _ _ _ _ _ hth h) (Nat.le_add_right _ _) h
theorem dX4_melt_0 : decode cX4_melt 0 = .ok (.iconst 0, 1) := by decide +kernel
theorem dX4_melt_1 : decode cX4_melt 1 = .ok (.istore_n 3, 1) := by decide +kernel
theorem dX4_melt_2 : decode cX4_melt 2 = .ok (.iload_n 3, 1) := by decide +kernel
theorem dX4_melt_3 : decode cX4_melt 3 = .ok (.aload_n 0, 1) := by decide +kernel
theorem dX4_melt_4 : decode cX4_melt 4 = .ok (.getfield 16, 3) := by decide +kernel
theorem dX4_melt_7 : decode cX4_melt 7 = .ok (.arraylength, 1) := by decide +kernel
theorem dX4_melt_8 : decode cX4_melt 8 = .ok (.if_icmp .ge 31, 3) := by decide +kernel
theorem dX4_melt_11 : decode cX4_melt 11 = .ok (.iload_n 3, 1) := by decide +kernel
theorem dX4_melt_12 : decode cX4_melt 12 = .ok (.aload_n 2, 1) := by decide +kernel
theorem dX4_melt_13 : decode cX4_melt 13 = .ok (.arraylength, 1) := by decide +kernel
theorem dX4_melt_14 : decode cX4_melt 14 = .ok (.if_icmp .ge 25, 3) := by decide +kernel
theorem dX4_melt_17 : decode cX4_melt 17 = .ok (.aload_n 2, 1) := by decide +kernel
theorem dX4_melt_18 : decode cX4_melt 18 = .ok (.iload_n 3, 1) := by decide +kernel
theorem dX4_melt_19 : decode cX4_melt 19 = .ok (.baload, 1) := by decide +kernel
theorem dX4_melt_20 : decode cX4_melt 20 = .ok (.ifCond .eq 13, 3) := by decide +kernel
theorem dX4_melt_23 : decode cX4_melt 23 = .ok (.aload_n 0, 1) := by decide +kernel
theorem dX4_melt_24 : decode cX4_melt 24 = .ok (.getfield 16, 3) := by decide +kernel
theorem dX4_melt_27 : decode cX4_melt 27 = .ok (.iload_n 3, 1) := by decide +kernel
theorem dX4_melt_28 : decode cX4_melt 28 = .ok (.dup2, 1) := by decide +kernel
theorem dX4_melt_29 : decode cX4_melt 29 = .ok (.iaload, 1) := by decide +kernel
theorem dX4_melt_30 : decode cX4_melt 30 = .ok (.iload_n 1, 1) := by decide +kernel
theorem dX4_melt_31 : decode cX4_melt 31 = .ok (.iadd, 1) := by decide +kernel
theorem dX4_melt_32 : decode cX4_melt 32 = .ok (.iastore, 1) := by decide +kernel
theorem dX4_melt_33 : decode cX4_melt 33 = .ok (.iinc 3 1, 3) := by decide +kernel
theorem dX4_melt_36 : decode cX4_melt 36 = .ok (.goto (-34), 3) := by decide +kernel
theorem dX4_melt_39 : decode cX4_melt 39 = .ok (.return_, 1) := by decide +kernel
def fX4_melt_b2 (sh : SH) (this : Nat) : Nat → Int32 → Nat → Int32 → IH → Option (IH)
  | 0, _, _, _, _ => none
  | fuel + 1, v1, v2, v3, I =>
    (gR sh 4 this 1).bind fun x1 =>
    (aL sh x1).bind fun x2 =>
    if x2 ≤ v3 then (
      some I) else
    (aL sh v2).bind fun x3 =>
    if x3 ≤ v3 then (
      some I) else
    (aI sh I 1 v2 v3).bind fun x4 =>
    if x4 = 0 then (
      fX4_melt_b2 sh this fuel v1 v2 (v3 + 1) I) else
    (gR sh 4 this 1).bind fun x5 =>
    (aI sh I 0 x5 v3).bind fun x6 =>
    (sI sh I x5 v3 (x6 + v1)).bind fun i7 =>
    fX4_melt_b2 sh this fuel v1 v2 (v3 + 1) i7
def fX4_melt (sh : SH) (this : Nat) (v1 : Int32) (v2 : Nat) (I : IH) : Option (IH) :=
  fX4_melt_b2 sh this 1000 v1 v2 0 I
set_option maxHeartbeats 4000000 in
set_option maxRecDepth 20000 in
theorem jbX4_melt_2 (G : GT) {X : XT} {sh : SH} {L : LH} {n : Nat} {I' : IH}  {this : Nat}  (F : MF G X RX4 cX4_melt 4 0 none "melt") : ∀ (fuel : Nat) (v1 : Int32) (v2 : Nat) (v3 : Int32) (I : IH), fX4_melt_b2 sh this fuel v1 v2 v3 I = some I' → J G X (QE G X (none) sh I' L n) 4 sh I L n 0 0 2 [(0, .ref this), (1, .int v1), (2, .ref v2), (3, .int v3)] []
  | 0 => by
    intros
    rename_i h
    exact absurd (show none = some _ from h) (by intro z; cases z)
  | fuel + 1 => by
    intro v1 v2 v3 I h
    rw [fX4_melt_b2] at h
    refine j_iload_n (pc := 2) (k0 := 3) F 3 rfl dX4_melt_2 ?_
    refine j_aload_n (pc := 3) (k0 := 0) F 0 rfl dX4_melt_3 ?_
    obtain ⟨x1, hx1, h⟩ := ob h
    refine j_getR (pc := 4) F flX4_16 hx1 dX4_melt_4 ?_
    obtain ⟨x2, hx2, h⟩ := ob h
    refine j_alen (pc := 7) F hx2 dX4_melt_7 ?_
    refine j_icmp_ge (pc := 8) F 39 dX4_melt_8 rfl (fun c => ?_) (fun c => ?_)
    · have h := iz_t c h
      have g1 := Option.some.inj h
      subst g1
      exact j_vret (pc := 39) F dX4_melt_39
    · have h := iz_f c h
      refine j_iload_n (pc := 11) (k0 := 3) F 3 rfl dX4_melt_11 ?_
      refine j_aload_n (pc := 12) (k0 := 2) F 2 rfl dX4_melt_12 ?_
      obtain ⟨x3, hx3, h⟩ := ob h
      refine j_alen (pc := 13) F hx3 dX4_melt_13 ?_
      refine j_icmp_ge (pc := 14) F 39 dX4_melt_14 rfl (fun c => ?_) (fun c => ?_)
      · have h := iz_t c h
        have g1 := Option.some.inj h
        subst g1
        exact j_vret (pc := 39) F dX4_melt_39
      · have h := iz_f c h
        refine j_aload_n (pc := 17) (k0 := 2) F 2 rfl dX4_melt_17 ?_
        refine j_iload_n (pc := 18) (k0 := 3) F 3 rfl dX4_melt_18 ?_
        obtain ⟨x4, hx4, h⟩ := ob h
        refine j_zald (pc := 19) F hx4 dX4_melt_19 ?_
        refine j_if_eq (pc := 20) F 33 dX4_melt_20 rfl (fun c => ?_) (fun c => ?_)
        · have h := iz_t c h
          refine j_iinc (pc := 33) (k1 := 3) (ls' := [(3, .int (v3 + 1)), (0, .ref this), (1, .int v1), (2, .ref v2)]) F (v3 + 1) 3 rfl rfl rfl rfl dX4_melt_33 ?_
          refine j_goto (pc := 36) F 2 dX4_melt_36 rfl ?_
          refine j_sub [1, 2, 3, 0] rfl ?_
          exact jbX4_melt_2 G F fuel _ _ _ _ h
        · have h := iz_f c h
          refine j_aload_n (pc := 23) (k0 := 0) F 0 rfl dX4_melt_23 ?_
          obtain ⟨x5, hx5, h⟩ := ob h
          refine j_getR (pc := 24) F flX4_16 hx5 dX4_melt_24 ?_
          refine j_iload_n (pc := 27) (k0 := 3) F 3 rfl dX4_melt_27 ?_
          refine j_dup2 (pc := 28) F dX4_melt_28 rfl rfl ?_
          obtain ⟨x6, hx6, h⟩ := ob h
          refine j_iald (pc := 29) F hx6 dX4_melt_29 ?_
          refine j_iload_n (pc := 30) (k0 := 1) F 1 rfl dX4_melt_30 ?_
          refine j_iadd (pc := 31) F dX4_melt_31 ?_
          obtain ⟨i7, hi7, h⟩ := ob h
          refine j_iast (pc := 32) F hi7 dX4_melt_32 ?_
          refine j_iinc (pc := 33) (k1 := 3) (ls' := [(3, .int (v3 + 1)), (0, .ref this), (1, .int v1), (2, .ref v2)]) F (v3 + 1) 3 rfl rfl rfl rfl dX4_melt_33 ?_
          refine j_goto (pc := 36) F 2 dX4_melt_36 rfl ?_
          refine j_sub [1, 2, 3, 0] rfl ?_
          exact jbX4_melt_2 G F fuel _ _ _ _ h
set_option maxHeartbeats 4000000 in
set_option maxRecDepth 20000 in
theorem jbX4_melt_0 (G : GT) {X : XT} {sh : SH} {L : LH} {n : Nat} {I' : IH}  {this : Nat}  {v1 : Int32} {v2 : Nat} {I : IH} (F : MF G X RX4 cX4_melt 4 0 none "melt") (h : fX4_melt sh this v1 v2 I = some I') : J G X (QE G X (none) sh I' L n) 4 sh I L n 0 0 0 [(0, .ref this), (1, .int v1), (2, .ref v2)] [] := by
  unfold fX4_melt at h
  refine j_iconst (pc := 0) F 0 dX4_melt_0 (by decide) ?_
  refine j_istore_n (pc := 1) (k1 := 3) (ls' := [(3, .int 0), (0, .ref this), (1, .int v1), (2, .ref v2)]) F rfl rfl rfl dX4_melt_1 ?_
  refine j_sub [1, 2, 3, 0] rfl ?_
  exact jbX4_melt_2 G F 1000 _ _ _ _ h
theorem ctX4_melt (G : GT) {sh : SH} {I : IH} {L : LH} {n : Nat} {this : Nat} {v1 : Int32} {v2 : Nat} {I' : IH}  (h : fX4_melt sh this v1 v2 I = some I') : Ct G yX4_melt cX4_melt 4 none 0 [.ref this, .int v1, .ref v2] sh I L n (none) sh I' L n 0 0 := by
  refine ct_of (y := yX4_melt) (by decide +kernel) rfl (fun X F => ?_)
  exact jbX4_melt_0 G F h
