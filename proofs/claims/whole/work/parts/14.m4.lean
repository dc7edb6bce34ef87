/-! decompiled: X6_wrong, J6_bitCount_0f7a4, X6_spare, X6_day, X6_tapeAt, X6_judge, X6_image, X6_undo, X6_act, X6_trace, X6_isOrUnder, X6_taken, X6_count, X6_tape, X6_item, X6_read, X6_shift -/
theorem dX6_wrong_0 : decode cX6_wrong 0 = .ok (.aload_n 0, 1) := by decide +kernel
theorem dX6_wrong_1 : decode cX6_wrong 1 = .ok (.getfield 35, 3) := by decide +kernel
theorem dX6_wrong_4 : decode cX6_wrong 4 = .ok (.invokevirtual 103, 3) := by decide +kernel
theorem dX6_wrong_7 : decode cX6_wrong 7 = .ok (.istore_n 1, 1) := by decide +kernel
theorem dX6_wrong_8 : decode cX6_wrong 8 = .ok (.aload_n 0, 1) := by decide +kernel
theorem dX6_wrong_9 : decode cX6_wrong 9 = .ok (.getfield 35, 3) := by decide +kernel
theorem dX6_wrong_12 : decode cX6_wrong 12 = .ok (.getfield 167, 3) := by decide +kernel
theorem dX6_wrong_15 : decode cX6_wrong 15 = .ok (.iconst 0, 1) := by decide +kernel
theorem dX6_wrong_16 : decode cX6_wrong 16 = .ok (.aaload, 1) := by decide +kernel
theorem dX6_wrong_17 : decode cX6_wrong 17 = .ok (.astore_n 2, 1) := by decide +kernel
theorem dX6_wrong_18 : decode cX6_wrong 18 = .ok (.iconst 0, 1) := by decide +kernel
theorem dX6_wrong_19 : decode cX6_wrong 19 = .ok (.istore_n 3, 1) := by decide +kernel
theorem dX6_wrong_20 : decode cX6_wrong 20 = .ok (.iload_n 3, 1) := by decide +kernel
theorem dX6_wrong_21 : decode cX6_wrong 21 = .ok (.aload_n 2, 1) := by decide +kernel
theorem dX6_wrong_22 : decode cX6_wrong 22 = .ok (.arraylength, 1) := by decide +kernel
theorem dX6_wrong_23 : decode cX6_wrong 23 = .ok (.if_icmp .ge 16, 3) := by decide +kernel
theorem dX6_wrong_26 : decode cX6_wrong 26 = .ok (.aload_n 2, 1) := by decide +kernel
theorem dX6_wrong_27 : decode cX6_wrong 27 = .ok (.iload_n 3, 1) := by decide +kernel
theorem dX6_wrong_28 : decode cX6_wrong 28 = .ok (.dup2, 1) := by decide +kernel
theorem dX6_wrong_29 : decode cX6_wrong 29 = .ok (.iaload, 1) := by decide +kernel
theorem dX6_wrong_30 : decode cX6_wrong 30 = .ok (.iconst 1, 1) := by decide +kernel
theorem dX6_wrong_31 : decode cX6_wrong 31 = .ok (.iadd, 1) := by decide +kernel
theorem dX6_wrong_32 : decode cX6_wrong 32 = .ok (.iastore, 1) := by decide +kernel
theorem dX6_wrong_33 : decode cX6_wrong 33 = .ok (.iinc 3 1, 3) := by decide +kernel
theorem dX6_wrong_36 : decode cX6_wrong 36 = .ok (.goto (-16), 3) := by decide +kernel
theorem dX6_wrong_39 : decode cX6_wrong 39 = .ok (.iload_n 1, 1) := by decide +kernel
theorem dX6_wrong_40 : decode cX6_wrong 40 = .ok (.aload_n 0, 1) := by decide +kernel
theorem dX6_wrong_41 : decode cX6_wrong 41 = .ok (.getfield 35, 3) := by decide +kernel
theorem dX6_wrong_44 : decode cX6_wrong 44 = .ok (.iconst 0, 1) := by decide +kernel
theorem dX6_wrong_45 : decode cX6_wrong 45 = .ok (.invokevirtual 155, 3) := by decide +kernel
theorem dX6_wrong_48 : decode cX6_wrong 48 = .ok (.isub, 1) := by decide +kernel
theorem dX6_wrong_49 : decode cX6_wrong 49 = .ok (.ireturn, 1) := by decide +kernel
def fX6_wrong_b20 (sh : SH) (this : Nat) (k39 : (Int32 → IH → Option (Int32 × IH))) : Nat → Int32 → Nat → Int32 → IH → Option (Int32 × IH)
  | 0, _, _, _, _ => none
  | fuel + 1, v1, v2, v3, I =>
    (aL sh v2).bind fun x1 =>
    if x1 ≤ v3 then (
      k39 v1 I) else
    (aI sh I 0 v2 v3).bind fun x2 =>
    (sI sh I v2 v3 (x2 + 1)).bind fun i3 =>
    fX6_wrong_b20 sh this k39 fuel v1 v2 (v3 + 1) i3
def fX6_wrong_b39 (sh : SH) (this : Nat) (v1 : Int32) (I : IH) : Option (Int32 × IH) :=
  (gR sh 6 this 3).bind fun x1 =>
  (ck sh 5 x1).bind fun u2 =>
  b2 (fX5_again sh x1 0 I) fun x3 i4 =>
  some ((v1 - x3), i4)
def fX6_wrong (sh : SH) (this : Nat) (I : IH) : Option (Int32 × IH) :=
  (gR sh 6 this 3).bind fun x1 =>
  (ck sh 5 x1).bind fun u2 =>
  b2 (fX5_settle sh x1 I) fun x3 i4 =>
  (gR sh 6 this 3).bind fun x5 =>
  (gR sh 5 x5 2).bind fun x6 =>
  (aR sh 4 x6 0).bind fun x7 =>
  fX6_wrong_b20 sh this (fX6_wrong_b39 sh this) 1000 x3 x7 0 i4
set_option maxHeartbeats 4000000 in
set_option maxRecDepth 20000 in
theorem jbX6_wrong_20 (G : GT) {X : XT} {sh : SH} {L : LH} {n : Nat} {r : Int32} {I' : IH}  {this : Nat} {k39 : (Int32 → IH → Option (Int32 × IH))} (F : MF G X RX6 cX6_wrong 4 5 (some .int) "wrong")
    (hk39 : ∀ {v1 : Int32} {I : IH}, k39 v1 I = some (r, I') → J G X (QE G X (some (.int r)) sh I' L n) 4 sh I L n 0 0 39 [(0, .ref this), (1, .int v1)] []) : ∀ (fuel : Nat) (v1 : Int32) (v2 : Nat) (v3 : Int32) (I : IH), fX6_wrong_b20 sh this k39 fuel v1 v2 v3 I = some (r, I') → J G X (QE G X (some (.int r)) sh I' L n) 4 sh I L n 0 0 20 [(0, .ref this), (1, .int v1), (2, .ref v2), (3, .int v3)] []
  | 0 => by
    intros
    rename_i h
    exact absurd (show none = some _ from h) (by intro z; cases z)
  | fuel + 1 => by
    intro v1 v2 v3 I h
    rw [fX6_wrong_b20] at h
    refine j_iload_n (pc := 20) (k0 := 3) F 3 rfl dX6_wrong_20 ?_
    refine j_aload_n (pc := 21) (k0 := 2) F 2 rfl dX6_wrong_21 ?_
    obtain ⟨x1, hx1, h⟩ := ob h
    refine j_alen (pc := 22) F hx1 dX6_wrong_22 ?_
    refine j_icmp_ge (pc := 23) F 39 dX6_wrong_23 rfl (fun c => ?_) (fun c => ?_)
    · have h := iz_t c h
      refine j_sub [0, 1] rfl ?_
      exact hk39 h
    · have h := iz_f c h
      refine j_aload_n (pc := 26) (k0 := 2) F 2 rfl dX6_wrong_26 ?_
      refine j_iload_n (pc := 27) (k0 := 3) F 3 rfl dX6_wrong_27 ?_
      refine j_dup2 (pc := 28) F dX6_wrong_28 rfl rfl ?_
      obtain ⟨x2, hx2, h⟩ := ob h
      refine j_iald (pc := 29) F hx2 dX6_wrong_29 ?_
      refine j_iconst (pc := 30) F 1 dX6_wrong_30 (by decide) ?_
      refine j_iadd (pc := 31) F dX6_wrong_31 ?_
      obtain ⟨i3, hi3, h⟩ := ob h
      refine j_iast (pc := 32) F hi3 dX6_wrong_32 ?_
      refine j_iinc (pc := 33) (k1 := 3) (ls' := [(3, .int (v3 + 1)), (0, .ref this), (1, .int v1), (2, .ref v2)]) F (v3 + 1) 3 rfl rfl rfl rfl dX6_wrong_33 ?_
      refine j_goto (pc := 36) F 20 dX6_wrong_36 rfl ?_
      refine j_sub [1, 2, 3, 0] rfl ?_
      exact jbX6_wrong_20 G F hk39 fuel _ _ _ _ h
set_option maxHeartbeats 4000000 in
set_option maxRecDepth 20000 in
theorem jbX6_wrong_39 (G : GT) {X : XT} {sh : SH} {L : LH} {n : Nat} {r : Int32} {I' : IH}  {this : Nat}  {v1 : Int32} {I : IH} (F : MF G X RX6 cX6_wrong 4 5 (some .int) "wrong") (h : fX6_wrong_b39 sh this v1 I = some (r, I')) : J G X (QE G X (some (.int r)) sh I' L n) 4 sh I L n 0 0 39 [(0, .ref this), (1, .int v1)] [] := by
  unfold fX6_wrong_b39 at h
  refine j_iload_n (pc := 39) (k0 := 1) F 1 rfl dX6_wrong_39 ?_
  refine j_aload_n (pc := 40) (k0 := 0) F 0 rfl dX6_wrong_40 ?_
  obtain ⟨x1, hx1, h⟩ := ob h
  refine j_getR (pc := 41) F flX6_35 hx1 dX6_wrong_41 ?_
  refine j_iconst (pc := 44) F 0 dX6_wrong_44 (by decide) ?_
  obtain ⟨u2, hu2, h⟩ := ob h
  have hou2 := ck_obt hu2
  obtain ⟨x3, i4, hx3, h⟩ := b2_obt h
  refine j_callV1 (pc := 45) (ci := 5) (As := [.int 0]) (st := [.int v1]) (e1 := 0) (es1 := 0) F clX6_155 cwX5_again rfl hou2 (ctX5_again G hou2 hx3) rfl rfl rfl rfl rfl rfl dX6_wrong_45 ?_
  refine j_isub (pc := 48) F dX6_wrong_48 ?_
  have g1 := Option.some.inj h
  obtain ⟨q3, g2⟩ := Prod.mk.inj g1
  subst q3
  subst g2
  exact j_iret (pc := 49) F dX6_wrong_49
set_option maxHeartbeats 4000000 in
set_option maxRecDepth 20000 in
theorem jbX6_wrong_0 (G : GT) {X : XT} {sh : SH} {L : LH} {n : Nat} {r : Int32} {I' : IH}  {this : Nat}  {I : IH} (F : MF G X RX6 cX6_wrong 4 5 (some .int) "wrong") (h : fX6_wrong sh this I = some (r, I')) : J G X (QE G X (some (.int r)) sh I' L n) 4 sh I L n 0 0 0 [(0, .ref this)] [] := by
  unfold fX6_wrong at h
  refine j_aload_n (pc := 0) (k0 := 0) F 0 rfl dX6_wrong_0 ?_
  obtain ⟨x1, hx1, h⟩ := ob h
  refine j_getR (pc := 1) F flX6_35 hx1 dX6_wrong_1 ?_
  obtain ⟨u2, hu2, h⟩ := ob h
  have hou2 := ck_obt hu2
  obtain ⟨x3, i4, hx3, h⟩ := b2_obt h
  refine j_callV1 (pc := 4) (ci := 5) (As := []) (st := []) (e1 := 0) (es1 := 0) F clX6_103 cwX5_settle rfl hou2 (ctX5_settle G hou2 hx3) rfl rfl rfl rfl rfl rfl dX6_wrong_4 ?_
  refine j_istore_n (pc := 7) (k1 := 1) (ls' := [(1, .int x3), (0, .ref this)]) F rfl rfl rfl dX6_wrong_7 ?_
  refine j_aload_n (pc := 8) (k0 := 0) F 1 rfl dX6_wrong_8 ?_
  obtain ⟨x5, hx5, h⟩ := ob h
  refine j_getR (pc := 9) F flX6_35 hx5 dX6_wrong_9 ?_
  obtain ⟨x6, hx6, h⟩ := ob h
  refine j_getR (pc := 12) F flX6_167 hx6 dX6_wrong_12 ?_
  refine j_iconst (pc := 15) F 0 dX6_wrong_15 (by decide) ?_
  obtain ⟨x7, hx7, h⟩ := ob h
  refine j_aald (pc := 16) F (Or.inr rfl) hx7 dX6_wrong_16 ?_
  refine j_astore_n (pc := 17) (k1 := 2) (ls' := [(2, .ref x7), (1, .int x3), (0, .ref this)]) F rfl rfl rfl dX6_wrong_17 ?_
  refine j_iconst (pc := 18) F 0 dX6_wrong_18 (by decide) ?_
  refine j_istore_n (pc := 19) (k1 := 3) (ls' := [(3, .int 0), (2, .ref x7), (1, .int x3), (0, .ref this)]) F rfl rfl rfl dX6_wrong_19 ?_
  refine j_sub [3, 2, 1, 0] rfl ?_
  exact jbX6_wrong_20 G F (fun h => jbX6_wrong_39 G F h) 1000 _ _ _ _ h
theorem ctX6_wrong (G : GT) {sh : SH} {I : IH} {L : LH} {n : Nat} {this : Nat} {r : Int32} {I' : IH}  (h : fX6_wrong sh this I = some (r, I')) : Ct G yX6_wrong cX6_wrong 4 (some .int) 5 [.ref this] sh I L n (some (.int r)) sh I' L n 0 0 := by
  refine ct_of (y := yX6_wrong) (by decide +kernel) rfl (fun X F => ?_)
  exact jbX6_wrong_0 G F h
theorem dJ6_bitCount_0f7a4_0 : decode cJ6_bitCount_0f7a4 0 = .ok (.iload_n 0, 1) := by decide +kernel
theorem dJ6_bitCount_0f7a4_1 : decode cJ6_bitCount_0f7a4 1 = .ok (.iload_n 0, 1) := by decide +kernel
theorem dJ6_bitCount_0f7a4_2 : decode cJ6_bitCount_0f7a4 2 = .ok (.iconst 1, 1) := by decide +kernel
theorem dJ6_bitCount_0f7a4_3 : decode cJ6_bitCount_0f7a4 3 = .ok (.iushr, 1) := by decide +kernel
theorem dJ6_bitCount_0f7a4_4 : decode cJ6_bitCount_0f7a4 4 = .ok (.ldc_w 265, 3) := by decide +kernel
theorem dJ6_bitCount_0f7a4_7 : decode cJ6_bitCount_0f7a4 7 = .ok (.iand, 1) := by decide +kernel
theorem dJ6_bitCount_0f7a4_8 : decode cJ6_bitCount_0f7a4 8 = .ok (.isub, 1) := by decide +kernel
theorem dJ6_bitCount_0f7a4_9 : decode cJ6_bitCount_0f7a4 9 = .ok (.istore_n 0, 1) := by decide +kernel
theorem dJ6_bitCount_0f7a4_10 : decode cJ6_bitCount_0f7a4 10 = .ok (.iload_n 0, 1) := by decide +kernel
theorem dJ6_bitCount_0f7a4_11 : decode cJ6_bitCount_0f7a4 11 = .ok (.ldc_w 266, 3) := by decide +kernel
theorem dJ6_bitCount_0f7a4_14 : decode cJ6_bitCount_0f7a4 14 = .ok (.iand, 1) := by decide +kernel
theorem dJ6_bitCount_0f7a4_15 : decode cJ6_bitCount_0f7a4 15 = .ok (.iload_n 0, 1) := by decide +kernel
theorem dJ6_bitCount_0f7a4_16 : decode cJ6_bitCount_0f7a4 16 = .ok (.iconst 2, 1) := by decide +kernel
theorem dJ6_bitCount_0f7a4_17 : decode cJ6_bitCount_0f7a4 17 = .ok (.iushr, 1) := by decide +kernel
theorem dJ6_bitCount_0f7a4_18 : decode cJ6_bitCount_0f7a4 18 = .ok (.ldc_w 266, 3) := by decide +kernel
theorem dJ6_bitCount_0f7a4_21 : decode cJ6_bitCount_0f7a4 21 = .ok (.iand, 1) := by decide +kernel
theorem dJ6_bitCount_0f7a4_22 : decode cJ6_bitCount_0f7a4 22 = .ok (.iadd, 1) := by decide +kernel
theorem dJ6_bitCount_0f7a4_23 : decode cJ6_bitCount_0f7a4 23 = .ok (.istore_n 0, 1) := by decide +kernel
theorem dJ6_bitCount_0f7a4_24 : decode cJ6_bitCount_0f7a4 24 = .ok (.iload_n 0, 1) := by decide +kernel
theorem dJ6_bitCount_0f7a4_25 : decode cJ6_bitCount_0f7a4 25 = .ok (.iload_n 0, 1) := by decide +kernel
theorem dJ6_bitCount_0f7a4_26 : decode cJ6_bitCount_0f7a4 26 = .ok (.iconst 4, 1) := by decide +kernel
theorem dJ6_bitCount_0f7a4_27 : decode cJ6_bitCount_0f7a4 27 = .ok (.iushr, 1) := by decide +kernel
theorem dJ6_bitCount_0f7a4_28 : decode cJ6_bitCount_0f7a4 28 = .ok (.iadd, 1) := by decide +kernel
theorem dJ6_bitCount_0f7a4_29 : decode cJ6_bitCount_0f7a4 29 = .ok (.ldc_w 267, 3) := by decide +kernel
theorem dJ6_bitCount_0f7a4_32 : decode cJ6_bitCount_0f7a4 32 = .ok (.iand, 1) := by decide +kernel
theorem dJ6_bitCount_0f7a4_33 : decode cJ6_bitCount_0f7a4 33 = .ok (.istore_n 0, 1) := by decide +kernel
theorem dJ6_bitCount_0f7a4_34 : decode cJ6_bitCount_0f7a4 34 = .ok (.iload_n 0, 1) := by decide +kernel
theorem dJ6_bitCount_0f7a4_35 : decode cJ6_bitCount_0f7a4 35 = .ok (.iload_n 0, 1) := by decide +kernel
theorem dJ6_bitCount_0f7a4_36 : decode cJ6_bitCount_0f7a4 36 = .ok (.bipush 8, 2) := by decide +kernel
theorem dJ6_bitCount_0f7a4_38 : decode cJ6_bitCount_0f7a4 38 = .ok (.iushr, 1) := by decide +kernel
theorem dJ6_bitCount_0f7a4_39 : decode cJ6_bitCount_0f7a4 39 = .ok (.iadd, 1) := by decide +kernel
theorem dJ6_bitCount_0f7a4_40 : decode cJ6_bitCount_0f7a4 40 = .ok (.istore_n 0, 1) := by decide +kernel
theorem dJ6_bitCount_0f7a4_41 : decode cJ6_bitCount_0f7a4 41 = .ok (.iload_n 0, 1) := by decide +kernel
theorem dJ6_bitCount_0f7a4_42 : decode cJ6_bitCount_0f7a4 42 = .ok (.iload_n 0, 1) := by decide +kernel
theorem dJ6_bitCount_0f7a4_43 : decode cJ6_bitCount_0f7a4 43 = .ok (.bipush 16, 2) := by decide +kernel
theorem dJ6_bitCount_0f7a4_45 : decode cJ6_bitCount_0f7a4 45 = .ok (.iushr, 1) := by decide +kernel
theorem dJ6_bitCount_0f7a4_46 : decode cJ6_bitCount_0f7a4 46 = .ok (.iadd, 1) := by decide +kernel
theorem dJ6_bitCount_0f7a4_47 : decode cJ6_bitCount_0f7a4 47 = .ok (.istore_n 0, 1) := by decide +kernel
theorem dJ6_bitCount_0f7a4_48 : decode cJ6_bitCount_0f7a4 48 = .ok (.iload_n 0, 1) := by decide +kernel
theorem dJ6_bitCount_0f7a4_49 : decode cJ6_bitCount_0f7a4 49 = .ok (.bipush 63, 2) := by decide +kernel
theorem dJ6_bitCount_0f7a4_51 : decode cJ6_bitCount_0f7a4 51 = .ok (.iand, 1) := by decide +kernel
theorem dJ6_bitCount_0f7a4_52 : decode cJ6_bitCount_0f7a4 52 = .ok (.ireturn, 1) := by decide +kernel
def fJ6_bitCount_0f7a4_b48 (v0 : Int32) : Int32 :=
  (v0 &&& 63)
def fJ6_bitCount_0f7a4_b41 (v0 : Int32) : Int32 :=
  fJ6_bitCount_0f7a4_b48 (v0 + (v0.toUInt32 >>> (Int32.toUInt32 16 &&& Int32.toUInt32 31)).toInt32)
def fJ6_bitCount_0f7a4_b34 (v0 : Int32) : Int32 :=
  fJ6_bitCount_0f7a4_b41 (v0 + (v0.toUInt32 >>> (Int32.toUInt32 8 &&& Int32.toUInt32 31)).toInt32)
def fJ6_bitCount_0f7a4_b24 (v0 : Int32) : Int32 :=
  fJ6_bitCount_0f7a4_b34 ((v0 + (v0.toUInt32 >>> (Int32.toUInt32 4 &&& Int32.toUInt32 31)).toInt32) &&& 252645135)
def fJ6_bitCount_0f7a4_b10 (v0 : Int32) : Int32 :=
  fJ6_bitCount_0f7a4_b24 ((v0 &&& 858993459) + ((v0.toUInt32 >>> (Int32.toUInt32 2 &&& Int32.toUInt32 31)).toInt32 &&& 858993459))
def fJ6_bitCount_0f7a4 (v0 : Int32) : Int32 :=
  fJ6_bitCount_0f7a4_b10 (v0 - ((v0.toUInt32 >>> (Int32.toUInt32 1 &&& Int32.toUInt32 31)).toInt32 &&& 1431655765))
set_option maxHeartbeats 4000000 in
set_option maxRecDepth 20000 in
theorem jbJ6_bitCount_0f7a4_48 (G : GT) {X : XT} {sh : SH} {I : IH} {L : LH} {n : Nat} {r : Int32}   {v0 : Int32} (F : MF G X RJ6 cJ6_bitCount_0f7a4 1 0 (some .int) "bitCount") (h : fJ6_bitCount_0f7a4_b48 v0 = r) : J G X (QE G X (some (.int r)) sh I L n) 1 sh I L n 0 0 48 [(0, .int v0)] [] := by
  unfold fJ6_bitCount_0f7a4_b48 at h
  refine j_iload_n (pc := 48) (k0 := 0) F 0 rfl dJ6_bitCount_0f7a4_48 ?_
  refine j_bipush (pc := 49) F 63 dJ6_bitCount_0f7a4_49 (by decide) ?_
  refine j_iand (pc := 51) F dJ6_bitCount_0f7a4_51 ?_
  subst h
  exact j_iret (pc := 52) F dJ6_bitCount_0f7a4_52
set_option maxHeartbeats 4000000 in
set_option maxRecDepth 20000 in
theorem jbJ6_bitCount_0f7a4_41 (G : GT) {X : XT} {sh : SH} {I : IH} {L : LH} {n : Nat} {r : Int32}   {v0 : Int32} (F : MF G X RJ6 cJ6_bitCount_0f7a4 1 0 (some .int) "bitCount") (h : fJ6_bitCount_0f7a4_b41 v0 = r) : J G X (QE G X (some (.int r)) sh I L n) 1 sh I L n 0 0 41 [(0, .int v0)] [] := by
  unfold fJ6_bitCount_0f7a4_b41 at h
  refine j_iload_n (pc := 41) (k0 := 0) F 0 rfl dJ6_bitCount_0f7a4_41 ?_
  refine j_iload_n (pc := 42) (k0 := 0) F 0 rfl dJ6_bitCount_0f7a4_42 ?_
  refine j_bipush (pc := 43) F 16 dJ6_bitCount_0f7a4_43 (by decide) ?_
  refine j_iushr (pc := 45) F dJ6_bitCount_0f7a4_45 ?_
  refine j_iadd (pc := 46) F dJ6_bitCount_0f7a4_46 ?_
  refine j_istore_n (pc := 47) (k1 := 0) (ls' := [(0, .int (v0 + (v0.toUInt32 >>> (Int32.toUInt32 16 &&& Int32.toUInt32 31)).toInt32))]) F rfl rfl rfl dJ6_bitCount_0f7a4_47 ?_
  exact jbJ6_bitCount_0f7a4_48 G F h
set_option maxHeartbeats 4000000 in
set_option maxRecDepth 20000 in
theorem jbJ6_bitCount_0f7a4_34 (G : GT) {X : XT} {sh : SH} {I : IH} {L : LH} {n : Nat} {r : Int32}   {v0 : Int32} (F : MF G X RJ6 cJ6_bitCount_0f7a4 1 0 (some .int) "bitCount") (h : fJ6_bitCount_0f7a4_b34 v0 = r) : J G X (QE G X (some (.int r)) sh I L n) 1 sh I L n 0 0 34 [(0, .int v0)] [] := by
  unfold fJ6_bitCount_0f7a4_b34 at h
  refine j_iload_n (pc := 34) (k0 := 0) F 0 rfl dJ6_bitCount_0f7a4_34 ?_
  refine j_iload_n (pc := 35) (k0 := 0) F 0 rfl dJ6_bitCount_0f7a4_35 ?_
  refine j_bipush (pc := 36) F 8 dJ6_bitCount_0f7a4_36 (by decide) ?_
  refine j_iushr (pc := 38) F dJ6_bitCount_0f7a4_38 ?_
  refine j_iadd (pc := 39) F dJ6_bitCount_0f7a4_39 ?_
  refine j_istore_n (pc := 40) (k1 := 0) (ls' := [(0, .int (v0 + (v0.toUInt32 >>> (Int32.toUInt32 8 &&& Int32.toUInt32 31)).toInt32))]) F rfl rfl rfl dJ6_bitCount_0f7a4_40 ?_
  exact jbJ6_bitCount_0f7a4_41 G F h
set_option maxHeartbeats 4000000 in
set_option maxRecDepth 20000 in
theorem jbJ6_bitCount_0f7a4_24 (G : GT) {X : XT} {sh : SH} {I : IH} {L : LH} {n : Nat} {r : Int32}   {v0 : Int32} (F : MF G X RJ6 cJ6_bitCount_0f7a4 1 0 (some .int) "bitCount") (h : fJ6_bitCount_0f7a4_b24 v0 = r) : J G X (QE G X (some (.int r)) sh I L n) 1 sh I L n 0 0 24 [(0, .int v0)] [] := by
  unfold fJ6_bitCount_0f7a4_b24 at h
  refine j_iload_n (pc := 24) (k0 := 0) F 0 rfl dJ6_bitCount_0f7a4_24 ?_
  refine j_iload_n (pc := 25) (k0 := 0) F 0 rfl dJ6_bitCount_0f7a4_25 ?_
  refine j_iconst (pc := 26) F 4 dJ6_bitCount_0f7a4_26 (by decide) ?_
  refine j_iushr (pc := 27) F dJ6_bitCount_0f7a4_27 ?_
  refine j_iadd (pc := 28) F dJ6_bitCount_0f7a4_28 ?_
  refine j_ldcw (pc := 29) (v := 252645135) F (good_of 642 (by decide +kernel) (by decide +kernel)) dJ6_bitCount_0f7a4_29 ?_
  refine j_iand (pc := 32) F dJ6_bitCount_0f7a4_32 ?_
  refine j_istore_n (pc := 33) (k1 := 0) (ls' := [(0, .int ((v0 + (v0.toUInt32 >>> (Int32.toUInt32 4 &&& Int32.toUInt32 31)).toInt32) &&& 252645135))]) F rfl rfl rfl dJ6_bitCount_0f7a4_33 ?_
  exact jbJ6_bitCount_0f7a4_34 G F h
set_option maxHeartbeats 4000000 in
set_option maxRecDepth 20000 in
theorem jbJ6_bitCount_0f7a4_10 (G : GT) {X : XT} {sh : SH} {I : IH} {L : LH} {n : Nat} {r : Int32}   {v0 : Int32} (F : MF G X RJ6 cJ6_bitCount_0f7a4 1 0 (some .int) "bitCount") (h : fJ6_bitCount_0f7a4_b10 v0 = r) : J G X (QE G X (some (.int r)) sh I L n) 1 sh I L n 0 0 10 [(0, .int v0)] [] := by
  unfold fJ6_bitCount_0f7a4_b10 at h
  refine j_iload_n (pc := 10) (k0 := 0) F 0 rfl dJ6_bitCount_0f7a4_10 ?_
  refine j_ldcw (pc := 11) (v := 858993459) F (good_of 641 (by decide +kernel) (by decide +kernel)) dJ6_bitCount_0f7a4_11 ?_
  refine j_iand (pc := 14) F dJ6_bitCount_0f7a4_14 ?_
  refine j_iload_n (pc := 15) (k0 := 0) F 0 rfl dJ6_bitCount_0f7a4_15 ?_
  refine j_iconst (pc := 16) F 2 dJ6_bitCount_0f7a4_16 (by decide) ?_
  refine j_iushr (pc := 17) F dJ6_bitCount_0f7a4_17 ?_
  refine j_ldcw (pc := 18) (v := 858993459) F (good_of 641 (by decide +kernel) (by decide +kernel)) dJ6_bitCount_0f7a4_18 ?_
  refine j_iand (pc := 21) F dJ6_bitCount_0f7a4_21 ?_
  refine j_iadd (pc := 22) F dJ6_bitCount_0f7a4_22 ?_
  refine j_istore_n (pc := 23) (k1 := 0) (ls' := [(0, .int ((v0 &&& 858993459) + ((v0.toUInt32 >>> (Int32.toUInt32 2 &&& Int32.toUInt32 31)).toInt32 &&& 858993459)))]) F rfl rfl rfl dJ6_bitCount_0f7a4_23 ?_
  exact jbJ6_bitCount_0f7a4_24 G F h
set_option maxHeartbeats 4000000 in
set_option maxRecDepth 20000 in
theorem jbJ6_bitCount_0f7a4_0 (G : GT) {X : XT} {sh : SH} {I : IH} {L : LH} {n : Nat} {r : Int32}   {v0 : Int32} (F : MF G X RJ6 cJ6_bitCount_0f7a4 1 0 (some .int) "bitCount") (h : fJ6_bitCount_0f7a4 v0 = r) : J G X (QE G X (some (.int r)) sh I L n) 1 sh I L n 0 0 0 [(0, .int v0)] [] := by
  unfold fJ6_bitCount_0f7a4 at h
  refine j_iload_n (pc := 0) (k0 := 0) F 0 rfl dJ6_bitCount_0f7a4_0 ?_
  refine j_iload_n (pc := 1) (k0 := 0) F 0 rfl dJ6_bitCount_0f7a4_1 ?_
  refine j_iconst (pc := 2) F 1 dJ6_bitCount_0f7a4_2 (by decide) ?_
  refine j_iushr (pc := 3) F dJ6_bitCount_0f7a4_3 ?_
  refine j_ldcw (pc := 4) (v := 1431655765) F (good_of 640 (by decide +kernel) (by decide +kernel)) dJ6_bitCount_0f7a4_4 ?_
  refine j_iand (pc := 7) F dJ6_bitCount_0f7a4_7 ?_
  refine j_isub (pc := 8) F dJ6_bitCount_0f7a4_8 ?_
  refine j_istore_n (pc := 9) (k1 := 0) (ls' := [(0, .int (v0 - ((v0.toUInt32 >>> (Int32.toUInt32 1 &&& Int32.toUInt32 31)).toInt32 &&& 1431655765)))]) F rfl rfl rfl dJ6_bitCount_0f7a4_9 ?_
  exact jbJ6_bitCount_0f7a4_10 G F h
theorem ctJ6_bitCount_0f7a4 (G : GT) {sh : SH} {I : IH} {L : LH} {n : Nat} {v0 : Int32} : Ct G yJ6_bitCount_0f7a4 cJ6_bitCount_0f7a4 1 (some .int) 0 [.int v0] sh I L n (some (.int (fJ6_bitCount_0f7a4 v0))) sh I L n 0 0 := by
  refine ct_ofJ (y := yJ6_bitCount_0f7a4) (by decide +kernel) rfl (fun X F => ?_)
  exact jbJ6_bitCount_0f7a4_0 G F rfl
theorem dX6_spare_0 : decode cX6_spare 0 = .ok (.aload_n 0, 1) := by decide +kernel
theorem dX6_spare_1 : decode cX6_spare 1 = .ok (.getfield 35, 3) := by decide +kernel
theorem dX6_spare_4 : decode cX6_spare 4 = .ok (.invokevirtual 103, 3) := by decide +kernel
theorem dX6_spare_7 : decode cX6_spare 7 = .ok (.istore_n 1, 1) := by decide +kernel
theorem dX6_spare_8 : decode cX6_spare 8 = .ok (.iconst 0, 1) := by decide +kernel
theorem dX6_spare_9 : decode cX6_spare 9 = .ok (.istore_n 2, 1) := by decide +kernel
theorem dX6_spare_10 : decode cX6_spare 10 = .ok (.iconst 1, 1) := by decide +kernel
theorem dX6_spare_11 : decode cX6_spare 11 = .ok (.istore_n 3, 1) := by decide +kernel
theorem dX6_spare_12 : decode cX6_spare 12 = .ok (.iload_n 3, 1) := by decide +kernel
theorem dX6_spare_13 : decode cX6_spare 13 = .ok (.iconst 1, 1) := by decide +kernel
theorem dX6_spare_14 : decode cX6_spare 14 = .ok (.aload_n 0, 1) := by decide +kernel
theorem dX6_spare_15 : decode cX6_spare 15 = .ok (.getfield 19, 3) := by decide +kernel
theorem dX6_spare_18 : decode cX6_spare 18 = .ok (.getfield 57, 3) := by decide +kernel
theorem dX6_spare_21 : decode cX6_spare 21 = .ok (.ishl, 1) := by decide +kernel
theorem dX6_spare_22 : decode cX6_spare 22 = .ok (.if_icmp .ge 34, 3) := by decide +kernel
theorem dX6_spare_25 : decode cX6_spare 25 = .ok (.iload_n 3, 1) := by decide +kernel
theorem dX6_spare_26 : decode cX6_spare 26 = .ok (.invokestatic 180, 3) := by decide +kernel
theorem dX6_spare_29 : decode cX6_spare 29 = .ok (.iload_n 2, 1) := by decide +kernel
theorem dX6_spare_30 : decode cX6_spare 30 = .ok (.invokestatic 180, 3) := by decide +kernel
theorem dX6_spare_33 : decode cX6_spare 33 = .ok (.if_icmp .le 17, 3) := by decide +kernel
theorem dX6_spare_36 : decode cX6_spare 36 = .ok (.aload_n 0, 1) := by decide +kernel
theorem dX6_spare_37 : decode cX6_spare 37 = .ok (.getfield 35, 3) := by decide +kernel
theorem dX6_spare_40 : decode cX6_spare 40 = .ok (.iload_n 3, 1) := by decide +kernel
theorem dX6_spare_41 : decode cX6_spare 41 = .ok (.invokevirtual 185, 3) := by decide +kernel
theorem dX6_spare_44 : decode cX6_spare 44 = .ok (.iload_n 1, 1) := by decide +kernel
theorem dX6_spare_45 : decode cX6_spare 45 = .ok (.if_icmp .lt 5, 3) := by decide +kernel
theorem dX6_spare_48 : decode cX6_spare 48 = .ok (.iload_n 3, 1) := by decide +kernel
theorem dX6_spare_49 : decode cX6_spare 49 = .ok (.istore_n 2, 1) := by decide +kernel
theorem dX6_spare_50 : decode cX6_spare 50 = .ok (.iinc 3 1, 3) := by decide +kernel
theorem dX6_spare_53 : decode cX6_spare 53 = .ok (.goto (-41), 3) := by decide +kernel
theorem dX6_spare_56 : decode cX6_spare 56 = .ok (.iload_n 2, 1) := by decide +kernel
theorem dX6_spare_57 : decode cX6_spare 57 = .ok (.ireturn, 1) := by decide +kernel
def fX6_spare_b12 (sh : SH) (this : Nat) : Nat → Int32 → Int32 → Int32 → IH → Option (Int32 × IH)
  | 0, _, _, _, _ => none
  | fuel + 1, v1, v2, v3, I =>
    (gR sh 6 this 0).bind fun x1 =>
    (gI sh I 2 x1 0).bind fun x2 =>
    if (1 <<< (x2 &&& 31)) ≤ v3 then (
      some (v2, I)) else
    if (fJ6_bitCount_0f7a4 v3) ≤ (fJ6_bitCount_0f7a4 v2) then (
      fX6_spare_b12 sh this fuel v1 v2 (v3 + 1) I) else
    (gR sh 6 this 3).bind fun x3 =>
    (ck sh 5 x3).bind fun u4 =>
    b2 (fX5_worthWithout sh x3 v3 I) fun x5 i6 =>
    if x5 < v1 then (
      fX6_spare_b12 sh this fuel v1 v2 (v3 + 1) i6) else
    fX6_spare_b12 sh this fuel v1 v3 (v3 + 1) i6
def fX6_spare (sh : SH) (this : Nat) (I : IH) : Option (Int32 × IH) :=
  (gR sh 6 this 3).bind fun x1 =>
  (ck sh 5 x1).bind fun u2 =>
  b2 (fX5_settle sh x1 I) fun x3 i4 =>
  fX6_spare_b12 sh this 1000 x3 0 1 i4
set_option maxHeartbeats 4000000 in
set_option maxRecDepth 20000 in
theorem jbX6_spare_12 (G : GT) {X : XT} {sh : SH} {L : LH} {n : Nat} {r : Int32} {I' : IH}  {this : Nat}  (F : MF G X RX6 cX6_spare 4 5 (some .int) "spare") : ∀ (fuel : Nat) (v1 : Int32) (v2 : Int32) (v3 : Int32) (I : IH), fX6_spare_b12 sh this fuel v1 v2 v3 I = some (r, I') → J G X (QE G X (some (.int r)) sh I' L n) 4 sh I L n 0 0 12 [(0, .ref this), (1, .int v1), (2, .int v2), (3, .int v3)] []
  | 0 => by
    intros
    rename_i h
    exact absurd (show none = some _ from h) (by intro z; cases z)
  | fuel + 1 => by
    intro v1 v2 v3 I h
    rw [fX6_spare_b12] at h
    refine j_iload_n (pc := 12) (k0 := 3) F 3 rfl dX6_spare_12 ?_
    refine j_iconst (pc := 13) F 1 dX6_spare_13 (by decide) ?_
    refine j_aload_n (pc := 14) (k0 := 0) F 0 rfl dX6_spare_14 ?_
    obtain ⟨x1, hx1, h⟩ := ob h
    refine j_getR (pc := 15) F flX6_19 hx1 dX6_spare_15 ?_
    obtain ⟨x2, hx2, h⟩ := ob h
    refine j_getI (pc := 18) F flX6_57 hx2 dX6_spare_18 ?_
    refine j_ishl (pc := 21) F dX6_spare_21 ?_
    refine j_icmp_ge (pc := 22) F 56 dX6_spare_22 rfl (fun c => ?_) (fun c => ?_)
    · have h := iz_t c h
      refine j_iload_n (pc := 56) (k0 := 2) F 2 rfl dX6_spare_56 ?_
      have g1 := Option.some.inj h
      obtain ⟨q3, g2⟩ := Prod.mk.inj g1
      subst q3
      subst g2
      exact j_iret (pc := 57) F dX6_spare_57
    · have h := iz_f c h
      refine j_iload_n (pc := 25) (k0 := 3) F 3 rfl dX6_spare_25 ?_
      refine j_callS1 (pc := 26) (As := [.int v3]) (st := []) (e1 := 0) (es1 := 0) F clX6_180 cwJ6_bitCount_0f7a4 (ctJ6_bitCount_0f7a4 G) rfl rfl rfl rfl rfl rfl dX6_spare_26 ?_
      refine j_iload_n (pc := 29) (k0 := 2) F 2 rfl dX6_spare_29 ?_
      refine j_callS1 (pc := 30) (As := [.int v2]) (st := [.int (fJ6_bitCount_0f7a4 v3)]) (e1 := 0) (es1 := 0) F clX6_180 cwJ6_bitCount_0f7a4 (ctJ6_bitCount_0f7a4 G) rfl rfl rfl rfl rfl rfl dX6_spare_30 ?_
      refine j_icmp_le (pc := 33) F 50 dX6_spare_33 rfl (fun c => ?_) (fun c => ?_)
      · have h := iz_t c h
        refine j_iinc (pc := 50) (k1 := 3) (ls' := [(3, .int (v3 + 1)), (0, .ref this), (1, .int v1), (2, .int v2)]) F (v3 + 1) 3 rfl rfl rfl rfl dX6_spare_50 ?_
        refine j_goto (pc := 53) F 12 dX6_spare_53 rfl ?_
        refine j_sub [1, 2, 3, 0] rfl ?_
        exact jbX6_spare_12 G F fuel _ _ _ _ h
      · have h := iz_f c h
        refine j_aload_n (pc := 36) (k0 := 0) F 0 rfl dX6_spare_36 ?_
        obtain ⟨x3, hx3, h⟩ := ob h
        refine j_getR (pc := 37) F flX6_35 hx3 dX6_spare_37 ?_
        refine j_iload_n (pc := 40) (k0 := 3) F 3 rfl dX6_spare_40 ?_
        obtain ⟨u4, hu4, h⟩ := ob h
        have hou4 := ck_obt hu4
        obtain ⟨x5, i6, hx5, h⟩ := b2_obt h
        refine j_callV1 (pc := 41) (ci := 5) (As := [.int v3]) (st := []) (e1 := 0) (es1 := 0) F clX6_185 cwX5_worthWithout rfl hou4 (ctX5_worthWithout G hou4 hx5) rfl rfl rfl rfl rfl rfl dX6_spare_41 ?_
        refine j_iload_n (pc := 44) (k0 := 1) F 1 rfl dX6_spare_44 ?_
        refine j_icmp_lt (pc := 45) F 50 dX6_spare_45 rfl (fun c => ?_) (fun c => ?_)
        · have h := iz_t c h
          refine j_iinc (pc := 50) (k1 := 3) (ls' := [(3, .int (v3 + 1)), (0, .ref this), (1, .int v1), (2, .int v2)]) F (v3 + 1) 3 rfl rfl rfl rfl dX6_spare_50 ?_
          refine j_goto (pc := 53) F 12 dX6_spare_53 rfl ?_
          refine j_sub [1, 2, 3, 0] rfl ?_
          exact jbX6_spare_12 G F fuel _ _ _ _ h
        · have h := iz_f c h
          refine j_iload_n (pc := 48) (k0 := 3) F 3 rfl dX6_spare_48 ?_
          refine j_istore_n (pc := 49) (k1 := 2) (ls' := [(2, .int v3), (0, .ref this), (1, .int v1), (3, .int v3)]) F rfl rfl rfl dX6_spare_49 ?_
          refine j_iinc (pc := 50) (k1 := 3) (ls' := [(3, .int (v3 + 1)), (2, .int v3), (0, .ref this), (1, .int v1)]) F (v3 + 1) 3 rfl rfl rfl rfl dX6_spare_50 ?_
          refine j_goto (pc := 53) F 12 dX6_spare_53 rfl ?_
          refine j_sub [2, 3, 1, 0] rfl ?_
          exact jbX6_spare_12 G F fuel _ _ _ _ h
set_option maxHeartbeats 4000000 in
set_option maxRecDepth 20000 in
theorem jbX6_spare_0 (G : GT) {X : XT} {sh : SH} {L : LH} {n : Nat} {r : Int32} {I' : IH}  {this : Nat}  {I : IH} (F : MF G X RX6 cX6_spare 4 5 (some .int) "spare") (h : fX6_spare sh this I = some (r, I')) : J G X (QE G X (some (.int r)) sh I' L n) 4 sh I L n 0 0 0 [(0, .ref this)] [] := by
  unfold fX6_spare at h
  refine j_aload_n (pc := 0) (k0 := 0) F 0 rfl dX6_spare_0 ?_
  obtain ⟨x1, hx1, h⟩ := ob h
  refine j_getR (pc := 1) F flX6_35 hx1 dX6_spare_1 ?_
  obtain ⟨u2, hu2, h⟩ := ob h
  have hou2 := ck_obt hu2
  obtain ⟨x3, i4, hx3, h⟩ := b2_obt h
  refine j_callV1 (pc := 4) (ci := 5) (As := []) (st := []) (e1 := 0) (es1 := 0) F clX6_103 cwX5_settle rfl hou2 (ctX5_settle G hou2 hx3) rfl rfl rfl rfl rfl rfl dX6_spare_4 ?_
  refine j_istore_n (pc := 7) (k1 := 1) (ls' := [(1, .int x3), (0, .ref this)]) F rfl rfl rfl dX6_spare_7 ?_
  refine j_iconst (pc := 8) F 0 dX6_spare_8 (by decide) ?_
  refine j_istore_n (pc := 9) (k1 := 2) (ls' := [(2, .int 0), (1, .int x3), (0, .ref this)]) F rfl rfl rfl dX6_spare_9 ?_
  refine j_iconst (pc := 10) F 1 dX6_spare_10 (by decide) ?_
  refine j_istore_n (pc := 11) (k1 := 3) (ls' := [(3, .int 1), (2, .int 0), (1, .int x3), (0, .ref this)]) F rfl rfl rfl dX6_spare_11 ?_
  refine j_sub [3, 2, 1, 0] rfl ?_
  exact jbX6_spare_12 G F 1000 _ _ _ _ h
theorem ctX6_spare (G : GT) {sh : SH} {I : IH} {L : LH} {n : Nat} {this : Nat} {r : Int32} {I' : IH}  (h : fX6_spare sh this I = some (r, I')) : Ct G yX6_spare cX6_spare 4 (some .int) 5 [.ref this] sh I L n (some (.int r)) sh I' L n 0 0 := by
  refine ct_of (y := yX6_spare) (by decide +kernel) rfl (fun X F => ?_)
  exact jbX6_spare_0 G F h
theorem dX6_day_0 : decode cX6_day 0 = .ok (.iload_n 1, 1) := by decide +kernel
theorem dX6_day_1 : decode cX6_day 1 = .ok (.iconst (-1), 1) := by decide +kernel
theorem dX6_day_2 : decode cX6_day 2 = .ok (.if_icmp .lt 9, 3) := by decide +kernel
theorem dX6_day_5 : decode cX6_day 5 = .ok (.iload_n 1, 1) := by decide +kernel
theorem dX6_day_6 : decode cX6_day 6 = .ok (.bipush 99, 2) := by decide +kernel
theorem dX6_day_8 : decode cX6_day 8 = .ok (.if_icmp .le 6, 3) := by decide +kernel
theorem dX6_day_11 : decode cX6_day 11 = .ok (.bipush (-2), 2) := by decide +kernel
theorem dX6_day_13 : decode cX6_day 13 = .ok (.ireturn, 1) := by decide +kernel
theorem dX6_day_14 : decode cX6_day 14 = .ok (.iload_n 1, 1) := by decide +kernel
theorem dX6_day_15 : decode cX6_day 15 = .ok (.iconst (-1), 1) := by decide +kernel
theorem dX6_day_16 : decode cX6_day 16 = .ok (.if_icmp .ne 13, 3) := by decide +kernel
theorem dX6_day_19 : decode cX6_day 19 = .ok (.aload_n 0, 1) := by decide +kernel
theorem dX6_day_20 : decode cX6_day 20 = .ok (.getfield 19, 3) := by decide +kernel
theorem dX6_day_23 : decode cX6_day 23 = .ok (.iconst 0, 1) := by decide +kernel
theorem dX6_day_24 : decode cX6_day 24 = .ok (.putfield 188, 3) := by decide +kernel
theorem dX6_day_27 : decode cX6_day 27 = .ok (.iconst 0, 1) := by decide +kernel
theorem dX6_day_28 : decode cX6_day 28 = .ok (.ireturn, 1) := by decide +kernel
theorem dX6_day_29 : decode cX6_day 29 = .ok (.aload_n 0, 1) := by decide +kernel
theorem dX6_day_30 : decode cX6_day 30 = .ok (.getfield 19, 3) := by decide +kernel
theorem dX6_day_33 : decode cX6_day 33 = .ok (.getfield 188, 3) := by decide +kernel
theorem dX6_day_36 : decode cX6_day 36 = .ok (.aload_n 0, 1) := by decide +kernel
theorem dX6_day_37 : decode cX6_day 37 = .ok (.getfield 19, 3) := by decide +kernel
theorem dX6_day_40 : decode cX6_day 40 = .ok (.getfield 191, 3) := by decide +kernel
theorem dX6_day_43 : decode cX6_day 43 = .ok (.arraylength, 1) := by decide +kernel
theorem dX6_day_44 : decode cX6_day 44 = .ok (.if_icmp .lt 6, 3) := by decide +kernel
theorem dX6_day_47 : decode cX6_day 47 = .ok (.bipush (-4), 2) := by decide +kernel
theorem dX6_day_49 : decode cX6_day 49 = .ok (.ireturn, 1) := by decide +kernel
theorem dX6_day_50 : decode cX6_day 50 = .ok (.aload_n 0, 1) := by decide +kernel
theorem dX6_day_51 : decode cX6_day 51 = .ok (.getfield 19, 3) := by decide +kernel
theorem dX6_day_54 : decode cX6_day 54 = .ok (.getfield 191, 3) := by decide +kernel
theorem dX6_day_57 : decode cX6_day 57 = .ok (.aload_n 0, 1) := by decide +kernel
theorem dX6_day_58 : decode cX6_day 58 = .ok (.getfield 19, 3) := by decide +kernel
theorem dX6_day_61 : decode cX6_day 61 = .ok (.getfield 188, 3) := by decide +kernel
theorem dX6_day_64 : decode cX6_day 64 = .ok (.iload_n 1, 1) := by decide +kernel
theorem dX6_day_65 : decode cX6_day 65 = .ok (.iastore, 1) := by decide +kernel
theorem dX6_day_66 : decode cX6_day 66 = .ok (.aload_n 0, 1) := by decide +kernel
theorem dX6_day_67 : decode cX6_day 67 = .ok (.getfield 19, 3) := by decide +kernel
theorem dX6_day_70 : decode cX6_day 70 = .ok (.dup, 1) := by decide +kernel
theorem dX6_day_71 : decode cX6_day 71 = .ok (.getfield 188, 3) := by decide +kernel
theorem dX6_day_74 : decode cX6_day 74 = .ok (.iconst 1, 1) := by decide +kernel
theorem dX6_day_75 : decode cX6_day 75 = .ok (.iadd, 1) := by decide +kernel
theorem dX6_day_76 : decode cX6_day 76 = .ok (.putfield 188, 3) := by decide +kernel
theorem dX6_day_79 : decode cX6_day 79 = .ok (.aload_n 0, 1) := by decide +kernel
theorem dX6_day_80 : decode cX6_day 80 = .ok (.getfield 19, 3) := by decide +kernel
theorem dX6_day_83 : decode cX6_day 83 = .ok (.getfield 188, 3) := by decide +kernel
theorem dX6_day_86 : decode cX6_day 86 = .ok (.ireturn, 1) := by decide +kernel
def fX6_day (sh : SH) (this : Nat) (v1 : Int32) (I : IH) : Option (Int32 × IH) :=
  if v1 < (-1) then (
    some ((-2), I)) else
  if v1 ≤ 99 then (
    if v1 = (-1) then (
      (gR sh 6 this 0).bind fun x16 =>
      (pI sh I 2 x16 7 0).bind fun i17 =>
      some (0, i17)) else
    (gR sh 6 this 0).bind fun x1 =>
    (gI sh I 2 x1 7).bind fun x2 =>
    (gR sh 6 this 0).bind fun x3 =>
    (gR sh 2 x3 6).bind fun x4 =>
    (aL sh x4).bind fun x5 =>
    if x2 < x5 then (
      (gR sh 6 this 0).bind fun x6 =>
      (gR sh 2 x6 6).bind fun x7 =>
      (gR sh 6 this 0).bind fun x8 =>
      (gI sh I 2 x8 7).bind fun x9 =>
      (sI sh I x7 x9 v1).bind fun i10 =>
      (gR sh 6 this 0).bind fun x11 =>
      (gI sh i10 2 x11 7).bind fun x12 =>
      (pI sh i10 2 x11 7 (x12 + 1)).bind fun i13 =>
      (gR sh 6 this 0).bind fun x14 =>
      (gI sh i13 2 x14 7).bind fun x15 =>
      some (x15, i13)) else
    some ((-4), I)) else
  some ((-2), I)
set_option maxHeartbeats 4000000 in
set_option maxRecDepth 20000 in
theorem jbX6_day_0 (G : GT) {X : XT} {sh : SH} {L : LH} {n : Nat} {r : Int32} {I' : IH}  {this : Nat}  {v1 : Int32} {I : IH} (F : MF G X RX6 cX6_day 2 0 (some .int) "day") (h : fX6_day sh this v1 I = some (r, I')) : J G X (QE G X (some (.int r)) sh I' L n) 2 sh I L n 0 0 0 [(0, .ref this), (1, .int v1)] [] := by
  unfold fX6_day at h
  refine j_iload_n (pc := 0) (k0 := 1) F 1 rfl dX6_day_0 ?_
  refine j_iconst (pc := 1) F (-1) dX6_day_1 (by decide) ?_
  refine j_icmp_lt (pc := 2) F 11 dX6_day_2 rfl (fun c => ?_) (fun c => ?_)
  · have h := iz_t c h
    refine j_bipush (pc := 11) F (-2) dX6_day_11 (by decide) ?_
    have g1 := Option.some.inj h
    obtain ⟨q3, g2⟩ := Prod.mk.inj g1
    subst q3
    subst g2
    exact j_iret (pc := 13) F dX6_day_13
  · have h := iz_f c h
    refine j_iload_n (pc := 5) (k0 := 1) F 1 rfl dX6_day_5 ?_
    refine j_bipush (pc := 6) F 99 dX6_day_6 (by decide) ?_
    refine j_icmp_le (pc := 8) F 14 dX6_day_8 rfl (fun c => ?_) (fun c => ?_)
    · have h := iz_t c h
      refine j_iload_n (pc := 14) (k0 := 1) F 1 rfl dX6_day_14 ?_
      refine j_iconst (pc := 15) F (-1) dX6_day_15 (by decide) ?_
      refine j_icmp_ne (pc := 16) F 29 dX6_day_16 rfl (fun c => ?_) (fun c => ?_)
      · have h := iz_f c h
        refine j_aload_n (pc := 29) (k0 := 0) F 0 rfl dX6_day_29 ?_
        obtain ⟨x1, hx1, h⟩ := ob h
        refine j_getR (pc := 30) F flX6_19 hx1 dX6_day_30 ?_
        obtain ⟨x2, hx2, h⟩ := ob h
        refine j_getI (pc := 33) F flX6_188 hx2 dX6_day_33 ?_
        refine j_aload_n (pc := 36) (k0 := 0) F 0 rfl dX6_day_36 ?_
        obtain ⟨x3, hx3, h⟩ := ob h
        refine j_getR (pc := 37) F flX6_19 hx3 dX6_day_37 ?_
        obtain ⟨x4, hx4, h⟩ := ob h
        refine j_getR (pc := 40) F flX6_191 hx4 dX6_day_40 ?_
        obtain ⟨x5, hx5, h⟩ := ob h
        refine j_alen (pc := 43) F hx5 dX6_day_43 ?_
        refine j_icmp_lt (pc := 44) F 50 dX6_day_44 rfl (fun c => ?_) (fun c => ?_)
        · have h := iz_t c h
          refine j_aload_n (pc := 50) (k0 := 0) F 0 rfl dX6_day_50 ?_
          obtain ⟨x6, hx6, h⟩ := ob h
          refine j_getR (pc := 51) F flX6_19 hx6 dX6_day_51 ?_
          obtain ⟨x7, hx7, h⟩ := ob h
          refine j_getR (pc := 54) F flX6_191 hx7 dX6_day_54 ?_
          refine j_aload_n (pc := 57) (k0 := 0) F 0 rfl dX6_day_57 ?_
          obtain ⟨x8, hx8, h⟩ := ob h
          refine j_getR (pc := 58) F flX6_19 hx8 dX6_day_58 ?_
          obtain ⟨x9, hx9, h⟩ := ob h
          refine j_getI (pc := 61) F flX6_188 hx9 dX6_day_61 ?_
          refine j_iload_n (pc := 64) (k0 := 1) F 1 rfl dX6_day_64 ?_
          obtain ⟨i10, hi10, h⟩ := ob h
          refine j_iast (pc := 65) F hi10 dX6_day_65 ?_
          refine j_aload_n (pc := 66) (k0 := 0) F 0 rfl dX6_day_66 ?_
          obtain ⟨x11, hx11, h⟩ := ob h
          refine j_getR (pc := 67) F flX6_19 hx11 dX6_day_67 ?_
          refine j_dup (pc := 70) F dX6_day_70 rfl ?_
          obtain ⟨x12, hx12, h⟩ := ob h
          refine j_getI (pc := 71) F flX6_188 hx12 dX6_day_71 ?_
          refine j_iconst (pc := 74) F 1 dX6_day_74 (by decide) ?_
          refine j_iadd (pc := 75) F dX6_day_75 ?_
          obtain ⟨i13, hi13, h⟩ := ob h
          refine j_putI (pc := 76) F flX6_188 fp2_7 (fun z => by cases z) hi13 dX6_day_76 ?_
          refine j_aload_n (pc := 79) (k0 := 0) F 0 rfl dX6_day_79 ?_
          obtain ⟨x14, hx14, h⟩ := ob h
          refine j_getR (pc := 80) F flX6_19 hx14 dX6_day_80 ?_
          obtain ⟨x15, hx15, h⟩ := ob h
          refine j_getI (pc := 83) F flX6_188 hx15 dX6_day_83 ?_
          have g1 := Option.some.inj h
          obtain ⟨q3, g2⟩ := Prod.mk.inj g1
          subst q3
          subst g2
          exact j_iret (pc := 86) F dX6_day_86
        · have h := iz_f c h
          refine j_bipush (pc := 47) F (-4) dX6_day_47 (by decide) ?_
          have g1 := Option.some.inj h
          obtain ⟨q3, g2⟩ := Prod.mk.inj g1
          subst q3
          subst g2
          exact j_iret (pc := 49) F dX6_day_49
      · have h := iz_t c h
        refine j_aload_n (pc := 19) (k0 := 0) F 0 rfl dX6_day_19 ?_
        obtain ⟨x16, hx16, h⟩ := ob h
        refine j_getR (pc := 20) F flX6_19 hx16 dX6_day_20 ?_
        refine j_iconst (pc := 23) F 0 dX6_day_23 (by decide) ?_
        obtain ⟨i17, hi17, h⟩ := ob h
        refine j_putI (pc := 24) F flX6_188 fp2_7 (fun z => by cases z) hi17 dX6_day_24 ?_
        refine j_iconst (pc := 27) F 0 dX6_day_27 (by decide) ?_
        have g1 := Option.some.inj h
        obtain ⟨q3, g2⟩ := Prod.mk.inj g1
        subst q3
        subst g2
        exact j_iret (pc := 28) F dX6_day_28
    · have h := iz_f c h
      refine j_bipush (pc := 11) F (-2) dX6_day_11 (by decide) ?_
      have g1 := Option.some.inj h
      obtain ⟨q3, g2⟩ := Prod.mk.inj g1
      subst q3
      subst g2
      exact j_iret (pc := 13) F dX6_day_13
theorem ctX6_day (G : GT) {sh : SH} {I : IH} {L : LH} {n : Nat} {this : Nat} {v1 : Int32} {r : Int32} {I' : IH}  (h : fX6_day sh this v1 I = some (r, I')) : Ct G yX6_day cX6_day 2 (some .int) 0 [.ref this, .int v1] sh I L n (some (.int r)) sh I' L n 0 0 := by
  refine ct_of (y := yX6_day) (by decide +kernel) rfl (fun X F => ?_)
  exact jbX6_day_0 G F h
theorem dX6_tapeAt_0 : decode cX6_tapeAt 0 = .ok (.iload_n 1, 1) := by decide +kernel
theorem dX6_tapeAt_1 : decode cX6_tapeAt 1 = .ok (.aload_n 0, 1) := by decide +kernel
theorem dX6_tapeAt_2 : decode cX6_tapeAt 2 = .ok (.getfield 52, 3) := by decide +kernel
theorem dX6_tapeAt_5 : decode cX6_tapeAt 5 = .ok (.arraylength, 1) := by decide +kernel
theorem dX6_tapeAt_6 : decode cX6_tapeAt 6 = .ok (.invokestatic 61, 3) := by decide +kernel
theorem dX6_tapeAt_9 : decode cX6_tapeAt 9 = .ok (.ifCond .eq 12, 3) := by decide +kernel
theorem dX6_tapeAt_12 : decode cX6_tapeAt 12 = .ok (.aload_n 0, 1) := by decide +kernel
theorem dX6_tapeAt_13 : decode cX6_tapeAt 13 = .ok (.getfield 52, 3) := by decide +kernel
theorem dX6_tapeAt_16 : decode cX6_tapeAt 16 = .ok (.iload_n 1, 1) := by decide +kernel
theorem dX6_tapeAt_17 : decode cX6_tapeAt 17 = .ok (.aaload, 1) := by decide +kernel
theorem dX6_tapeAt_18 : decode cX6_tapeAt 18 = .ok (.goto 4, 3) := by decide +kernel
theorem dX6_tapeAt_21 : decode cX6_tapeAt 21 = .ok (.aconst_null, 1) := by decide +kernel
theorem dX6_tapeAt_22 : decode cX6_tapeAt 22 = .ok (.areturn, 1) := by decide +kernel
def fX6_tapeAt (sh : SH) (this : Nat) (v1 : Int32) : Option (Option Nat) :=
  (gR sh 6 this 8).bind fun x1 =>
  (aL sh x1).bind fun x2 =>
  if (fX6_isUnder v1 x2) = 0 then (
    some none) else
  (gR sh 6 this 8).bind fun x3 =>
  (aR sh 3 x3 v1).bind fun x4 =>
  some (some x4)
set_option maxHeartbeats 4000000 in
set_option maxRecDepth 20000 in
theorem jbX6_tapeAt_0 (G : GT) {X : XT} {sh : SH} {I : IH} {L : LH} {n : Nat} {r : Option Nat}  {this : Nat}  {v1 : Int32} (F : MF G X RX6 cX6_tapeAt 2 1 (some (.object "MeltHours$Tape")) "tapeAt") (h : fX6_tapeAt sh this v1 = some r) : J G X (QE G X (some (va_rf r)) sh I L n) 2 sh I L n 0 0 0 [(0, .ref this), (1, .int v1)] [] := by
  unfold fX6_tapeAt at h
  refine j_iload_n (pc := 0) (k0 := 1) F 1 rfl dX6_tapeAt_0 ?_
  refine j_aload_n (pc := 1) (k0 := 0) F 0 rfl dX6_tapeAt_1 ?_
  obtain ⟨x1, hx1, h⟩ := ob h
  refine j_getR (pc := 2) F flX6_52 hx1 dX6_tapeAt_2 ?_
  obtain ⟨x2, hx2, h⟩ := ob h
  refine j_alen (pc := 5) F hx2 dX6_tapeAt_5 ?_
  refine j_callS1 (pc := 6) (As := [.int v1, .int x2]) (st := []) (e1 := 0) (es1 := 0) F clX6_61 cwX6_isUnder (ctX6_isUnder G) rfl rfl rfl rfl rfl rfl dX6_tapeAt_6 ?_
  refine j_if_eq (pc := 9) F 21 dX6_tapeAt_9 rfl (fun c => ?_) (fun c => ?_)
  · have h := iz_t c h
    refine j_null (pc := 21) F dX6_tapeAt_21 ?_
    have g1 := Option.some.inj h
    subst g1
    exact j_aretN (pc := 22) F rfl (Or.inl ⟨_, rfl⟩) dX6_tapeAt_22
  · have h := iz_f c h
    refine j_aload_n (pc := 12) (k0 := 0) F 0 rfl dX6_tapeAt_12 ?_
    obtain ⟨x3, hx3, h⟩ := ob h
    refine j_getR (pc := 13) F flX6_52 hx3 dX6_tapeAt_13 ?_
    refine j_iload_n (pc := 16) (k0 := 1) F 1 rfl dX6_tapeAt_16 ?_
    obtain ⟨x4, hx4, h⟩ := ob h
    refine j_aald (pc := 17) F (Or.inl rfl) hx4 dX6_tapeAt_17 ?_
    refine j_goto (pc := 18) F 22 dX6_tapeAt_18 rfl ?_
    have g1 := Option.some.inj h
    subst g1
    exact j_aretR (pc := 22) F rfl (Or.inl ⟨_, rfl⟩) dX6_tapeAt_22
theorem ctX6_tapeAt (G : GT) {sh : SH} {I : IH} {L : LH} {n : Nat} {this : Nat} {v1 : Int32} {r : Option Nat}  (h : fX6_tapeAt sh this v1 = some r) : Ct G yX6_tapeAt cX6_tapeAt 2 (some (.object "MeltHours$Tape")) 1 [.ref this, .int v1] sh I L n (some (va_rf r)) sh I L n 0 0 := by
  refine ct_of (y := yX6_tapeAt) (by decide +kernel) rfl (fun X F => ?_)
  exact jbX6_tapeAt_0 G F h
theorem dX6_judge_0 : decode cX6_judge 0 = .ok (.aload_n 0, 1) := by decide +kernel
theorem dX6_judge_1 : decode cX6_judge 1 = .ok (.iload_n 1, 1) := by decide +kernel
theorem dX6_judge_2 : decode cX6_judge 2 = .ok (.invokevirtual 194, 3) := by decide +kernel
theorem dX6_judge_5 : decode cX6_judge 5 = .ok (.astore 4, 2) := by decide +kernel
theorem dX6_judge_7 : decode cX6_judge 7 = .ok (.aload 4, 2) := by decide +kernel
theorem dX6_judge_9 : decode cX6_judge 9 = .ok (.ifnull 14, 3) := by decide +kernel
theorem dX6_judge_12 : decode cX6_judge 12 = .ok (.aload_n 0, 1) := by decide +kernel
theorem dX6_judge_13 : decode cX6_judge 13 = .ok (.getfield 19, 3) := by decide +kernel
theorem dX6_judge_16 : decode cX6_judge 16 = .ok (.iload_n 3, 1) := by decide +kernel
theorem dX6_judge_17 : decode cX6_judge 17 = .ok (.invokevirtual 99, 3) := by decide +kernel
theorem dX6_judge_20 : decode cX6_judge 20 = .ok (.ifCond .ne 5, 3) := by decide +kernel
theorem dX6_judge_23 : decode cX6_judge 23 = .ok (.iconst (-1), 1) := by decide +kernel
theorem dX6_judge_24 : decode cX6_judge 24 = .ok (.ireturn, 1) := by decide +kernel
theorem dX6_judge_25 : decode cX6_judge 25 = .ok (.aload 4, 2) := by decide +kernel
theorem dX6_judge_27 : decode cX6_judge 27 = .ok (.getfield 198, 3) := by decide +kernel
theorem dX6_judge_30 : decode cX6_judge 30 = .ok (.iconst (-1), 1) := by decide +kernel
theorem dX6_judge_31 : decode cX6_judge 31 = .ok (.if_icmp .eq 15, 3) := by decide +kernel
theorem dX6_judge_34 : decode cX6_judge 34 = .ok (.aload 4, 2) := by decide +kernel
theorem dX6_judge_36 : decode cX6_judge 36 = .ok (.getfield 198, 3) := by decide +kernel
theorem dX6_judge_39 : decode cX6_judge 39 = .ok (.iconst 1, 1) := by decide +kernel
theorem dX6_judge_40 : decode cX6_judge 40 = .ok (.if_icmp .eq 6, 3) := by decide +kernel
theorem dX6_judge_43 : decode cX6_judge 43 = .ok (.bipush (-12), 2) := by decide +kernel
theorem dX6_judge_45 : decode cX6_judge 45 = .ok (.ireturn, 1) := by decide +kernel
theorem dX6_judge_46 : decode cX6_judge 46 = .ok (.aload 4, 2) := by decide +kernel
theorem dX6_judge_48 : decode cX6_judge 48 = .ok (.getfield 198, 3) := by decide +kernel
theorem dX6_judge_51 : decode cX6_judge 51 = .ok (.iconst (-1), 1) := by decide +kernel
theorem dX6_judge_52 : decode cX6_judge 52 = .ok (.if_icmp .eq 7, 3) := by decide +kernel
theorem dX6_judge_55 : decode cX6_judge 55 = .ok (.iload_n 2, 1) := by decide +kernel
theorem dX6_judge_56 : decode cX6_judge 56 = .ok (.ifCond .ge 6, 3) := by decide +kernel
theorem dX6_judge_59 : decode cX6_judge 59 = .ok (.bipush 100, 2) := by decide +kernel
theorem dX6_judge_61 : decode cX6_judge 61 = .ok (.ireturn, 1) := by decide +kernel
theorem dX6_judge_62 : decode cX6_judge 62 = .ok (.aload_n 0, 1) := by decide +kernel
theorem dX6_judge_63 : decode cX6_judge 63 = .ok (.getfield 35, 3) := by decide +kernel
theorem dX6_judge_66 : decode cX6_judge 66 = .ok (.invokevirtual 103, 3) := by decide +kernel
theorem dX6_judge_69 : decode cX6_judge 69 = .ok (.pop, 1) := by decide +kernel
theorem dX6_judge_70 : decode cX6_judge 70 = .ok (.aload_n 0, 1) := by decide +kernel
theorem dX6_judge_71 : decode cX6_judge 71 = .ok (.getfield 35, 3) := by decide +kernel
theorem dX6_judge_74 : decode cX6_judge 74 = .ok (.getfield 201, 3) := by decide +kernel
theorem dX6_judge_77 : decode cX6_judge 77 = .ok (.iload_n 3, 1) := by decide +kernel
theorem dX6_judge_78 : decode cX6_judge 78 = .ok (.aaload, 1) := by decide +kernel
theorem dX6_judge_79 : decode cX6_judge 79 = .ok (.astore 5, 2) := by decide +kernel
theorem dX6_judge_81 : decode cX6_judge 81 = .ok (.bipush 48, 2) := by decide +kernel
theorem dX6_judge_83 : decode cX6_judge 83 = .ok (.aload 4, 2) := by decide +kernel
theorem dX6_judge_85 : decode cX6_judge 85 = .ok (.getfield 204, 3) := by decide +kernel
theorem dX6_judge_88 : decode cX6_judge 88 = .ok (.iload_n 2, 1) := by decide +kernel
theorem dX6_judge_89 : decode cX6_judge 89 = .ok (.isub, 1) := by decide +kernel
theorem dX6_judge_90 : decode cX6_judge 90 = .ok (.invokestatic 207, 3) := by decide +kernel
theorem dX6_judge_93 : decode cX6_judge 93 = .ok (.istore 6, 2) := by decide +kernel
theorem dX6_judge_95 : decode cX6_judge 95 = .ok (.iconst 0, 1) := by decide +kernel
theorem dX6_judge_96 : decode cX6_judge 96 = .ok (.istore 7, 2) := by decide +kernel
theorem dX6_judge_98 : decode cX6_judge 98 = .ok (.iload 7, 2) := by decide +kernel
theorem dX6_judge_100 : decode cX6_judge 100 = .ok (.iload 6, 2) := by decide +kernel
theorem dX6_judge_102 : decode cX6_judge 102 = .ok (.if_icmp .ge 32, 3) := by decide +kernel
theorem dX6_judge_105 : decode cX6_judge 105 = .ok (.aload 4, 2) := by decide +kernel
theorem dX6_judge_107 : decode cX6_judge 107 = .ok (.getfield 212, 3) := by decide +kernel
theorem dX6_judge_110 : decode cX6_judge 110 = .ok (.iload_n 2, 1) := by decide +kernel
theorem dX6_judge_111 : decode cX6_judge 111 = .ok (.iload 7, 2) := by decide +kernel
theorem dX6_judge_113 : decode cX6_judge 113 = .ok (.iadd, 1) := by decide +kernel
theorem dX6_judge_114 : decode cX6_judge 114 = .ok (.laload, 1) := by decide +kernel
theorem dX6_judge_115 : decode cX6_judge 115 = .ok (.aload 5, 2) := by decide +kernel
theorem dX6_judge_117 : decode cX6_judge 117 = .ok (.iload 7, 2) := by decide +kernel
theorem dX6_judge_119 : decode cX6_judge 119 = .ok (.iaload, 1) := by decide +kernel
theorem dX6_judge_120 : decode cX6_judge 120 = .ok (.i2l, 1) := by decide +kernel
theorem dX6_judge_121 : decode cX6_judge 121 = .ok (.lcmp, 1) := by decide +kernel
theorem dX6_judge_122 : decode cX6_judge 122 = .ok (.ifCond .eq 6, 3) := by decide +kernel
theorem dX6_judge_125 : decode cX6_judge 125 = .ok (.iload 7, 2) := by decide +kernel
theorem dX6_judge_127 : decode cX6_judge 127 = .ok (.ireturn, 1) := by decide +kernel
theorem dX6_judge_128 : decode cX6_judge 128 = .ok (.iinc 7 1, 3) := by decide +kernel
theorem dX6_judge_131 : decode cX6_judge 131 = .ok (.goto (-33), 3) := by decide +kernel
theorem dX6_judge_134 : decode cX6_judge 134 = .ok (.iload 6, 2) := by decide +kernel
theorem dX6_judge_136 : decode cX6_judge 136 = .ok (.bipush 48, 2) := by decide +kernel
theorem dX6_judge_138 : decode cX6_judge 138 = .ok (.if_icmp .ne 8, 3) := by decide +kernel
theorem dX6_judge_141 : decode cX6_judge 141 = .ok (.bipush 48, 2) := by decide +kernel
theorem dX6_judge_143 : decode cX6_judge 143 = .ok (.goto 12, 3) := by decide +kernel
theorem dX6_judge_146 : decode cX6_judge 146 = .ok (.bipush 100, 2) := by decide +kernel
theorem dX6_judge_148 : decode cX6_judge 148 = .ok (.iload 6, 2) := by decide +kernel
theorem dX6_judge_150 : decode cX6_judge 150 = .ok (.iconst 0, 1) := by decide +kernel
theorem dX6_judge_151 : decode cX6_judge 151 = .ok (.invokestatic 216, 3) := by decide +kernel
theorem dX6_judge_154 : decode cX6_judge 154 = .ok (.iadd, 1) := by decide +kernel
theorem dX6_judge_155 : decode cX6_judge 155 = .ok (.ireturn, 1) := by decide +kernel
def fX6_judge_b98 (sh : SH) (L : LH) (this : Nat) (k134 : (Int32 → IH → Option (Int32 × IH))) : Nat → Int32 → Nat → Nat → Int32 → Int32 → IH → Option (Int32 × IH)
  | 0, _, _, _, _, _, _ => none
  | fuel + 1, v2, v4, v5, v6, v7, I =>
    if v6 ≤ v7 then (
      k134 v6 I) else
    (gR sh 3 v4 2).bind fun x1 =>
    (aJ sh L x1 (v2 + v7)).bind fun x2 =>
    (aI sh I 0 v5 v7).bind fun x3 =>
    if (lg_cmp x2 x3.toInt64) = 0 then (
      fX6_judge_b98 sh L this k134 fuel v2 v4 v5 v6 (v7 + 1) I) else
    some (v7, I)
def fX6_judge_b134 (sh : SH) (L : LH) (this : Nat) (v6 : Int32) (I : IH) : Option (Int32 × IH) :=
  if v6 = 48 then (
    some (48, I)) else
  some ((100 + (fJ9_max_7cf53 v6 0)), I)
def fX6_judge_b46 (sh : SH) (L : LH) (this : Nat) (v2 : Int32) (v3 : Int32) (v4 : Nat) (I : IH) : Option (Int32 × IH) :=
  (gI sh I 3 v4 0).bind fun x1 =>
  if x1 = (-1) then (
    some (100, I)) else
  if 0 ≤ v2 then (
    (gR sh 6 this 3).bind fun x2 =>
    (ck sh 5 x2).bind fun u3 =>
    b2 (fX5_settle sh x2 I) fun x4 i5 =>
    (gR sh 6 this 3).bind fun x6 =>
    (gR sh 5 x6 4).bind fun x7 =>
    (aR sh 4 x7 v3).bind fun x8 =>
    (gI sh i5 3 v4 1).bind fun x9 =>
    fX6_judge_b98 sh L this (fX6_judge_b134 sh L this) 1000 v2 v4 x8 (fJ9_min_7cf53 48 (x9 - v2)) 0 i5) else
  some (100, I)
def fX6_judge (sh : SH) (L : LH) (this : Nat) (v1 : Int32) (v2 : Int32) (v3 : Int32) (I : IH) : Option (Int32 × IH) :=
  (fX6_tapeAt sh this v1).bind fun x1 =>
  oc x1 (
    some ((-1), I)) fun a2 =>
  (gR sh 6 this 0).bind fun x3 =>
  (ck sh 2 x3).bind fun u4 =>
  (fX2_isPlace sh I x3 v3).bind fun x5 =>
  if x5 = 0 then (
    some ((-1), I)) else
  (gI sh I 3 a2 0).bind fun x6 =>
  if x6 = (-1) then (
    fX6_judge_b46 sh L this v2 v3 a2 I) else
  (gI sh I 3 a2 0).bind fun x7 =>
  if x7 = 1 then (
    fX6_judge_b46 sh L this v2 v3 a2 I) else
  some ((-12), I)
set_option maxHeartbeats 4000000 in
set_option maxRecDepth 20000 in
theorem jbX6_judge_98 (G : GT) {X : XT} {sh : SH} {L : LH} {n : Nat} {r : Int32} {I' : IH}  {this : Nat} {k134 : (Int32 → IH → Option (Int32 × IH))} (F : MF G X RX6 cX6_judge 8 5 (some .int) "judge") (hth : isO sh 6 this)
    (hk134 : ∀ {v6 : Int32} {I : IH}, k134 v6 I = some (r, I') → J G X (QE G X (some (.int r)) sh I' L n) 8 sh I L n 0 0 134 [(0, .ref this), (6, .int v6)] []) : ∀ (fuel : Nat) (v2 : Int32) (v4 : Nat) (v5 : Nat) (v6 : Int32) (v7 : Int32) (I : IH), fX6_judge_b98 sh L this k134 fuel v2 v4 v5 v6 v7 I = some (r, I') → J G X (QE G X (some (.int r)) sh I' L n) 8 sh I L n 0 0 98 [(0, .ref this), (2, .int v2), (4, .ref v4), (5, .ref v5), (6, .int v6), (7, .int v7)] []
  | 0 => by
    intros
    rename_i h
    exact absurd (show none = some _ from h) (by intro z; cases z)
  | fuel + 1 => by
    intro v2 v4 v5 v6 v7 I h
    rw [fX6_judge_b98] at h
    refine j_iload (pc := 98) (k0 := 7) F 5 rfl dX6_judge_98 ?_
    refine j_iload (pc := 100) (k0 := 6) F 4 rfl dX6_judge_100 ?_
    refine j_icmp_ge (pc := 102) F 134 dX6_judge_102 rfl (fun c => ?_) (fun c => ?_)
    · have h := iz_t c h
      refine j_sub [0, 4] rfl ?_
      exact hk134 h
    · have h := iz_f c h
      refine j_aload (pc := 105) (k0 := 4) F 2 rfl dX6_judge_105 ?_
      obtain ⟨x1, hx1, h⟩ := ob h
      refine j_getR (pc := 107) F flX6_212 hx1 dX6_judge_107 ?_
      refine j_iload_n (pc := 110) (k0 := 2) F 1 rfl dX6_judge_110 ?_
      refine j_iload (pc := 111) (k0 := 7) F 5 rfl dX6_judge_111 ?_
      refine j_iadd (pc := 113) F dX6_judge_113 ?_
      obtain ⟨x2, hx2, h⟩ := ob h
      refine j_lald (pc := 114) F hx2 dX6_judge_114 ?_
      refine j_aload (pc := 115) (k0 := 5) F 3 rfl dX6_judge_115 ?_
      refine j_iload (pc := 117) (k0 := 7) F 5 rfl dX6_judge_117 ?_
      obtain ⟨x3, hx3, h⟩ := ob h
      refine j_iald (pc := 119) F hx3 dX6_judge_119 ?_
      refine j_i2l (pc := 120) F dX6_judge_120 ?_
      refine j_lcmp (pc := 121) F dX6_judge_121 ?_
      refine j_if_eq (pc := 122) F 128 dX6_judge_122 rfl (fun c => ?_) (fun c => ?_)
      · have h := iz_t c h
        refine j_iinc (pc := 128) (k1 := 7) (ls' := [(7, .int (v7 + 1)), (0, .ref this), (2, .int v2), (4, .ref v4), (5, .ref v5), (6, .int v6)]) F (v7 + 1) 5 rfl rfl rfl rfl dX6_judge_128 ?_
        refine j_goto (pc := 131) F 98 dX6_judge_131 rfl ?_
        refine j_sub [1, 2, 3, 4, 5, 0] rfl ?_
        exact jbX6_judge_98 G F hth hk134 fuel _ _ _ _ _ _ h
      · have h := iz_f c h
        refine j_iload (pc := 125) (k0 := 7) F 5 rfl dX6_judge_125 ?_
        have g1 := Option.some.inj h
        obtain ⟨q3, g2⟩ := Prod.mk.inj g1
        subst q3
        subst g2
        exact j_iret (pc := 127) F dX6_judge_127
set_option maxHeartbeats 4000000 in
set_option maxRecDepth 20000 in
theorem jbX6_judge_134 (G : GT) {X : XT} {sh : SH} {L : LH} {n : Nat} {r : Int32} {I' : IH}  {this : Nat}  {v6 : Int32} {I : IH} (F : MF G X RX6 cX6_judge 8 5 (some .int) "judge") (hth : isO sh 6 this) (h : fX6_judge_b134 sh L this v6 I = some (r, I')) : J G X (QE G X (some (.int r)) sh I' L n) 8 sh I L n 0 0 134 [(0, .ref this), (6, .int v6)] [] := by
  unfold fX6_judge_b134 at h
  refine j_iload (pc := 134) (k0 := 6) F 1 rfl dX6_judge_134 ?_
  refine j_bipush (pc := 136) F 48 dX6_judge_136 (by decide) ?_
  refine j_icmp_ne (pc := 138) F 146 dX6_judge_138 rfl (fun c => ?_) (fun c => ?_)
  · have h := iz_f c h
    refine j_bipush (pc := 146) F 100 dX6_judge_146 (by decide) ?_
    refine j_iload (pc := 148) (k0 := 6) F 1 rfl dX6_judge_148 ?_
    refine j_iconst (pc := 150) F 0 dX6_judge_150 (by decide) ?_
    refine j_callS1 (pc := 151) (As := [.int v6, .int 0]) (st := [.int 100]) (e1 := 0) (es1 := 0) F clX6_216 cwJ9_max_7cf53 (ctJ9_max_7cf53 G) rfl rfl rfl rfl rfl rfl dX6_judge_151 ?_
    refine j_iadd (pc := 154) F dX6_judge_154 ?_
    have g1 := Option.some.inj h
    obtain ⟨q3, g2⟩ := Prod.mk.inj g1
    subst q3
    subst g2
    exact j_iret (pc := 155) F dX6_judge_155
  · have h := iz_t c h
    refine j_bipush (pc := 141) F 48 dX6_judge_141 (by decide) ?_
    refine j_goto (pc := 143) F 155 dX6_judge_143 rfl ?_
    have g1 := Option.some.inj h
    obtain ⟨q3, g2⟩ := Prod.mk.inj g1
    subst q3
    subst g2
    exact j_iret (pc := 155) F dX6_judge_155
set_option maxHeartbeats 4000000 in
set_option maxRecDepth 20000 in
theorem jbX6_judge_46 (G : GT) {X : XT} {sh : SH} {L : LH} {n : Nat} {r : Int32} {I' : IH}  {this : Nat}  {v2 : Int32} {v3 : Int32} {v4 : Nat} {I : IH} (F : MF G X RX6 cX6_judge 8 5 (some .int) "judge") (hth : isO sh 6 this) (h : fX6_judge_b46 sh L this v2 v3 v4 I = some (r, I')) : J G X (QE G X (some (.int r)) sh I' L n) 8 sh I L n 0 0 46 [(0, .ref this), (2, .int v2), (3, .int v3), (4, .ref v4)] [] := by
  unfold fX6_judge_b46 at h
  refine j_aload (pc := 46) (k0 := 4) F 3 rfl dX6_judge_46 ?_
  obtain ⟨x1, hx1, h⟩ := ob h
  refine j_getI (pc := 48) F flX6_198 hx1 dX6_judge_48 ?_
  refine j_iconst (pc := 51) F (-1) dX6_judge_51 (by decide) ?_
  refine j_icmp_eq (pc := 52) F 59 dX6_judge_52 rfl (fun c => ?_) (fun c => ?_)
  · have h := iz_t c h
    refine j_bipush (pc := 59) F 100 dX6_judge_59 (by decide) ?_
    have g1 := Option.some.inj h
    obtain ⟨q3, g2⟩ := Prod.mk.inj g1
    subst q3
    subst g2
    exact j_iret (pc := 61) F dX6_judge_61
  · have h := iz_f c h
    refine j_iload_n (pc := 55) (k0 := 2) F 1 rfl dX6_judge_55 ?_
    refine j_if_ge (pc := 56) F 62 dX6_judge_56 rfl (fun c => ?_) (fun c => ?_)
    · have h := iz_t c h
      refine j_aload_n (pc := 62) (k0 := 0) F 0 rfl dX6_judge_62 ?_
      obtain ⟨x2, hx2, h⟩ := ob h
      refine j_getR (pc := 63) F flX6_35 hx2 dX6_judge_63 ?_
      obtain ⟨u3, hu3, h⟩ := ob h
      have hou3 := ck_obt hu3
      obtain ⟨x4, i5, hx4, h⟩ := b2_obt h
      refine j_callV1 (pc := 66) (ci := 5) (As := []) (st := []) (e1 := 0) (es1 := 0) F clX6_103 cwX5_settle rfl hou3 (ctX5_settle G hou3 hx4) rfl rfl rfl rfl rfl rfl dX6_judge_66 ?_
      refine j_pop (pc := 69) F dX6_judge_69 rfl ?_
      refine j_aload_n (pc := 70) (k0 := 0) F 0 rfl dX6_judge_70 ?_
      obtain ⟨x6, hx6, h⟩ := ob h
      refine j_getR (pc := 71) F flX6_35 hx6 dX6_judge_71 ?_
      obtain ⟨x7, hx7, h⟩ := ob h
      refine j_getR (pc := 74) F flX6_201 hx7 dX6_judge_74 ?_
      refine j_iload_n (pc := 77) (k0 := 3) F 2 rfl dX6_judge_77 ?_
      obtain ⟨x8, hx8, h⟩ := ob h
      refine j_aald (pc := 78) F (Or.inr rfl) hx8 dX6_judge_78 ?_
      refine j_astore (pc := 79) (k1 := 5) (ls' := [(5, .ref x8), (0, .ref this), (2, .int v2), (3, .int v3), (4, .ref v4)]) F rfl rfl dX6_judge_79 ?_
      refine j_bipush (pc := 81) F 48 dX6_judge_81 (by decide) ?_
      refine j_aload (pc := 83) (k0 := 4) F 4 rfl dX6_judge_83 ?_
      obtain ⟨x9, hx9, h⟩ := ob h
      refine j_getI (pc := 85) F flX6_204 hx9 dX6_judge_85 ?_
      refine j_iload_n (pc := 88) (k0 := 2) F 2 rfl dX6_judge_88 ?_
      refine j_isub (pc := 89) F dX6_judge_89 ?_
      refine j_callS1 (pc := 90) (As := [.int 48, .int (x9 - v2)]) (st := []) (e1 := 0) (es1 := 0) F clX6_207 cwJ9_min_7cf53 (ctJ9_min_7cf53 G) rfl rfl rfl rfl rfl rfl dX6_judge_90 ?_
      refine j_istore (pc := 93) (k1 := 6) (ls' := [(6, .int (fJ9_min_7cf53 48 (x9 - v2))), (5, .ref x8), (0, .ref this), (2, .int v2), (3, .int v3), (4, .ref v4)]) F rfl rfl dX6_judge_93 ?_
      refine j_iconst (pc := 95) F 0 dX6_judge_95 (by decide) ?_
      refine j_istore (pc := 96) (k1 := 7) (ls' := [(7, .int 0), (6, .int (fJ9_min_7cf53 48 (x9 - v2))), (5, .ref x8), (0, .ref this), (2, .int v2), (3, .int v3), (4, .ref v4)]) F rfl rfl dX6_judge_96 ?_
      refine j_sub [3, 4, 6, 2, 1, 0] rfl ?_
      exact jbX6_judge_98 G F hth (fun h => jbX6_judge_134 G F hth h) 1000 _ _ _ _ _ _ h
    · have h := iz_f c h
      refine j_bipush (pc := 59) F 100 dX6_judge_59 (by decide) ?_
      have g1 := Option.some.inj h
      obtain ⟨q3, g2⟩ := Prod.mk.inj g1
      subst q3
      subst g2
      exact j_iret (pc := 61) F dX6_judge_61
set_option maxHeartbeats 4000000 in
set_option maxRecDepth 20000 in
theorem jbX6_judge_0 (G : GT) {X : XT} {sh : SH} {L : LH} {n : Nat} {r : Int32} {I' : IH}  {this : Nat}  {v1 : Int32} {v2 : Int32} {v3 : Int32} {I : IH} (F : MF G X RX6 cX6_judge 8 5 (some .int) "judge") (hth : isO sh 6 this) (h : fX6_judge sh L this v1 v2 v3 I = some (r, I')) : J G X (QE G X (some (.int r)) sh I' L n) 8 sh I L n 0 0 0 [(0, .ref this), (1, .int v1), (2, .int v2), (3, .int v3)] [] := by
  unfold fX6_judge at h
  refine j_aload_n (pc := 0) (k0 := 0) F 0 rfl dX6_judge_0 ?_
  refine j_iload_n (pc := 1) (k0 := 1) F 1 rfl dX6_judge_1 ?_
  obtain ⟨x1, hx1, h⟩ := ob h
  refine j_callV1 (pc := 2) (ci := 6) (As := [.int v1]) (st := []) (e1 := 0) (es1 := 0) F clX6_194 cwX6_tapeAt rfl hth (ctX6_tapeAt G hx1) rfl rfl rfl rfl rfl rfl dX6_judge_2 ?_
  rcases oc_obt h with ⟨rfl, h⟩ | ⟨a2, rfl, h⟩
  · refine j_astoreN (pc := 5) (k1 := 4) (ls' := [(4, .null), (0, .ref this), (1, .int v1), (2, .int v2), (3, .int v3)]) F rfl rfl dX6_judge_5 ?_
    refine j_aloadN (pc := 7) (k0 := 4) F 0 rfl dX6_judge_7 ?_
    refine j_ifnullN (pc := 9) F 23 dX6_judge_9 rfl ?_
    refine j_iconst (pc := 23) F (-1) dX6_judge_23 (by decide) ?_
    have g1 := Option.some.inj h
    obtain ⟨q3, g2⟩ := Prod.mk.inj g1
    subst q3
    subst g2
    exact j_iret (pc := 24) F dX6_judge_24
  · refine j_astore (pc := 5) (k1 := 4) (ls' := [(4, .ref a2), (0, .ref this), (1, .int v1), (2, .int v2), (3, .int v3)]) F rfl rfl dX6_judge_5 ?_
    refine j_aload (pc := 7) (k0 := 4) F 0 rfl dX6_judge_7 ?_
    refine j_ifnull (pc := 9) F dX6_judge_9 ?_
    refine j_aload_n (pc := 12) (k0 := 0) F 1 rfl dX6_judge_12 ?_
    obtain ⟨x3, hx3, h⟩ := ob h
    refine j_getR (pc := 13) F flX6_19 hx3 dX6_judge_13 ?_
    refine j_iload_n (pc := 16) (k0 := 3) F 4 rfl dX6_judge_16 ?_
    obtain ⟨u4, hu4, h⟩ := ob h
    have hou4 := ck_obt hu4
    obtain ⟨x5, hx5, h⟩ := ob h
    refine j_callV1 (pc := 17) (ci := 2) (As := [.int v3]) (st := []) (e1 := 0) (es1 := 0) F clX6_99 cwX2_isPlace rfl hou4 (ctX2_isPlace G hx5) rfl rfl rfl rfl rfl rfl dX6_judge_17 ?_
    refine j_if_ne (pc := 20) F 25 dX6_judge_20 rfl (fun c => ?_) (fun c => ?_)
    · have h := iz_f c h
      refine j_aload (pc := 25) (k0 := 4) F 0 rfl dX6_judge_25 ?_
      obtain ⟨x6, hx6, h⟩ := ob h
      refine j_getI (pc := 27) F flX6_198 hx6 dX6_judge_27 ?_
      refine j_iconst (pc := 30) F (-1) dX6_judge_30 (by decide) ?_
      refine j_icmp_eq (pc := 31) F 46 dX6_judge_31 rfl (fun c => ?_) (fun c => ?_)
      · have h := iz_t c h
        refine j_sub [1, 3, 4, 0] rfl ?_
        exact jbX6_judge_46 G F hth h
      · have h := iz_f c h
        refine j_aload (pc := 34) (k0 := 4) F 0 rfl dX6_judge_34 ?_
        obtain ⟨x7, hx7, h⟩ := ob h
        refine j_getI (pc := 36) F flX6_198 hx7 dX6_judge_36 ?_
        refine j_iconst (pc := 39) F 1 dX6_judge_39 (by decide) ?_
        refine j_icmp_eq (pc := 40) F 46 dX6_judge_40 rfl (fun c => ?_) (fun c => ?_)
        · have h := iz_t c h
          refine j_sub [1, 3, 4, 0] rfl ?_
          exact jbX6_judge_46 G F hth h
        · have h := iz_f c h
          refine j_bipush (pc := 43) F (-12) dX6_judge_43 (by decide) ?_
          have g1 := Option.some.inj h
          obtain ⟨q3, g2⟩ := Prod.mk.inj g1
          subst q3
          subst g2
          exact j_iret (pc := 45) F dX6_judge_45
    · have h := iz_t c h
      refine j_iconst (pc := 23) F (-1) dX6_judge_23 (by decide) ?_
      have g1 := Option.some.inj h
      obtain ⟨q3, g2⟩ := Prod.mk.inj g1
      subst q3
      subst g2
      exact j_iret (pc := 24) F dX6_judge_24
theorem ctX6_judge (G : GT) {sh : SH} {I : IH} {L : LH} {n : Nat} {this : Nat} {v1 : Int32} {v2 : Int32} {v3 : Int32} {r : Int32} {I' : IH}  (hth : isO sh 6 this) (h : fX6_judge sh L this v1 v2 v3 I = some (r, I')) : Ct G yX6_judge cX6_judge 8 (some .int) 5 [.ref this, .int v1, .int v2, .int v3] sh I L n (some (.int r)) sh I' L n 0 0 := by
  refine ct_of (y := yX6_judge) (by decide +kernel) rfl (fun X F => ?_)
  exact jbX6_judge_0 G F hth h
theorem dX6_image_0 : decode cX6_image 0 = .ok (.aload_n 0, 1) := by decide +kernel
theorem dX6_image_1 : decode cX6_image 1 = .ok (.getfield 27, 3) := by decide +kernel
theorem dX6_image_4 : decode cX6_image 4 = .ok (.aload_n 0, 1) := by decide +kernel
theorem dX6_image_5 : decode cX6_image 5 = .ok (.getfield 19, 3) := by decide +kernel
theorem dX6_image_8 : decode cX6_image 8 = .ok (.invokevirtual 219, 3) := by decide +kernel
theorem dX6_image_11 : decode cX6_image 11 = .ok (.aload_n 0, 1) := by decide +kernel
theorem dX6_image_12 : decode cX6_image 12 = .ok (.iconst 1, 1) := by decide +kernel
theorem dX6_image_13 : decode cX6_image 13 = .ok (.putfield 222, 3) := by decide +kernel
theorem dX6_image_16 : decode cX6_image 16 = .ok (.aload_n 0, 1) := by decide +kernel
theorem dX6_image_17 : decode cX6_image 17 = .ok (.getfield 19, 3) := by decide +kernel
theorem dX6_image_20 : decode cX6_image 20 = .ok (.getfield 135, 3) := by decide +kernel
theorem dX6_image_23 : decode cX6_image 23 = .ok (.ireturn, 1) := by decide +kernel
def fX6_image (this : Nat) (sh : SH) (I : IH) : Option (Int32 × SH × IH) :=
  (gR sh 6 this 1).bind fun x1 =>
  (gR sh 6 this 0).bind fun x2 =>
  (ck sh 2 x1).bind fun u3 =>
  b2 (fX2_become x1 x2 sh I) fun h4 i5 =>
  (pI h4 i5 6 this 2 1).bind fun i6 =>
  (gR h4 6 this 0).bind fun x7 =>
  (gI h4 i6 2 x7 5).bind fun x8 =>
  some (x8, h4, i6)
set_option maxHeartbeats 4000000 in
set_option maxRecDepth 20000 in
theorem jbX6_image_0 (G : GT) {X : XT} {L : LH} {n : Nat} {r : Int32} {sh' : SH} {I' : IH}  {this : Nat}  {sh : SH} {I : IH} (F : MF G X RX6 cX6_image 1 4 (some .int) "image") (h : fX6_image this sh I = some (r, sh', I')) : J G X (QE G X (some (.int r)) sh' I' L n) 1 sh I L n 0 0 0 [(0, .ref this)] [] := by
  unfold fX6_image at h
  refine j_aload_n (pc := 0) (k0 := 0) F 0 rfl dX6_image_0 ?_
  obtain ⟨x1, hx1, h⟩ := ob h
  refine j_getR (pc := 1) F flX6_27 hx1 dX6_image_1 ?_
  refine j_aload_n (pc := 4) (k0 := 0) F 0 rfl dX6_image_4 ?_
  obtain ⟨x2, hx2, h⟩ := ob h
  refine j_getR (pc := 5) F flX6_19 hx2 dX6_image_5 ?_
  obtain ⟨u3, hu3, h⟩ := ob h
  have hou3 := ck_obt hu3
  obtain ⟨h4, i5, hh4, h⟩ := b2_obt h
  refine j_callV0 (pc := 8) (ci := 2) (As := [.ref x2]) (st := []) (e1 := 0) (es1 := 0) F clX6_219 cwX2_become rfl hou3 (ctX2_become G hh4) rfl rfl rfl rfl rfl rfl dX6_image_8 ?_
  refine j_aload_n (pc := 11) (k0 := 0) F 0 rfl dX6_image_11 ?_
  refine j_iconst (pc := 12) F 1 dX6_image_12 (by decide) ?_
  obtain ⟨i6, hi6, h⟩ := ob h
  refine j_putZ (pc := 13) F (Or.inr rfl) flX6_222 fp6_2 (fun z => by cases z) hi6 dX6_image_13 ?_
  refine j_aload_n (pc := 16) (k0 := 0) F 0 rfl dX6_image_16 ?_
  obtain ⟨x7, hx7, h⟩ := ob h
  refine j_getR (pc := 17) F flX6_19 hx7 dX6_image_17 ?_
  obtain ⟨x8, hx8, h⟩ := ob h
  refine j_getI (pc := 20) F flX6_135 hx8 dX6_image_20 ?_
  have g1 := Option.some.inj h
  obtain ⟨q3, g2⟩ := Prod.mk.inj g1
  obtain ⟨q4, g3⟩ := Prod.mk.inj g2
  subst q3
  subst q4
  subst g3
  exact j_iret (pc := 23) F dX6_image_23
theorem ctX6_image (G : GT) {sh : SH} {I : IH} {L : LH} {n : Nat} {this : Nat} {r : Int32} {sh' : SH} {I' : IH}  (h : fX6_image this sh I = some (r, sh', I')) : Ct G yX6_image cX6_image 1 (some .int) 4 [.ref this] sh I L n (some (.int r)) sh' I' L n 0 0 := by
  refine ct_of (y := yX6_image) (by decide +kernel) rfl (fun X F => ?_)
  exact jbX6_image_0 G F h
theorem dX6_undo_0 : decode cX6_undo 0 = .ok (.aload_n 0, 1) := by decide +kernel
theorem dX6_undo_1 : decode cX6_undo 1 = .ok (.getfield 222, 3) := by decide +kernel
theorem dX6_undo_4 : decode cX6_undo 4 = .ok (.ifCond .ne 6, 3) := by decide +kernel
theorem dX6_undo_7 : decode cX6_undo 7 = .ok (.bipush (-3), 2) := by decide +kernel
theorem dX6_undo_9 : decode cX6_undo 9 = .ok (.ireturn, 1) := by decide +kernel
theorem dX6_undo_10 : decode cX6_undo 10 = .ok (.aload_n 0, 1) := by decide +kernel
theorem dX6_undo_11 : decode cX6_undo 11 = .ok (.getfield 19, 3) := by decide +kernel
theorem dX6_undo_14 : decode cX6_undo 14 = .ok (.aload_n 0, 1) := by decide +kernel
theorem dX6_undo_15 : decode cX6_undo 15 = .ok (.getfield 27, 3) := by decide +kernel
theorem dX6_undo_18 : decode cX6_undo 18 = .ok (.invokevirtual 219, 3) := by decide +kernel
theorem dX6_undo_21 : decode cX6_undo 21 = .ok (.aload_n 0, 1) := by decide +kernel
theorem dX6_undo_22 : decode cX6_undo 22 = .ok (.getfield 19, 3) := by decide +kernel
theorem dX6_undo_25 : decode cX6_undo 25 = .ok (.getfield 135, 3) := by decide +kernel
theorem dX6_undo_28 : decode cX6_undo 28 = .ok (.ireturn, 1) := by decide +kernel
def fX6_undo (this : Nat) (sh : SH) (I : IH) : Option (Int32 × SH × IH) :=
  (gI sh I 6 this 2).bind fun x1 =>
  if x1 = 0 then (
    some ((-3), sh, I)) else
  (gR sh 6 this 0).bind fun x2 =>
  (gR sh 6 this 1).bind fun x3 =>
  (ck sh 2 x2).bind fun u4 =>
  b2 (fX2_become x2 x3 sh I) fun h5 i6 =>
  (gR h5 6 this 0).bind fun x7 =>
  (gI h5 i6 2 x7 5).bind fun x8 =>
  some (x8, h5, i6)
set_option maxHeartbeats 4000000 in
set_option maxRecDepth 20000 in
theorem jbX6_undo_0 (G : GT) {X : XT} {L : LH} {n : Nat} {r : Int32} {sh' : SH} {I' : IH}  {this : Nat}  {sh : SH} {I : IH} (F : MF G X RX6 cX6_undo 1 4 (some .int) "undo") (h : fX6_undo this sh I = some (r, sh', I')) : J G X (QE G X (some (.int r)) sh' I' L n) 1 sh I L n 0 0 0 [(0, .ref this)] [] := by
  unfold fX6_undo at h
  refine j_aload_n (pc := 0) (k0 := 0) F 0 rfl dX6_undo_0 ?_
  obtain ⟨x1, hx1, h⟩ := ob h
  refine j_getI (pc := 1) F flX6_222 hx1 dX6_undo_1 ?_
  refine j_if_ne (pc := 4) F 10 dX6_undo_4 rfl (fun c => ?_) (fun c => ?_)
  · have h := iz_f c h
    refine j_aload_n (pc := 10) (k0 := 0) F 0 rfl dX6_undo_10 ?_
    obtain ⟨x2, hx2, h⟩ := ob h
    refine j_getR (pc := 11) F flX6_19 hx2 dX6_undo_11 ?_
    refine j_aload_n (pc := 14) (k0 := 0) F 0 rfl dX6_undo_14 ?_
    obtain ⟨x3, hx3, h⟩ := ob h
    refine j_getR (pc := 15) F flX6_27 hx3 dX6_undo_15 ?_
    obtain ⟨u4, hu4, h⟩ := ob h
    have hou4 := ck_obt hu4
    obtain ⟨h5, i6, hh5, h⟩ := b2_obt h
    refine j_callV0 (pc := 18) (ci := 2) (As := [.ref x3]) (st := []) (e1 := 0) (es1 := 0) F clX6_219 cwX2_become rfl hou4 (ctX2_become G hh5) rfl rfl rfl rfl rfl rfl dX6_undo_18 ?_
    refine j_aload_n (pc := 21) (k0 := 0) F 0 rfl dX6_undo_21 ?_
    obtain ⟨x7, hx7, h⟩ := ob h
    refine j_getR (pc := 22) F flX6_19 hx7 dX6_undo_22 ?_
    obtain ⟨x8, hx8, h⟩ := ob h
    refine j_getI (pc := 25) F flX6_135 hx8 dX6_undo_25 ?_
    have g1 := Option.some.inj h
    obtain ⟨q3, g2⟩ := Prod.mk.inj g1
    obtain ⟨q4, g3⟩ := Prod.mk.inj g2
    subst q3
    subst q4
    subst g3
    exact j_iret (pc := 28) F dX6_undo_28
  · have h := iz_t c h
    refine j_bipush (pc := 7) F (-3) dX6_undo_7 (by decide) ?_
    have g1 := Option.some.inj h
    obtain ⟨q3, g2⟩ := Prod.mk.inj g1
    obtain ⟨q4, g3⟩ := Prod.mk.inj g2
    subst q3
    subst q4
    subst g3
    exact j_iret (pc := 9) F dX6_undo_9
theorem ctX6_undo (G : GT) {sh : SH} {I : IH} {L : LH} {n : Nat} {this : Nat} {r : Int32} {sh' : SH} {I' : IH}  (h : fX6_undo this sh I = some (r, sh', I')) : Ct G yX6_undo cX6_undo 1 (some .int) 4 [.ref this] sh I L n (some (.int r)) sh' I' L n 0 0 := by
  refine ct_of (y := yX6_undo) (by decide +kernel) rfl (fun X F => ?_)
  exact jbX6_undo_0 G F h
theorem dX6_act_0 : decode cX6_act 0 = .ok (.aload_n 0, 1) := by decide +kernel
theorem dX6_act_1 : decode cX6_act 1 = .ok (.getfield 42, 3) := by decide +kernel
theorem dX6_act_4 : decode cX6_act 4 = .ok (.iconst 0, 1) := by decide +kernel
theorem dX6_act_5 : decode cX6_act 5 = .ok (.putfield 226, 3) := by decide +kernel
theorem dX6_act_8 : decode cX6_act 8 = .ok (.iload_n 1, 1) := by decide +kernel
theorem dX6_act_9 : decode cX6_act 9 = .ok (.iconst 5, 1) := by decide +kernel
theorem dX6_act_10 : decode cX6_act 10 = .ok (.invokestatic 61, 3) := by decide +kernel
theorem dX6_act_13 : decode cX6_act 13 = .ok (.ifCond .eq 11, 3) := by decide +kernel
theorem dX6_act_16 : decode cX6_act 16 = .ok (.iload_n 2, 1) := by decide +kernel
theorem dX6_act_17 : decode cX6_act 17 = .ok (.iconst 3, 1) := by decide +kernel
theorem dX6_act_18 : decode cX6_act 18 = .ok (.invokestatic 61, 3) := by decide +kernel
theorem dX6_act_21 : decode cX6_act 21 = .ok (.ifCond .ne 5, 3) := by decide +kernel
theorem dX6_act_24 : decode cX6_act 24 = .ok (.iconst 0, 1) := by decide +kernel
theorem dX6_act_25 : decode cX6_act 25 = .ok (.ireturn, 1) := by decide +kernel
theorem dX6_act_26 : decode cX6_act 26 = .ok (.aload_n 0, 1) := by decide +kernel
theorem dX6_act_27 : decode cX6_act 27 = .ok (.getfield 42, 3) := by decide +kernel
theorem dX6_act_30 : decode cX6_act 30 = .ok (.iload_n 1, 1) := by decide +kernel
theorem dX6_act_31 : decode cX6_act 31 = .ok (.aload_n 0, 1) := by decide +kernel
theorem dX6_act_32 : decode cX6_act 32 = .ok (.getfield 19, 3) := by decide +kernel
theorem dX6_act_35 : decode cX6_act 35 = .ok (.getfield 96, 3) := by decide +kernel
theorem dX6_act_38 : decode cX6_act 38 = .ok (.iload_n 1, 1) := by decide +kernel
theorem dX6_act_39 : decode cX6_act 39 = .ok (.aaload, 1) := by decide +kernel
theorem dX6_act_40 : decode cX6_act 40 = .ok (.invokevirtual 229, 3) := by decide +kernel
theorem dX6_act_43 : decode cX6_act 43 = .ok (.aload_n 0, 1) := by decide +kernel
theorem dX6_act_44 : decode cX6_act 44 = .ok (.getfield 42, 3) := by decide +kernel
theorem dX6_act_47 : decode cX6_act 47 = .ok (.iload_n 2, 1) := by decide +kernel
theorem dX6_act_48 : decode cX6_act 48 = .ok (.iload_n 3, 1) := by decide +kernel
theorem dX6_act_49 : decode cX6_act 49 = .ok (.invokevirtual 233, 3) := by decide +kernel
theorem dX6_act_52 : decode cX6_act 52 = .ok (.ireturn, 1) := by decide +kernel
def fX6_act (sh : SH) (this : Nat) (v1 : Int32) (v2 : Int32) (v3 : Int32) (I : IH) : Option (Int32 × IH) :=
  (gR sh 6 this 4).bind fun x1 =>
  (pI sh I 0 x1 4 0).bind fun i2 =>
  if (fX6_isUnder v1 5) = 0 then (
    some (0, i2)) else
  if (fX6_isUnder v2 3) = 0 then (
    some (0, i2)) else
  (gR sh 6 this 4).bind fun x3 =>
  (gR sh 6 this 0).bind fun x4 =>
  (gR sh 2 x4 3).bind fun x5 =>
  (aR sh 4 x5 v1).bind fun x6 =>
  (ck sh 0 x3).bind fun u7 =>
  (fX0_standAt sh x3 v1 x6 i2).bind fun i8 =>
  (gR sh 6 this 4).bind fun x9 =>
  (ck sh 0 x9).bind fun u10 =>
  b2 (fX0_done sh x9 v2 v3 i8) fun x11 i12 =>
  some (x11, i12)
set_option maxHeartbeats 4000000 in
set_option maxRecDepth 20000 in
theorem jbX6_act_0 (G : GT) {X : XT} {sh : SH} {L : LH} {n : Nat} {r : Int32} {I' : IH}  {this : Nat}  {v1 : Int32} {v2 : Int32} {v3 : Int32} {I : IH} (F : MF G X RX6 cX6_act 4 182 (some .int) "act") (h : fX6_act sh this v1 v2 v3 I = some (r, I')) : J G X (QE G X (some (.int r)) sh I' L n) 4 sh I L n 0 0 0 [(0, .ref this), (1, .int v1), (2, .int v2), (3, .int v3)] [] := by
  unfold fX6_act at h
  refine j_aload_n (pc := 0) (k0 := 0) F 0 rfl dX6_act_0 ?_
  obtain ⟨x1, hx1, h⟩ := ob h
  refine j_getR (pc := 1) F flX6_42 hx1 dX6_act_1 ?_
  refine j_iconst (pc := 4) F 0 dX6_act_4 (by decide) ?_
  obtain ⟨i2, hi2, h⟩ := ob h
  refine j_putI (pc := 5) F flX6_226 fp0_4 (fun z => by cases z) hi2 dX6_act_5 ?_
  refine j_iload_n (pc := 8) (k0 := 1) F 1 rfl dX6_act_8 ?_
  refine j_iconst (pc := 9) F 5 dX6_act_9 (by decide) ?_
  refine j_callS1 (pc := 10) (As := [.int v1, .int 5]) (st := []) (e1 := 0) (es1 := 0) F clX6_61 cwX6_isUnder (ctX6_isUnder G) rfl rfl rfl rfl rfl rfl dX6_act_10 ?_
  refine j_if_eq (pc := 13) F 24 dX6_act_13 rfl (fun c => ?_) (fun c => ?_)
  · have h := iz_t c h
    refine j_iconst (pc := 24) F 0 dX6_act_24 (by decide) ?_
    have g1 := Option.some.inj h
    obtain ⟨q3, g2⟩ := Prod.mk.inj g1
    subst q3
    subst g2
    exact j_iret (pc := 25) F dX6_act_25
  · have h := iz_f c h
    refine j_iload_n (pc := 16) (k0 := 2) F 2 rfl dX6_act_16 ?_
    refine j_iconst (pc := 17) F 3 dX6_act_17 (by decide) ?_
    refine j_callS1 (pc := 18) (As := [.int v2, .int 3]) (st := []) (e1 := 0) (es1 := 0) F clX6_61 cwX6_isUnder (ctX6_isUnder G) rfl rfl rfl rfl rfl rfl dX6_act_18 ?_
    refine j_if_ne (pc := 21) F 26 dX6_act_21 rfl (fun c => ?_) (fun c => ?_)
    · have h := iz_f c h
      refine j_aload_n (pc := 26) (k0 := 0) F 0 rfl dX6_act_26 ?_
      obtain ⟨x3, hx3, h⟩ := ob h
      refine j_getR (pc := 27) F flX6_42 hx3 dX6_act_27 ?_
      refine j_iload_n (pc := 30) (k0 := 1) F 1 rfl dX6_act_30 ?_
      refine j_aload_n (pc := 31) (k0 := 0) F 0 rfl dX6_act_31 ?_
      obtain ⟨x4, hx4, h⟩ := ob h
      refine j_getR (pc := 32) F flX6_19 hx4 dX6_act_32 ?_
      obtain ⟨x5, hx5, h⟩ := ob h
      refine j_getR (pc := 35) F flX6_96 hx5 dX6_act_35 ?_
      refine j_iload_n (pc := 38) (k0 := 1) F 1 rfl dX6_act_38 ?_
      obtain ⟨x6, hx6, h⟩ := ob h
      refine j_aald (pc := 39) F (Or.inr rfl) hx6 dX6_act_39 ?_
      obtain ⟨u7, hu7, h⟩ := ob h
      have hou7 := ck_obt hu7
      obtain ⟨i8, hi8, h⟩ := ob h
      refine j_callV0 (pc := 40) (ci := 0) (As := [.int v1, .ref x6]) (st := []) (e1 := 0) (es1 := 0) F clX6_229 cwX0_standAt rfl hou7 (ctX0_standAt G hi8) rfl rfl rfl rfl rfl rfl dX6_act_40 ?_
      refine j_aload_n (pc := 43) (k0 := 0) F 0 rfl dX6_act_43 ?_
      obtain ⟨x9, hx9, h⟩ := ob h
      refine j_getR (pc := 44) F flX6_42 hx9 dX6_act_44 ?_
      refine j_iload_n (pc := 47) (k0 := 2) F 2 rfl dX6_act_47 ?_
      refine j_iload_n (pc := 48) (k0 := 3) F 3 rfl dX6_act_48 ?_
      obtain ⟨u10, hu10, h⟩ := ob h
      have hou10 := ck_obt hu10
      obtain ⟨x11, i12, hx11, h⟩ := b2_obt h
      refine j_callV1 (pc := 49) (ci := 0) (As := [.int v2, .int v3]) (st := []) (e1 := 0) (es1 := 0) F clX6_233 cwX0_done rfl hou10 (ctX0_done G hou10 hx11) rfl rfl rfl rfl rfl rfl dX6_act_49 ?_
      have g1 := Option.some.inj h
      obtain ⟨q3, g2⟩ := Prod.mk.inj g1
      subst q3
      subst g2
      exact j_iret (pc := 52) F dX6_act_52
    · have h := iz_t c h
      refine j_iconst (pc := 24) F 0 dX6_act_24 (by decide) ?_
      have g1 := Option.some.inj h
      obtain ⟨q3, g2⟩ := Prod.mk.inj g1
      subst q3
      subst g2
      exact j_iret (pc := 25) F dX6_act_25
theorem ctX6_act (G : GT) {sh : SH} {I : IH} {L : LH} {n : Nat} {this : Nat} {v1 : Int32} {v2 : Int32} {v3 : Int32} {r : Int32} {I' : IH}  (h : fX6_act sh this v1 v2 v3 I = some (r, I')) : Ct G yX6_act cX6_act 4 (some .int) 182 [.ref this, .int v1, .int v2, .int v3] sh I L n (some (.int r)) sh I' L n 0 0 := by
  refine ct_of (y := yX6_act) (by decide +kernel) rfl (fun X F => ?_)
  exact jbX6_act_0 G F h
theorem dX6_trace_0 : decode cX6_trace 0 = .ok (.iload_n 1, 1) := by decide +kernel
theorem dX6_trace_1 : decode cX6_trace 1 = .ok (.aload_n 0, 1) := by decide +kernel
theorem dX6_trace_2 : decode cX6_trace 2 = .ok (.getfield 42, 3) := by decide +kernel
theorem dX6_trace_5 : decode cX6_trace 5 = .ok (.getfield 226, 3) := by decide +kernel
theorem dX6_trace_8 : decode cX6_trace 8 = .ok (.aload_n 0, 1) := by decide +kernel
theorem dX6_trace_9 : decode cX6_trace 9 = .ok (.getfield 42, 3) := by decide +kernel
theorem dX6_trace_12 : decode cX6_trace 12 = .ok (.getfield 236, 3) := by decide +kernel
theorem dX6_trace_15 : decode cX6_trace 15 = .ok (.arraylength, 1) := by decide +kernel
theorem dX6_trace_16 : decode cX6_trace 16 = .ok (.invokestatic 207, 3) := by decide +kernel
theorem dX6_trace_19 : decode cX6_trace 19 = .ok (.invokestatic 61, 3) := by decide +kernel
theorem dX6_trace_22 : decode cX6_trace 22 = .ok (.ifCond .ne 5, 3) := by decide +kernel
theorem dX6_trace_25 : decode cX6_trace 25 = .ok (.iconst (-1), 1) := by decide +kernel
theorem dX6_trace_26 : decode cX6_trace 26 = .ok (.ireturn, 1) := by decide +kernel
theorem dX6_trace_27 : decode cX6_trace 27 = .ok (.aload_n 0, 1) := by decide +kernel
theorem dX6_trace_28 : decode cX6_trace 28 = .ok (.getfield 42, 3) := by decide +kernel
theorem dX6_trace_31 : decode cX6_trace 31 = .ok (.getfield 236, 3) := by decide +kernel
theorem dX6_trace_34 : decode cX6_trace 34 = .ok (.iload_n 1, 1) := by decide +kernel
theorem dX6_trace_35 : decode cX6_trace 35 = .ok (.iaload, 1) := by decide +kernel
theorem dX6_trace_36 : decode cX6_trace 36 = .ok (.ireturn, 1) := by decide +kernel
def fX6_trace (sh : SH) (I : IH) (this : Nat) (v1 : Int32) : Option (Int32) :=
  (gR sh 6 this 4).bind fun x1 =>
  (gI sh I 0 x1 4).bind fun x2 =>
  (gR sh 6 this 4).bind fun x3 =>
  (gR sh 0 x3 3).bind fun x4 =>
  (aL sh x4).bind fun x5 =>
  if (fX6_isUnder v1 (fJ9_min_7cf53 x2 x5)) = 0 then (
    some (-1)) else
  (gR sh 6 this 4).bind fun x6 =>
  (gR sh 0 x6 3).bind fun x7 =>
  (aI sh I 0 x7 v1).bind fun x8 =>
  some x8
set_option maxHeartbeats 4000000 in
set_option maxRecDepth 20000 in
theorem jbX6_trace_0 (G : GT) {X : XT} {sh : SH} {I : IH} {L : LH} {n : Nat} {r : Int32}  {this : Nat}  {v1 : Int32} (F : MF G X RX6 cX6_trace 2 1 (some .int) "trace") (h : fX6_trace sh I this v1 = some r) : J G X (QE G X (some (.int r)) sh I L n) 2 sh I L n 0 0 0 [(0, .ref this), (1, .int v1)] [] := by
  unfold fX6_trace at h
  refine j_iload_n (pc := 0) (k0 := 1) F 1 rfl dX6_trace_0 ?_
  refine j_aload_n (pc := 1) (k0 := 0) F 0 rfl dX6_trace_1 ?_
  obtain ⟨x1, hx1, h⟩ := ob h
  refine j_getR (pc := 2) F flX6_42 hx1 dX6_trace_2 ?_
  obtain ⟨x2, hx2, h⟩ := ob h
  refine j_getI (pc := 5) F flX6_226 hx2 dX6_trace_5 ?_
  refine j_aload_n (pc := 8) (k0 := 0) F 0 rfl dX6_trace_8 ?_
  obtain ⟨x3, hx3, h⟩ := ob h
  refine j_getR (pc := 9) F flX6_42 hx3 dX6_trace_9 ?_
  obtain ⟨x4, hx4, h⟩ := ob h
  refine j_getR (pc := 12) F flX6_236 hx4 dX6_trace_12 ?_
  obtain ⟨x5, hx5, h⟩ := ob h
  refine j_alen (pc := 15) F hx5 dX6_trace_15 ?_
  refine j_callS1 (pc := 16) (As := [.int x2, .int x5]) (st := [.int v1]) (e1 := 0) (es1 := 0) F clX6_207 cwJ9_min_7cf53 (ctJ9_min_7cf53 G) rfl rfl rfl rfl rfl rfl dX6_trace_16 ?_
  refine j_callS1 (pc := 19) (As := [.int v1, .int (fJ9_min_7cf53 x2 x5)]) (st := []) (e1 := 0) (es1 := 0) F clX6_61 cwX6_isUnder (ctX6_isUnder G) rfl rfl rfl rfl rfl rfl dX6_trace_19 ?_
  refine j_if_ne (pc := 22) F 27 dX6_trace_22 rfl (fun c => ?_) (fun c => ?_)
  · have h := iz_f c h
    refine j_aload_n (pc := 27) (k0 := 0) F 0 rfl dX6_trace_27 ?_
    obtain ⟨x6, hx6, h⟩ := ob h
    refine j_getR (pc := 28) F flX6_42 hx6 dX6_trace_28 ?_
    obtain ⟨x7, hx7, h⟩ := ob h
    refine j_getR (pc := 31) F flX6_236 hx7 dX6_trace_31 ?_
    refine j_iload_n (pc := 34) (k0 := 1) F 1 rfl dX6_trace_34 ?_
    obtain ⟨x8, hx8, h⟩ := ob h
    refine j_iald (pc := 35) F hx8 dX6_trace_35 ?_
    have g1 := Option.some.inj h
    subst g1
    exact j_iret (pc := 36) F dX6_trace_36
  · have h := iz_t c h
    refine j_iconst (pc := 25) F (-1) dX6_trace_25 (by decide) ?_
    have g1 := Option.some.inj h
    subst g1
    exact j_iret (pc := 26) F dX6_trace_26
theorem ctX6_trace (G : GT) {sh : SH} {I : IH} {L : LH} {n : Nat} {this : Nat} {v1 : Int32} {r : Int32}  (h : fX6_trace sh I this v1 = some r) : Ct G yX6_trace cX6_trace 2 (some .int) 1 [.ref this, .int v1] sh I L n (some (.int r)) sh I L n 0 0 := by
  refine ct_of (y := yX6_trace) (by decide +kernel) rfl (fun X F => ?_)
  exact jbX6_trace_0 G F h
theorem dX6_isOrUnder_0 : decode cX6_isOrUnder 0 = .ok (.iload_n 0, 1) := by decide +kernel
theorem dX6_isOrUnder_1 : decode cX6_isOrUnder 1 = .ok (.istore_n 2, 1) := by decide +kernel
theorem dX6_isOrUnder_2 : decode cX6_isOrUnder 2 = .ok (.iconst 0, 1) := by decide +kernel
theorem dX6_isOrUnder_3 : decode cX6_isOrUnder 3 = .ok (.istore_n 3, 1) := by decide +kernel
theorem dX6_isOrUnder_4 : decode cX6_isOrUnder 4 = .ok (.iload_n 3, 1) := by decide +kernel
theorem dX6_isOrUnder_5 : decode cX6_isOrUnder 5 = .ok (.bipush 7, 2) := by decide +kernel
theorem dX6_isOrUnder_7 : decode cX6_isOrUnder 7 = .ok (.if_icmp .ge 29, 3) := by decide +kernel
theorem dX6_isOrUnder_10 : decode cX6_isOrUnder 10 = .ok (.iload_n 2, 1) := by decide +kernel
theorem dX6_isOrUnder_11 : decode cX6_isOrUnder 11 = .ok (.iload_n 1, 1) := by decide +kernel
theorem dX6_isOrUnder_12 : decode cX6_isOrUnder 12 = .ok (.if_icmp .eq 24, 3) := by decide +kernel
theorem dX6_isOrUnder_15 : decode cX6_isOrUnder 15 = .ok (.iload_n 2, 1) := by decide +kernel
theorem dX6_isOrUnder_16 : decode cX6_isOrUnder 16 = .ok (.bipush 7, 2) := by decide +kernel
theorem dX6_isOrUnder_18 : decode cX6_isOrUnder 18 = .ok (.invokestatic 61, 3) := by decide +kernel
theorem dX6_isOrUnder_21 : decode cX6_isOrUnder 21 = .ok (.ifCond .eq 15, 3) := by decide +kernel
theorem dX6_isOrUnder_24 : decode cX6_isOrUnder 24 = .ok (.getstatic 258, 3) := by decide +kernel
theorem dX6_isOrUnder_27 : decode cX6_isOrUnder 27 = .ok (.iload_n 2, 1) := by decide +kernel
theorem dX6_isOrUnder_28 : decode cX6_isOrUnder 28 = .ok (.iaload, 1) := by decide +kernel
theorem dX6_isOrUnder_29 : decode cX6_isOrUnder 29 = .ok (.istore_n 2, 1) := by decide +kernel
theorem dX6_isOrUnder_30 : decode cX6_isOrUnder 30 = .ok (.iinc 3 1, 3) := by decide +kernel
theorem dX6_isOrUnder_33 : decode cX6_isOrUnder 33 = .ok (.goto (-29), 3) := by decide +kernel
theorem dX6_isOrUnder_36 : decode cX6_isOrUnder 36 = .ok (.iload_n 2, 1) := by decide +kernel
theorem dX6_isOrUnder_37 : decode cX6_isOrUnder 37 = .ok (.iload_n 1, 1) := by decide +kernel
theorem dX6_isOrUnder_38 : decode cX6_isOrUnder 38 = .ok (.if_icmp .ne 7, 3) := by decide +kernel
theorem dX6_isOrUnder_41 : decode cX6_isOrUnder 41 = .ok (.iconst 1, 1) := by decide +kernel
theorem dX6_isOrUnder_42 : decode cX6_isOrUnder 42 = .ok (.goto 4, 3) := by decide +kernel
theorem dX6_isOrUnder_45 : decode cX6_isOrUnder 45 = .ok (.iconst 0, 1) := by decide +kernel
theorem dX6_isOrUnder_46 : decode cX6_isOrUnder 46 = .ok (.ireturn, 1) := by decide +kernel
def fX6_isOrUnder_b4 (k36 : (Int32 → Int32 → Option (Int32))) : Nat → Int32 → Int32 → Int32 → Option (Int32)
  | 0, _, _, _ => none
  | fuel + 1, v1, v2, v3 =>
    if 7 ≤ v3 then (
      k36 v1 v2) else
    if v2 = v1 then (
      k36 v1 v2) else
    if (fX6_isUnder v2 7) = 0 then (
      k36 v1 v2) else
    (abv v2).bind fun x1 =>
    fX6_isOrUnder_b4 k36 fuel v1 x1 (v3 + 1)
def fX6_isOrUnder_b36 (v1 : Int32) (v2 : Int32) : Option (Int32) :=
  if v2 = v1 then (
    some 1) else
  some 0
def fX6_isOrUnder (v0 : Int32) (v1 : Int32) : Option (Int32) :=
  fX6_isOrUnder_b4 (fX6_isOrUnder_b36) 1000 v1 v0 0
set_option maxHeartbeats 4000000 in
set_option maxRecDepth 20000 in
theorem jbX6_isOrUnder_4 (G : GT) {X : XT} {sh : SH} {I : IH} {L : LH} {n : Nat} {r : Int32}  {k36 : (Int32 → Int32 → Option (Int32))} (F : MF G X RX6 cX6_isOrUnder 4 1 (some .boolean) "isOrUnder")
    (hk36 : ∀ {v1 : Int32} {v2 : Int32}, k36 v1 v2 = some r → J G X (QE G X (some (.int r)) sh I L n) 4 sh I L n 0 0 36 [(1, .int v1), (2, .int v2)] []) : ∀ (fuel : Nat) (v1 : Int32) (v2 : Int32) (v3 : Int32), fX6_isOrUnder_b4 k36 fuel v1 v2 v3 = some r → J G X (QE G X (some (.int r)) sh I L n) 4 sh I L n 0 0 4 [(1, .int v1), (2, .int v2), (3, .int v3)] []
  | 0 => by
    intros
    rename_i h
    exact absurd (show none = some _ from h) (by intro z; cases z)
  | fuel + 1 => by
    intro v1 v2 v3 h
    rw [fX6_isOrUnder_b4] at h
    refine j_iload_n (pc := 4) (k0 := 3) F 2 rfl dX6_isOrUnder_4 ?_
    refine j_bipush (pc := 5) F 7 dX6_isOrUnder_5 (by decide) ?_
    refine j_icmp_ge (pc := 7) F 36 dX6_isOrUnder_7 rfl (fun c => ?_) (fun c => ?_)
    · have h := iz_t c h
      refine j_sub [0, 1] rfl ?_
      exact hk36 h
    · have h := iz_f c h
      refine j_iload_n (pc := 10) (k0 := 2) F 1 rfl dX6_isOrUnder_10 ?_
      refine j_iload_n (pc := 11) (k0 := 1) F 0 rfl dX6_isOrUnder_11 ?_
      refine j_icmp_eq (pc := 12) F 36 dX6_isOrUnder_12 rfl (fun c => ?_) (fun c => ?_)
      · have h := iz_t c h
        refine j_sub [0, 1] rfl ?_
        exact hk36 h
      · have h := iz_f c h
        refine j_iload_n (pc := 15) (k0 := 2) F 1 rfl dX6_isOrUnder_15 ?_
        refine j_bipush (pc := 16) F 7 dX6_isOrUnder_16 (by decide) ?_
        refine j_callS1 (pc := 18) (As := [.int v2, .int 7]) (st := []) (e1 := 0) (es1 := 0) F clX6_61 cwX6_isUnder (ctX6_isUnder G) rfl rfl rfl rfl rfl rfl dX6_isOrUnder_18 ?_
        refine j_if_eq (pc := 21) F 36 dX6_isOrUnder_21 rfl (fun c => ?_) (fun c => ?_)
        · have h := iz_t c h
          refine j_sub [0, 1] rfl ?_
          exact hk36 h
        · have h := iz_f c h
          refine j_getAB (pc := 24) F (good_of 713 (by decide +kernel) (by decide +kernel)) dX6_isOrUnder_24 ?_
          refine j_iload_n (pc := 27) (k0 := 2) F 1 rfl dX6_isOrUnder_27 ?_
          obtain ⟨x1, hx1, h⟩ := ob h
          refine j_ldAB (pc := 28) F hx1 dX6_isOrUnder_28 ?_
          refine j_istore_n (pc := 29) (k1 := 2) (ls' := [(2, .int x1), (1, .int v1), (3, .int v3)]) F rfl rfl rfl dX6_isOrUnder_29 ?_
          refine j_iinc (pc := 30) (k1 := 3) (ls' := [(3, .int (v3 + 1)), (2, .int x1), (1, .int v1)]) F (v3 + 1) 2 rfl rfl rfl rfl dX6_isOrUnder_30 ?_
          refine j_goto (pc := 33) F 4 dX6_isOrUnder_33 rfl ?_
          refine j_sub [2, 1, 0] rfl ?_
          exact jbX6_isOrUnder_4 G F hk36 fuel _ _ _ h
set_option maxHeartbeats 4000000 in
set_option maxRecDepth 20000 in
theorem jbX6_isOrUnder_36 (G : GT) {X : XT} {sh : SH} {I : IH} {L : LH} {n : Nat} {r : Int32}   {v1 : Int32} {v2 : Int32} (F : MF G X RX6 cX6_isOrUnder 4 1 (some .boolean) "isOrUnder") (h : fX6_isOrUnder_b36 v1 v2 = some r) : J G X (QE G X (some (.int r)) sh I L n) 4 sh I L n 0 0 36 [(1, .int v1), (2, .int v2)] [] := by
  unfold fX6_isOrUnder_b36 at h
  refine j_iload_n (pc := 36) (k0 := 2) F 1 rfl dX6_isOrUnder_36 ?_
  refine j_iload_n (pc := 37) (k0 := 1) F 0 rfl dX6_isOrUnder_37 ?_
  refine j_icmp_ne (pc := 38) F 45 dX6_isOrUnder_38 rfl (fun c => ?_) (fun c => ?_)
  · have h := iz_f c h
    refine j_iconst (pc := 45) F 0 dX6_isOrUnder_45 (by decide) ?_
    have g1 := Option.some.inj h
    subst g1
    exact j_zret (pc := 46) F (Or.inl rfl) dX6_isOrUnder_46
  · have h := iz_t c h
    refine j_iconst (pc := 41) F 1 dX6_isOrUnder_41 (by decide) ?_
    refine j_goto (pc := 42) F 46 dX6_isOrUnder_42 rfl ?_
    have g1 := Option.some.inj h
    subst g1
    exact j_zret (pc := 46) F (Or.inr rfl) dX6_isOrUnder_46
set_option maxHeartbeats 4000000 in
set_option maxRecDepth 20000 in
theorem jbX6_isOrUnder_0 (G : GT) {X : XT} {sh : SH} {I : IH} {L : LH} {n : Nat} {r : Int32}   {v0 : Int32} {v1 : Int32} (F : MF G X RX6 cX6_isOrUnder 4 1 (some .boolean) "isOrUnder") (h : fX6_isOrUnder v0 v1 = some r) : J G X (QE G X (some (.int r)) sh I L n) 4 sh I L n 0 0 0 [(0, .int v0), (1, .int v1)] [] := by
  unfold fX6_isOrUnder at h
  refine j_iload_n (pc := 0) (k0 := 0) F 0 rfl dX6_isOrUnder_0 ?_
  refine j_istore_n (pc := 1) (k1 := 2) (ls' := [(2, .int v0), (0, .int v0), (1, .int v1)]) F rfl rfl rfl dX6_isOrUnder_1 ?_
  refine j_iconst (pc := 2) F 0 dX6_isOrUnder_2 (by decide) ?_
  refine j_istore_n (pc := 3) (k1 := 3) (ls' := [(3, .int 0), (2, .int v0), (0, .int v0), (1, .int v1)]) F rfl rfl rfl dX6_isOrUnder_3 ?_
  refine j_sub [3, 1, 0] rfl ?_
  exact jbX6_isOrUnder_4 G F (fun h => jbX6_isOrUnder_36 G F h) 1000 _ _ _ h
theorem ctX6_isOrUnder (G : GT) {sh : SH} {I : IH} {L : LH} {n : Nat} {v0 : Int32} {v1 : Int32} {r : Int32}  (h : fX6_isOrUnder v0 v1 = some r) : Ct G yX6_isOrUnder cX6_isOrUnder 4 (some .boolean) 1 [.int v0, .int v1] sh I L n (some (.int r)) sh I L n 0 0 := by
  refine ct_of (y := yX6_isOrUnder) (by decide +kernel) rfl (fun X F => ?_)
  exact jbX6_isOrUnder_0 G F h
theorem dX6_taken_0 : decode cX6_taken 0 = .ok (.iload_n 2, 1) := by decide +kernel
theorem dX6_taken_1 : decode cX6_taken 1 = .ok (.bipush 7, 2) := by decide +kernel
theorem dX6_taken_3 : decode cX6_taken 3 = .ok (.invokestatic 61, 3) := by decide +kernel
theorem dX6_taken_6 : decode cX6_taken 6 = .ok (.ifCond .ne 6, 3) := by decide +kernel
theorem dX6_taken_9 : decode cX6_taken 9 = .ok (.bipush (-2), 2) := by decide +kernel
theorem dX6_taken_11 : decode cX6_taken 11 = .ok (.ireturn, 1) := by decide +kernel
theorem dX6_taken_12 : decode cX6_taken 12 = .ok (.iload_n 1, 1) := by decide +kernel
theorem dX6_taken_13 : decode cX6_taken 13 = .ok (.iconst 5, 1) := by decide +kernel
theorem dX6_taken_14 : decode cX6_taken 14 = .ok (.invokestatic 61, 3) := by decide +kernel
theorem dX6_taken_17 : decode cX6_taken 17 = .ok (.ifCond .ne 6, 3) := by decide +kernel
theorem dX6_taken_20 : decode cX6_taken 20 = .ok (.bipush (-11), 2) := by decide +kernel
theorem dX6_taken_22 : decode cX6_taken 22 = .ok (.ireturn, 1) := by decide +kernel
theorem dX6_taken_23 : decode cX6_taken 23 = .ok (.aload_n 0, 1) := by decide +kernel
theorem dX6_taken_24 : decode cX6_taken 24 = .ok (.getfield 19, 3) := by decide +kernel
theorem dX6_taken_27 : decode cX6_taken 27 = .ok (.getfield 96, 3) := by decide +kernel
theorem dX6_taken_30 : decode cX6_taken 30 = .ok (.iload_n 1, 1) := by decide +kernel
theorem dX6_taken_31 : decode cX6_taken 31 = .ok (.aaload, 1) := by decide +kernel
theorem dX6_taken_32 : decode cX6_taken 32 = .ok (.iconst 0, 1) := by decide +kernel
theorem dX6_taken_33 : decode cX6_taken 33 = .ok (.iaload, 1) := by decide +kernel
theorem dX6_taken_34 : decode cX6_taken 34 = .ok (.istore_n 3, 1) := by decide +kernel
theorem dX6_taken_35 : decode cX6_taken 35 = .ok (.iload_n 3, 1) := by decide +kernel
theorem dX6_taken_36 : decode cX6_taken 36 = .ok (.iload_n 2, 1) := by decide +kernel
theorem dX6_taken_37 : decode cX6_taken 37 = .ok (.invokestatic 239, 3) := by decide +kernel
theorem dX6_taken_40 : decode cX6_taken 40 = .ok (.ifCond .eq 7, 3) := by decide +kernel
theorem dX6_taken_43 : decode cX6_taken 43 = .ok (.iload_n 3, 1) := by decide +kernel
theorem dX6_taken_44 : decode cX6_taken 44 = .ok (.goto 5, 3) := by decide +kernel
theorem dX6_taken_47 : decode cX6_taken 47 = .ok (.bipush (-12), 2) := by decide +kernel
theorem dX6_taken_49 : decode cX6_taken 49 = .ok (.ireturn, 1) := by decide +kernel
def fX6_taken (sh : SH) (I : IH) (this : Nat) (v1 : Int32) (v2 : Int32) : Option (Int32) :=
  if (fX6_isUnder v2 7) = 0 then (
    some (-2)) else
  if (fX6_isUnder v1 5) = 0 then (
    some (-11)) else
  (gR sh 6 this 0).bind fun x1 =>
  (gR sh 2 x1 3).bind fun x2 =>
  (aR sh 4 x2 v1).bind fun x3 =>
  (aI sh I 0 x3 0).bind fun x4 =>
  (fX6_isOrUnder x4 v2).bind fun x5 =>
  if x5 = 0 then (
    some (-12)) else
  some x4
set_option maxHeartbeats 4000000 in
set_option maxRecDepth 20000 in
theorem jbX6_taken_0 (G : GT) {X : XT} {sh : SH} {I : IH} {L : LH} {n : Nat} {r : Int32}  {this : Nat}  {v1 : Int32} {v2 : Int32} (F : MF G X RX6 cX6_taken 4 2 (some .int) "taken") (h : fX6_taken sh I this v1 v2 = some r) : J G X (QE G X (some (.int r)) sh I L n) 4 sh I L n 0 0 0 [(0, .ref this), (1, .int v1), (2, .int v2)] [] := by
  unfold fX6_taken at h
  refine j_iload_n (pc := 0) (k0 := 2) F 2 rfl dX6_taken_0 ?_
  refine j_bipush (pc := 1) F 7 dX6_taken_1 (by decide) ?_
  refine j_callS1 (pc := 3) (As := [.int v2, .int 7]) (st := []) (e1 := 0) (es1 := 0) F clX6_61 cwX6_isUnder (ctX6_isUnder G) rfl rfl rfl rfl rfl rfl dX6_taken_3 ?_
  refine j_if_ne (pc := 6) F 12 dX6_taken_6 rfl (fun c => ?_) (fun c => ?_)
  · have h := iz_f c h
    refine j_iload_n (pc := 12) (k0 := 1) F 1 rfl dX6_taken_12 ?_
    refine j_iconst (pc := 13) F 5 dX6_taken_13 (by decide) ?_
    refine j_callS1 (pc := 14) (As := [.int v1, .int 5]) (st := []) (e1 := 0) (es1 := 0) F clX6_61 cwX6_isUnder (ctX6_isUnder G) rfl rfl rfl rfl rfl rfl dX6_taken_14 ?_
    refine j_if_ne (pc := 17) F 23 dX6_taken_17 rfl (fun c => ?_) (fun c => ?_)
    · have h := iz_f c h
      refine j_aload_n (pc := 23) (k0 := 0) F 0 rfl dX6_taken_23 ?_
      obtain ⟨x1, hx1, h⟩ := ob h
      refine j_getR (pc := 24) F flX6_19 hx1 dX6_taken_24 ?_
      obtain ⟨x2, hx2, h⟩ := ob h
      refine j_getR (pc := 27) F flX6_96 hx2 dX6_taken_27 ?_
      refine j_iload_n (pc := 30) (k0 := 1) F 1 rfl dX6_taken_30 ?_
      obtain ⟨x3, hx3, h⟩ := ob h
      refine j_aald (pc := 31) F (Or.inr rfl) hx3 dX6_taken_31 ?_
      refine j_iconst (pc := 32) F 0 dX6_taken_32 (by decide) ?_
      obtain ⟨x4, hx4, h⟩ := ob h
      refine j_iald (pc := 33) F hx4 dX6_taken_33 ?_
      refine j_istore_n (pc := 34) (k1 := 3) (ls' := [(3, .int x4), (0, .ref this), (1, .int v1), (2, .int v2)]) F rfl rfl rfl dX6_taken_34 ?_
      refine j_iload_n (pc := 35) (k0 := 3) F 0 rfl dX6_taken_35 ?_
      refine j_iload_n (pc := 36) (k0 := 2) F 3 rfl dX6_taken_36 ?_
      obtain ⟨x5, hx5, h⟩ := ob h
      refine j_callS1 (pc := 37) (As := [.int x4, .int v2]) (st := []) (e1 := 0) (es1 := 0) F clX6_239 cwX6_isOrUnder (ctX6_isOrUnder G hx5) rfl rfl rfl rfl rfl rfl dX6_taken_37 ?_
      refine j_if_eq (pc := 40) F 47 dX6_taken_40 rfl (fun c => ?_) (fun c => ?_)
      · have h := iz_t c h
        refine j_bipush (pc := 47) F (-12) dX6_taken_47 (by decide) ?_
        have g1 := Option.some.inj h
        subst g1
        exact j_iret (pc := 49) F dX6_taken_49
      · have h := iz_f c h
        refine j_iload_n (pc := 43) (k0 := 3) F 0 rfl dX6_taken_43 ?_
        refine j_goto (pc := 44) F 49 dX6_taken_44 rfl ?_
        have g1 := Option.some.inj h
        subst g1
        exact j_iret (pc := 49) F dX6_taken_49
    · have h := iz_t c h
      refine j_bipush (pc := 20) F (-11) dX6_taken_20 (by decide) ?_
      have g1 := Option.some.inj h
      subst g1
      exact j_iret (pc := 22) F dX6_taken_22
  · have h := iz_t c h
    refine j_bipush (pc := 9) F (-2) dX6_taken_9 (by decide) ?_
    have g1 := Option.some.inj h
    subst g1
    exact j_iret (pc := 11) F dX6_taken_11
theorem ctX6_taken (G : GT) {sh : SH} {I : IH} {L : LH} {n : Nat} {this : Nat} {v1 : Int32} {v2 : Int32} {r : Int32}  (h : fX6_taken sh I this v1 v2 = some r) : Ct G yX6_taken cX6_taken 4 (some .int) 2 [.ref this, .int v1, .int v2] sh I L n (some (.int r)) sh I L n 0 0 := by
  refine ct_of (y := yX6_taken) (by decide +kernel) rfl (fun X F => ?_)
  exact jbX6_taken_0 G F h
theorem dX6_count_0 : decode cX6_count 0 = .ok (.iload_n 1, 1) := by decide +kernel
theorem dX6_count_1 : decode cX6_count 1 = .ok (.tableswitch 81 0 5 #[39, 47, 55, 60, 68, 73], 39) := by decide +kernel
theorem dX6_count_40 : decode cX6_count 40 = .ok (.aload_n 0, 1) := by decide +kernel
theorem dX6_count_41 : decode cX6_count 41 = .ok (.getfield 19, 3) := by decide +kernel
theorem dX6_count_44 : decode cX6_count 44 = .ok (.getfield 57, 3) := by decide +kernel
theorem dX6_count_47 : decode cX6_count 47 = .ok (.ireturn, 1) := by decide +kernel
theorem dX6_count_48 : decode cX6_count 48 = .ok (.aload_n 0, 1) := by decide +kernel
theorem dX6_count_49 : decode cX6_count 49 = .ok (.getfield 19, 3) := by decide +kernel
theorem dX6_count_52 : decode cX6_count 52 = .ok (.getfield 135, 3) := by decide +kernel
theorem dX6_count_55 : decode cX6_count 55 = .ok (.ireturn, 1) := by decide +kernel
theorem dX6_count_56 : decode cX6_count 56 = .ok (.aload_n 0, 1) := by decide +kernel
theorem dX6_count_57 : decode cX6_count 57 = .ok (.getfield 71, 3) := by decide +kernel
theorem dX6_count_60 : decode cX6_count 60 = .ok (.ireturn, 1) := by decide +kernel
theorem dX6_count_61 : decode cX6_count 61 = .ok (.aload_n 0, 1) := by decide +kernel
theorem dX6_count_62 : decode cX6_count 62 = .ok (.getfield 19, 3) := by decide +kernel
theorem dX6_count_65 : decode cX6_count 65 = .ok (.getfield 188, 3) := by decide +kernel
theorem dX6_count_68 : decode cX6_count 68 = .ok (.ireturn, 1) := by decide +kernel
theorem dX6_count_69 : decode cX6_count 69 = .ok (.aload_n 0, 1) := by decide +kernel
theorem dX6_count_70 : decode cX6_count 70 = .ok (.getfield 68, 3) := by decide +kernel
theorem dX6_count_73 : decode cX6_count 73 = .ok (.ireturn, 1) := by decide +kernel
theorem dX6_count_74 : decode cX6_count 74 = .ok (.aload_n 0, 1) := by decide +kernel
theorem dX6_count_75 : decode cX6_count 75 = .ok (.getfield 42, 3) := by decide +kernel
theorem dX6_count_78 : decode cX6_count 78 = .ok (.getfield 226, 3) := by decide +kernel
theorem dX6_count_81 : decode cX6_count 81 = .ok (.ireturn, 1) := by decide +kernel
theorem dX6_count_82 : decode cX6_count 82 = .ok (.bipush (-2), 2) := by decide +kernel
theorem dX6_count_84 : decode cX6_count 84 = .ok (.ireturn, 1) := by decide +kernel
def fX6_count (sh : SH) (I : IH) (this : Nat) (v1 : Int32) : Option (Int32) :=
  if v1 = 0 then (
    (gR sh 6 this 0).bind fun x1 =>
    (gI sh I 2 x1 0).bind fun x2 =>
    some x2) else
  if v1 = 1 then (
    (gR sh 6 this 0).bind fun x3 =>
    (gI sh I 2 x3 5).bind fun x4 =>
    some x4) else
  if v1 = 2 then (
    (gI sh I 6 this 7).bind fun x5 =>
    some x5) else
  if v1 = 3 then (
    (gR sh 6 this 0).bind fun x6 =>
    (gI sh I 2 x6 7).bind fun x7 =>
    some x7) else
  if v1 = 4 then (
    (gI sh I 6 this 6).bind fun x8 =>
    some x8) else
  if v1 = 5 then (
    (gR sh 6 this 4).bind fun x9 =>
    (gI sh I 0 x9 4).bind fun x10 =>
    some x10) else
  some (-2)
set_option maxHeartbeats 4000000 in
set_option maxRecDepth 20000 in
theorem jbX6_count_0 (G : GT) {X : XT} {sh : SH} {I : IH} {L : LH} {n : Nat} {r : Int32}  {this : Nat}  {v1 : Int32} (F : MF G X RX6 cX6_count 2 0 (some .int) "count") (h : fX6_count sh I this v1 = some r) : J G X (QE G X (some (.int r)) sh I L n) 2 sh I L n 0 0 0 [(0, .ref this), (1, .int v1)] [] := by
  unfold fX6_count at h
  refine j_iload_n (pc := 0) (k0 := 1) F 1 rfl dX6_count_0 ?_
  by_cases c1 : v1 = 0
  · have h := iz_t c1 h
    refine j_tabIn (pc := 1) (k0 := 0) F 40 c1 dX6_count_1 (by decide) rfl rfl ?_
    refine j_aload_n (pc := 40) (k0 := 0) F 0 rfl dX6_count_40 ?_
    obtain ⟨x1, hx1, h⟩ := ob h
    refine j_getR (pc := 41) F flX6_19 hx1 dX6_count_41 ?_
    obtain ⟨x2, hx2, h⟩ := ob h
    refine j_getI (pc := 44) F flX6_57 hx2 dX6_count_44 ?_
    have g1 := Option.some.inj h
    subst g1
    exact j_iret (pc := 47) F dX6_count_47
  have h := iz_f c1 h
  by_cases c2 : v1 = 1
  · have h := iz_t c2 h
    refine j_tabIn (pc := 1) (k0 := 1) F 48 c2 dX6_count_1 (by decide) rfl rfl ?_
    refine j_aload_n (pc := 48) (k0 := 0) F 0 rfl dX6_count_48 ?_
    obtain ⟨x3, hx3, h⟩ := ob h
    refine j_getR (pc := 49) F flX6_19 hx3 dX6_count_49 ?_
    obtain ⟨x4, hx4, h⟩ := ob h
    refine j_getI (pc := 52) F flX6_135 hx4 dX6_count_52 ?_
    have g1 := Option.some.inj h
    subst g1
    exact j_iret (pc := 55) F dX6_count_55
  have h := iz_f c2 h
  by_cases c3 : v1 = 2
  · have h := iz_t c3 h
    refine j_tabIn (pc := 1) (k0 := 2) F 56 c3 dX6_count_1 (by decide) rfl rfl ?_
    refine j_aload_n (pc := 56) (k0 := 0) F 0 rfl dX6_count_56 ?_
    obtain ⟨x5, hx5, h⟩ := ob h
    refine j_getI (pc := 57) F flX6_71 hx5 dX6_count_57 ?_
    have g1 := Option.some.inj h
    subst g1
    exact j_iret (pc := 60) F dX6_count_60
  have h := iz_f c3 h
  by_cases c4 : v1 = 3
  · have h := iz_t c4 h
    refine j_tabIn (pc := 1) (k0 := 3) F 61 c4 dX6_count_1 (by decide) rfl rfl ?_
    refine j_aload_n (pc := 61) (k0 := 0) F 0 rfl dX6_count_61 ?_
    obtain ⟨x6, hx6, h⟩ := ob h
    refine j_getR (pc := 62) F flX6_19 hx6 dX6_count_62 ?_
    obtain ⟨x7, hx7, h⟩ := ob h
    refine j_getI (pc := 65) F flX6_188 hx7 dX6_count_65 ?_
    have g1 := Option.some.inj h
    subst g1
    exact j_iret (pc := 68) F dX6_count_68
  have h := iz_f c4 h
  by_cases c5 : v1 = 4
  · have h := iz_t c5 h
    refine j_tabIn (pc := 1) (k0 := 4) F 69 c5 dX6_count_1 (by decide) rfl rfl ?_
    refine j_aload_n (pc := 69) (k0 := 0) F 0 rfl dX6_count_69 ?_
    obtain ⟨x8, hx8, h⟩ := ob h
    refine j_getI (pc := 70) F flX6_68 hx8 dX6_count_70 ?_
    have g1 := Option.some.inj h
    subst g1
    exact j_iret (pc := 73) F dX6_count_73
  have h := iz_f c5 h
  by_cases c6 : v1 = 5
  · have h := iz_t c6 h
    refine j_tabIn (pc := 1) (k0 := 5) F 74 c6 dX6_count_1 (by decide) rfl rfl ?_
    refine j_aload_n (pc := 74) (k0 := 0) F 0 rfl dX6_count_74 ?_
    obtain ⟨x9, hx9, h⟩ := ob h
    refine j_getR (pc := 75) F flX6_42 hx9 dX6_count_75 ?_
    obtain ⟨x10, hx10, h⟩ := ob h
    refine j_getI (pc := 78) F flX6_226 hx10 dX6_count_78 ?_
    have g1 := Option.some.inj h
    subst g1
    exact j_iret (pc := 81) F dX6_count_81
  have h := iz_f c6 h
  have tc1 := lv_neT (a := 0) c1 (by decide)
  have tc2 := lv_neT (a := 1) c2 (by decide)
  have tc3 := lv_neT (a := 2) c3 (by decide)
  have tc4 := lv_neT (a := 3) c4 (by decide)
  have tc5 := lv_neT (a := 4) c5 (by decide)
  have tc6 := lv_neT (a := 5) c6 (by decide)
  refine j_tabOut (pc := 1) F 82 dX6_count_1 (by omega) rfl ?_
  refine j_bipush (pc := 82) F (-2) dX6_count_82 (by decide) ?_
  have g1 := Option.some.inj h
  subst g1
  exact j_iret (pc := 84) F dX6_count_84
theorem ctX6_count (G : GT) {sh : SH} {I : IH} {L : LH} {n : Nat} {this : Nat} {v1 : Int32} {r : Int32}  (h : fX6_count sh I this v1 = some r) : Ct G yX6_count cX6_count 2 (some .int) 0 [.ref this, .int v1] sh I L n (some (.int r)) sh I L n 0 0 := by
  refine ct_of (y := yX6_count) (by decide +kernel) rfl (fun X F => ?_)
  exact jbX6_count_0 G F h
theorem dX6_tape_0 : decode cX6_tape 0 = .ok (.aload_n 0, 1) := by decide +kernel
theorem dX6_tape_1 : decode cX6_tape 1 = .ok (.iload_n 1, 1) := by decide +kernel
theorem dX6_tape_2 : decode cX6_tape 2 = .ok (.invokevirtual 194, 3) := by decide +kernel
theorem dX6_tape_5 : decode cX6_tape 5 = .ok (.astore 4, 2) := by decide +kernel
theorem dX6_tape_7 : decode cX6_tape 7 = .ok (.aload 4, 2) := by decide +kernel
theorem dX6_tape_9 : decode cX6_tape 9 = .ok (.ifnonnull 5, 3) := by decide +kernel
theorem dX6_tape_12 : decode cX6_tape 12 = .ok (.iconst (-1), 1) := by decide +kernel
theorem dX6_tape_13 : decode cX6_tape 13 = .ok (.ireturn, 1) := by decide +kernel
theorem dX6_tape_14 : decode cX6_tape 14 = .ok (.iload_n 2, 1) := by decide +kernel
theorem dX6_tape_15 : decode cX6_tape 15 = .ok (.iconst (-1), 1) := by decide +kernel
theorem dX6_tape_16 : decode cX6_tape 16 = .ok (.if_icmp .ne 12, 3) := by decide +kernel
theorem dX6_tape_19 : decode cX6_tape 19 = .ok (.aload 4, 2) := by decide +kernel
theorem dX6_tape_21 : decode cX6_tape 21 = .ok (.iconst (-1), 1) := by decide +kernel
theorem dX6_tape_22 : decode cX6_tape 22 = .ok (.iconst 0, 1) := by decide +kernel
theorem dX6_tape_23 : decode cX6_tape 23 = .ok (.invokevirtual 242, 3) := by decide +kernel
theorem dX6_tape_26 : decode cX6_tape 26 = .ok (.iconst 1, 1) := by decide +kernel
theorem dX6_tape_27 : decode cX6_tape 27 = .ok (.ireturn, 1) := by decide +kernel
theorem dX6_tape_28 : decode cX6_tape 28 = .ok (.iload_n 2, 1) := by decide +kernel
theorem dX6_tape_29 : decode cX6_tape 29 = .ok (.iconst 5, 1) := by decide +kernel
theorem dX6_tape_30 : decode cX6_tape 30 = .ok (.invokestatic 61, 3) := by decide +kernel
theorem dX6_tape_33 : decode cX6_tape 33 = .ok (.ifCond .eq 9, 3) := by decide +kernel
theorem dX6_tape_36 : decode cX6_tape 36 = .ok (.iload_n 3, 1) := by decide +kernel
theorem dX6_tape_37 : decode cX6_tape 37 = .ok (.bipush 60, 2) := by decide +kernel
theorem dX6_tape_39 : decode cX6_tape 39 = .ok (.if_icmp .le 6, 3) := by decide +kernel
theorem dX6_tape_42 : decode cX6_tape 42 = .ok (.bipush (-2), 2) := by decide +kernel
theorem dX6_tape_44 : decode cX6_tape 44 = .ok (.ireturn, 1) := by decide +kernel
theorem dX6_tape_45 : decode cX6_tape 45 = .ok (.iload_n 3, 1) := by decide +kernel
theorem dX6_tape_46 : decode cX6_tape 46 = .ok (.ifCond .ge 6, 3) := by decide +kernel
theorem dX6_tape_49 : decode cX6_tape 49 = .ok (.bipush (-14), 2) := by decide +kernel
theorem dX6_tape_51 : decode cX6_tape 51 = .ok (.ireturn, 1) := by decide +kernel
theorem dX6_tape_52 : decode cX6_tape 52 = .ok (.aload 4, 2) := by decide +kernel
theorem dX6_tape_54 : decode cX6_tape 54 = .ok (.iload_n 2, 1) := by decide +kernel
theorem dX6_tape_55 : decode cX6_tape 55 = .ok (.iload_n 3, 1) := by decide +kernel
theorem dX6_tape_56 : decode cX6_tape 56 = .ok (.invokevirtual 242, 3) := by decide +kernel
theorem dX6_tape_59 : decode cX6_tape 59 = .ok (.iconst 1, 1) := by decide +kernel
theorem dX6_tape_60 : decode cX6_tape 60 = .ok (.ireturn, 1) := by decide +kernel
def fX6_tape (sh : SH) (this : Nat) (v1 : Int32) (v2 : Int32) (v3 : Int32) (I : IH) (L : LH) : Option (Int32 × IH × LH) :=
  (fX6_tapeAt sh this v1).bind fun x1 =>
  oc x1 (
    some ((-1), I, L)) fun a2 =>
  if v2 = (-1) then (
    (ck sh 3 a2).bind fun u6 =>
    b2 (fX3_become sh a2 (-1) 0 I L) fun i7 l8 =>
    some (1, i7, l8)) else
  if (fX6_isUnder v2 5) = 0 then (
    some ((-2), I, L)) else
  if v3 ≤ 60 then (
    if 0 ≤ v3 then (
      (ck sh 3 a2).bind fun u3 =>
      b2 (fX3_become sh a2 v2 v3 I L) fun i4 l5 =>
      some (1, i4, l5)) else
    some ((-14), I, L)) else
  some ((-2), I, L)
set_option maxHeartbeats 4000000 in
set_option maxRecDepth 20000 in
theorem jbX6_tape_0 (G : GT) {X : XT} {sh : SH} {n : Nat} {r : Int32} {I' : IH} {L' : LH}  {this : Nat}  {v1 : Int32} {v2 : Int32} {v3 : Int32} {I : IH} {L : LH} (F : MF G X RX6 cX6_tape 5 2 (some .int) "tape") (hth : isO sh 6 this) (h : fX6_tape sh this v1 v2 v3 I L = some (r, I', L')) : J G X (QE G X (some (.int r)) sh I' L' n) 5 sh I L n 0 0 0 [(0, .ref this), (1, .int v1), (2, .int v2), (3, .int v3)] [] := by
  unfold fX6_tape at h
  refine j_aload_n (pc := 0) (k0 := 0) F 0 rfl dX6_tape_0 ?_
  refine j_iload_n (pc := 1) (k0 := 1) F 1 rfl dX6_tape_1 ?_
  obtain ⟨x1, hx1, h⟩ := ob h
  refine j_callV1 (pc := 2) (ci := 6) (As := [.int v1]) (st := []) (e1 := 0) (es1 := 0) F clX6_194 cwX6_tapeAt rfl hth (ctX6_tapeAt G hx1) rfl rfl rfl rfl rfl rfl dX6_tape_2 ?_
  rcases oc_obt h with ⟨rfl, h⟩ | ⟨a2, rfl, h⟩
  · refine j_astoreN (pc := 5) (k1 := 4) (ls' := [(4, .null), (0, .ref this), (1, .int v1), (2, .int v2), (3, .int v3)]) F rfl rfl dX6_tape_5 ?_
    refine j_aloadN (pc := 7) (k0 := 4) F 0 rfl dX6_tape_7 ?_
    refine j_ifnonnullN (pc := 9) F dX6_tape_9 ?_
    refine j_iconst (pc := 12) F (-1) dX6_tape_12 (by decide) ?_
    have g1 := Option.some.inj h
    obtain ⟨q3, g2⟩ := Prod.mk.inj g1
    obtain ⟨q4, g3⟩ := Prod.mk.inj g2
    subst q3
    subst q4
    subst g3
    exact j_iret (pc := 13) F dX6_tape_13
  · refine j_astore (pc := 5) (k1 := 4) (ls' := [(4, .ref a2), (0, .ref this), (1, .int v1), (2, .int v2), (3, .int v3)]) F rfl rfl dX6_tape_5 ?_
    refine j_aload (pc := 7) (k0 := 4) F 0 rfl dX6_tape_7 ?_
    refine j_ifnonnull (pc := 9) F 14 dX6_tape_9 rfl ?_
    refine j_iload_n (pc := 14) (k0 := 2) F 3 rfl dX6_tape_14 ?_
    refine j_iconst (pc := 15) F (-1) dX6_tape_15 (by decide) ?_
    refine j_icmp_ne (pc := 16) F 28 dX6_tape_16 rfl (fun c => ?_) (fun c => ?_)
    · have h := iz_f c h
      refine j_iload_n (pc := 28) (k0 := 2) F 3 rfl dX6_tape_28 ?_
      refine j_iconst (pc := 29) F 5 dX6_tape_29 (by decide) ?_
      refine j_callS1 (pc := 30) (As := [.int v2, .int 5]) (st := []) (e1 := 0) (es1 := 0) F clX6_61 cwX6_isUnder (ctX6_isUnder G) rfl rfl rfl rfl rfl rfl dX6_tape_30 ?_
      refine j_if_eq (pc := 33) F 42 dX6_tape_33 rfl (fun c => ?_) (fun c => ?_)
      · have h := iz_t c h
        refine j_bipush (pc := 42) F (-2) dX6_tape_42 (by decide) ?_
        have g1 := Option.some.inj h
        obtain ⟨q3, g2⟩ := Prod.mk.inj g1
        obtain ⟨q4, g3⟩ := Prod.mk.inj g2
        subst q3
        subst q4
        subst g3
        exact j_iret (pc := 44) F dX6_tape_44
      · have h := iz_f c h
        refine j_iload_n (pc := 36) (k0 := 3) F 4 rfl dX6_tape_36 ?_
        refine j_bipush (pc := 37) F 60 dX6_tape_37 (by decide) ?_
        refine j_icmp_le (pc := 39) F 45 dX6_tape_39 rfl (fun c => ?_) (fun c => ?_)
        · have h := iz_t c h
          refine j_iload_n (pc := 45) (k0 := 3) F 4 rfl dX6_tape_45 ?_
          refine j_if_ge (pc := 46) F 52 dX6_tape_46 rfl (fun c => ?_) (fun c => ?_)
          · have h := iz_t c h
            refine j_aload (pc := 52) (k0 := 4) F 0 rfl dX6_tape_52 ?_
            refine j_iload_n (pc := 54) (k0 := 2) F 3 rfl dX6_tape_54 ?_
            refine j_iload_n (pc := 55) (k0 := 3) F 4 rfl dX6_tape_55 ?_
            obtain ⟨u3, hu3, h⟩ := ob h
            have hou3 := ck_obt hu3
            obtain ⟨i4, l5, hi4, h⟩ := b2_obt h
            refine j_callV0 (pc := 56) (ci := 3) (As := [.int v2, .int v3]) (st := []) (e1 := 0) (es1 := 0) F clX6_242 cwX3_become rfl hou3 (ctX3_become G hi4) rfl rfl rfl rfl rfl rfl dX6_tape_56 ?_
            refine j_iconst (pc := 59) F 1 dX6_tape_59 (by decide) ?_
            have g1 := Option.some.inj h
            obtain ⟨q3, g2⟩ := Prod.mk.inj g1
            obtain ⟨q4, g3⟩ := Prod.mk.inj g2
            subst q3
            subst q4
            subst g3
            exact j_iret (pc := 60) F dX6_tape_60
          · have h := iz_f c h
            refine j_bipush (pc := 49) F (-14) dX6_tape_49 (by decide) ?_
            have g1 := Option.some.inj h
            obtain ⟨q3, g2⟩ := Prod.mk.inj g1
            obtain ⟨q4, g3⟩ := Prod.mk.inj g2
            subst q3
            subst q4
            subst g3
            exact j_iret (pc := 51) F dX6_tape_51
        · have h := iz_f c h
          refine j_bipush (pc := 42) F (-2) dX6_tape_42 (by decide) ?_
          have g1 := Option.some.inj h
          obtain ⟨q3, g2⟩ := Prod.mk.inj g1
          obtain ⟨q4, g3⟩ := Prod.mk.inj g2
          subst q3
          subst q4
          subst g3
          exact j_iret (pc := 44) F dX6_tape_44
    · have h := iz_t c h
      refine j_aload (pc := 19) (k0 := 4) F 0 rfl dX6_tape_19 ?_
      refine j_iconst (pc := 21) F (-1) dX6_tape_21 (by decide) ?_
      refine j_iconst (pc := 22) F 0 dX6_tape_22 (by decide) ?_
      obtain ⟨u6, hu6, h⟩ := ob h
      have hou6 := ck_obt hu6
      obtain ⟨i7, l8, hi7, h⟩ := b2_obt h
      refine j_callV0 (pc := 23) (ci := 3) (As := [.int (-1), .int 0]) (st := []) (e1 := 0) (es1 := 0) F clX6_242 cwX3_become rfl hou6 (ctX3_become G hi7) rfl rfl rfl rfl rfl rfl dX6_tape_23 ?_
      refine j_iconst (pc := 26) F 1 dX6_tape_26 (by decide) ?_
      have g1 := Option.some.inj h
      obtain ⟨q3, g2⟩ := Prod.mk.inj g1
      obtain ⟨q4, g3⟩ := Prod.mk.inj g2
      subst q3
      subst q4
      subst g3
      exact j_iret (pc := 27) F dX6_tape_27
theorem ctX6_tape (G : GT) {sh : SH} {I : IH} {L : LH} {n : Nat} {this : Nat} {v1 : Int32} {v2 : Int32} {v3 : Int32} {r : Int32} {I' : IH} {L' : LH}  (hth : isO sh 6 this) (h : fX6_tape sh this v1 v2 v3 I L = some (r, I', L')) : Ct G yX6_tape cX6_tape 5 (some .int) 2 [.ref this, .int v1, .int v2, .int v3] sh I L n (some (.int r)) sh I' L' n 0 0 := by
  refine ct_of (y := yX6_tape) (by decide +kernel) rfl (fun X F => ?_)
  exact jbX6_tape_0 G F hth h
theorem dX6_item_0 : decode cX6_item 0 = .ok (.aload_n 0, 1) := by decide +kernel
theorem dX6_item_1 : decode cX6_item 1 = .ok (.iload_n 1, 1) := by decide +kernel
theorem dX6_item_2 : decode cX6_item 2 = .ok (.invokevirtual 194, 3) := by decide +kernel
theorem dX6_item_5 : decode cX6_item 5 = .ok (.astore 5, 2) := by decide +kernel
theorem dX6_item_7 : decode cX6_item 7 = .ok (.aload 5, 2) := by decide +kernel
theorem dX6_item_9 : decode cX6_item 9 = .ok (.ifnonnull 5, 3) := by decide +kernel
theorem dX6_item_12 : decode cX6_item 12 = .ok (.iconst (-1), 1) := by decide +kernel
theorem dX6_item_13 : decode cX6_item 13 = .ok (.ireturn, 1) := by decide +kernel
theorem dX6_item_14 : decode cX6_item 14 = .ok (.aload 5, 2) := by decide +kernel
theorem dX6_item_16 : decode cX6_item 16 = .ok (.getfield 198, 3) := by decide +kernel
theorem dX6_item_19 : decode cX6_item 19 = .ok (.iconst (-1), 1) := by decide +kernel
theorem dX6_item_20 : decode cX6_item 20 = .ok (.if_icmp .ne 6, 3) := by decide +kernel
theorem dX6_item_23 : decode cX6_item 23 = .ok (.bipush (-11), 2) := by decide +kernel
theorem dX6_item_25 : decode cX6_item 25 = .ok (.ireturn, 1) := by decide +kernel
theorem dX6_item_26 : decode cX6_item 26 = .ok (.iload_n 2, 1) := by decide +kernel
theorem dX6_item_27 : decode cX6_item 27 = .ok (.aload 5, 2) := by decide +kernel
theorem dX6_item_29 : decode cX6_item 29 = .ok (.getfield 204, 3) := by decide +kernel
theorem dX6_item_32 : decode cX6_item 32 = .ok (.invokestatic 61, 3) := by decide +kernel
theorem dX6_item_35 : decode cX6_item 35 = .ok (.ifCond .ne 6, 3) := by decide +kernel
theorem dX6_item_38 : decode cX6_item 38 = .ok (.bipush (-13), 2) := by decide +kernel
theorem dX6_item_40 : decode cX6_item 40 = .ok (.ireturn, 1) := by decide +kernel
theorem dX6_item_41 : decode cX6_item 41 = .ok (.aload 5, 2) := by decide +kernel
theorem dX6_item_43 : decode cX6_item 43 = .ok (.getfield 212, 3) := by decide +kernel
theorem dX6_item_46 : decode cX6_item 46 = .ok (.iload_n 2, 1) := by decide +kernel
theorem dX6_item_47 : decode cX6_item 47 = .ok (.aload 5, 2) := by decide +kernel
theorem dX6_item_49 : decode cX6_item 49 = .ok (.lload_n 3, 1) := by decide +kernel
theorem dX6_item_50 : decode cX6_item 50 = .ok (.invokevirtual 245, 3) := by decide +kernel
theorem dX6_item_53 : decode cX6_item 53 = .ok (.lastore, 1) := by decide +kernel
theorem dX6_item_54 : decode cX6_item 54 = .ok (.iconst 1, 1) := by decide +kernel
theorem dX6_item_55 : decode cX6_item 55 = .ok (.ireturn, 1) := by decide +kernel
def fX6_item (sh : SH) (I : IH) (this : Nat) (v1 : Int32) (v2 : Int32) (v3 : Int64) (L : LH) : Option (Int32 × LH) :=
  (fX6_tapeAt sh this v1).bind fun x1 =>
  oc x1 (
    some ((-1), L)) fun a2 =>
  (gI sh I 3 a2 0).bind fun x3 =>
  if x3 = (-1) then (
    some ((-11), L)) else
  (gI sh I 3 a2 1).bind fun x4 =>
  if (fX6_isUnder v2 x4) = 0 then (
    some ((-13), L)) else
  (gR sh 3 a2 2).bind fun x5 =>
  (ck sh 3 a2).bind fun u6 =>
  (fX3_asItem sh I a2 v3).bind fun x7 =>
  (sJ sh L x5 v2 x7).bind fun l8 =>
  some (1, l8)
set_option maxHeartbeats 4000000 in
set_option maxRecDepth 20000 in
theorem jbX6_item_0 (G : GT) {X : XT} {sh : SH} {I : IH} {n : Nat} {r : Int32} {L' : LH}  {this : Nat}  {v1 : Int32} {v2 : Int32} {v3 : Int64} {L : LH} (F : MF G X RX6 cX6_item 6 2 (some .int) "item") (hth : isO sh 6 this) (h : fX6_item sh I this v1 v2 v3 L = some (r, L')) : J G X (QE G X (some (.int r)) sh I L' n) 6 sh I L n 0 0 0 [(0, .ref this), (1, .int v1), (2, .int v2), (3, .long v3)] [] := by
  unfold fX6_item at h
  refine j_aload_n (pc := 0) (k0 := 0) F 0 rfl dX6_item_0 ?_
  refine j_iload_n (pc := 1) (k0 := 1) F 1 rfl dX6_item_1 ?_
  obtain ⟨x1, hx1, h⟩ := ob h
  refine j_callV1 (pc := 2) (ci := 6) (As := [.int v1]) (st := []) (e1 := 0) (es1 := 0) F clX6_194 cwX6_tapeAt rfl hth (ctX6_tapeAt G hx1) rfl rfl rfl rfl rfl rfl dX6_item_2 ?_
  rcases oc_obt h with ⟨rfl, h⟩ | ⟨a2, rfl, h⟩
  · refine j_astoreN (pc := 5) (k1 := 5) (ls' := [(5, .null), (0, .ref this), (1, .int v1), (2, .int v2), (3, .long v3)]) F rfl rfl dX6_item_5 ?_
    refine j_aloadN (pc := 7) (k0 := 5) F 0 rfl dX6_item_7 ?_
    refine j_ifnonnullN (pc := 9) F dX6_item_9 ?_
    refine j_iconst (pc := 12) F (-1) dX6_item_12 (by decide) ?_
    have g1 := Option.some.inj h
    obtain ⟨q3, g2⟩ := Prod.mk.inj g1
    subst q3
    subst g2
    exact j_iret (pc := 13) F dX6_item_13
  · refine j_astore (pc := 5) (k1 := 5) (ls' := [(5, .ref a2), (0, .ref this), (1, .int v1), (2, .int v2), (3, .long v3)]) F rfl rfl dX6_item_5 ?_
    refine j_aload (pc := 7) (k0 := 5) F 0 rfl dX6_item_7 ?_
    refine j_ifnonnull (pc := 9) F 14 dX6_item_9 rfl ?_
    refine j_aload (pc := 14) (k0 := 5) F 0 rfl dX6_item_14 ?_
    obtain ⟨x3, hx3, h⟩ := ob h
    refine j_getI (pc := 16) F flX6_198 hx3 dX6_item_16 ?_
    refine j_iconst (pc := 19) F (-1) dX6_item_19 (by decide) ?_
    refine j_icmp_ne (pc := 20) F 26 dX6_item_20 rfl (fun c => ?_) (fun c => ?_)
    · have h := iz_f c h
      refine j_iload_n (pc := 26) (k0 := 2) F 3 rfl dX6_item_26 ?_
      refine j_aload (pc := 27) (k0 := 5) F 0 rfl dX6_item_27 ?_
      obtain ⟨x4, hx4, h⟩ := ob h
      refine j_getI (pc := 29) F flX6_204 hx4 dX6_item_29 ?_
      refine j_callS1 (pc := 32) (As := [.int v2, .int x4]) (st := []) (e1 := 0) (es1 := 0) F clX6_61 cwX6_isUnder (ctX6_isUnder G) rfl rfl rfl rfl rfl rfl dX6_item_32 ?_
      refine j_if_ne (pc := 35) F 41 dX6_item_35 rfl (fun c => ?_) (fun c => ?_)
      · have h := iz_f c h
        refine j_aload (pc := 41) (k0 := 5) F 0 rfl dX6_item_41 ?_
        obtain ⟨x5, hx5, h⟩ := ob h
        refine j_getR (pc := 43) F flX6_212 hx5 dX6_item_43 ?_
        refine j_iload_n (pc := 46) (k0 := 2) F 3 rfl dX6_item_46 ?_
        refine j_aload (pc := 47) (k0 := 5) F 0 rfl dX6_item_47 ?_
        refine j_lload_n (pc := 49) (k0 := 3) F 4 rfl dX6_item_49 ?_
        obtain ⟨u6, hu6, h⟩ := ob h
        have hou6 := ck_obt hu6
        obtain ⟨x7, hx7, h⟩ := ob h
        refine j_callV1 (pc := 50) (ci := 3) (As := [.long v3]) (st := [.int v2, .ref x5]) (e1 := 0) (es1 := 0) F clX6_245 cwX3_asItem rfl hou6 (ctX3_asItem G hx7) rfl rfl rfl rfl rfl rfl dX6_item_50 ?_
        obtain ⟨l8, hl8, h⟩ := ob h
        refine j_last (pc := 53) F hl8 dX6_item_53 ?_
        refine j_iconst (pc := 54) F 1 dX6_item_54 (by decide) ?_
        have g1 := Option.some.inj h
        obtain ⟨q3, g2⟩ := Prod.mk.inj g1
        subst q3
        subst g2
        exact j_iret (pc := 55) F dX6_item_55
      · have h := iz_t c h
        refine j_bipush (pc := 38) F (-13) dX6_item_38 (by decide) ?_
        have g1 := Option.some.inj h
        obtain ⟨q3, g2⟩ := Prod.mk.inj g1
        subst q3
        subst g2
        exact j_iret (pc := 40) F dX6_item_40
    · have h := iz_t c h
      refine j_bipush (pc := 23) F (-11) dX6_item_23 (by decide) ?_
      have g1 := Option.some.inj h
      obtain ⟨q3, g2⟩ := Prod.mk.inj g1
      subst q3
      subst g2
      exact j_iret (pc := 25) F dX6_item_25
theorem ctX6_item (G : GT) {sh : SH} {I : IH} {L : LH} {n : Nat} {this : Nat} {v1 : Int32} {v2 : Int32} {v3 : Int64} {r : Int32} {L' : LH}  (hth : isO sh 6 this) (h : fX6_item sh I this v1 v2 v3 L = some (r, L')) : Ct G yX6_item cX6_item 6 (some .int) 2 [.ref this, .int v1, .int v2, .long v3] sh I L n (some (.int r)) sh I L' n 0 0 := by
  refine ct_of (y := yX6_item) (by decide +kernel) rfl (fun X F => ?_)
  exact jbX6_item_0 G F hth h
theorem dX6_read_0 : decode cX6_read 0 = .ok (.aload_n 0, 1) := by decide +kernel
theorem dX6_read_1 : decode cX6_read 1 = .ok (.iload_n 1, 1) := by decide +kernel
theorem dX6_read_2 : decode cX6_read 2 = .ok (.invokevirtual 194, 3) := by decide +kernel
theorem dX6_read_5 : decode cX6_read 5 = .ok (.astore_n 3, 1) := by decide +kernel
theorem dX6_read_6 : decode cX6_read 6 = .ok (.aload_n 3, 1) := by decide +kernel
theorem dX6_read_7 : decode cX6_read 7 = .ok (.ifnull 14, 3) := by decide +kernel
theorem dX6_read_10 : decode cX6_read 10 = .ok (.iload_n 2, 1) := by decide +kernel
theorem dX6_read_11 : decode cX6_read 11 = .ok (.aload_n 3, 1) := by decide +kernel
theorem dX6_read_12 : decode cX6_read 12 = .ok (.getfield 204, 3) := by decide +kernel
theorem dX6_read_15 : decode cX6_read 15 = .ok (.invokestatic 61, 3) := by decide +kernel
theorem dX6_read_18 : decode cX6_read 18 = .ok (.ifCond .ne 7, 3) := by decide +kernel
theorem dX6_read_21 : decode cX6_read 21 = .ok (.ldc2_w 171, 3) := by decide +kernel
theorem dX6_read_24 : decode cX6_read 24 = .ok (.lreturn, 1) := by decide +kernel
theorem dX6_read_25 : decode cX6_read 25 = .ok (.aload_n 3, 1) := by decide +kernel
theorem dX6_read_26 : decode cX6_read 26 = .ok (.getfield 212, 3) := by decide +kernel
theorem dX6_read_29 : decode cX6_read 29 = .ok (.iload_n 2, 1) := by decide +kernel
theorem dX6_read_30 : decode cX6_read 30 = .ok (.laload, 1) := by decide +kernel
theorem dX6_read_31 : decode cX6_read 31 = .ok (.lreturn, 1) := by decide +kernel
def fX6_read (sh : SH) (I : IH) (L : LH) (this : Nat) (v1 : Int32) (v2 : Int32) : Option (Int64) :=
  (fX6_tapeAt sh this v1).bind fun x1 =>
  oc x1 (
    some (-9223372036854775808)) fun a2 =>
  (gI sh I 3 a2 1).bind fun x3 =>
  if (fX6_isUnder v2 x3) = 0 then (
    some (-9223372036854775808)) else
  (gR sh 3 a2 2).bind fun x4 =>
  (aJ sh L x4 v2).bind fun x5 =>
  some x5
set_option maxHeartbeats 4000000 in
set_option maxRecDepth 20000 in
theorem jbX6_read_0 (G : GT) {X : XT} {sh : SH} {I : IH} {L : LH} {n : Nat} {r : Int64}  {this : Nat}  {v1 : Int32} {v2 : Int32} (F : MF G X RX6 cX6_read 4 2 (some .long) "read") (hth : isO sh 6 this) (h : fX6_read sh I L this v1 v2 = some r) : J G X (QE G X (some (.long r)) sh I L n) 4 sh I L n 0 0 0 [(0, .ref this), (1, .int v1), (2, .int v2)] [] := by
  unfold fX6_read at h
  refine j_aload_n (pc := 0) (k0 := 0) F 0 rfl dX6_read_0 ?_
  refine j_iload_n (pc := 1) (k0 := 1) F 1 rfl dX6_read_1 ?_
  obtain ⟨x1, hx1, h⟩ := ob h
  refine j_callV1 (pc := 2) (ci := 6) (As := [.int v1]) (st := []) (e1 := 0) (es1 := 0) F clX6_194 cwX6_tapeAt rfl hth (ctX6_tapeAt G hx1) rfl rfl rfl rfl rfl rfl dX6_read_2 ?_
  rcases oc_obt h with ⟨rfl, h⟩ | ⟨a2, rfl, h⟩
  · refine j_astore_nN (pc := 5) (k1 := 3) (ls' := [(3, .null), (0, .ref this), (1, .int v1), (2, .int v2)]) F rfl rfl rfl dX6_read_5 ?_
    refine j_aload_nN (pc := 6) (k0 := 3) F 0 rfl dX6_read_6 ?_
    refine j_ifnullN (pc := 7) F 21 dX6_read_7 rfl ?_
    refine j_ldc2 (pc := 21) (v := (-9223372036854775808)) F (good_of 616 (by decide +kernel) (by decide +kernel)) dX6_read_21 ?_
    have g1 := Option.some.inj h
    subst g1
    exact j_lret (pc := 24) F dX6_read_24
  · refine j_astore_n (pc := 5) (k1 := 3) (ls' := [(3, .ref a2), (0, .ref this), (1, .int v1), (2, .int v2)]) F rfl rfl rfl dX6_read_5 ?_
    refine j_aload_n (pc := 6) (k0 := 3) F 0 rfl dX6_read_6 ?_
    refine j_ifnull (pc := 7) F dX6_read_7 ?_
    refine j_iload_n (pc := 10) (k0 := 2) F 3 rfl dX6_read_10 ?_
    refine j_aload_n (pc := 11) (k0 := 3) F 0 rfl dX6_read_11 ?_
    obtain ⟨x3, hx3, h⟩ := ob h
    refine j_getI (pc := 12) F flX6_204 hx3 dX6_read_12 ?_
    refine j_callS1 (pc := 15) (As := [.int v2, .int x3]) (st := []) (e1 := 0) (es1 := 0) F clX6_61 cwX6_isUnder (ctX6_isUnder G) rfl rfl rfl rfl rfl rfl dX6_read_15 ?_
    refine j_if_ne (pc := 18) F 25 dX6_read_18 rfl (fun c => ?_) (fun c => ?_)
    · have h := iz_f c h
      refine j_aload_n (pc := 25) (k0 := 3) F 0 rfl dX6_read_25 ?_
      obtain ⟨x4, hx4, h⟩ := ob h
      refine j_getR (pc := 26) F flX6_212 hx4 dX6_read_26 ?_
      refine j_iload_n (pc := 29) (k0 := 2) F 3 rfl dX6_read_29 ?_
      obtain ⟨x5, hx5, h⟩ := ob h
      refine j_lald (pc := 30) F hx5 dX6_read_30 ?_
      have g1 := Option.some.inj h
      subst g1
      exact j_lret (pc := 31) F dX6_read_31
    · have h := iz_t c h
      refine j_ldc2 (pc := 21) (v := (-9223372036854775808)) F (good_of 616 (by decide +kernel) (by decide +kernel)) dX6_read_21 ?_
      have g1 := Option.some.inj h
      subst g1
      exact j_lret (pc := 24) F dX6_read_24
theorem ctX6_read (G : GT) {sh : SH} {I : IH} {L : LH} {n : Nat} {this : Nat} {v1 : Int32} {v2 : Int32} {r : Int64}  (hth : isO sh 6 this) (h : fX6_read sh I L this v1 v2 = some r) : Ct G yX6_read cX6_read 4 (some .long) 2 [.ref this, .int v1, .int v2] sh I L n (some (.long r)) sh I L n 0 0 := by
  refine ct_of (y := yX6_read) (by decide +kernel) rfl (fun X F => ?_)
  exact jbX6_read_0 G F hth h
theorem dX6_shift_0 : decode cX6_shift 0 = .ok (.aload_n 0, 1) := by decide +kernel
theorem dX6_shift_1 : decode cX6_shift 1 = .ok (.iload_n 1, 1) := by decide +kernel
theorem dX6_shift_2 : decode cX6_shift 2 = .ok (.invokevirtual 194, 3) := by decide +kernel
theorem dX6_shift_5 : decode cX6_shift 5 = .ok (.astore 6, 2) := by decide +kernel
theorem dX6_shift_7 : decode cX6_shift 7 = .ok (.aload_n 0, 1) := by decide +kernel
theorem dX6_shift_8 : decode cX6_shift 8 = .ok (.iload_n 3, 1) := by decide +kernel
theorem dX6_shift_9 : decode cX6_shift 9 = .ok (.invokevirtual 194, 3) := by decide +kernel
theorem dX6_shift_12 : decode cX6_shift 12 = .ok (.astore 7, 2) := by decide +kernel
theorem dX6_shift_14 : decode cX6_shift 14 = .ok (.aload 6, 2) := by decide +kernel
theorem dX6_shift_16 : decode cX6_shift 16 = .ok (.ifnull 8, 3) := by decide +kernel
theorem dX6_shift_19 : decode cX6_shift 19 = .ok (.aload 7, 2) := by decide +kernel
theorem dX6_shift_21 : decode cX6_shift 21 = .ok (.ifnonnull 5, 3) := by decide +kernel
theorem dX6_shift_24 : decode cX6_shift 24 = .ok (.iconst (-1), 1) := by decide +kernel
theorem dX6_shift_25 : decode cX6_shift 25 = .ok (.ireturn, 1) := by decide +kernel
theorem dX6_shift_26 : decode cX6_shift 26 = .ok (.aload 6, 2) := by decide +kernel
theorem dX6_shift_28 : decode cX6_shift 28 = .ok (.getfield 198, 3) := by decide +kernel
theorem dX6_shift_31 : decode cX6_shift 31 = .ok (.iconst (-1), 1) := by decide +kernel
theorem dX6_shift_32 : decode cX6_shift 32 = .ok (.if_icmp .eq 12, 3) := by decide +kernel
theorem dX6_shift_35 : decode cX6_shift 35 = .ok (.aload 7, 2) := by decide +kernel
theorem dX6_shift_37 : decode cX6_shift 37 = .ok (.getfield 198, 3) := by decide +kernel
theorem dX6_shift_40 : decode cX6_shift 40 = .ok (.iconst (-1), 1) := by decide +kernel
theorem dX6_shift_41 : decode cX6_shift 41 = .ok (.if_icmp .ne 6, 3) := by decide +kernel
theorem dX6_shift_44 : decode cX6_shift 44 = .ok (.bipush (-11), 2) := by decide +kernel
theorem dX6_shift_46 : decode cX6_shift 46 = .ok (.ireturn, 1) := by decide +kernel
theorem dX6_shift_47 : decode cX6_shift 47 = .ok (.aload 6, 2) := by decide +kernel
theorem dX6_shift_49 : decode cX6_shift 49 = .ok (.getfield 198, 3) := by decide +kernel
theorem dX6_shift_52 : decode cX6_shift 52 = .ok (.aload 7, 2) := by decide +kernel
theorem dX6_shift_54 : decode cX6_shift 54 = .ok (.getfield 198, 3) := by decide +kernel
theorem dX6_shift_57 : decode cX6_shift 57 = .ok (.if_icmp .eq 6, 3) := by decide +kernel
theorem dX6_shift_60 : decode cX6_shift 60 = .ok (.bipush (-12), 2) := by decide +kernel
theorem dX6_shift_62 : decode cX6_shift 62 = .ok (.ireturn, 1) := by decide +kernel
theorem dX6_shift_63 : decode cX6_shift 63 = .ok (.iload 5, 2) := by decide +kernel
theorem dX6_shift_65 : decode cX6_shift 65 = .ok (.ifCond .lt 37, 3) := by decide +kernel
theorem dX6_shift_68 : decode cX6_shift 68 = .ok (.iload_n 2, 1) := by decide +kernel
theorem dX6_shift_69 : decode cX6_shift 69 = .ok (.ifCond .lt 33, 3) := by decide +kernel
theorem dX6_shift_72 : decode cX6_shift 72 = .ok (.iload 4, 2) := by decide +kernel
theorem dX6_shift_74 : decode cX6_shift 74 = .ok (.ifCond .lt 28, 3) := by decide +kernel
theorem dX6_shift_77 : decode cX6_shift 77 = .ok (.iload 5, 2) := by decide +kernel
theorem dX6_shift_79 : decode cX6_shift 79 = .ok (.aload 6, 2) := by decide +kernel
theorem dX6_shift_81 : decode cX6_shift 81 = .ok (.getfield 204, 3) := by decide +kernel
theorem dX6_shift_84 : decode cX6_shift 84 = .ok (.iload_n 2, 1) := by decide +kernel
theorem dX6_shift_85 : decode cX6_shift 85 = .ok (.isub, 1) := by decide +kernel
theorem dX6_shift_86 : decode cX6_shift 86 = .ok (.if_icmp .gt 16, 3) := by decide +kernel
theorem dX6_shift_89 : decode cX6_shift 89 = .ok (.iload 5, 2) := by decide +kernel
theorem dX6_shift_91 : decode cX6_shift 91 = .ok (.aload 7, 2) := by decide +kernel
theorem dX6_shift_93 : decode cX6_shift 93 = .ok (.getfield 204, 3) := by decide +kernel
theorem dX6_shift_96 : decode cX6_shift 96 = .ok (.iload 4, 2) := by decide +kernel
theorem dX6_shift_98 : decode cX6_shift 98 = .ok (.isub, 1) := by decide +kernel
theorem dX6_shift_99 : decode cX6_shift 99 = .ok (.if_icmp .le 6, 3) := by decide +kernel
theorem dX6_shift_102 : decode cX6_shift 102 = .ok (.bipush (-13), 2) := by decide +kernel
theorem dX6_shift_104 : decode cX6_shift 104 = .ok (.ireturn, 1) := by decide +kernel
theorem dX6_shift_105 : decode cX6_shift 105 = .ok (.aload 6, 2) := by decide +kernel
theorem dX6_shift_107 : decode cX6_shift 107 = .ok (.getfield 212, 3) := by decide +kernel
theorem dX6_shift_110 : decode cX6_shift 110 = .ok (.iload_n 2, 1) := by decide +kernel
theorem dX6_shift_111 : decode cX6_shift 111 = .ok (.aload 7, 2) := by decide +kernel
theorem dX6_shift_113 : decode cX6_shift 113 = .ok (.getfield 212, 3) := by decide +kernel
theorem dX6_shift_116 : decode cX6_shift 116 = .ok (.iload 4, 2) := by decide +kernel
theorem dX6_shift_118 : decode cX6_shift 118 = .ok (.iload 5, 2) := by decide +kernel
theorem dX6_shift_120 : decode cX6_shift 120 = .ok (.invokestatic 249, 3) := by decide +kernel
theorem dX6_shift_123 : decode cX6_shift 123 = .ok (.iload 5, 2) := by decide +kernel
theorem dX6_shift_125 : decode cX6_shift 125 = .ok (.ireturn, 1) := by decide +kernel
def fX6_shift (sh : SH) (I : IH) (this : Nat) (v1 : Int32) (v2 : Int32) (v3 : Int32) (v4 : Int32) (v5 : Int32) (L : LH) : Option (Int32 × LH) :=
  (fX6_tapeAt sh this v1).bind fun x1 =>
  oc x1 (
    (fX6_tapeAt sh this v3).bind fun x3 =>
    oc x3 (
      some ((-1), L)) fun a4 =>
    some ((-1), L)) fun a2 =>
  (fX6_tapeAt sh this v3).bind fun x5 =>
  oc x5 (
    some ((-1), L)) fun a6 =>
  (gI sh I 3 a2 0).bind fun x7 =>
  if x7 = (-1) then (
    some ((-11), L)) else
  (gI sh I 3 a6 0).bind fun x8 =>
  if x8 = (-1) then (
    some ((-11), L)) else
  (gI sh I 3 a2 0).bind fun x9 =>
  (gI sh I 3 a6 0).bind fun x10 =>
  if x9 = x10 then (
    if v5 < 0 then (
      some ((-13), L)) else
    if v2 < 0 then (
      some ((-13), L)) else
    if v4 < 0 then (
      some ((-13), L)) else
    (gI sh I 3 a2 1).bind fun x11 =>
    if (x11 - v2) < v5 then (
      some ((-13), L)) else
    (gI sh I 3 a6 1).bind fun x12 =>
    if v5 ≤ (x12 - v4) then (
      (gR sh 3 a2 2).bind fun x13 =>
      (gR sh 3 a6 2).bind fun x14 =>
      (cpL sh L x13 v2 x14 v4 v5).bind fun l15 =>
      some (v5, l15)) else
    some ((-13), L)) else
  some ((-12), L)
set_option maxHeartbeats 4000000 in
set_option maxRecDepth 20000 in
theorem jbX6_shift_0 (G : GT) {X : XT} {sh : SH} {I : IH} {n : Nat} {r : Int32} {L' : LH}  {this : Nat}  {v1 : Int32} {v2 : Int32} {v3 : Int32} {v4 : Int32} {v5 : Int32} {L : LH} (F : MF G X RX6 cX6_shift 8 2 (some .int) "shift") (hth : isO sh 6 this) (h : fX6_shift sh I this v1 v2 v3 v4 v5 L = some (r, L')) : J G X (QE G X (some (.int r)) sh I L' n) 8 sh I L n 0 0 0 [(0, .ref this), (1, .int v1), (2, .int v2), (3, .int v3), (4, .int v4), (5, .int v5)] [] := by
  unfold fX6_shift at h
  refine j_aload_n (pc := 0) (k0 := 0) F 0 rfl dX6_shift_0 ?_
  refine j_iload_n (pc := 1) (k0 := 1) F 1 rfl dX6_shift_1 ?_
  obtain ⟨x1, hx1, h⟩ := ob h
  refine j_callV1 (pc := 2) (ci := 6) (As := [.int v1]) (st := []) (e1 := 0) (es1 := 0) F clX6_194 cwX6_tapeAt rfl hth (ctX6_tapeAt G hx1) rfl rfl rfl rfl rfl rfl dX6_shift_2 ?_
  rcases oc_obt h with ⟨rfl, h⟩ | ⟨a2, rfl, h⟩
  · refine j_astoreN (pc := 5) (k1 := 6) (ls' := [(6, .null), (0, .ref this), (1, .int v1), (2, .int v2), (3, .int v3), (4, .int v4), (5, .int v5)]) F rfl rfl dX6_shift_5 ?_
    refine j_aload_n (pc := 7) (k0 := 0) F 1 rfl dX6_shift_7 ?_
    refine j_iload_n (pc := 8) (k0 := 3) F 4 rfl dX6_shift_8 ?_
    obtain ⟨x3, hx3, h⟩ := ob h
    refine j_callV1 (pc := 9) (ci := 6) (As := [.int v3]) (st := []) (e1 := 0) (es1 := 0) F clX6_194 cwX6_tapeAt rfl hth (ctX6_tapeAt G hx3) rfl rfl rfl rfl rfl rfl dX6_shift_9 ?_
    rcases oc_obt h with ⟨rfl, h⟩ | ⟨a4, rfl, h⟩
    · refine j_astoreN (pc := 12) (k1 := 7) (ls' := [(7, .null), (6, .null), (0, .ref this), (1, .int v1), (2, .int v2), (3, .int v3), (4, .int v4), (5, .int v5)]) F rfl rfl dX6_shift_12 ?_
      refine j_aloadN (pc := 14) (k0 := 6) F 1 rfl dX6_shift_14 ?_
      refine j_ifnullN (pc := 16) F 24 dX6_shift_16 rfl ?_
      refine j_iconst (pc := 24) F (-1) dX6_shift_24 (by decide) ?_
      have g1 := Option.some.inj h
      obtain ⟨q3, g2⟩ := Prod.mk.inj g1
      subst q3
      subst g2
      exact j_iret (pc := 25) F dX6_shift_25
    · refine j_astore (pc := 12) (k1 := 7) (ls' := [(7, .ref a4), (6, .null), (0, .ref this), (1, .int v1), (2, .int v2), (3, .int v3), (4, .int v4), (5, .int v5)]) F rfl rfl dX6_shift_12 ?_
      refine j_aloadN (pc := 14) (k0 := 6) F 1 rfl dX6_shift_14 ?_
      refine j_ifnullN (pc := 16) F 24 dX6_shift_16 rfl ?_
      refine j_iconst (pc := 24) F (-1) dX6_shift_24 (by decide) ?_
      have g1 := Option.some.inj h
      obtain ⟨q3, g2⟩ := Prod.mk.inj g1
      subst q3
      subst g2
      exact j_iret (pc := 25) F dX6_shift_25
  · refine j_astore (pc := 5) (k1 := 6) (ls' := [(6, .ref a2), (0, .ref this), (1, .int v1), (2, .int v2), (3, .int v3), (4, .int v4), (5, .int v5)]) F rfl rfl dX6_shift_5 ?_
    refine j_aload_n (pc := 7) (k0 := 0) F 1 rfl dX6_shift_7 ?_
    refine j_iload_n (pc := 8) (k0 := 3) F 4 rfl dX6_shift_8 ?_
    obtain ⟨x5, hx5, h⟩ := ob h
    refine j_callV1 (pc := 9) (ci := 6) (As := [.int v3]) (st := []) (e1 := 0) (es1 := 0) F clX6_194 cwX6_tapeAt rfl hth (ctX6_tapeAt G hx5) rfl rfl rfl rfl rfl rfl dX6_shift_9 ?_
    rcases oc_obt h with ⟨rfl, h⟩ | ⟨a6, rfl, h⟩
    · refine j_astoreN (pc := 12) (k1 := 7) (ls' := [(7, .null), (6, .ref a2), (0, .ref this), (1, .int v1), (2, .int v2), (3, .int v3), (4, .int v4), (5, .int v5)]) F rfl rfl dX6_shift_12 ?_
      refine j_aload (pc := 14) (k0 := 6) F 1 rfl dX6_shift_14 ?_
      refine j_ifnull (pc := 16) F dX6_shift_16 ?_
      refine j_aloadN (pc := 19) (k0 := 7) F 0 rfl dX6_shift_19 ?_
      refine j_ifnonnullN (pc := 21) F dX6_shift_21 ?_
      refine j_iconst (pc := 24) F (-1) dX6_shift_24 (by decide) ?_
      have g1 := Option.some.inj h
      obtain ⟨q3, g2⟩ := Prod.mk.inj g1
      subst q3
      subst g2
      exact j_iret (pc := 25) F dX6_shift_25
    · refine j_astore (pc := 12) (k1 := 7) (ls' := [(7, .ref a6), (6, .ref a2), (0, .ref this), (1, .int v1), (2, .int v2), (3, .int v3), (4, .int v4), (5, .int v5)]) F rfl rfl dX6_shift_12 ?_
      refine j_aload (pc := 14) (k0 := 6) F 1 rfl dX6_shift_14 ?_
      refine j_ifnull (pc := 16) F dX6_shift_16 ?_
      refine j_aload (pc := 19) (k0 := 7) F 0 rfl dX6_shift_19 ?_
      refine j_ifnonnull (pc := 21) F 26 dX6_shift_21 rfl ?_
      refine j_aload (pc := 26) (k0 := 6) F 1 rfl dX6_shift_26 ?_
      obtain ⟨x7, hx7, h⟩ := ob h
      refine j_getI (pc := 28) F flX6_198 hx7 dX6_shift_28 ?_
      refine j_iconst (pc := 31) F (-1) dX6_shift_31 (by decide) ?_
      refine j_icmp_eq (pc := 32) F 44 dX6_shift_32 rfl (fun c => ?_) (fun c => ?_)
      · have h := iz_t c h
        refine j_bipush (pc := 44) F (-11) dX6_shift_44 (by decide) ?_
        have g1 := Option.some.inj h
        obtain ⟨q3, g2⟩ := Prod.mk.inj g1
        subst q3
        subst g2
        exact j_iret (pc := 46) F dX6_shift_46
      · have h := iz_f c h
        refine j_aload (pc := 35) (k0 := 7) F 0 rfl dX6_shift_35 ?_
        obtain ⟨x8, hx8, h⟩ := ob h
        refine j_getI (pc := 37) F flX6_198 hx8 dX6_shift_37 ?_
        refine j_iconst (pc := 40) F (-1) dX6_shift_40 (by decide) ?_
        refine j_icmp_ne (pc := 41) F 47 dX6_shift_41 rfl (fun c => ?_) (fun c => ?_)
        · have h := iz_f c h
          refine j_aload (pc := 47) (k0 := 6) F 1 rfl dX6_shift_47 ?_
          obtain ⟨x9, hx9, h⟩ := ob h
          refine j_getI (pc := 49) F flX6_198 hx9 dX6_shift_49 ?_
          refine j_aload (pc := 52) (k0 := 7) F 0 rfl dX6_shift_52 ?_
          obtain ⟨x10, hx10, h⟩ := ob h
          refine j_getI (pc := 54) F flX6_198 hx10 dX6_shift_54 ?_
          refine j_icmp_eq (pc := 57) F 63 dX6_shift_57 rfl (fun c => ?_) (fun c => ?_)
          · have h := iz_t c h
            refine j_iload (pc := 63) (k0 := 5) F 7 rfl dX6_shift_63 ?_
            refine j_if_lt (pc := 65) F 102 dX6_shift_65 rfl (fun c => ?_) (fun c => ?_)
            · have h := iz_t c h
              refine j_bipush (pc := 102) F (-13) dX6_shift_102 (by decide) ?_
              have g1 := Option.some.inj h
              obtain ⟨q3, g2⟩ := Prod.mk.inj g1
              subst q3
              subst g2
              exact j_iret (pc := 104) F dX6_shift_104
            · have h := iz_f c h
              refine j_iload_n (pc := 68) (k0 := 2) F 4 rfl dX6_shift_68 ?_
              refine j_if_lt (pc := 69) F 102 dX6_shift_69 rfl (fun c => ?_) (fun c => ?_)
              · have h := iz_t c h
                refine j_bipush (pc := 102) F (-13) dX6_shift_102 (by decide) ?_
                have g1 := Option.some.inj h
                obtain ⟨q3, g2⟩ := Prod.mk.inj g1
                subst q3
                subst g2
                exact j_iret (pc := 104) F dX6_shift_104
              · have h := iz_f c h
                refine j_iload (pc := 72) (k0 := 4) F 6 rfl dX6_shift_72 ?_
                refine j_if_lt (pc := 74) F 102 dX6_shift_74 rfl (fun c => ?_) (fun c => ?_)
                · have h := iz_t c h
                  refine j_bipush (pc := 102) F (-13) dX6_shift_102 (by decide) ?_
                  have g1 := Option.some.inj h
                  obtain ⟨q3, g2⟩ := Prod.mk.inj g1
                  subst q3
                  subst g2
                  exact j_iret (pc := 104) F dX6_shift_104
                · have h := iz_f c h
                  refine j_iload (pc := 77) (k0 := 5) F 7 rfl dX6_shift_77 ?_
                  refine j_aload (pc := 79) (k0 := 6) F 1 rfl dX6_shift_79 ?_
                  obtain ⟨x11, hx11, h⟩ := ob h
                  refine j_getI (pc := 81) F flX6_204 hx11 dX6_shift_81 ?_
                  refine j_iload_n (pc := 84) (k0 := 2) F 4 rfl dX6_shift_84 ?_
                  refine j_isub (pc := 85) F dX6_shift_85 ?_
                  refine j_icmp_gt (pc := 86) F 102 dX6_shift_86 rfl (fun c => ?_) (fun c => ?_)
                  · have h := iz_t c h
                    refine j_bipush (pc := 102) F (-13) dX6_shift_102 (by decide) ?_
                    have g1 := Option.some.inj h
                    obtain ⟨q3, g2⟩ := Prod.mk.inj g1
                    subst q3
                    subst g2
                    exact j_iret (pc := 104) F dX6_shift_104
                  · have h := iz_f c h
                    refine j_iload (pc := 89) (k0 := 5) F 7 rfl dX6_shift_89 ?_
                    refine j_aload (pc := 91) (k0 := 7) F 0 rfl dX6_shift_91 ?_
                    obtain ⟨x12, hx12, h⟩ := ob h
                    refine j_getI (pc := 93) F flX6_204 hx12 dX6_shift_93 ?_
                    refine j_iload (pc := 96) (k0 := 4) F 6 rfl dX6_shift_96 ?_
                    refine j_isub (pc := 98) F dX6_shift_98 ?_
                    refine j_icmp_le (pc := 99) F 105 dX6_shift_99 rfl (fun c => ?_) (fun c => ?_)
                    · have h := iz_t c h
                      refine j_aload (pc := 105) (k0 := 6) F 1 rfl dX6_shift_105 ?_
                      obtain ⟨x13, hx13, h⟩ := ob h
                      refine j_getR (pc := 107) F flX6_212 hx13 dX6_shift_107 ?_
                      refine j_iload_n (pc := 110) (k0 := 2) F 4 rfl dX6_shift_110 ?_
                      refine j_aload (pc := 111) (k0 := 7) F 0 rfl dX6_shift_111 ?_
                      obtain ⟨x14, hx14, h⟩ := ob h
                      refine j_getR (pc := 113) F flX6_212 hx14 dX6_shift_113 ?_
                      refine j_iload (pc := 116) (k0 := 4) F 6 rfl dX6_shift_116 ?_
                      refine j_iload (pc := 118) (k0 := 5) F 7 rfl dX6_shift_118 ?_
                      obtain ⟨l15, hl15, h⟩ := ob h
                      refine j_cpL (pc := 120) F (good_of 500 (by decide +kernel) (by decide +kernel)) hl15 rfl rfl dX6_shift_120 ?_
                      refine j_iload (pc := 123) (k0 := 5) F 7 rfl dX6_shift_123 ?_
                      have g1 := Option.some.inj h
                      obtain ⟨q3, g2⟩ := Prod.mk.inj g1
                      subst q3
                      subst g2
                      exact j_iret (pc := 125) F dX6_shift_125
                    · have h := iz_f c h
                      refine j_bipush (pc := 102) F (-13) dX6_shift_102 (by decide) ?_
                      have g1 := Option.some.inj h
                      obtain ⟨q3, g2⟩ := Prod.mk.inj g1
                      subst q3
                      subst g2
                      exact j_iret (pc := 104) F dX6_shift_104
          · have h := iz_f c h
            refine j_bipush (pc := 60) F (-12) dX6_shift_60 (by decide) ?_
            have g1 := Option.some.inj h
            obtain ⟨q3, g2⟩ := Prod.mk.inj g1
            subst q3
            subst g2
            exact j_iret (pc := 62) F dX6_shift_62
        · have h := iz_t c h
          refine j_bipush (pc := 44) F (-11) dX6_shift_44 (by decide) ?_
          have g1 := Option.some.inj h
          obtain ⟨q3, g2⟩ := Prod.mk.inj g1
          subst q3
          subst g2
          exact j_iret (pc := 46) F dX6_shift_46
theorem ctX6_shift (G : GT) {sh : SH} {I : IH} {L : LH} {n : Nat} {this : Nat} {v1 : Int32} {v2 : Int32} {v3 : Int32} {v4 : Int32} {v5 : Int32} {r : Int32} {L' : LH}  (hth : isO sh 6 this) (h : fX6_shift sh I this v1 v2 v3 v4 v5 L = some (r, L')) : Ct G yX6_shift cX6_shift 8 (some .int) 2 [.ref this, .int v1, .int v2, .int v3, .int v4, .int v5] sh I L n (some (.int r)) sh I L' n 0 0 := by
  refine ct_of (y := yX6_shift) (by decide +kernel) rfl (fun X F => ?_)
  exact jbX6_shift_0 G F hth h
