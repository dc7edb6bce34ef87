/-! decompiled: X7_water, X7_floods, X7_all, X7_want, X7_serve, X7_worthNow, X7_wants, X7_worth, X7_best, X7_price, X7_part, X7_odds, X7_oddsOf, X7_divisor -/
theorem dX7_water_0 : decode cX7_water 0 = .ok (.aload_n 0, 1) := by decide +kernel
theorem dX7_water_1 : decode cX7_water 1 = .ok (.iload_n 1, 1) := by decide +kernel
theorem dX7_water_2 : decode cX7_water 2 = .ok (.invokevirtual 314, 3) := by decide +kernel
theorem dX7_water_5 : decode cX7_water 5 = .ok (.ifCond .eq 21, 3) := by decide +kernel
theorem dX7_water_8 : decode cX7_water 8 = .ok (.aload_n 0, 1) := by decide +kernel
theorem dX7_water_9 : decode cX7_water 9 = .ok (.iload_n 2, 1) := by decide +kernel
theorem dX7_water_10 : decode cX7_water 10 = .ok (.invokevirtual 291, 3) := by decide +kernel
theorem dX7_water_13 : decode cX7_water 13 = .ok (.ifCond .eq 13, 3) := by decide +kernel
theorem dX7_water_16 : decode cX7_water 16 = .ok (.aload_n 0, 1) := by decide +kernel
theorem dX7_water_17 : decode cX7_water 17 = .ok (.iload_n 3, 1) := by decide +kernel
theorem dX7_water_18 : decode cX7_water 18 = .ok (.iconst 0, 1) := by decide +kernel
theorem dX7_water_19 : decode cX7_water 19 = .ok (.iconst 4, 1) := by decide +kernel
theorem dX7_water_20 : decode cX7_water 20 = .ok (.invokevirtual 215, 3) := by decide +kernel
theorem dX7_water_23 : decode cX7_water 23 = .ok (.ifCond .ne 5, 3) := by decide +kernel
theorem dX7_water_26 : decode cX7_water 26 = .ok (.iconst (-1), 1) := by decide +kernel
theorem dX7_water_27 : decode cX7_water 27 = .ok (.ireturn, 1) := by decide +kernel
theorem dX7_water_28 : decode cX7_water 28 = .ok (.aload_n 0, 1) := by decide +kernel
theorem dX7_water_29 : decode cX7_water 29 = .ok (.invokevirtual 317, 3) := by decide +kernel
theorem dX7_water_32 : decode cX7_water 32 = .ok (.aload_n 0, 1) := by decide +kernel
theorem dX7_water_33 : decode cX7_water 33 = .ok (.invokevirtual 320, 3) := by decide +kernel
theorem dX7_water_36 : decode cX7_water 36 = .ok (.bipush 48, 2) := by decide +kernel
theorem dX7_water_38 : decode cX7_water 38 = .ok (.iload_n 1, 1) := by decide +kernel
theorem dX7_water_39 : decode cX7_water 39 = .ok (.imul, 1) := by decide +kernel
theorem dX7_water_40 : decode cX7_water 40 = .ok (.iload_n 2, 1) := by decide +kernel
theorem dX7_water_41 : decode cX7_water 41 = .ok (.iadd, 1) := by decide +kernel
theorem dX7_water_42 : decode cX7_water 42 = .ok (.istore 4, 2) := by decide +kernel
theorem dX7_water_44 : decode cX7_water 44 = .ok (.iload_n 3, 1) := by decide +kernel
theorem dX7_water_45 : decode cX7_water 45 = .ok (.tableswitch 63 0 3 #[31, 39, 47, 55], 31) := by decide +kernel
theorem dX7_water_76 : decode cX7_water 76 = .ok (.aload_n 0, 1) := by decide +kernel
theorem dX7_water_77 : decode cX7_water 77 = .ok (.getfield 114, 3) := by decide +kernel
theorem dX7_water_80 : decode cX7_water 80 = .ok (.iload 4, 2) := by decide +kernel
theorem dX7_water_82 : decode cX7_water 82 = .ok (.iaload, 1) := by decide +kernel
theorem dX7_water_83 : decode cX7_water 83 = .ok (.ireturn, 1) := by decide +kernel
theorem dX7_water_84 : decode cX7_water 84 = .ok (.aload_n 0, 1) := by decide +kernel
theorem dX7_water_85 : decode cX7_water 85 = .ok (.getfield 117, 3) := by decide +kernel
theorem dX7_water_88 : decode cX7_water 88 = .ok (.iload 4, 2) := by decide +kernel
theorem dX7_water_90 : decode cX7_water 90 = .ok (.iaload, 1) := by decide +kernel
theorem dX7_water_91 : decode cX7_water 91 = .ok (.ireturn, 1) := by decide +kernel
theorem dX7_water_92 : decode cX7_water 92 = .ok (.aload_n 0, 1) := by decide +kernel
theorem dX7_water_93 : decode cX7_water 93 = .ok (.getfield 120, 3) := by decide +kernel
theorem dX7_water_96 : decode cX7_water 96 = .ok (.iload 4, 2) := by decide +kernel
theorem dX7_water_98 : decode cX7_water 98 = .ok (.iaload, 1) := by decide +kernel
theorem dX7_water_99 : decode cX7_water 99 = .ok (.ireturn, 1) := by decide +kernel
theorem dX7_water_100 : decode cX7_water 100 = .ok (.aload_n 0, 1) := by decide +kernel
theorem dX7_water_101 : decode cX7_water 101 = .ok (.getfield 123, 3) := by decide +kernel
theorem dX7_water_104 : decode cX7_water 104 = .ok (.iload 4, 2) := by decide +kernel
theorem dX7_water_106 : decode cX7_water 106 = .ok (.iaload, 1) := by decide +kernel
theorem dX7_water_107 : decode cX7_water 107 = .ok (.ireturn, 1) := by decide +kernel
theorem dX7_water_108 : decode cX7_water 108 = .ok (.aload_n 0, 1) := by decide +kernel
theorem dX7_water_109 : decode cX7_water 109 = .ok (.getfield 126, 3) := by decide +kernel
theorem dX7_water_112 : decode cX7_water 112 = .ok (.iload 4, 2) := by decide +kernel
theorem dX7_water_114 : decode cX7_water 114 = .ok (.iaload, 1) := by decide +kernel
theorem dX7_water_115 : decode cX7_water 115 = .ok (.ireturn, 1) := by decide +kernel
def fX7_water (sh : SH) (this : Nat) (v1 : Int32) (v2 : Int32) (v3 : Int32) (I : IH) : Option (Int32 × IH) :=
  (fX7_isPlace sh I this v1).bind fun x1 =>
  if x1 = 0 then (
    some ((-1), I)) else
  if (fX7_isHour v2) = 0 then (
    some ((-1), I)) else
  if (fX7_in v3 0 4) = 0 then (
    some ((-1), I)) else
  (fX7_asIs sh this I).bind fun i2 =>
  (fX7_go sh this i2).bind fun i3 =>
  if v3 = 0 then (
    (gR sh 7 this 34).bind fun x4 =>
    (aI sh i3 0 x4 ((48 * v1) + v2)).bind fun x5 =>
    some (x5, i3)) else
  if v3 = 1 then (
    (gR sh 7 this 35).bind fun x6 =>
    (aI sh i3 0 x6 ((48 * v1) + v2)).bind fun x7 =>
    some (x7, i3)) else
  if v3 = 2 then (
    (gR sh 7 this 36).bind fun x8 =>
    (aI sh i3 0 x8 ((48 * v1) + v2)).bind fun x9 =>
    some (x9, i3)) else
  if v3 = 3 then (
    (gR sh 7 this 37).bind fun x10 =>
    (aI sh i3 0 x10 ((48 * v1) + v2)).bind fun x11 =>
    some (x11, i3)) else
  (gR sh 7 this 38).bind fun x12 =>
  (aI sh i3 0 x12 ((48 * v1) + v2)).bind fun x13 =>
  some (x13, i3)
set_option maxHeartbeats 4000000 in
set_option maxRecDepth 20000 in
theorem jbX7_water_0 (G : GT) {X : XT} {sh : SH} {L : LH} {n : Nat} {r : Int32} {I' : IH}  {this : Nat}  {v1 : Int32} {v2 : Int32} {v3 : Int32} {I : IH} (F : MF G X RX7 cX7_water 5 4 (some .int) "water") (hth : isO sh 7 this) (h : fX7_water sh this v1 v2 v3 I = some (r, I')) : J G X (QE G X (some (.int r)) sh I' L n) 5 sh I L n 0 0 0 [(0, .ref this), (1, .int v1), (2, .int v2), (3, .int v3)] [] := by
  unfold fX7_water at h
  refine j_aload_n (pc := 0) (k0 := 0) F 0 rfl dX7_water_0 ?_
  refine j_iload_n (pc := 1) (k0 := 1) F 1 rfl dX7_water_1 ?_
  obtain ⟨x1, hx1, h⟩ := ob h
  refine j_callV1 (pc := 2) (ci := 7) (As := [.int v1]) (st := []) (e1 := 0) (es1 := 0) F clX7_314 cwX7_isPlace rfl hth (ctX7_isPlace G hth hx1) rfl rfl rfl rfl rfl rfl dX7_water_2 ?_
  refine j_if_eq (pc := 5) F 26 dX7_water_5 rfl (fun c => ?_) (fun c => ?_)
  · have h := iz_t c h
    refine j_iconst (pc := 26) F (-1) dX7_water_26 (by decide) ?_
    have g1 := Option.some.inj h
    obtain ⟨q3, g2⟩ := Prod.mk.inj g1
    subst q3
    subst g2
    exact j_iret (pc := 27) F dX7_water_27
  · have h := iz_f c h
    refine j_aload_n (pc := 8) (k0 := 0) F 0 rfl dX7_water_8 ?_
    refine j_iload_n (pc := 9) (k0 := 2) F 2 rfl dX7_water_9 ?_
    refine j_callV1 (pc := 10) (ci := 7) (As := [.int v2]) (st := []) (e1 := 0) (es1 := 0) F clX7_291 cwX7_isHour rfl hth (ctX7_isHour G hth) rfl rfl rfl rfl rfl rfl dX7_water_10 ?_
    refine j_if_eq (pc := 13) F 26 dX7_water_13 rfl (fun c => ?_) (fun c => ?_)
    · have h := iz_t c h
      refine j_iconst (pc := 26) F (-1) dX7_water_26 (by decide) ?_
      have g1 := Option.some.inj h
      obtain ⟨q3, g2⟩ := Prod.mk.inj g1
      subst q3
      subst g2
      exact j_iret (pc := 27) F dX7_water_27
    · have h := iz_f c h
      refine j_aload_n (pc := 16) (k0 := 0) F 0 rfl dX7_water_16 ?_
      refine j_iload_n (pc := 17) (k0 := 3) F 3 rfl dX7_water_17 ?_
      refine j_iconst (pc := 18) F 0 dX7_water_18 (by decide) ?_
      refine j_iconst (pc := 19) F 4 dX7_water_19 (by decide) ?_
      refine j_callV1 (pc := 20) (ci := 7) (As := [.int v3, .int 0, .int 4]) (st := []) (e1 := 0) (es1 := 0) F clX7_215 cwX7_in rfl hth (ctX7_in G) rfl rfl rfl rfl rfl rfl dX7_water_20 ?_
      refine j_if_ne (pc := 23) F 28 dX7_water_23 rfl (fun c => ?_) (fun c => ?_)
      · have h := iz_f c h
        refine j_aload_n (pc := 28) (k0 := 0) F 0 rfl dX7_water_28 ?_
        obtain ⟨i2, hi2, h⟩ := ob h
        refine j_callV0 (pc := 29) (ci := 7) (As := []) (st := []) (e1 := 0) (es1 := 0) F clX7_317 cwX7_asIs rfl hth (ctX7_asIs G hth hi2) rfl rfl rfl rfl rfl rfl dX7_water_29 ?_
        refine j_aload_n (pc := 32) (k0 := 0) F 0 rfl dX7_water_32 ?_
        obtain ⟨i3, hi3, h⟩ := ob h
        refine j_callV0 (pc := 33) (ci := 7) (As := []) (st := []) (e1 := 0) (es1 := 0) F clX7_320 cwX7_go rfl hth (ctX7_go G hth hi3) rfl rfl rfl rfl rfl rfl dX7_water_33 ?_
        refine j_bipush (pc := 36) F 48 dX7_water_36 (by decide) ?_
        refine j_iload_n (pc := 38) (k0 := 1) F 1 rfl dX7_water_38 ?_
        refine j_imul (pc := 39) F dX7_water_39 ?_
        refine j_iload_n (pc := 40) (k0 := 2) F 2 rfl dX7_water_40 ?_
        refine j_iadd (pc := 41) F dX7_water_41 ?_
        refine j_istore (pc := 42) (k1 := 4) (ls' := [(4, .int ((48 * v1) + v2)), (0, .ref this), (1, .int v1), (2, .int v2), (3, .int v3)]) F rfl rfl dX7_water_42 ?_
        refine j_iload_n (pc := 44) (k0 := 3) F 4 rfl dX7_water_44 ?_
        by_cases c1 : v3 = 0
        · have h := iz_t c1 h
          refine j_tabIn (pc := 45) (k0 := 0) F 76 c1 dX7_water_45 (by decide) rfl rfl ?_
          refine j_aload_n (pc := 76) (k0 := 0) F 1 rfl dX7_water_76 ?_
          obtain ⟨x4, hx4, h⟩ := ob h
          refine j_getR (pc := 77) F flX7_114 hx4 dX7_water_77 ?_
          refine j_iload (pc := 80) (k0 := 4) F 0 rfl dX7_water_80 ?_
          obtain ⟨x5, hx5, h⟩ := ob h
          refine j_iald (pc := 82) F hx5 dX7_water_82 ?_
          have g1 := Option.some.inj h
          obtain ⟨q3, g2⟩ := Prod.mk.inj g1
          subst q3
          subst g2
          exact j_iret (pc := 83) F dX7_water_83
        have h := iz_f c1 h
        by_cases c2 : v3 = 1
        · have h := iz_t c2 h
          refine j_tabIn (pc := 45) (k0 := 1) F 84 c2 dX7_water_45 (by decide) rfl rfl ?_
          refine j_aload_n (pc := 84) (k0 := 0) F 1 rfl dX7_water_84 ?_
          obtain ⟨x6, hx6, h⟩ := ob h
          refine j_getR (pc := 85) F flX7_117 hx6 dX7_water_85 ?_
          refine j_iload (pc := 88) (k0 := 4) F 0 rfl dX7_water_88 ?_
          obtain ⟨x7, hx7, h⟩ := ob h
          refine j_iald (pc := 90) F hx7 dX7_water_90 ?_
          have g1 := Option.some.inj h
          obtain ⟨q3, g2⟩ := Prod.mk.inj g1
          subst q3
          subst g2
          exact j_iret (pc := 91) F dX7_water_91
        have h := iz_f c2 h
        by_cases c3 : v3 = 2
        · have h := iz_t c3 h
          refine j_tabIn (pc := 45) (k0 := 2) F 92 c3 dX7_water_45 (by decide) rfl rfl ?_
          refine j_aload_n (pc := 92) (k0 := 0) F 1 rfl dX7_water_92 ?_
          obtain ⟨x8, hx8, h⟩ := ob h
          refine j_getR (pc := 93) F flX7_120 hx8 dX7_water_93 ?_
          refine j_iload (pc := 96) (k0 := 4) F 0 rfl dX7_water_96 ?_
          obtain ⟨x9, hx9, h⟩ := ob h
          refine j_iald (pc := 98) F hx9 dX7_water_98 ?_
          have g1 := Option.some.inj h
          obtain ⟨q3, g2⟩ := Prod.mk.inj g1
          subst q3
          subst g2
          exact j_iret (pc := 99) F dX7_water_99
        have h := iz_f c3 h
        by_cases c4 : v3 = 3
        · have h := iz_t c4 h
          refine j_tabIn (pc := 45) (k0 := 3) F 100 c4 dX7_water_45 (by decide) rfl rfl ?_
          refine j_aload_n (pc := 100) (k0 := 0) F 1 rfl dX7_water_100 ?_
          obtain ⟨x10, hx10, h⟩ := ob h
          refine j_getR (pc := 101) F flX7_123 hx10 dX7_water_101 ?_
          refine j_iload (pc := 104) (k0 := 4) F 0 rfl dX7_water_104 ?_
          obtain ⟨x11, hx11, h⟩ := ob h
          refine j_iald (pc := 106) F hx11 dX7_water_106 ?_
          have g1 := Option.some.inj h
          obtain ⟨q3, g2⟩ := Prod.mk.inj g1
          subst q3
          subst g2
          exact j_iret (pc := 107) F dX7_water_107
        have h := iz_f c4 h
        have tc1 := lv_neT (a := 0) c1 (by decide)
        have tc2 := lv_neT (a := 1) c2 (by decide)
        have tc3 := lv_neT (a := 2) c3 (by decide)
        have tc4 := lv_neT (a := 3) c4 (by decide)
        refine j_tabOut (pc := 45) F 108 dX7_water_45 (by omega) rfl ?_
        refine j_aload_n (pc := 108) (k0 := 0) F 1 rfl dX7_water_108 ?_
        obtain ⟨x12, hx12, h⟩ := ob h
        refine j_getR (pc := 109) F flX7_126 hx12 dX7_water_109 ?_
        refine j_iload (pc := 112) (k0 := 4) F 0 rfl dX7_water_112 ?_
        obtain ⟨x13, hx13, h⟩ := ob h
        refine j_iald (pc := 114) F hx13 dX7_water_114 ?_
        have g1 := Option.some.inj h
        obtain ⟨q3, g2⟩ := Prod.mk.inj g1
        subst q3
        subst g2
        exact j_iret (pc := 115) F dX7_water_115
      · have h := iz_t c h
        refine j_iconst (pc := 26) F (-1) dX7_water_26 (by decide) ?_
        have g1 := Option.some.inj h
        obtain ⟨q3, g2⟩ := Prod.mk.inj g1
        subst q3
        subst g2
        exact j_iret (pc := 27) F dX7_water_27
theorem ctX7_water (G : GT) {sh : SH} {I : IH} {L : LH} {n : Nat} {this : Nat} {v1 : Int32} {v2 : Int32} {v3 : Int32} {r : Int32} {I' : IH}  (hth : isO sh 7 this) (h : fX7_water sh this v1 v2 v3 I = some (r, I')) : Ct G yX7_water cX7_water 5 (some .int) 4 [.ref this, .int v1, .int v2, .int v3] sh I L n (some (.int r)) sh I' L n 0 0 := by
  refine ct_of (y := yX7_water) (by decide +kernel) rfl (fun X F => ?_)
  exact jbX7_water_0 G F hth h
theorem dX7_floods_0 : decode cX7_floods 0 = .ok (.iconst 0, 1) := by decide +kernel
theorem dX7_floods_1 : decode cX7_floods 1 = .ok (.istore_n 1, 1) := by decide +kernel
theorem dX7_floods_2 : decode cX7_floods 2 = .ok (.iconst 0, 1) := by decide +kernel
theorem dX7_floods_3 : decode cX7_floods 3 = .ok (.istore_n 2, 1) := by decide +kernel
theorem dX7_floods_4 : decode cX7_floods 4 = .ok (.iload_n 2, 1) := by decide +kernel
theorem dX7_floods_5 : decode cX7_floods 5 = .ok (.bipush 48, 2) := by decide +kernel
theorem dX7_floods_7 : decode cX7_floods 7 = .ok (.aload_n 0, 1) := by decide +kernel
theorem dX7_floods_8 : decode cX7_floods 8 = .ok (.getfield 7, 3) := by decide +kernel
theorem dX7_floods_11 : decode cX7_floods 11 = .ok (.imul, 1) := by decide +kernel
theorem dX7_floods_12 : decode cX7_floods 12 = .ok (.if_icmp .ge 18, 3) := by decide +kernel
theorem dX7_floods_15 : decode cX7_floods 15 = .ok (.iload_n 1, 1) := by decide +kernel
theorem dX7_floods_16 : decode cX7_floods 16 = .ok (.aload_n 0, 1) := by decide +kernel
theorem dX7_floods_17 : decode cX7_floods 17 = .ok (.getfield 126, 3) := by decide +kernel
theorem dX7_floods_20 : decode cX7_floods 20 = .ok (.iload_n 2, 1) := by decide +kernel
theorem dX7_floods_21 : decode cX7_floods 21 = .ok (.iaload, 1) := by decide +kernel
theorem dX7_floods_22 : decode cX7_floods 22 = .ok (.iadd, 1) := by decide +kernel
theorem dX7_floods_23 : decode cX7_floods 23 = .ok (.istore_n 1, 1) := by decide +kernel
theorem dX7_floods_24 : decode cX7_floods 24 = .ok (.iinc 2 1, 3) := by decide +kernel
theorem dX7_floods_27 : decode cX7_floods 27 = .ok (.goto (-23), 3) := by decide +kernel
theorem dX7_floods_30 : decode cX7_floods 30 = .ok (.iload_n 1, 1) := by decide +kernel
theorem dX7_floods_31 : decode cX7_floods 31 = .ok (.ireturn, 1) := by decide +kernel
def fX7_floods_b4 (sh : SH) (I : IH) (this : Nat) : Nat → Int32 → Int32 → Option (Int32)
  | 0, _, _ => none
  | fuel + 1, v1, v2 =>
    (gI sh I 7 this 0).bind fun x1 =>
    if (48 * x1) ≤ v2 then (
      some v1) else
    (gR sh 7 this 38).bind fun x2 =>
    (aI sh I 0 x2 v2).bind fun x3 =>
    fX7_floods_b4 sh I this fuel (v1 + x3) (v2 + 1)
def fX7_floods (sh : SH) (I : IH) (this : Nat) : Option (Int32) :=
  fX7_floods_b4 sh I this 1000 0 0
set_option maxHeartbeats 4000000 in
set_option maxRecDepth 20000 in
theorem jbX7_floods_4 (G : GT) {X : XT} {sh : SH} {I : IH} {L : LH} {n : Nat} {r : Int32}  {this : Nat}  (F : MF G X RX7 cX7_floods 3 0 (some .int) "floods") : ∀ (fuel : Nat) (v1 : Int32) (v2 : Int32), fX7_floods_b4 sh I this fuel v1 v2 = some r → J G X (QE G X (some (.int r)) sh I L n) 3 sh I L n 0 0 4 [(0, .ref this), (1, .int v1), (2, .int v2)] []
  | 0 => by
    intros
    rename_i h
    exact absurd (show none = some _ from h) (by intro z; cases z)
  | fuel + 1 => by
    intro v1 v2 h
    rw [fX7_floods_b4] at h
    refine j_iload_n (pc := 4) (k0 := 2) F 2 rfl dX7_floods_4 ?_
    refine j_bipush (pc := 5) F 48 dX7_floods_5 (by decide) ?_
    refine j_aload_n (pc := 7) (k0 := 0) F 0 rfl dX7_floods_7 ?_
    obtain ⟨x1, hx1, h⟩ := ob h
    refine j_getI (pc := 8) F flX7_7 hx1 dX7_floods_8 ?_
    refine j_imul (pc := 11) F dX7_floods_11 ?_
    refine j_icmp_ge (pc := 12) F 30 dX7_floods_12 rfl (fun c => ?_) (fun c => ?_)
    · have h := iz_t c h
      refine j_iload_n (pc := 30) (k0 := 1) F 1 rfl dX7_floods_30 ?_
      have g1 := Option.some.inj h
      subst g1
      exact j_iret (pc := 31) F dX7_floods_31
    · have h := iz_f c h
      refine j_iload_n (pc := 15) (k0 := 1) F 1 rfl dX7_floods_15 ?_
      refine j_aload_n (pc := 16) (k0 := 0) F 0 rfl dX7_floods_16 ?_
      obtain ⟨x2, hx2, h⟩ := ob h
      refine j_getR (pc := 17) F flX7_126 hx2 dX7_floods_17 ?_
      refine j_iload_n (pc := 20) (k0 := 2) F 2 rfl dX7_floods_20 ?_
      obtain ⟨x3, hx3, h⟩ := ob h
      refine j_iald (pc := 21) F hx3 dX7_floods_21 ?_
      refine j_iadd (pc := 22) F dX7_floods_22 ?_
      refine j_istore_n (pc := 23) (k1 := 1) (ls' := [(1, .int (v1 + x3)), (0, .ref this), (2, .int v2)]) F rfl rfl rfl dX7_floods_23 ?_
      refine j_iinc (pc := 24) (k1 := 2) (ls' := [(2, .int (v2 + 1)), (1, .int (v1 + x3)), (0, .ref this)]) F (v2 + 1) 2 rfl rfl rfl rfl dX7_floods_24 ?_
      refine j_goto (pc := 27) F 4 dX7_floods_27 rfl ?_
      refine j_sub [2, 1, 0] rfl ?_
      exact jbX7_floods_4 G F fuel _ _ h
set_option maxHeartbeats 4000000 in
set_option maxRecDepth 20000 in
theorem jbX7_floods_0 (G : GT) {X : XT} {sh : SH} {I : IH} {L : LH} {n : Nat} {r : Int32}  {this : Nat}   (F : MF G X RX7 cX7_floods 3 0 (some .int) "floods") (h : fX7_floods sh I this  = some r) : J G X (QE G X (some (.int r)) sh I L n) 3 sh I L n 0 0 0 [(0, .ref this)] [] := by
  unfold fX7_floods at h
  refine j_iconst (pc := 0) F 0 dX7_floods_0 (by decide) ?_
  refine j_istore_n (pc := 1) (k1 := 1) (ls' := [(1, .int 0), (0, .ref this)]) F rfl rfl rfl dX7_floods_1 ?_
  refine j_iconst (pc := 2) F 0 dX7_floods_2 (by decide) ?_
  refine j_istore_n (pc := 3) (k1 := 2) (ls' := [(2, .int 0), (1, .int 0), (0, .ref this)]) F rfl rfl rfl dX7_floods_3 ?_
  refine j_sub [2, 1, 0] rfl ?_
  exact jbX7_floods_4 G F 1000 _ _ h
theorem ctX7_floods (G : GT) {sh : SH} {I : IH} {L : LH} {n : Nat} {this : Nat} {r : Int32}  (h : fX7_floods sh I this = some r) : Ct G yX7_floods cX7_floods 3 (some .int) 0 [.ref this] sh I L n (some (.int r)) sh I L n 0 0 := by
  refine ct_of (y := yX7_floods) (by decide +kernel) rfl (fun X F => ?_)
  exact jbX7_floods_0 G F h
theorem dX7_all_0 : decode cX7_all 0 = .ok (.aload_n 0, 1) := by decide +kernel
theorem dX7_all_1 : decode cX7_all 1 = .ok (.iload_n 1, 1) := by decide +kernel
theorem dX7_all_2 : decode cX7_all 2 = .ok (.iconst 0, 1) := by decide +kernel
theorem dX7_all_3 : decode cX7_all 3 = .ok (.iconst 3, 1) := by decide +kernel
theorem dX7_all_4 : decode cX7_all 4 = .ok (.invokevirtual 215, 3) := by decide +kernel
theorem dX7_all_7 : decode cX7_all 7 = .ok (.ifCond .ne 5, 3) := by decide +kernel
theorem dX7_all_10 : decode cX7_all 10 = .ok (.iconst (-1), 1) := by decide +kernel
theorem dX7_all_11 : decode cX7_all 11 = .ok (.ireturn, 1) := by decide +kernel
theorem dX7_all_12 : decode cX7_all 12 = .ok (.aload_n 0, 1) := by decide +kernel
theorem dX7_all_13 : decode cX7_all 13 = .ok (.invokevirtual 317, 3) := by decide +kernel
theorem dX7_all_16 : decode cX7_all 16 = .ok (.aload_n 0, 1) := by decide +kernel
theorem dX7_all_17 : decode cX7_all 17 = .ok (.invokevirtual 320, 3) := by decide +kernel
theorem dX7_all_20 : decode cX7_all 20 = .ok (.iload_n 1, 1) := by decide +kernel
theorem dX7_all_21 : decode cX7_all 21 = .ok (.iconst 2, 1) := by decide +kernel
theorem dX7_all_22 : decode cX7_all 22 = .ok (.if_icmp .ne 8, 3) := by decide +kernel
theorem dX7_all_25 : decode cX7_all 25 = .ok (.aload_n 0, 1) := by decide +kernel
theorem dX7_all_26 : decode cX7_all 26 = .ok (.invokevirtual 323, 3) := by decide +kernel
theorem dX7_all_29 : decode cX7_all 29 = .ok (.ireturn, 1) := by decide +kernel
theorem dX7_all_30 : decode cX7_all 30 = .ok (.iconst 0, 1) := by decide +kernel
theorem dX7_all_31 : decode cX7_all 31 = .ok (.istore_n 2, 1) := by decide +kernel
theorem dX7_all_32 : decode cX7_all 32 = .ok (.iconst 0, 1) := by decide +kernel
theorem dX7_all_33 : decode cX7_all 33 = .ok (.istore_n 3, 1) := by decide +kernel
theorem dX7_all_34 : decode cX7_all 34 = .ok (.iload_n 3, 1) := by decide +kernel
theorem dX7_all_35 : decode cX7_all 35 = .ok (.iload_n 1, 1) := by decide +kernel
theorem dX7_all_36 : decode cX7_all 36 = .ok (.iconst 1, 1) := by decide +kernel
theorem dX7_all_37 : decode cX7_all 37 = .ok (.if_icmp .ne 13, 3) := by decide +kernel
theorem dX7_all_40 : decode cX7_all 40 = .ok (.bipush 48, 2) := by decide +kernel
theorem dX7_all_42 : decode cX7_all 42 = .ok (.aload_n 0, 1) := by decide +kernel
theorem dX7_all_43 : decode cX7_all 43 = .ok (.getfield 7, 3) := by decide +kernel
theorem dX7_all_46 : decode cX7_all 46 = .ok (.imul, 1) := by decide +kernel
theorem dX7_all_47 : decode cX7_all 47 = .ok (.goto 5, 3) := by decide +kernel
theorem dX7_all_50 : decode cX7_all 50 = .ok (.bipush 48, 2) := by decide +kernel
theorem dX7_all_52 : decode cX7_all 52 = .ok (.if_icmp .ge 56, 3) := by decide +kernel
theorem dX7_all_55 : decode cX7_all 55 = .ok (.iload_n 2, 1) := by decide +kernel
theorem dX7_all_56 : decode cX7_all 56 = .ok (.iload_n 1, 1) := by decide +kernel
theorem dX7_all_57 : decode cX7_all 57 = .ok (.ifCond .ne 12, 3) := by decide +kernel
theorem dX7_all_60 : decode cX7_all 60 = .ok (.aload_n 0, 1) := by decide +kernel
theorem dX7_all_61 : decode cX7_all 61 = .ok (.getfield 93, 3) := by decide +kernel
theorem dX7_all_64 : decode cX7_all 64 = .ok (.iload_n 3, 1) := by decide +kernel
theorem dX7_all_65 : decode cX7_all 65 = .ok (.iaload, 1) := by decide +kernel
theorem dX7_all_66 : decode cX7_all 66 = .ok (.goto 34, 3) := by decide +kernel
theorem dX7_all_69 : decode cX7_all 69 = .ok (.iload_n 1, 1) := by decide +kernel
theorem dX7_all_70 : decode cX7_all 70 = .ok (.iconst 1, 1) := by decide +kernel
theorem dX7_all_71 : decode cX7_all 71 = .ok (.if_icmp .ne 12, 3) := by decide +kernel
theorem dX7_all_74 : decode cX7_all 74 = .ok (.aload_n 0, 1) := by decide +kernel
theorem dX7_all_75 : decode cX7_all 75 = .ok (.getfield 117, 3) := by decide +kernel
theorem dX7_all_78 : decode cX7_all 78 = .ok (.iload_n 3, 1) := by decide +kernel
theorem dX7_all_79 : decode cX7_all 79 = .ok (.iaload, 1) := by decide +kernel
theorem dX7_all_80 : decode cX7_all 80 = .ok (.goto 20, 3) := by decide +kernel
theorem dX7_all_83 : decode cX7_all 83 = .ok (.aload_n 0, 1) := by decide +kernel
theorem dX7_all_84 : decode cX7_all 84 = .ok (.getfield 120, 3) := by decide +kernel
theorem dX7_all_87 : decode cX7_all 87 = .ok (.bipush 48, 2) := by decide +kernel
theorem dX7_all_89 : decode cX7_all 89 = .ok (.aload_n 0, 1) := by decide +kernel
theorem dX7_all_90 : decode cX7_all 90 = .ok (.getfield 7, 3) := by decide +kernel
theorem dX7_all_93 : decode cX7_all 93 = .ok (.imul, 1) := by decide +kernel
theorem dX7_all_94 : decode cX7_all 94 = .ok (.bipush 48, 2) := by decide +kernel
theorem dX7_all_96 : decode cX7_all 96 = .ok (.isub, 1) := by decide +kernel
theorem dX7_all_97 : decode cX7_all 97 = .ok (.iload_n 3, 1) := by decide +kernel
theorem dX7_all_98 : decode cX7_all 98 = .ok (.iadd, 1) := by decide +kernel
theorem dX7_all_99 : decode cX7_all 99 = .ok (.iaload, 1) := by decide +kernel
theorem dX7_all_100 : decode cX7_all 100 = .ok (.iadd, 1) := by decide +kernel
theorem dX7_all_101 : decode cX7_all 101 = .ok (.istore_n 2, 1) := by decide +kernel
theorem dX7_all_102 : decode cX7_all 102 = .ok (.iinc 3 1, 3) := by decide +kernel
theorem dX7_all_105 : decode cX7_all 105 = .ok (.goto (-71), 3) := by decide +kernel
theorem dX7_all_108 : decode cX7_all 108 = .ok (.iload_n 2, 1) := by decide +kernel
theorem dX7_all_109 : decode cX7_all 109 = .ok (.ireturn, 1) := by decide +kernel
def fX7_all_b52 (sh : SH) (this : Nat) (k34 : (Int32 → Int32 → Int32 → IH → Option (Int32 × IH))) (v1 : Int32) (v2 : Int32) (v3 : Int32) (s0 : Int32) (s1 : Int32) (I : IH) : Option (Int32 × IH) :=
  if s1 ≤ s0 then (
    some (v2, I)) else
  if v1 = 0 then (
    (gR sh 7 this 27).bind fun x6 =>
    (aI sh I 0 x6 v3).bind fun x7 =>
    k34 v1 (v2 + x7) (v3 + 1) I) else
  if v1 = 1 then (
    (gR sh 7 this 35).bind fun x4 =>
    (aI sh I 0 x4 v3).bind fun x5 =>
    k34 v1 (v2 + x5) (v3 + 1) I) else
  (gR sh 7 this 36).bind fun x1 =>
  (gI sh I 7 this 0).bind fun x2 =>
  (aI sh I 0 x1 (((48 * x2) - 48) + v3)).bind fun x3 =>
  k34 v1 (v2 + x3) (v3 + 1) I
def fX7_all_b34 (sh : SH) (this : Nat) : Nat → Int32 → Int32 → Int32 → IH → Option (Int32 × IH)
  | 0, _, _, _, _ => none
  | fuel + 1, v1, v2, v3, I =>
    if v1 = 1 then (
      (gI sh I 7 this 0).bind fun x1 =>
      fX7_all_b52 sh this (fX7_all_b34 sh this fuel) v1 v2 v3 v3 (48 * x1) I) else
    fX7_all_b52 sh this (fX7_all_b34 sh this fuel) v1 v2 v3 v3 48 I
def fX7_all (sh : SH) (this : Nat) (v1 : Int32) (I : IH) : Option (Int32 × IH) :=
  if (fX7_in v1 0 3) = 0 then (
    some ((-1), I)) else
  (fX7_asIs sh this I).bind fun i1 =>
  (fX7_go sh this i1).bind fun i2 =>
  if v1 = 2 then (
    (fX7_floods sh i2 this).bind fun x3 =>
    some (x3, i2)) else
  fX7_all_b34 sh this 1000 v1 0 0 i2
set_option maxHeartbeats 4000000 in
set_option maxRecDepth 20000 in
theorem jbX7_all_52 (G : GT) {X : XT} {sh : SH} {L : LH} {n : Nat} {r : Int32} {I' : IH}  {this : Nat} {k34 : (Int32 → Int32 → Int32 → IH → Option (Int32 × IH))} {v1 : Int32} {v2 : Int32} {v3 : Int32} {s0 : Int32} {s1 : Int32} {I : IH} (F : MF G X RX7 cX7_all 4 4 (some .int) "all") (hth : isO sh 7 this)
    (hk34 : ∀ {v1 : Int32} {v2 : Int32} {v3 : Int32} {I : IH}, k34 v1 v2 v3 I = some (r, I') → J G X (QE G X (some (.int r)) sh I' L n) 4 sh I L n 0 0 34 [(0, .ref this), (1, .int v1), (2, .int v2), (3, .int v3)] []) (h : fX7_all_b52 sh this k34 v1 v2 v3 s0 s1 I = some (r, I')) : J G X (QE G X (some (.int r)) sh I' L n) 4 sh I L n 0 0 52 [(0, .ref this), (1, .int v1), (2, .int v2), (3, .int v3)] [.int s1, .int s0] := by
  unfold fX7_all_b52 at h
  refine j_icmp_ge (pc := 52) F 108 dX7_all_52 rfl (fun c => ?_) (fun c => ?_)
  · have h := iz_t c h
    refine j_iload_n (pc := 108) (k0 := 2) F 2 rfl dX7_all_108 ?_
    have g1 := Option.some.inj h
    obtain ⟨q3, g2⟩ := Prod.mk.inj g1
    subst q3
    subst g2
    exact j_iret (pc := 109) F dX7_all_109
  · have h := iz_f c h
    refine j_iload_n (pc := 55) (k0 := 2) F 2 rfl dX7_all_55 ?_
    refine j_iload_n (pc := 56) (k0 := 1) F 1 rfl dX7_all_56 ?_
    refine j_if_ne (pc := 57) F 69 dX7_all_57 rfl (fun c => ?_) (fun c => ?_)
    · have h := iz_f c h
      refine j_iload_n (pc := 69) (k0 := 1) F 1 rfl dX7_all_69 ?_
      refine j_iconst (pc := 70) F 1 dX7_all_70 (by decide) ?_
      refine j_icmp_ne (pc := 71) F 83 dX7_all_71 rfl (fun c => ?_) (fun c => ?_)
      · have h := iz_f c h
        refine j_aload_n (pc := 83) (k0 := 0) F 0 rfl dX7_all_83 ?_
        obtain ⟨x1, hx1, h⟩ := ob h
        refine j_getR (pc := 84) F flX7_120 hx1 dX7_all_84 ?_
        refine j_bipush (pc := 87) F 48 dX7_all_87 (by decide) ?_
        refine j_aload_n (pc := 89) (k0 := 0) F 0 rfl dX7_all_89 ?_
        obtain ⟨x2, hx2, h⟩ := ob h
        refine j_getI (pc := 90) F flX7_7 hx2 dX7_all_90 ?_
        refine j_imul (pc := 93) F dX7_all_93 ?_
        refine j_bipush (pc := 94) F 48 dX7_all_94 (by decide) ?_
        refine j_isub (pc := 96) F dX7_all_96 ?_
        refine j_iload_n (pc := 97) (k0 := 3) F 3 rfl dX7_all_97 ?_
        refine j_iadd (pc := 98) F dX7_all_98 ?_
        obtain ⟨x3, hx3, h⟩ := ob h
        refine j_iald (pc := 99) F hx3 dX7_all_99 ?_
        refine j_iadd (pc := 100) F dX7_all_100 ?_
        refine j_istore_n (pc := 101) (k1 := 2) (ls' := [(2, .int (v2 + x3)), (0, .ref this), (1, .int v1), (3, .int v3)]) F rfl rfl rfl dX7_all_101 ?_
        refine j_iinc (pc := 102) (k1 := 3) (ls' := [(3, .int (v3 + 1)), (2, .int (v2 + x3)), (0, .ref this), (1, .int v1)]) F (v3 + 1) 3 rfl rfl rfl rfl dX7_all_102 ?_
        refine j_goto (pc := 105) F 34 dX7_all_105 rfl ?_
        refine j_sub [2, 3, 1, 0] rfl ?_
        exact hk34 h
      · have h := iz_t c h
        refine j_aload_n (pc := 74) (k0 := 0) F 0 rfl dX7_all_74 ?_
        obtain ⟨x4, hx4, h⟩ := ob h
        refine j_getR (pc := 75) F flX7_117 hx4 dX7_all_75 ?_
        refine j_iload_n (pc := 78) (k0 := 3) F 3 rfl dX7_all_78 ?_
        obtain ⟨x5, hx5, h⟩ := ob h
        refine j_iald (pc := 79) F hx5 dX7_all_79 ?_
        refine j_goto (pc := 80) F 100 dX7_all_80 rfl ?_
        refine j_iadd (pc := 100) F dX7_all_100 ?_
        refine j_istore_n (pc := 101) (k1 := 2) (ls' := [(2, .int (v2 + x5)), (0, .ref this), (1, .int v1), (3, .int v3)]) F rfl rfl rfl dX7_all_101 ?_
        refine j_iinc (pc := 102) (k1 := 3) (ls' := [(3, .int (v3 + 1)), (2, .int (v2 + x5)), (0, .ref this), (1, .int v1)]) F (v3 + 1) 3 rfl rfl rfl rfl dX7_all_102 ?_
        refine j_goto (pc := 105) F 34 dX7_all_105 rfl ?_
        refine j_sub [2, 3, 1, 0] rfl ?_
        exact hk34 h
    · have h := iz_t c h
      refine j_aload_n (pc := 60) (k0 := 0) F 0 rfl dX7_all_60 ?_
      obtain ⟨x6, hx6, h⟩ := ob h
      refine j_getR (pc := 61) F flX7_93 hx6 dX7_all_61 ?_
      refine j_iload_n (pc := 64) (k0 := 3) F 3 rfl dX7_all_64 ?_
      obtain ⟨x7, hx7, h⟩ := ob h
      refine j_iald (pc := 65) F hx7 dX7_all_65 ?_
      refine j_goto (pc := 66) F 100 dX7_all_66 rfl ?_
      refine j_iadd (pc := 100) F dX7_all_100 ?_
      refine j_istore_n (pc := 101) (k1 := 2) (ls' := [(2, .int (v2 + x7)), (0, .ref this), (1, .int v1), (3, .int v3)]) F rfl rfl rfl dX7_all_101 ?_
      refine j_iinc (pc := 102) (k1 := 3) (ls' := [(3, .int (v3 + 1)), (2, .int (v2 + x7)), (0, .ref this), (1, .int v1)]) F (v3 + 1) 3 rfl rfl rfl rfl dX7_all_102 ?_
      refine j_goto (pc := 105) F 34 dX7_all_105 rfl ?_
      refine j_sub [2, 3, 1, 0] rfl ?_
      exact hk34 h
set_option maxHeartbeats 4000000 in
set_option maxRecDepth 20000 in
theorem jbX7_all_34 (G : GT) {X : XT} {sh : SH} {L : LH} {n : Nat} {r : Int32} {I' : IH}  {this : Nat}  (F : MF G X RX7 cX7_all 4 4 (some .int) "all") (hth : isO sh 7 this) : ∀ (fuel : Nat) (v1 : Int32) (v2 : Int32) (v3 : Int32) (I : IH), fX7_all_b34 sh this fuel v1 v2 v3 I = some (r, I') → J G X (QE G X (some (.int r)) sh I' L n) 4 sh I L n 0 0 34 [(0, .ref this), (1, .int v1), (2, .int v2), (3, .int v3)] []
  | 0 => by
    intros
    rename_i h
    exact absurd (show none = some _ from h) (by intro z; cases z)
  | fuel + 1 => by
    intro v1 v2 v3 I h
    rw [fX7_all_b34] at h
    refine j_iload_n (pc := 34) (k0 := 3) F 3 rfl dX7_all_34 ?_
    refine j_iload_n (pc := 35) (k0 := 1) F 1 rfl dX7_all_35 ?_
    refine j_iconst (pc := 36) F 1 dX7_all_36 (by decide) ?_
    refine j_icmp_ne (pc := 37) F 50 dX7_all_37 rfl (fun c => ?_) (fun c => ?_)
    · have h := iz_f c h
      refine j_bipush (pc := 50) F 48 dX7_all_50 (by decide) ?_
      exact jbX7_all_52 G F hth (fun h => jbX7_all_34 G F hth fuel _ _ _ _ h) h
    · have h := iz_t c h
      refine j_bipush (pc := 40) F 48 dX7_all_40 (by decide) ?_
      refine j_aload_n (pc := 42) (k0 := 0) F 0 rfl dX7_all_42 ?_
      obtain ⟨x1, hx1, h⟩ := ob h
      refine j_getI (pc := 43) F flX7_7 hx1 dX7_all_43 ?_
      refine j_imul (pc := 46) F dX7_all_46 ?_
      refine j_goto (pc := 47) F 52 dX7_all_47 rfl ?_
      exact jbX7_all_52 G F hth (fun h => jbX7_all_34 G F hth fuel _ _ _ _ h) h
set_option maxHeartbeats 4000000 in
set_option maxRecDepth 20000 in
theorem jbX7_all_0 (G : GT) {X : XT} {sh : SH} {L : LH} {n : Nat} {r : Int32} {I' : IH}  {this : Nat}  {v1 : Int32} {I : IH} (F : MF G X RX7 cX7_all 4 4 (some .int) "all") (hth : isO sh 7 this) (h : fX7_all sh this v1 I = some (r, I')) : J G X (QE G X (some (.int r)) sh I' L n) 4 sh I L n 0 0 0 [(0, .ref this), (1, .int v1)] [] := by
  unfold fX7_all at h
  refine j_aload_n (pc := 0) (k0 := 0) F 0 rfl dX7_all_0 ?_
  refine j_iload_n (pc := 1) (k0 := 1) F 1 rfl dX7_all_1 ?_
  refine j_iconst (pc := 2) F 0 dX7_all_2 (by decide) ?_
  refine j_iconst (pc := 3) F 3 dX7_all_3 (by decide) ?_
  refine j_callV1 (pc := 4) (ci := 7) (As := [.int v1, .int 0, .int 3]) (st := []) (e1 := 0) (es1 := 0) F clX7_215 cwX7_in rfl hth (ctX7_in G) rfl rfl rfl rfl rfl rfl dX7_all_4 ?_
  refine j_if_ne (pc := 7) F 12 dX7_all_7 rfl (fun c => ?_) (fun c => ?_)
  · have h := iz_f c h
    refine j_aload_n (pc := 12) (k0 := 0) F 0 rfl dX7_all_12 ?_
    obtain ⟨i1, hi1, h⟩ := ob h
    refine j_callV0 (pc := 13) (ci := 7) (As := []) (st := []) (e1 := 0) (es1 := 0) F clX7_317 cwX7_asIs rfl hth (ctX7_asIs G hth hi1) rfl rfl rfl rfl rfl rfl dX7_all_13 ?_
    refine j_aload_n (pc := 16) (k0 := 0) F 0 rfl dX7_all_16 ?_
    obtain ⟨i2, hi2, h⟩ := ob h
    refine j_callV0 (pc := 17) (ci := 7) (As := []) (st := []) (e1 := 0) (es1 := 0) F clX7_320 cwX7_go rfl hth (ctX7_go G hth hi2) rfl rfl rfl rfl rfl rfl dX7_all_17 ?_
    refine j_iload_n (pc := 20) (k0 := 1) F 1 rfl dX7_all_20 ?_
    refine j_iconst (pc := 21) F 2 dX7_all_21 (by decide) ?_
    refine j_icmp_ne (pc := 22) F 30 dX7_all_22 rfl (fun c => ?_) (fun c => ?_)
    · have h := iz_f c h
      refine j_iconst (pc := 30) F 0 dX7_all_30 (by decide) ?_
      refine j_istore_n (pc := 31) (k1 := 2) (ls' := [(2, .int 0), (0, .ref this), (1, .int v1)]) F rfl rfl rfl dX7_all_31 ?_
      refine j_iconst (pc := 32) F 0 dX7_all_32 (by decide) ?_
      refine j_istore_n (pc := 33) (k1 := 3) (ls' := [(3, .int 0), (2, .int 0), (0, .ref this), (1, .int v1)]) F rfl rfl rfl dX7_all_33 ?_
      refine j_sub [2, 3, 1, 0] rfl ?_
      exact jbX7_all_34 G F hth 1000 _ _ _ _ h
    · have h := iz_t c h
      refine j_aload_n (pc := 25) (k0 := 0) F 0 rfl dX7_all_25 ?_
      obtain ⟨x3, hx3, h⟩ := ob h
      refine j_callV1 (pc := 26) (ci := 7) (As := []) (st := []) (e1 := 0) (es1 := 0) F clX7_323 cwX7_floods rfl hth (ctX7_floods G hx3) rfl rfl rfl rfl rfl rfl dX7_all_26 ?_
      have g1 := Option.some.inj h
      obtain ⟨q3, g2⟩ := Prod.mk.inj g1
      subst q3
      subst g2
      exact j_iret (pc := 29) F dX7_all_29
  · have h := iz_t c h
    refine j_iconst (pc := 10) F (-1) dX7_all_10 (by decide) ?_
    have g1 := Option.some.inj h
    obtain ⟨q3, g2⟩ := Prod.mk.inj g1
    subst q3
    subst g2
    exact j_iret (pc := 11) F dX7_all_11
theorem ctX7_all (G : GT) {sh : SH} {I : IH} {L : LH} {n : Nat} {this : Nat} {v1 : Int32} {r : Int32} {I' : IH}  (hth : isO sh 7 this) (h : fX7_all sh this v1 I = some (r, I')) : Ct G yX7_all cX7_all 4 (some .int) 4 [.ref this, .int v1] sh I L n (some (.int r)) sh I' L n 0 0 := by
  refine ct_of (y := yX7_all) (by decide +kernel) rfl (fun X F => ?_)
  exact jbX7_all_0 G F hth h
theorem dX7_want_0 : decode cX7_want 0 = .ok (.aload_n 0, 1) := by decide +kernel
theorem dX7_want_1 : decode cX7_want 1 = .ok (.iload_n 1, 1) := by decide +kernel
theorem dX7_want_2 : decode cX7_want 2 = .ok (.invokevirtual 219, 3) := by decide +kernel
theorem dX7_want_5 : decode cX7_want 5 = .ok (.ifCond .eq 11, 3) := by decide +kernel
theorem dX7_want_8 : decode cX7_want 8 = .ok (.aload_n 0, 1) := by decide +kernel
theorem dX7_want_9 : decode cX7_want 9 = .ok (.iload_n 2, 1) := by decide +kernel
theorem dX7_want_10 : decode cX7_want 10 = .ok (.invokevirtual 291, 3) := by decide +kernel
theorem dX7_want_13 : decode cX7_want 13 = .ok (.ifCond .ne 5, 3) := by decide +kernel
theorem dX7_want_16 : decode cX7_want 16 = .ok (.iconst (-1), 1) := by decide +kernel
theorem dX7_want_17 : decode cX7_want 17 = .ok (.ireturn, 1) := by decide +kernel
theorem dX7_want_18 : decode cX7_want 18 = .ok (.aload_n 0, 1) := by decide +kernel
theorem dX7_want_19 : decode cX7_want 19 = .ok (.iload_n 3, 1) := by decide +kernel
theorem dX7_want_20 : decode cX7_want 20 = .ok (.iconst 1, 1) := by decide +kernel
theorem dX7_want_21 : decode cX7_want 21 = .ok (.bipush 30, 2) := by decide +kernel
theorem dX7_want_23 : decode cX7_want 23 = .ok (.invokevirtual 215, 3) := by decide +kernel
theorem dX7_want_26 : decode cX7_want 26 = .ok (.ifCond .eq 15, 3) := by decide +kernel
theorem dX7_want_29 : decode cX7_want 29 = .ok (.aload_n 0, 1) := by decide +kernel
theorem dX7_want_30 : decode cX7_want 30 = .ok (.iload 4, 2) := by decide +kernel
theorem dX7_want_32 : decode cX7_want 32 = .ok (.iconst 1, 1) := by decide +kernel
theorem dX7_want_33 : decode cX7_want 33 = .ok (.bipush 9, 2) := by decide +kernel
theorem dX7_want_35 : decode cX7_want 35 = .ok (.invokevirtual 215, 3) := by decide +kernel
theorem dX7_want_38 : decode cX7_want 38 = .ok (.ifCond .ne 6, 3) := by decide +kernel
theorem dX7_want_41 : decode cX7_want 41 = .ok (.bipush (-2), 2) := by decide +kernel
theorem dX7_want_43 : decode cX7_want 43 = .ok (.ireturn, 1) := by decide +kernel
theorem dX7_want_44 : decode cX7_want 44 = .ok (.aload_n 0, 1) := by decide +kernel
theorem dX7_want_45 : decode cX7_want 45 = .ok (.getfield 129, 3) := by decide +kernel
theorem dX7_want_48 : decode cX7_want 48 = .ok (.bipush 10, 2) := by decide +kernel
theorem dX7_want_50 : decode cX7_want 50 = .ok (.if_icmp .ne 6, 3) := by decide +kernel
theorem dX7_want_53 : decode cX7_want 53 = .ok (.bipush (-4), 2) := by decide +kernel
theorem dX7_want_55 : decode cX7_want 55 = .ok (.ireturn, 1) := by decide +kernel
theorem dX7_want_56 : decode cX7_want 56 = .ok (.aload_n 0, 1) := by decide +kernel
theorem dX7_want_57 : decode cX7_want 57 = .ok (.getfield 132, 3) := by decide +kernel
theorem dX7_want_60 : decode cX7_want 60 = .ok (.aload_n 0, 1) := by decide +kernel
theorem dX7_want_61 : decode cX7_want 61 = .ok (.getfield 129, 3) := by decide +kernel
theorem dX7_want_64 : decode cX7_want 64 = .ok (.iload_n 1, 1) := by decide +kernel
theorem dX7_want_65 : decode cX7_want 65 = .ok (.iastore, 1) := by decide +kernel
theorem dX7_want_66 : decode cX7_want 66 = .ok (.aload_n 0, 1) := by decide +kernel
theorem dX7_want_67 : decode cX7_want 67 = .ok (.getfield 135, 3) := by decide +kernel
theorem dX7_want_70 : decode cX7_want 70 = .ok (.aload_n 0, 1) := by decide +kernel
theorem dX7_want_71 : decode cX7_want 71 = .ok (.getfield 129, 3) := by decide +kernel
theorem dX7_want_74 : decode cX7_want 74 = .ok (.iload_n 2, 1) := by decide +kernel
theorem dX7_want_75 : decode cX7_want 75 = .ok (.iastore, 1) := by decide +kernel
theorem dX7_want_76 : decode cX7_want 76 = .ok (.aload_n 0, 1) := by decide +kernel
theorem dX7_want_77 : decode cX7_want 77 = .ok (.getfield 138, 3) := by decide +kernel
theorem dX7_want_80 : decode cX7_want 80 = .ok (.aload_n 0, 1) := by decide +kernel
theorem dX7_want_81 : decode cX7_want 81 = .ok (.getfield 129, 3) := by decide +kernel
theorem dX7_want_84 : decode cX7_want 84 = .ok (.iload_n 3, 1) := by decide +kernel
theorem dX7_want_85 : decode cX7_want 85 = .ok (.iastore, 1) := by decide +kernel
theorem dX7_want_86 : decode cX7_want 86 = .ok (.aload_n 0, 1) := by decide +kernel
theorem dX7_want_87 : decode cX7_want 87 = .ok (.getfield 141, 3) := by decide +kernel
theorem dX7_want_90 : decode cX7_want 90 = .ok (.aload_n 0, 1) := by decide +kernel
theorem dX7_want_91 : decode cX7_want 91 = .ok (.getfield 129, 3) := by decide +kernel
theorem dX7_want_94 : decode cX7_want 94 = .ok (.iload 4, 2) := by decide +kernel
theorem dX7_want_96 : decode cX7_want 96 = .ok (.iastore, 1) := by decide +kernel
theorem dX7_want_97 : decode cX7_want 97 = .ok (.aload_n 0, 1) := by decide +kernel
theorem dX7_want_98 : decode cX7_want 98 = .ok (.dup, 1) := by decide +kernel
theorem dX7_want_99 : decode cX7_want 99 = .ok (.getfield 129, 3) := by decide +kernel
theorem dX7_want_102 : decode cX7_want 102 = .ok (.iconst 1, 1) := by decide +kernel
theorem dX7_want_103 : decode cX7_want 103 = .ok (.iadd, 1) := by decide +kernel
theorem dX7_want_104 : decode cX7_want 104 = .ok (.putfield 129, 3) := by decide +kernel
theorem dX7_want_107 : decode cX7_want 107 = .ok (.aload_n 0, 1) := by decide +kernel
theorem dX7_want_108 : decode cX7_want 108 = .ok (.getfield 129, 3) := by decide +kernel
theorem dX7_want_111 : decode cX7_want 111 = .ok (.iconst 1, 1) := by decide +kernel
theorem dX7_want_112 : decode cX7_want 112 = .ok (.isub, 1) := by decide +kernel
theorem dX7_want_113 : decode cX7_want 113 = .ok (.ireturn, 1) := by decide +kernel
def fX7_want (sh : SH) (this : Nat) (v1 : Int32) (v2 : Int32) (v3 : Int32) (v4 : Int32) (I : IH) : Option (Int32 × IH) :=
  if (fX7_isGate v1) = 0 then (
    some ((-1), I)) else
  if (fX7_isHour v2) = 0 then (
    some ((-1), I)) else
  if (fX7_in v3 1 30) = 0 then (
    some ((-2), I)) else
  if (fX7_in v4 1 9) = 0 then (
    some ((-2), I)) else
  (gI sh I 7 this 39).bind fun x1 =>
  if x1 = 10 then (
    some ((-4), I)) else
  (gR sh 7 this 40).bind fun x2 =>
  (gI sh I 7 this 39).bind fun x3 =>
  (sI sh I x2 x3 v1).bind fun i4 =>
  (gR sh 7 this 41).bind fun x5 =>
  (gI sh i4 7 this 39).bind fun x6 =>
  (sI sh i4 x5 x6 v2).bind fun i7 =>
  (gR sh 7 this 42).bind fun x8 =>
  (gI sh i7 7 this 39).bind fun x9 =>
  (sI sh i7 x8 x9 v3).bind fun i10 =>
  (gR sh 7 this 43).bind fun x11 =>
  (gI sh i10 7 this 39).bind fun x12 =>
  (sI sh i10 x11 x12 v4).bind fun i13 =>
  (gI sh i13 7 this 39).bind fun x14 =>
  (pI sh i13 7 this 39 (x14 + 1)).bind fun i15 =>
  (gI sh i15 7 this 39).bind fun x16 =>
  some ((x16 - 1), i15)
set_option maxHeartbeats 4000000 in
set_option maxRecDepth 20000 in
theorem jbX7_want_0 (G : GT) {X : XT} {sh : SH} {L : LH} {n : Nat} {r : Int32} {I' : IH}  {this : Nat}  {v1 : Int32} {v2 : Int32} {v3 : Int32} {v4 : Int32} {I : IH} (F : MF G X RX7 cX7_want 5 2 (some .int) "want") (hth : isO sh 7 this) (h : fX7_want sh this v1 v2 v3 v4 I = some (r, I')) : J G X (QE G X (some (.int r)) sh I' L n) 5 sh I L n 0 0 0 [(0, .ref this), (1, .int v1), (2, .int v2), (3, .int v3), (4, .int v4)] [] := by
  unfold fX7_want at h
  refine j_aload_n (pc := 0) (k0 := 0) F 0 rfl dX7_want_0 ?_
  refine j_iload_n (pc := 1) (k0 := 1) F 1 rfl dX7_want_1 ?_
  refine j_callV1 (pc := 2) (ci := 7) (As := [.int v1]) (st := []) (e1 := 0) (es1 := 0) F clX7_219 cwX7_isGate rfl hth (ctX7_isGate G hth) rfl rfl rfl rfl rfl rfl dX7_want_2 ?_
  refine j_if_eq (pc := 5) F 16 dX7_want_5 rfl (fun c => ?_) (fun c => ?_)
  · have h := iz_t c h
    refine j_iconst (pc := 16) F (-1) dX7_want_16 (by decide) ?_
    have g1 := Option.some.inj h
    obtain ⟨q3, g2⟩ := Prod.mk.inj g1
    subst q3
    subst g2
    exact j_iret (pc := 17) F dX7_want_17
  · have h := iz_f c h
    refine j_aload_n (pc := 8) (k0 := 0) F 0 rfl dX7_want_8 ?_
    refine j_iload_n (pc := 9) (k0 := 2) F 2 rfl dX7_want_9 ?_
    refine j_callV1 (pc := 10) (ci := 7) (As := [.int v2]) (st := []) (e1 := 0) (es1 := 0) F clX7_291 cwX7_isHour rfl hth (ctX7_isHour G hth) rfl rfl rfl rfl rfl rfl dX7_want_10 ?_
    refine j_if_ne (pc := 13) F 18 dX7_want_13 rfl (fun c => ?_) (fun c => ?_)
    · have h := iz_f c h
      refine j_aload_n (pc := 18) (k0 := 0) F 0 rfl dX7_want_18 ?_
      refine j_iload_n (pc := 19) (k0 := 3) F 3 rfl dX7_want_19 ?_
      refine j_iconst (pc := 20) F 1 dX7_want_20 (by decide) ?_
      refine j_bipush (pc := 21) F 30 dX7_want_21 (by decide) ?_
      refine j_callV1 (pc := 23) (ci := 7) (As := [.int v3, .int 1, .int 30]) (st := []) (e1 := 0) (es1 := 0) F clX7_215 cwX7_in rfl hth (ctX7_in G) rfl rfl rfl rfl rfl rfl dX7_want_23 ?_
      refine j_if_eq (pc := 26) F 41 dX7_want_26 rfl (fun c => ?_) (fun c => ?_)
      · have h := iz_t c h
        refine j_bipush (pc := 41) F (-2) dX7_want_41 (by decide) ?_
        have g1 := Option.some.inj h
        obtain ⟨q3, g2⟩ := Prod.mk.inj g1
        subst q3
        subst g2
        exact j_iret (pc := 43) F dX7_want_43
      · have h := iz_f c h
        refine j_aload_n (pc := 29) (k0 := 0) F 0 rfl dX7_want_29 ?_
        refine j_iload (pc := 30) (k0 := 4) F 4 rfl dX7_want_30 ?_
        refine j_iconst (pc := 32) F 1 dX7_want_32 (by decide) ?_
        refine j_bipush (pc := 33) F 9 dX7_want_33 (by decide) ?_
        refine j_callV1 (pc := 35) (ci := 7) (As := [.int v4, .int 1, .int 9]) (st := []) (e1 := 0) (es1 := 0) F clX7_215 cwX7_in rfl hth (ctX7_in G) rfl rfl rfl rfl rfl rfl dX7_want_35 ?_
        refine j_if_ne (pc := 38) F 44 dX7_want_38 rfl (fun c => ?_) (fun c => ?_)
        · have h := iz_f c h
          refine j_aload_n (pc := 44) (k0 := 0) F 0 rfl dX7_want_44 ?_
          obtain ⟨x1, hx1, h⟩ := ob h
          refine j_getI (pc := 45) F flX7_129 hx1 dX7_want_45 ?_
          refine j_bipush (pc := 48) F 10 dX7_want_48 (by decide) ?_
          refine j_icmp_ne (pc := 50) F 56 dX7_want_50 rfl (fun c => ?_) (fun c => ?_)
          · have h := iz_f c h
            refine j_aload_n (pc := 56) (k0 := 0) F 0 rfl dX7_want_56 ?_
            obtain ⟨x2, hx2, h⟩ := ob h
            refine j_getR (pc := 57) F flX7_132 hx2 dX7_want_57 ?_
            refine j_aload_n (pc := 60) (k0 := 0) F 0 rfl dX7_want_60 ?_
            obtain ⟨x3, hx3, h⟩ := ob h
            refine j_getI (pc := 61) F flX7_129 hx3 dX7_want_61 ?_
            refine j_iload_n (pc := 64) (k0 := 1) F 1 rfl dX7_want_64 ?_
            obtain ⟨i4, hi4, h⟩ := ob h
            refine j_iast (pc := 65) F hi4 dX7_want_65 ?_
            refine j_aload_n (pc := 66) (k0 := 0) F 0 rfl dX7_want_66 ?_
            obtain ⟨x5, hx5, h⟩ := ob h
            refine j_getR (pc := 67) F flX7_135 hx5 dX7_want_67 ?_
            refine j_aload_n (pc := 70) (k0 := 0) F 0 rfl dX7_want_70 ?_
            obtain ⟨x6, hx6, h⟩ := ob h
            refine j_getI (pc := 71) F flX7_129 hx6 dX7_want_71 ?_
            refine j_iload_n (pc := 74) (k0 := 2) F 2 rfl dX7_want_74 ?_
            obtain ⟨i7, hi7, h⟩ := ob h
            refine j_iast (pc := 75) F hi7 dX7_want_75 ?_
            refine j_aload_n (pc := 76) (k0 := 0) F 0 rfl dX7_want_76 ?_
            obtain ⟨x8, hx8, h⟩ := ob h
            refine j_getR (pc := 77) F flX7_138 hx8 dX7_want_77 ?_
            refine j_aload_n (pc := 80) (k0 := 0) F 0 rfl dX7_want_80 ?_
            obtain ⟨x9, hx9, h⟩ := ob h
            refine j_getI (pc := 81) F flX7_129 hx9 dX7_want_81 ?_
            refine j_iload_n (pc := 84) (k0 := 3) F 3 rfl dX7_want_84 ?_
            obtain ⟨i10, hi10, h⟩ := ob h
            refine j_iast (pc := 85) F hi10 dX7_want_85 ?_
            refine j_aload_n (pc := 86) (k0 := 0) F 0 rfl dX7_want_86 ?_
            obtain ⟨x11, hx11, h⟩ := ob h
            refine j_getR (pc := 87) F flX7_141 hx11 dX7_want_87 ?_
            refine j_aload_n (pc := 90) (k0 := 0) F 0 rfl dX7_want_90 ?_
            obtain ⟨x12, hx12, h⟩ := ob h
            refine j_getI (pc := 91) F flX7_129 hx12 dX7_want_91 ?_
            refine j_iload (pc := 94) (k0 := 4) F 4 rfl dX7_want_94 ?_
            obtain ⟨i13, hi13, h⟩ := ob h
            refine j_iast (pc := 96) F hi13 dX7_want_96 ?_
            refine j_aload_n (pc := 97) (k0 := 0) F 0 rfl dX7_want_97 ?_
            refine j_dup (pc := 98) F dX7_want_98 rfl ?_
            obtain ⟨x14, hx14, h⟩ := ob h
            refine j_getI (pc := 99) F flX7_129 hx14 dX7_want_99 ?_
            refine j_iconst (pc := 102) F 1 dX7_want_102 (by decide) ?_
            refine j_iadd (pc := 103) F dX7_want_103 ?_
            obtain ⟨i15, hi15, h⟩ := ob h
            refine j_putI (pc := 104) F flX7_129 fp7_39 (fun z => by cases z) hi15 dX7_want_104 ?_
            refine j_aload_n (pc := 107) (k0 := 0) F 0 rfl dX7_want_107 ?_
            obtain ⟨x16, hx16, h⟩ := ob h
            refine j_getI (pc := 108) F flX7_129 hx16 dX7_want_108 ?_
            refine j_iconst (pc := 111) F 1 dX7_want_111 (by decide) ?_
            refine j_isub (pc := 112) F dX7_want_112 ?_
            have g1 := Option.some.inj h
            obtain ⟨q3, g2⟩ := Prod.mk.inj g1
            subst q3
            subst g2
            exact j_iret (pc := 113) F dX7_want_113
          · have h := iz_t c h
            refine j_bipush (pc := 53) F (-4) dX7_want_53 (by decide) ?_
            have g1 := Option.some.inj h
            obtain ⟨q3, g2⟩ := Prod.mk.inj g1
            subst q3
            subst g2
            exact j_iret (pc := 55) F dX7_want_55
        · have h := iz_t c h
          refine j_bipush (pc := 41) F (-2) dX7_want_41 (by decide) ?_
          have g1 := Option.some.inj h
          obtain ⟨q3, g2⟩ := Prod.mk.inj g1
          subst q3
          subst g2
          exact j_iret (pc := 43) F dX7_want_43
    · have h := iz_t c h
      refine j_iconst (pc := 16) F (-1) dX7_want_16 (by decide) ?_
      have g1 := Option.some.inj h
      obtain ⟨q3, g2⟩ := Prod.mk.inj g1
      subst q3
      subst g2
      exact j_iret (pc := 17) F dX7_want_17
theorem ctX7_want (G : GT) {sh : SH} {I : IH} {L : LH} {n : Nat} {this : Nat} {v1 : Int32} {v2 : Int32} {v3 : Int32} {v4 : Int32} {r : Int32} {I' : IH}  (hth : isO sh 7 this) (h : fX7_want sh this v1 v2 v3 v4 I = some (r, I')) : Ct G yX7_want cX7_want 5 (some .int) 2 [.ref this, .int v1, .int v2, .int v3, .int v4] sh I L n (some (.int r)) sh I' L n 0 0 := by
  refine ct_of (y := yX7_want) (by decide +kernel) rfl (fun X F => ?_)
  exact jbX7_want_0 G F hth h
theorem dX7_serve_0 : decode cX7_serve 0 = .ok (.iconst 0, 1) := by decide +kernel
theorem dX7_serve_1 : decode cX7_serve 1 = .ok (.istore_n 1, 1) := by decide +kernel
theorem dX7_serve_2 : decode cX7_serve 2 = .ok (.iconst 0, 1) := by decide +kernel
theorem dX7_serve_3 : decode cX7_serve 3 = .ok (.istore_n 2, 1) := by decide +kernel
theorem dX7_serve_4 : decode cX7_serve 4 = .ok (.iload_n 2, 1) := by decide +kernel
theorem dX7_serve_5 : decode cX7_serve 5 = .ok (.aload_n 0, 1) := by decide +kernel
theorem dX7_serve_6 : decode cX7_serve 6 = .ok (.getfield 129, 3) := by decide +kernel
theorem dX7_serve_9 : decode cX7_serve 9 = .ok (.if_icmp .ge 142, 3) := by decide +kernel
theorem dX7_serve_12 : decode cX7_serve 12 = .ok (.aload_n 0, 1) := by decide +kernel
theorem dX7_serve_13 : decode cX7_serve 13 = .ok (.getfield 132, 3) := by decide +kernel
theorem dX7_serve_16 : decode cX7_serve 16 = .ok (.iload_n 2, 1) := by decide +kernel
theorem dX7_serve_17 : decode cX7_serve 17 = .ok (.iaload, 1) := by decide +kernel
theorem dX7_serve_18 : decode cX7_serve 18 = .ok (.aload_n 0, 1) := by decide +kernel
theorem dX7_serve_19 : decode cX7_serve 19 = .ok (.getfield 7, 3) := by decide +kernel
theorem dX7_serve_22 : decode cX7_serve 22 = .ok (.if_icmp .ge 27, 3) := by decide +kernel
theorem dX7_serve_25 : decode cX7_serve 25 = .ok (.aload_n 0, 1) := by decide +kernel
theorem dX7_serve_26 : decode cX7_serve 26 = .ok (.getfield 117, 3) := by decide +kernel
theorem dX7_serve_29 : decode cX7_serve 29 = .ok (.bipush 48, 2) := by decide +kernel
theorem dX7_serve_31 : decode cX7_serve 31 = .ok (.aload_n 0, 1) := by decide +kernel
theorem dX7_serve_32 : decode cX7_serve 32 = .ok (.getfield 132, 3) := by decide +kernel
theorem dX7_serve_35 : decode cX7_serve 35 = .ok (.iload_n 2, 1) := by decide +kernel
theorem dX7_serve_36 : decode cX7_serve 36 = .ok (.iaload, 1) := by decide +kernel
theorem dX7_serve_37 : decode cX7_serve 37 = .ok (.imul, 1) := by decide +kernel
theorem dX7_serve_38 : decode cX7_serve 38 = .ok (.aload_n 0, 1) := by decide +kernel
theorem dX7_serve_39 : decode cX7_serve 39 = .ok (.getfield 135, 3) := by decide +kernel
theorem dX7_serve_42 : decode cX7_serve 42 = .ok (.iload_n 2, 1) := by decide +kernel
theorem dX7_serve_43 : decode cX7_serve 43 = .ok (.iaload, 1) := by decide +kernel
theorem dX7_serve_44 : decode cX7_serve 44 = .ok (.iadd, 1) := by decide +kernel
theorem dX7_serve_45 : decode cX7_serve 45 = .ok (.iaload, 1) := by decide +kernel
theorem dX7_serve_46 : decode cX7_serve 46 = .ok (.goto 4, 3) := by decide +kernel
theorem dX7_serve_49 : decode cX7_serve 49 = .ok (.iconst 0, 1) := by decide +kernel
theorem dX7_serve_50 : decode cX7_serve 50 = .ok (.istore_n 3, 1) := by decide +kernel
theorem dX7_serve_51 : decode cX7_serve 51 = .ok (.iconst 0, 1) := by decide +kernel
theorem dX7_serve_52 : decode cX7_serve 52 = .ok (.istore 4, 2) := by decide +kernel
theorem dX7_serve_54 : decode cX7_serve 54 = .ok (.iload 4, 2) := by decide +kernel
theorem dX7_serve_56 : decode cX7_serve 56 = .ok (.iload_n 2, 1) := by decide +kernel
theorem dX7_serve_57 : decode cX7_serve 57 = .ok (.if_icmp .ge 55, 3) := by decide +kernel
theorem dX7_serve_60 : decode cX7_serve 60 = .ok (.iload_n 3, 1) := by decide +kernel
theorem dX7_serve_61 : decode cX7_serve 61 = .ok (.aload_n 0, 1) := by decide +kernel
theorem dX7_serve_62 : decode cX7_serve 62 = .ok (.getfield 132, 3) := by decide +kernel
theorem dX7_serve_65 : decode cX7_serve 65 = .ok (.iload 4, 2) := by decide +kernel
theorem dX7_serve_67 : decode cX7_serve 67 = .ok (.iaload, 1) := by decide +kernel
theorem dX7_serve_68 : decode cX7_serve 68 = .ok (.aload_n 0, 1) := by decide +kernel
theorem dX7_serve_69 : decode cX7_serve 69 = .ok (.getfield 132, 3) := by decide +kernel
theorem dX7_serve_72 : decode cX7_serve 72 = .ok (.iload_n 2, 1) := by decide +kernel
theorem dX7_serve_73 : decode cX7_serve 73 = .ok (.iaload, 1) := by decide +kernel
theorem dX7_serve_74 : decode cX7_serve 74 = .ok (.if_icmp .ne 29, 3) := by decide +kernel
theorem dX7_serve_77 : decode cX7_serve 77 = .ok (.aload_n 0, 1) := by decide +kernel
theorem dX7_serve_78 : decode cX7_serve 78 = .ok (.getfield 135, 3) := by decide +kernel
theorem dX7_serve_81 : decode cX7_serve 81 = .ok (.iload 4, 2) := by decide +kernel
theorem dX7_serve_83 : decode cX7_serve 83 = .ok (.iaload, 1) := by decide +kernel
theorem dX7_serve_84 : decode cX7_serve 84 = .ok (.aload_n 0, 1) := by decide +kernel
theorem dX7_serve_85 : decode cX7_serve 85 = .ok (.getfield 135, 3) := by decide +kernel
theorem dX7_serve_88 : decode cX7_serve 88 = .ok (.iload_n 2, 1) := by decide +kernel
theorem dX7_serve_89 : decode cX7_serve 89 = .ok (.iaload, 1) := by decide +kernel
theorem dX7_serve_90 : decode cX7_serve 90 = .ok (.if_icmp .ne 13, 3) := by decide +kernel
theorem dX7_serve_93 : decode cX7_serve 93 = .ok (.aload_n 0, 1) := by decide +kernel
theorem dX7_serve_94 : decode cX7_serve 94 = .ok (.getfield 144, 3) := by decide +kernel
theorem dX7_serve_97 : decode cX7_serve 97 = .ok (.iload 4, 2) := by decide +kernel
theorem dX7_serve_99 : decode cX7_serve 99 = .ok (.iaload, 1) := by decide +kernel
theorem dX7_serve_100 : decode cX7_serve 100 = .ok (.goto 4, 3) := by decide +kernel
theorem dX7_serve_103 : decode cX7_serve 103 = .ok (.iconst 0, 1) := by decide +kernel
theorem dX7_serve_104 : decode cX7_serve 104 = .ok (.isub, 1) := by decide +kernel
theorem dX7_serve_105 : decode cX7_serve 105 = .ok (.istore_n 3, 1) := by decide +kernel
theorem dX7_serve_106 : decode cX7_serve 106 = .ok (.iinc 4 1, 3) := by decide +kernel
theorem dX7_serve_109 : decode cX7_serve 109 = .ok (.goto (-55), 3) := by decide +kernel
theorem dX7_serve_112 : decode cX7_serve 112 = .ok (.aload_n 0, 1) := by decide +kernel
theorem dX7_serve_113 : decode cX7_serve 113 = .ok (.getfield 144, 3) := by decide +kernel
theorem dX7_serve_116 : decode cX7_serve 116 = .ok (.iload_n 2, 1) := by decide +kernel
theorem dX7_serve_117 : decode cX7_serve 117 = .ok (.aload_n 0, 1) := by decide +kernel
theorem dX7_serve_118 : decode cX7_serve 118 = .ok (.iload_n 3, 1) := by decide +kernel
theorem dX7_serve_119 : decode cX7_serve 119 = .ok (.aload_n 0, 1) := by decide +kernel
theorem dX7_serve_120 : decode cX7_serve 120 = .ok (.getfield 138, 3) := by decide +kernel
theorem dX7_serve_123 : decode cX7_serve 123 = .ok (.iload_n 2, 1) := by decide +kernel
theorem dX7_serve_124 : decode cX7_serve 124 = .ok (.iaload, 1) := by decide +kernel
theorem dX7_serve_125 : decode cX7_serve 125 = .ok (.invokevirtual 284, 3) := by decide +kernel
theorem dX7_serve_128 : decode cX7_serve 128 = .ok (.iastore, 1) := by decide +kernel
theorem dX7_serve_129 : decode cX7_serve 129 = .ok (.iload_n 1, 1) := by decide +kernel
theorem dX7_serve_130 : decode cX7_serve 130 = .ok (.aload_n 0, 1) := by decide +kernel
theorem dX7_serve_131 : decode cX7_serve 131 = .ok (.getfield 144, 3) := by decide +kernel
theorem dX7_serve_134 : decode cX7_serve 134 = .ok (.iload_n 2, 1) := by decide +kernel
theorem dX7_serve_135 : decode cX7_serve 135 = .ok (.iaload, 1) := by decide +kernel
theorem dX7_serve_136 : decode cX7_serve 136 = .ok (.aload_n 0, 1) := by decide +kernel
theorem dX7_serve_137 : decode cX7_serve 137 = .ok (.getfield 141, 3) := by decide +kernel
theorem dX7_serve_140 : decode cX7_serve 140 = .ok (.iload_n 2, 1) := by decide +kernel
theorem dX7_serve_141 : decode cX7_serve 141 = .ok (.iaload, 1) := by decide +kernel
theorem dX7_serve_142 : decode cX7_serve 142 = .ok (.imul, 1) := by decide +kernel
theorem dX7_serve_143 : decode cX7_serve 143 = .ok (.iadd, 1) := by decide +kernel
theorem dX7_serve_144 : decode cX7_serve 144 = .ok (.istore_n 1, 1) := by decide +kernel
theorem dX7_serve_145 : decode cX7_serve 145 = .ok (.iinc 2 1, 3) := by decide +kernel
theorem dX7_serve_148 : decode cX7_serve 148 = .ok (.goto (-144), 3) := by decide +kernel
theorem dX7_serve_151 : decode cX7_serve 151 = .ok (.iload_n 1, 1) := by decide +kernel
theorem dX7_serve_152 : decode cX7_serve 152 = .ok (.ireturn, 1) := by decide +kernel
def fX7_serve_b54 (sh : SH) (this : Nat) (k112 : (Int32 → Int32 → Int32 → IH → Option (Int32 × IH))) : Nat → Int32 → Int32 → Int32 → Int32 → IH → Option (Int32 × IH)
  | 0, _, _, _, _, _ => none
  | fuel + 1, v1, v2, v3, v4, I =>
    if v2 ≤ v4 then (
      k112 v1 v2 v3 I) else
    (gR sh 7 this 40).bind fun x1 =>
    (aI sh I 0 x1 v4).bind fun x2 =>
    (gR sh 7 this 40).bind fun x3 =>
    (aI sh I 0 x3 v2).bind fun x4 =>
    if x2 = x4 then (
      (gR sh 7 this 41).bind fun x5 =>
      (aI sh I 0 x5 v4).bind fun x6 =>
      (gR sh 7 this 41).bind fun x7 =>
      (aI sh I 0 x7 v2).bind fun x8 =>
      if x6 = x8 then (
        (gR sh 7 this 44).bind fun x9 =>
        (aI sh I 0 x9 v4).bind fun x10 =>
        fX7_serve_b54 sh this k112 fuel v1 v2 (v3 - x10) (v4 + 1) I) else
      fX7_serve_b54 sh this k112 fuel v1 v2 (v3 - 0) (v4 + 1) I) else
    fX7_serve_b54 sh this k112 fuel v1 v2 (v3 - 0) (v4 + 1) I
def fX7_serve_b112 (sh : SH) (this : Nat) (k4 : (Int32 → Int32 → IH → Option (Int32 × IH))) (v1 : Int32) (v2 : Int32) (v3 : Int32) (I : IH) : Option (Int32 × IH) :=
  (gR sh 7 this 44).bind fun x1 =>
  (gR sh 7 this 42).bind fun x2 =>
  (aI sh I 0 x2 v2).bind fun x3 =>
  (sI sh I x1 v2 (fX7_min v3 x3)).bind fun i4 =>
  (gR sh 7 this 44).bind fun x5 =>
  (aI sh i4 0 x5 v2).bind fun x6 =>
  (gR sh 7 this 43).bind fun x7 =>
  (aI sh i4 0 x7 v2).bind fun x8 =>
  k4 (v1 + (x6 * x8)) (v2 + 1) i4
def fX7_serve_b4 (sh : SH) (this : Nat) : Nat → Int32 → Int32 → IH → Option (Int32 × IH)
  | 0, _, _, _ => none
  | fuel + 1, v1, v2, I =>
    (gI sh I 7 this 39).bind fun x1 =>
    if x1 ≤ v2 then (
      some (v1, I)) else
    (gR sh 7 this 40).bind fun x2 =>
    (aI sh I 0 x2 v2).bind fun x3 =>
    (gI sh I 7 this 0).bind fun x4 =>
    if x4 ≤ x3 then (
      fX7_serve_b54 sh this (fX7_serve_b112 sh this (fX7_serve_b4 sh this fuel)) 1000 v1 v2 0 0 I) else
    (gR sh 7 this 35).bind fun x5 =>
    (gR sh 7 this 40).bind fun x6 =>
    (aI sh I 0 x6 v2).bind fun x7 =>
    (gR sh 7 this 41).bind fun x8 =>
    (aI sh I 0 x8 v2).bind fun x9 =>
    (aI sh I 0 x5 ((48 * x7) + x9)).bind fun x10 =>
    fX7_serve_b54 sh this (fX7_serve_b112 sh this (fX7_serve_b4 sh this fuel)) 1000 v1 v2 x10 0 I
def fX7_serve (sh : SH) (this : Nat) (I : IH) : Option (Int32 × IH) :=
  fX7_serve_b4 sh this 1000 0 0 I
set_option maxHeartbeats 4000000 in
set_option maxRecDepth 20000 in
theorem jbX7_serve_54 (G : GT) {X : XT} {sh : SH} {L : LH} {n : Nat} {r : Int32} {I' : IH}  {this : Nat} {k112 : (Int32 → Int32 → Int32 → IH → Option (Int32 × IH))} (F : MF G X RX7 cX7_serve 5 1 (some .int) "serve") (hth : isO sh 7 this)
    (hk112 : ∀ {v1 : Int32} {v2 : Int32} {v3 : Int32} {I : IH}, k112 v1 v2 v3 I = some (r, I') → J G X (QE G X (some (.int r)) sh I' L n) 5 sh I L n 0 0 112 [(0, .ref this), (1, .int v1), (2, .int v2), (3, .int v3)] []) : ∀ (fuel : Nat) (v1 : Int32) (v2 : Int32) (v3 : Int32) (v4 : Int32) (I : IH), fX7_serve_b54 sh this k112 fuel v1 v2 v3 v4 I = some (r, I') → J G X (QE G X (some (.int r)) sh I' L n) 5 sh I L n 0 0 54 [(0, .ref this), (1, .int v1), (2, .int v2), (3, .int v3), (4, .int v4)] []
  | 0 => by
    intros
    rename_i h
    exact absurd (show none = some _ from h) (by intro z; cases z)
  | fuel + 1 => by
    intro v1 v2 v3 v4 I h
    rw [fX7_serve_b54] at h
    refine j_iload (pc := 54) (k0 := 4) F 4 rfl dX7_serve_54 ?_
    refine j_iload_n (pc := 56) (k0 := 2) F 2 rfl dX7_serve_56 ?_
    refine j_icmp_ge (pc := 57) F 112 dX7_serve_57 rfl (fun c => ?_) (fun c => ?_)
    · have h := iz_t c h
      refine j_sub [0, 1, 2, 3] rfl ?_
      exact hk112 h
    · have h := iz_f c h
      refine j_iload_n (pc := 60) (k0 := 3) F 3 rfl dX7_serve_60 ?_
      refine j_aload_n (pc := 61) (k0 := 0) F 0 rfl dX7_serve_61 ?_
      obtain ⟨x1, hx1, h⟩ := ob h
      refine j_getR (pc := 62) F flX7_132 hx1 dX7_serve_62 ?_
      refine j_iload (pc := 65) (k0 := 4) F 4 rfl dX7_serve_65 ?_
      obtain ⟨x2, hx2, h⟩ := ob h
      refine j_iald (pc := 67) F hx2 dX7_serve_67 ?_
      refine j_aload_n (pc := 68) (k0 := 0) F 0 rfl dX7_serve_68 ?_
      obtain ⟨x3, hx3, h⟩ := ob h
      refine j_getR (pc := 69) F flX7_132 hx3 dX7_serve_69 ?_
      refine j_iload_n (pc := 72) (k0 := 2) F 2 rfl dX7_serve_72 ?_
      obtain ⟨x4, hx4, h⟩ := ob h
      refine j_iald (pc := 73) F hx4 dX7_serve_73 ?_
      refine j_icmp_ne (pc := 74) F 103 dX7_serve_74 rfl (fun c => ?_) (fun c => ?_)
      · have h := iz_f c h
        refine j_iconst (pc := 103) F 0 dX7_serve_103 (by decide) ?_
        refine j_isub (pc := 104) F dX7_serve_104 ?_
        refine j_istore_n (pc := 105) (k1 := 3) (ls' := [(3, .int (v3 - 0)), (0, .ref this), (1, .int v1), (2, .int v2), (4, .int v4)]) F rfl rfl rfl dX7_serve_105 ?_
        refine j_iinc (pc := 106) (k1 := 4) (ls' := [(4, .int (v4 + 1)), (3, .int (v3 - 0)), (0, .ref this), (1, .int v1), (2, .int v2)]) F (v4 + 1) 4 rfl rfl rfl rfl dX7_serve_106 ?_
        refine j_goto (pc := 109) F 54 dX7_serve_109 rfl ?_
        refine j_sub [2, 3, 4, 1, 0] rfl ?_
        exact jbX7_serve_54 G F hth hk112 fuel _ _ _ _ _ h
      · have h := iz_t c h
        refine j_aload_n (pc := 77) (k0 := 0) F 0 rfl dX7_serve_77 ?_
        obtain ⟨x5, hx5, h⟩ := ob h
        refine j_getR (pc := 78) F flX7_135 hx5 dX7_serve_78 ?_
        refine j_iload (pc := 81) (k0 := 4) F 4 rfl dX7_serve_81 ?_
        obtain ⟨x6, hx6, h⟩ := ob h
        refine j_iald (pc := 83) F hx6 dX7_serve_83 ?_
        refine j_aload_n (pc := 84) (k0 := 0) F 0 rfl dX7_serve_84 ?_
        obtain ⟨x7, hx7, h⟩ := ob h
        refine j_getR (pc := 85) F flX7_135 hx7 dX7_serve_85 ?_
        refine j_iload_n (pc := 88) (k0 := 2) F 2 rfl dX7_serve_88 ?_
        obtain ⟨x8, hx8, h⟩ := ob h
        refine j_iald (pc := 89) F hx8 dX7_serve_89 ?_
        refine j_icmp_ne (pc := 90) F 103 dX7_serve_90 rfl (fun c => ?_) (fun c => ?_)
        · have h := iz_f c h
          refine j_iconst (pc := 103) F 0 dX7_serve_103 (by decide) ?_
          refine j_isub (pc := 104) F dX7_serve_104 ?_
          refine j_istore_n (pc := 105) (k1 := 3) (ls' := [(3, .int (v3 - 0)), (0, .ref this), (1, .int v1), (2, .int v2), (4, .int v4)]) F rfl rfl rfl dX7_serve_105 ?_
          refine j_iinc (pc := 106) (k1 := 4) (ls' := [(4, .int (v4 + 1)), (3, .int (v3 - 0)), (0, .ref this), (1, .int v1), (2, .int v2)]) F (v4 + 1) 4 rfl rfl rfl rfl dX7_serve_106 ?_
          refine j_goto (pc := 109) F 54 dX7_serve_109 rfl ?_
          refine j_sub [2, 3, 4, 1, 0] rfl ?_
          exact jbX7_serve_54 G F hth hk112 fuel _ _ _ _ _ h
        · have h := iz_t c h
          refine j_aload_n (pc := 93) (k0 := 0) F 0 rfl dX7_serve_93 ?_
          obtain ⟨x9, hx9, h⟩ := ob h
          refine j_getR (pc := 94) F flX7_144 hx9 dX7_serve_94 ?_
          refine j_iload (pc := 97) (k0 := 4) F 4 rfl dX7_serve_97 ?_
          obtain ⟨x10, hx10, h⟩ := ob h
          refine j_iald (pc := 99) F hx10 dX7_serve_99 ?_
          refine j_goto (pc := 100) F 104 dX7_serve_100 rfl ?_
          refine j_isub (pc := 104) F dX7_serve_104 ?_
          refine j_istore_n (pc := 105) (k1 := 3) (ls' := [(3, .int (v3 - x10)), (0, .ref this), (1, .int v1), (2, .int v2), (4, .int v4)]) F rfl rfl rfl dX7_serve_105 ?_
          refine j_iinc (pc := 106) (k1 := 4) (ls' := [(4, .int (v4 + 1)), (3, .int (v3 - x10)), (0, .ref this), (1, .int v1), (2, .int v2)]) F (v4 + 1) 4 rfl rfl rfl rfl dX7_serve_106 ?_
          refine j_goto (pc := 109) F 54 dX7_serve_109 rfl ?_
          refine j_sub [2, 3, 4, 1, 0] rfl ?_
          exact jbX7_serve_54 G F hth hk112 fuel _ _ _ _ _ h
set_option maxHeartbeats 4000000 in
set_option maxRecDepth 20000 in
theorem jbX7_serve_112 (G : GT) {X : XT} {sh : SH} {L : LH} {n : Nat} {r : Int32} {I' : IH}  {this : Nat} {k4 : (Int32 → Int32 → IH → Option (Int32 × IH))} {v1 : Int32} {v2 : Int32} {v3 : Int32} {I : IH} (F : MF G X RX7 cX7_serve 5 1 (some .int) "serve") (hth : isO sh 7 this)
    (hk4 : ∀ {v1 : Int32} {v2 : Int32} {I : IH}, k4 v1 v2 I = some (r, I') → J G X (QE G X (some (.int r)) sh I' L n) 5 sh I L n 0 0 4 [(0, .ref this), (1, .int v1), (2, .int v2)] []) (h : fX7_serve_b112 sh this k4 v1 v2 v3 I = some (r, I')) : J G X (QE G X (some (.int r)) sh I' L n) 5 sh I L n 0 0 112 [(0, .ref this), (1, .int v1), (2, .int v2), (3, .int v3)] [] := by
  unfold fX7_serve_b112 at h
  refine j_aload_n (pc := 112) (k0 := 0) F 0 rfl dX7_serve_112 ?_
  obtain ⟨x1, hx1, h⟩ := ob h
  refine j_getR (pc := 113) F flX7_144 hx1 dX7_serve_113 ?_
  refine j_iload_n (pc := 116) (k0 := 2) F 2 rfl dX7_serve_116 ?_
  refine j_aload_n (pc := 117) (k0 := 0) F 0 rfl dX7_serve_117 ?_
  refine j_iload_n (pc := 118) (k0 := 3) F 3 rfl dX7_serve_118 ?_
  refine j_aload_n (pc := 119) (k0 := 0) F 0 rfl dX7_serve_119 ?_
  obtain ⟨x2, hx2, h⟩ := ob h
  refine j_getR (pc := 120) F flX7_138 hx2 dX7_serve_120 ?_
  refine j_iload_n (pc := 123) (k0 := 2) F 2 rfl dX7_serve_123 ?_
  obtain ⟨x3, hx3, h⟩ := ob h
  refine j_iald (pc := 124) F hx3 dX7_serve_124 ?_
  refine j_callV1 (pc := 125) (ci := 7) (As := [.int v3, .int x3]) (st := [.int v2, .ref x1]) (e1 := 0) (es1 := 0) F clX7_284 cwX7_min rfl hth (ctX7_min G) rfl rfl rfl rfl rfl rfl dX7_serve_125 ?_
  obtain ⟨i4, hi4, h⟩ := ob h
  refine j_iast (pc := 128) F hi4 dX7_serve_128 ?_
  refine j_iload_n (pc := 129) (k0 := 1) F 1 rfl dX7_serve_129 ?_
  refine j_aload_n (pc := 130) (k0 := 0) F 0 rfl dX7_serve_130 ?_
  obtain ⟨x5, hx5, h⟩ := ob h
  refine j_getR (pc := 131) F flX7_144 hx5 dX7_serve_131 ?_
  refine j_iload_n (pc := 134) (k0 := 2) F 2 rfl dX7_serve_134 ?_
  obtain ⟨x6, hx6, h⟩ := ob h
  refine j_iald (pc := 135) F hx6 dX7_serve_135 ?_
  refine j_aload_n (pc := 136) (k0 := 0) F 0 rfl dX7_serve_136 ?_
  obtain ⟨x7, hx7, h⟩ := ob h
  refine j_getR (pc := 137) F flX7_141 hx7 dX7_serve_137 ?_
  refine j_iload_n (pc := 140) (k0 := 2) F 2 rfl dX7_serve_140 ?_
  obtain ⟨x8, hx8, h⟩ := ob h
  refine j_iald (pc := 141) F hx8 dX7_serve_141 ?_
  refine j_imul (pc := 142) F dX7_serve_142 ?_
  refine j_iadd (pc := 143) F dX7_serve_143 ?_
  refine j_istore_n (pc := 144) (k1 := 1) (ls' := [(1, .int (v1 + (x6 * x8))), (0, .ref this), (2, .int v2), (3, .int v3)]) F rfl rfl rfl dX7_serve_144 ?_
  refine j_iinc (pc := 145) (k1 := 2) (ls' := [(2, .int (v2 + 1)), (1, .int (v1 + (x6 * x8))), (0, .ref this), (3, .int v3)]) F (v2 + 1) 2 rfl rfl rfl rfl dX7_serve_145 ?_
  refine j_goto (pc := 148) F 4 dX7_serve_148 rfl ?_
  refine j_sub [2, 1, 0] rfl ?_
  exact hk4 h
set_option maxHeartbeats 4000000 in
set_option maxRecDepth 20000 in
theorem jbX7_serve_4 (G : GT) {X : XT} {sh : SH} {L : LH} {n : Nat} {r : Int32} {I' : IH}  {this : Nat}  (F : MF G X RX7 cX7_serve 5 1 (some .int) "serve") (hth : isO sh 7 this) : ∀ (fuel : Nat) (v1 : Int32) (v2 : Int32) (I : IH), fX7_serve_b4 sh this fuel v1 v2 I = some (r, I') → J G X (QE G X (some (.int r)) sh I' L n) 5 sh I L n 0 0 4 [(0, .ref this), (1, .int v1), (2, .int v2)] []
  | 0 => by
    intros
    rename_i h
    exact absurd (show none = some _ from h) (by intro z; cases z)
  | fuel + 1 => by
    intro v1 v2 I h
    rw [fX7_serve_b4] at h
    refine j_iload_n (pc := 4) (k0 := 2) F 2 rfl dX7_serve_4 ?_
    refine j_aload_n (pc := 5) (k0 := 0) F 0 rfl dX7_serve_5 ?_
    obtain ⟨x1, hx1, h⟩ := ob h
    refine j_getI (pc := 6) F flX7_129 hx1 dX7_serve_6 ?_
    refine j_icmp_ge (pc := 9) F 151 dX7_serve_9 rfl (fun c => ?_) (fun c => ?_)
    · have h := iz_t c h
      refine j_iload_n (pc := 151) (k0 := 1) F 1 rfl dX7_serve_151 ?_
      have g1 := Option.some.inj h
      obtain ⟨q3, g2⟩ := Prod.mk.inj g1
      subst q3
      subst g2
      exact j_iret (pc := 152) F dX7_serve_152
    · have h := iz_f c h
      refine j_aload_n (pc := 12) (k0 := 0) F 0 rfl dX7_serve_12 ?_
      obtain ⟨x2, hx2, h⟩ := ob h
      refine j_getR (pc := 13) F flX7_132 hx2 dX7_serve_13 ?_
      refine j_iload_n (pc := 16) (k0 := 2) F 2 rfl dX7_serve_16 ?_
      obtain ⟨x3, hx3, h⟩ := ob h
      refine j_iald (pc := 17) F hx3 dX7_serve_17 ?_
      refine j_aload_n (pc := 18) (k0 := 0) F 0 rfl dX7_serve_18 ?_
      obtain ⟨x4, hx4, h⟩ := ob h
      refine j_getI (pc := 19) F flX7_7 hx4 dX7_serve_19 ?_
      refine j_icmp_ge (pc := 22) F 49 dX7_serve_22 rfl (fun c => ?_) (fun c => ?_)
      · have h := iz_t c h
        refine j_iconst (pc := 49) F 0 dX7_serve_49 (by decide) ?_
        refine j_istore_n (pc := 50) (k1 := 3) (ls' := [(3, .int 0), (0, .ref this), (1, .int v1), (2, .int v2)]) F rfl rfl rfl dX7_serve_50 ?_
        refine j_iconst (pc := 51) F 0 dX7_serve_51 (by decide) ?_
        refine j_istore (pc := 52) (k1 := 4) (ls' := [(4, .int 0), (3, .int 0), (0, .ref this), (1, .int v1), (2, .int v2)]) F rfl rfl dX7_serve_52 ?_
        refine j_sub [2, 3, 4, 1, 0] rfl ?_
        exact jbX7_serve_54 G F hth (fun h => jbX7_serve_112 G F hth (fun h => jbX7_serve_4 G F hth fuel _ _ _ h) h) 1000 _ _ _ _ _ h
      · have h := iz_f c h
        refine j_aload_n (pc := 25) (k0 := 0) F 0 rfl dX7_serve_25 ?_
        obtain ⟨x5, hx5, h⟩ := ob h
        refine j_getR (pc := 26) F flX7_117 hx5 dX7_serve_26 ?_
        refine j_bipush (pc := 29) F 48 dX7_serve_29 (by decide) ?_
        refine j_aload_n (pc := 31) (k0 := 0) F 0 rfl dX7_serve_31 ?_
        obtain ⟨x6, hx6, h⟩ := ob h
        refine j_getR (pc := 32) F flX7_132 hx6 dX7_serve_32 ?_
        refine j_iload_n (pc := 35) (k0 := 2) F 2 rfl dX7_serve_35 ?_
        obtain ⟨x7, hx7, h⟩ := ob h
        refine j_iald (pc := 36) F hx7 dX7_serve_36 ?_
        refine j_imul (pc := 37) F dX7_serve_37 ?_
        refine j_aload_n (pc := 38) (k0 := 0) F 0 rfl dX7_serve_38 ?_
        obtain ⟨x8, hx8, h⟩ := ob h
        refine j_getR (pc := 39) F flX7_135 hx8 dX7_serve_39 ?_
        refine j_iload_n (pc := 42) (k0 := 2) F 2 rfl dX7_serve_42 ?_
        obtain ⟨x9, hx9, h⟩ := ob h
        refine j_iald (pc := 43) F hx9 dX7_serve_43 ?_
        refine j_iadd (pc := 44) F dX7_serve_44 ?_
        obtain ⟨x10, hx10, h⟩ := ob h
        refine j_iald (pc := 45) F hx10 dX7_serve_45 ?_
        refine j_goto (pc := 46) F 50 dX7_serve_46 rfl ?_
        refine j_istore_n (pc := 50) (k1 := 3) (ls' := [(3, .int x10), (0, .ref this), (1, .int v1), (2, .int v2)]) F rfl rfl rfl dX7_serve_50 ?_
        refine j_iconst (pc := 51) F 0 dX7_serve_51 (by decide) ?_
        refine j_istore (pc := 52) (k1 := 4) (ls' := [(4, .int 0), (3, .int x10), (0, .ref this), (1, .int v1), (2, .int v2)]) F rfl rfl dX7_serve_52 ?_
        refine j_sub [2, 3, 4, 1, 0] rfl ?_
        exact jbX7_serve_54 G F hth (fun h => jbX7_serve_112 G F hth (fun h => jbX7_serve_4 G F hth fuel _ _ _ h) h) 1000 _ _ _ _ _ h
set_option maxHeartbeats 4000000 in
set_option maxRecDepth 20000 in
theorem jbX7_serve_0 (G : GT) {X : XT} {sh : SH} {L : LH} {n : Nat} {r : Int32} {I' : IH}  {this : Nat}  {I : IH} (F : MF G X RX7 cX7_serve 5 1 (some .int) "serve") (hth : isO sh 7 this) (h : fX7_serve sh this I = some (r, I')) : J G X (QE G X (some (.int r)) sh I' L n) 5 sh I L n 0 0 0 [(0, .ref this)] [] := by
  unfold fX7_serve at h
  refine j_iconst (pc := 0) F 0 dX7_serve_0 (by decide) ?_
  refine j_istore_n (pc := 1) (k1 := 1) (ls' := [(1, .int 0), (0, .ref this)]) F rfl rfl rfl dX7_serve_1 ?_
  refine j_iconst (pc := 2) F 0 dX7_serve_2 (by decide) ?_
  refine j_istore_n (pc := 3) (k1 := 2) (ls' := [(2, .int 0), (1, .int 0), (0, .ref this)]) F rfl rfl rfl dX7_serve_3 ?_
  refine j_sub [2, 1, 0] rfl ?_
  exact jbX7_serve_4 G F hth 1000 _ _ _ h
theorem ctX7_serve (G : GT) {sh : SH} {I : IH} {L : LH} {n : Nat} {this : Nat} {r : Int32} {I' : IH}  (hth : isO sh 7 this) (h : fX7_serve sh this I = some (r, I')) : Ct G yX7_serve cX7_serve 5 (some .int) 1 [.ref this] sh I L n (some (.int r)) sh I' L n 0 0 := by
  refine ct_of (y := yX7_serve) (by decide +kernel) rfl (fun X F => ?_)
  exact jbX7_serve_0 G F hth h
theorem dX7_worthNow_0 : decode cX7_worthNow 0 = .ok (.aload_n 0, 1) := by decide +kernel
theorem dX7_worthNow_1 : decode cX7_worthNow 1 = .ok (.invokevirtual 320, 3) := by decide +kernel
theorem dX7_worthNow_4 : decode cX7_worthNow 4 = .ok (.aload_n 0, 1) := by decide +kernel
theorem dX7_worthNow_5 : decode cX7_worthNow 5 = .ok (.invokevirtual 326, 3) := by decide +kernel
theorem dX7_worthNow_8 : decode cX7_worthNow 8 = .ok (.ireturn, 1) := by decide +kernel
def fX7_worthNow (sh : SH) (this : Nat) (I : IH) : Option (Int32 × IH) :=
  (fX7_go sh this I).bind fun i1 =>
  b2 (fX7_serve sh this i1) fun x2 i3 =>
  some (x2, i3)
set_option maxHeartbeats 4000000 in
set_option maxRecDepth 20000 in
theorem jbX7_worthNow_0 (G : GT) {X : XT} {sh : SH} {L : LH} {n : Nat} {r : Int32} {I' : IH}  {this : Nat}  {I : IH} (F : MF G X RX7 cX7_worthNow 1 3 (some .int) "worthNow") (hth : isO sh 7 this) (h : fX7_worthNow sh this I = some (r, I')) : J G X (QE G X (some (.int r)) sh I' L n) 1 sh I L n 0 0 0 [(0, .ref this)] [] := by
  unfold fX7_worthNow at h
  refine j_aload_n (pc := 0) (k0 := 0) F 0 rfl dX7_worthNow_0 ?_
  obtain ⟨i1, hi1, h⟩ := ob h
  refine j_callV0 (pc := 1) (ci := 7) (As := []) (st := []) (e1 := 0) (es1 := 0) F clX7_320 cwX7_go rfl hth (ctX7_go G hth hi1) rfl rfl rfl rfl rfl rfl dX7_worthNow_1 ?_
  refine j_aload_n (pc := 4) (k0 := 0) F 0 rfl dX7_worthNow_4 ?_
  obtain ⟨x2, i3, hx2, h⟩ := b2_obt h
  refine j_callV1 (pc := 5) (ci := 7) (As := []) (st := []) (e1 := 0) (es1 := 0) F clX7_326 cwX7_serve rfl hth (ctX7_serve G hth hx2) rfl rfl rfl rfl rfl rfl dX7_worthNow_5 ?_
  have g1 := Option.some.inj h
  obtain ⟨q3, g2⟩ := Prod.mk.inj g1
  subst q3
  subst g2
  exact j_iret (pc := 8) F dX7_worthNow_8
theorem ctX7_worthNow (G : GT) {sh : SH} {I : IH} {L : LH} {n : Nat} {this : Nat} {r : Int32} {I' : IH}  (hth : isO sh 7 this) (h : fX7_worthNow sh this I = some (r, I')) : Ct G yX7_worthNow cX7_worthNow 1 (some .int) 3 [.ref this] sh I L n (some (.int r)) sh I' L n 0 0 := by
  refine ct_of (y := yX7_worthNow) (by decide +kernel) rfl (fun X F => ?_)
  exact jbX7_worthNow_0 G F hth h
theorem dX7_wants_0 : decode cX7_wants 0 = .ok (.aload_n 0, 1) := by decide +kernel
theorem dX7_wants_1 : decode cX7_wants 1 = .ok (.iload_n 1, 1) := by decide +kernel
theorem dX7_wants_2 : decode cX7_wants 2 = .ok (.iconst 0, 1) := by decide +kernel
theorem dX7_wants_3 : decode cX7_wants 3 = .ok (.aload_n 0, 1) := by decide +kernel
theorem dX7_wants_4 : decode cX7_wants 4 = .ok (.getfield 129, 3) := by decide +kernel
theorem dX7_wants_7 : decode cX7_wants 7 = .ok (.iconst 1, 1) := by decide +kernel
theorem dX7_wants_8 : decode cX7_wants 8 = .ok (.isub, 1) := by decide +kernel
theorem dX7_wants_9 : decode cX7_wants 9 = .ok (.invokevirtual 215, 3) := by decide +kernel
theorem dX7_wants_12 : decode cX7_wants 12 = .ok (.ifCond .ne 5, 3) := by decide +kernel
theorem dX7_wants_15 : decode cX7_wants 15 = .ok (.iconst (-1), 1) := by decide +kernel
theorem dX7_wants_16 : decode cX7_wants 16 = .ok (.ireturn, 1) := by decide +kernel
theorem dX7_wants_17 : decode cX7_wants 17 = .ok (.iload_n 2, 1) := by decide +kernel
theorem dX7_wants_18 : decode cX7_wants 18 = .ok (.tableswitch 78 0 4 #[34, 41, 48, 55, 62], 34) := by decide +kernel
theorem dX7_wants_52 : decode cX7_wants 52 = .ok (.aload_n 0, 1) := by decide +kernel
theorem dX7_wants_53 : decode cX7_wants 53 = .ok (.getfield 132, 3) := by decide +kernel
theorem dX7_wants_56 : decode cX7_wants 56 = .ok (.iload_n 1, 1) := by decide +kernel
theorem dX7_wants_57 : decode cX7_wants 57 = .ok (.iaload, 1) := by decide +kernel
theorem dX7_wants_58 : decode cX7_wants 58 = .ok (.ireturn, 1) := by decide +kernel
theorem dX7_wants_59 : decode cX7_wants 59 = .ok (.aload_n 0, 1) := by decide +kernel
theorem dX7_wants_60 : decode cX7_wants 60 = .ok (.getfield 135, 3) := by decide +kernel
theorem dX7_wants_63 : decode cX7_wants 63 = .ok (.iload_n 1, 1) := by decide +kernel
theorem dX7_wants_64 : decode cX7_wants 64 = .ok (.iaload, 1) := by decide +kernel
theorem dX7_wants_65 : decode cX7_wants 65 = .ok (.ireturn, 1) := by decide +kernel
theorem dX7_wants_66 : decode cX7_wants 66 = .ok (.aload_n 0, 1) := by decide +kernel
theorem dX7_wants_67 : decode cX7_wants 67 = .ok (.getfield 138, 3) := by decide +kernel
theorem dX7_wants_70 : decode cX7_wants 70 = .ok (.iload_n 1, 1) := by decide +kernel
theorem dX7_wants_71 : decode cX7_wants 71 = .ok (.iaload, 1) := by decide +kernel
theorem dX7_wants_72 : decode cX7_wants 72 = .ok (.ireturn, 1) := by decide +kernel
theorem dX7_wants_73 : decode cX7_wants 73 = .ok (.aload_n 0, 1) := by decide +kernel
theorem dX7_wants_74 : decode cX7_wants 74 = .ok (.getfield 141, 3) := by decide +kernel
theorem dX7_wants_77 : decode cX7_wants 77 = .ok (.iload_n 1, 1) := by decide +kernel
theorem dX7_wants_78 : decode cX7_wants 78 = .ok (.iaload, 1) := by decide +kernel
theorem dX7_wants_79 : decode cX7_wants 79 = .ok (.ireturn, 1) := by decide +kernel
theorem dX7_wants_80 : decode cX7_wants 80 = .ok (.aload_n 0, 1) := by decide +kernel
theorem dX7_wants_81 : decode cX7_wants 81 = .ok (.invokevirtual 317, 3) := by decide +kernel
theorem dX7_wants_84 : decode cX7_wants 84 = .ok (.aload_n 0, 1) := by decide +kernel
theorem dX7_wants_85 : decode cX7_wants 85 = .ok (.invokevirtual 329, 3) := by decide +kernel
theorem dX7_wants_88 : decode cX7_wants 88 = .ok (.pop, 1) := by decide +kernel
theorem dX7_wants_89 : decode cX7_wants 89 = .ok (.aload_n 0, 1) := by decide +kernel
theorem dX7_wants_90 : decode cX7_wants 90 = .ok (.getfield 144, 3) := by decide +kernel
theorem dX7_wants_93 : decode cX7_wants 93 = .ok (.iload_n 1, 1) := by decide +kernel
theorem dX7_wants_94 : decode cX7_wants 94 = .ok (.iaload, 1) := by decide +kernel
theorem dX7_wants_95 : decode cX7_wants 95 = .ok (.ireturn, 1) := by decide +kernel
theorem dX7_wants_96 : decode cX7_wants 96 = .ok (.iconst (-1), 1) := by decide +kernel
theorem dX7_wants_97 : decode cX7_wants 97 = .ok (.ireturn, 1) := by decide +kernel
def fX7_wants (sh : SH) (this : Nat) (v1 : Int32) (v2 : Int32) (I : IH) : Option (Int32 × IH) :=
  (gI sh I 7 this 39).bind fun x1 =>
  if (fX7_in v1 0 (x1 - 1)) = 0 then (
    some ((-1), I)) else
  if v2 = 0 then (
    (gR sh 7 this 40).bind fun x2 =>
    (aI sh I 0 x2 v1).bind fun x3 =>
    some (x3, I)) else
  if v2 = 1 then (
    (gR sh 7 this 41).bind fun x4 =>
    (aI sh I 0 x4 v1).bind fun x5 =>
    some (x5, I)) else
  if v2 = 2 then (
    (gR sh 7 this 42).bind fun x6 =>
    (aI sh I 0 x6 v1).bind fun x7 =>
    some (x7, I)) else
  if v2 = 3 then (
    (gR sh 7 this 43).bind fun x8 =>
    (aI sh I 0 x8 v1).bind fun x9 =>
    some (x9, I)) else
  if v2 = 4 then (
    (fX7_asIs sh this I).bind fun i10 =>
    b2 (fX7_worthNow sh this i10) fun x11 i12 =>
    (gR sh 7 this 44).bind fun x13 =>
    (aI sh i12 0 x13 v1).bind fun x14 =>
    some (x14, i12)) else
  some ((-1), I)
set_option maxHeartbeats 4000000 in
set_option maxRecDepth 20000 in
theorem jbX7_wants_0 (G : GT) {X : XT} {sh : SH} {L : LH} {n : Nat} {r : Int32} {I' : IH}  {this : Nat}  {v1 : Int32} {v2 : Int32} {I : IH} (F : MF G X RX7 cX7_wants 3 4 (some .int) "wants") (hth : isO sh 7 this) (h : fX7_wants sh this v1 v2 I = some (r, I')) : J G X (QE G X (some (.int r)) sh I' L n) 3 sh I L n 0 0 0 [(0, .ref this), (1, .int v1), (2, .int v2)] [] := by
  unfold fX7_wants at h
  refine j_aload_n (pc := 0) (k0 := 0) F 0 rfl dX7_wants_0 ?_
  refine j_iload_n (pc := 1) (k0 := 1) F 1 rfl dX7_wants_1 ?_
  refine j_iconst (pc := 2) F 0 dX7_wants_2 (by decide) ?_
  refine j_aload_n (pc := 3) (k0 := 0) F 0 rfl dX7_wants_3 ?_
  obtain ⟨x1, hx1, h⟩ := ob h
  refine j_getI (pc := 4) F flX7_129 hx1 dX7_wants_4 ?_
  refine j_iconst (pc := 7) F 1 dX7_wants_7 (by decide) ?_
  refine j_isub (pc := 8) F dX7_wants_8 ?_
  refine j_callV1 (pc := 9) (ci := 7) (As := [.int v1, .int 0, .int (x1 - 1)]) (st := []) (e1 := 0) (es1 := 0) F clX7_215 cwX7_in rfl hth (ctX7_in G) rfl rfl rfl rfl rfl rfl dX7_wants_9 ?_
  refine j_if_ne (pc := 12) F 17 dX7_wants_12 rfl (fun c => ?_) (fun c => ?_)
  · have h := iz_f c h
    refine j_iload_n (pc := 17) (k0 := 2) F 2 rfl dX7_wants_17 ?_
    by_cases c1 : v2 = 0
    · have h := iz_t c1 h
      refine j_tabIn (pc := 18) (k0 := 0) F 52 c1 dX7_wants_18 (by decide) rfl rfl ?_
      refine j_aload_n (pc := 52) (k0 := 0) F 0 rfl dX7_wants_52 ?_
      obtain ⟨x2, hx2, h⟩ := ob h
      refine j_getR (pc := 53) F flX7_132 hx2 dX7_wants_53 ?_
      refine j_iload_n (pc := 56) (k0 := 1) F 1 rfl dX7_wants_56 ?_
      obtain ⟨x3, hx3, h⟩ := ob h
      refine j_iald (pc := 57) F hx3 dX7_wants_57 ?_
      have g1 := Option.some.inj h
      obtain ⟨q3, g2⟩ := Prod.mk.inj g1
      subst q3
      subst g2
      exact j_iret (pc := 58) F dX7_wants_58
    have h := iz_f c1 h
    by_cases c2 : v2 = 1
    · have h := iz_t c2 h
      refine j_tabIn (pc := 18) (k0 := 1) F 59 c2 dX7_wants_18 (by decide) rfl rfl ?_
      refine j_aload_n (pc := 59) (k0 := 0) F 0 rfl dX7_wants_59 ?_
      obtain ⟨x4, hx4, h⟩ := ob h
      refine j_getR (pc := 60) F flX7_135 hx4 dX7_wants_60 ?_
      refine j_iload_n (pc := 63) (k0 := 1) F 1 rfl dX7_wants_63 ?_
      obtain ⟨x5, hx5, h⟩ := ob h
      refine j_iald (pc := 64) F hx5 dX7_wants_64 ?_
      have g1 := Option.some.inj h
      obtain ⟨q3, g2⟩ := Prod.mk.inj g1
      subst q3
      subst g2
      exact j_iret (pc := 65) F dX7_wants_65
    have h := iz_f c2 h
    by_cases c3 : v2 = 2
    · have h := iz_t c3 h
      refine j_tabIn (pc := 18) (k0 := 2) F 66 c3 dX7_wants_18 (by decide) rfl rfl ?_
      refine j_aload_n (pc := 66) (k0 := 0) F 0 rfl dX7_wants_66 ?_
      obtain ⟨x6, hx6, h⟩ := ob h
      refine j_getR (pc := 67) F flX7_138 hx6 dX7_wants_67 ?_
      refine j_iload_n (pc := 70) (k0 := 1) F 1 rfl dX7_wants_70 ?_
      obtain ⟨x7, hx7, h⟩ := ob h
      refine j_iald (pc := 71) F hx7 dX7_wants_71 ?_
      have g1 := Option.some.inj h
      obtain ⟨q3, g2⟩ := Prod.mk.inj g1
      subst q3
      subst g2
      exact j_iret (pc := 72) F dX7_wants_72
    have h := iz_f c3 h
    by_cases c4 : v2 = 3
    · have h := iz_t c4 h
      refine j_tabIn (pc := 18) (k0 := 3) F 73 c4 dX7_wants_18 (by decide) rfl rfl ?_
      refine j_aload_n (pc := 73) (k0 := 0) F 0 rfl dX7_wants_73 ?_
      obtain ⟨x8, hx8, h⟩ := ob h
      refine j_getR (pc := 74) F flX7_141 hx8 dX7_wants_74 ?_
      refine j_iload_n (pc := 77) (k0 := 1) F 1 rfl dX7_wants_77 ?_
      obtain ⟨x9, hx9, h⟩ := ob h
      refine j_iald (pc := 78) F hx9 dX7_wants_78 ?_
      have g1 := Option.some.inj h
      obtain ⟨q3, g2⟩ := Prod.mk.inj g1
      subst q3
      subst g2
      exact j_iret (pc := 79) F dX7_wants_79
    have h := iz_f c4 h
    by_cases c5 : v2 = 4
    · have h := iz_t c5 h
      refine j_tabIn (pc := 18) (k0 := 4) F 80 c5 dX7_wants_18 (by decide) rfl rfl ?_
      refine j_aload_n (pc := 80) (k0 := 0) F 0 rfl dX7_wants_80 ?_
      obtain ⟨i10, hi10, h⟩ := ob h
      refine j_callV0 (pc := 81) (ci := 7) (As := []) (st := []) (e1 := 0) (es1 := 0) F clX7_317 cwX7_asIs rfl hth (ctX7_asIs G hth hi10) rfl rfl rfl rfl rfl rfl dX7_wants_81 ?_
      refine j_aload_n (pc := 84) (k0 := 0) F 0 rfl dX7_wants_84 ?_
      obtain ⟨x11, i12, hx11, h⟩ := b2_obt h
      refine j_callV1 (pc := 85) (ci := 7) (As := []) (st := []) (e1 := 0) (es1 := 0) F clX7_329 cwX7_worthNow rfl hth (ctX7_worthNow G hth hx11) rfl rfl rfl rfl rfl rfl dX7_wants_85 ?_
      refine j_pop (pc := 88) F dX7_wants_88 rfl ?_
      refine j_aload_n (pc := 89) (k0 := 0) F 0 rfl dX7_wants_89 ?_
      obtain ⟨x13, hx13, h⟩ := ob h
      refine j_getR (pc := 90) F flX7_144 hx13 dX7_wants_90 ?_
      refine j_iload_n (pc := 93) (k0 := 1) F 1 rfl dX7_wants_93 ?_
      obtain ⟨x14, hx14, h⟩ := ob h
      refine j_iald (pc := 94) F hx14 dX7_wants_94 ?_
      have g1 := Option.some.inj h
      obtain ⟨q3, g2⟩ := Prod.mk.inj g1
      subst q3
      subst g2
      exact j_iret (pc := 95) F dX7_wants_95
    have h := iz_f c5 h
    have tc1 := lv_neT (a := 0) c1 (by decide)
    have tc2 := lv_neT (a := 1) c2 (by decide)
    have tc3 := lv_neT (a := 2) c3 (by decide)
    have tc4 := lv_neT (a := 3) c4 (by decide)
    have tc5 := lv_neT (a := 4) c5 (by decide)
    refine j_tabOut (pc := 18) F 96 dX7_wants_18 (by omega) rfl ?_
    refine j_iconst (pc := 96) F (-1) dX7_wants_96 (by decide) ?_
    have g1 := Option.some.inj h
    obtain ⟨q3, g2⟩ := Prod.mk.inj g1
    subst q3
    subst g2
    exact j_iret (pc := 97) F dX7_wants_97
  · have h := iz_t c h
    refine j_iconst (pc := 15) F (-1) dX7_wants_15 (by decide) ?_
    have g1 := Option.some.inj h
    obtain ⟨q3, g2⟩ := Prod.mk.inj g1
    subst q3
    subst g2
    exact j_iret (pc := 16) F dX7_wants_16
theorem ctX7_wants (G : GT) {sh : SH} {I : IH} {L : LH} {n : Nat} {this : Nat} {v1 : Int32} {v2 : Int32} {r : Int32} {I' : IH}  (hth : isO sh 7 this) (h : fX7_wants sh this v1 v2 I = some (r, I')) : Ct G yX7_wants cX7_wants 3 (some .int) 4 [.ref this, .int v1, .int v2] sh I L n (some (.int r)) sh I' L n 0 0 := by
  refine ct_of (y := yX7_wants) (by decide +kernel) rfl (fun X F => ?_)
  exact jbX7_wants_0 G F hth h
theorem dX7_worth_0 : decode cX7_worth 0 = .ok (.aload_n 0, 1) := by decide +kernel
theorem dX7_worth_1 : decode cX7_worth 1 = .ok (.invokevirtual 317, 3) := by decide +kernel
theorem dX7_worth_4 : decode cX7_worth 4 = .ok (.aload_n 0, 1) := by decide +kernel
theorem dX7_worth_5 : decode cX7_worth 5 = .ok (.invokevirtual 329, 3) := by decide +kernel
theorem dX7_worth_8 : decode cX7_worth 8 = .ok (.ireturn, 1) := by decide +kernel
def fX7_worth (sh : SH) (this : Nat) (I : IH) : Option (Int32 × IH) :=
  (fX7_asIs sh this I).bind fun i1 =>
  b2 (fX7_worthNow sh this i1) fun x2 i3 =>
  some (x2, i3)
set_option maxHeartbeats 4000000 in
set_option maxRecDepth 20000 in
theorem jbX7_worth_0 (G : GT) {X : XT} {sh : SH} {L : LH} {n : Nat} {r : Int32} {I' : IH}  {this : Nat}  {I : IH} (F : MF G X RX7 cX7_worth 1 4 (some .int) "worth") (hth : isO sh 7 this) (h : fX7_worth sh this I = some (r, I')) : J G X (QE G X (some (.int r)) sh I' L n) 1 sh I L n 0 0 0 [(0, .ref this)] [] := by
  unfold fX7_worth at h
  refine j_aload_n (pc := 0) (k0 := 0) F 0 rfl dX7_worth_0 ?_
  obtain ⟨i1, hi1, h⟩ := ob h
  refine j_callV0 (pc := 1) (ci := 7) (As := []) (st := []) (e1 := 0) (es1 := 0) F clX7_317 cwX7_asIs rfl hth (ctX7_asIs G hth hi1) rfl rfl rfl rfl rfl rfl dX7_worth_1 ?_
  refine j_aload_n (pc := 4) (k0 := 0) F 0 rfl dX7_worth_4 ?_
  obtain ⟨x2, i3, hx2, h⟩ := b2_obt h
  refine j_callV1 (pc := 5) (ci := 7) (As := []) (st := []) (e1 := 0) (es1 := 0) F clX7_329 cwX7_worthNow rfl hth (ctX7_worthNow G hth hx2) rfl rfl rfl rfl rfl rfl dX7_worth_5 ?_
  have g1 := Option.some.inj h
  obtain ⟨q3, g2⟩ := Prod.mk.inj g1
  subst q3
  subst g2
  exact j_iret (pc := 8) F dX7_worth_8
theorem ctX7_worth (G : GT) {sh : SH} {I : IH} {L : LH} {n : Nat} {this : Nat} {r : Int32} {I' : IH}  (hth : isO sh 7 this) (h : fX7_worth sh this I = some (r, I')) : Ct G yX7_worth cX7_worth 1 (some .int) 4 [.ref this] sh I L n (some (.int r)) sh I' L n 0 0 := by
  refine ct_of (y := yX7_worth) (by decide +kernel) rfl (fun X F => ?_)
  exact jbX7_worth_0 G F hth h
theorem dX7_best_0 : decode cX7_best 0 = .ok (.aload_n 0, 1) := by decide +kernel
theorem dX7_best_1 : decode cX7_best 1 = .ok (.iload_n 1, 1) := by decide +kernel
theorem dX7_best_2 : decode cX7_best 2 = .ok (.invokevirtual 314, 3) := by decide +kernel
theorem dX7_best_5 : decode cX7_best 5 = .ok (.ifCond .eq 13, 3) := by decide +kernel
theorem dX7_best_8 : decode cX7_best 8 = .ok (.aload_n 0, 1) := by decide +kernel
theorem dX7_best_9 : decode cX7_best 9 = .ok (.iload_n 2, 1) := by decide +kernel
theorem dX7_best_10 : decode cX7_best 10 = .ok (.iconst 0, 1) := by decide +kernel
theorem dX7_best_11 : decode cX7_best 11 = .ok (.iconst 2, 1) := by decide +kernel
theorem dX7_best_12 : decode cX7_best 12 = .ok (.invokevirtual 215, 3) := by decide +kernel
theorem dX7_best_15 : decode cX7_best 15 = .ok (.ifCond .ne 5, 3) := by decide +kernel
theorem dX7_best_18 : decode cX7_best 18 = .ok (.iconst (-1), 1) := by decide +kernel
theorem dX7_best_19 : decode cX7_best 19 = .ok (.ireturn, 1) := by decide +kernel
theorem dX7_best_20 : decode cX7_best 20 = .ok (.aload_n 0, 1) := by decide +kernel
theorem dX7_best_21 : decode cX7_best 21 = .ok (.invokevirtual 317, 3) := by decide +kernel
theorem dX7_best_24 : decode cX7_best 24 = .ok (.aload_n 0, 1) := by decide +kernel
theorem dX7_best_25 : decode cX7_best 25 = .ok (.getfield 108, 3) := by decide +kernel
theorem dX7_best_28 : decode cX7_best 28 = .ok (.iload_n 1, 1) := by decide +kernel
theorem dX7_best_29 : decode cX7_best 29 = .ok (.iconst 1, 1) := by decide +kernel
theorem dX7_best_30 : decode cX7_best 30 = .ok (.iastore, 1) := by decide +kernel
theorem dX7_best_31 : decode cX7_best 31 = .ok (.iconst 0, 1) := by decide +kernel
theorem dX7_best_32 : decode cX7_best 32 = .ok (.istore_n 3, 1) := by decide +kernel
theorem dX7_best_33 : decode cX7_best 33 = .ok (.iconst 0, 1) := by decide +kernel
theorem dX7_best_34 : decode cX7_best 34 = .ok (.istore 4, 2) := by decide +kernel
theorem dX7_best_36 : decode cX7_best 36 = .ok (.iconst (-1), 1) := by decide +kernel
theorem dX7_best_37 : decode cX7_best 37 = .ok (.istore 5, 2) := by decide +kernel
theorem dX7_best_39 : decode cX7_best 39 = .ok (.iconst 0, 1) := by decide +kernel
theorem dX7_best_40 : decode cX7_best 40 = .ok (.istore 6, 2) := by decide +kernel
theorem dX7_best_42 : decode cX7_best 42 = .ok (.iload 6, 2) := by decide +kernel
theorem dX7_best_44 : decode cX7_best 44 = .ok (.bipush 25, 2) := by decide +kernel
theorem dX7_best_46 : decode cX7_best 46 = .ok (.if_icmp .ge 94, 3) := by decide +kernel
theorem dX7_best_49 : decode cX7_best 49 = .ok (.iconst 0, 1) := by decide +kernel
theorem dX7_best_50 : decode cX7_best 50 = .ok (.istore 7, 2) := by decide +kernel
theorem dX7_best_52 : decode cX7_best 52 = .ok (.iload 7, 2) := by decide +kernel
theorem dX7_best_54 : decode cX7_best 54 = .ok (.bipush 24, 2) := by decide +kernel
theorem dX7_best_56 : decode cX7_best 56 = .ok (.if_icmp .ge 78, 3) := by decide +kernel
theorem dX7_best_59 : decode cX7_best 59 = .ok (.iconst 0, 1) := by decide +kernel
theorem dX7_best_60 : decode cX7_best 60 = .ok (.istore 8, 2) := by decide +kernel
theorem dX7_best_62 : decode cX7_best 62 = .ok (.iconst 0, 1) := by decide +kernel
theorem dX7_best_63 : decode cX7_best 63 = .ok (.istore 9, 2) := by decide +kernel
theorem dX7_best_65 : decode cX7_best 65 = .ok (.iload 9, 2) := by decide +kernel
theorem dX7_best_67 : decode cX7_best 67 = .ok (.iload 6, 2) := by decide +kernel
theorem dX7_best_69 : decode cX7_best 69 = .ok (.if_icmp .ge 24, 3) := by decide +kernel
theorem dX7_best_72 : decode cX7_best 72 = .ok (.iload 8, 2) := by decide +kernel
theorem dX7_best_74 : decode cX7_best 74 = .ok (.iconst 1, 1) := by decide +kernel
theorem dX7_best_75 : decode cX7_best 75 = .ok (.iload 7, 2) := by decide +kernel
theorem dX7_best_77 : decode cX7_best 77 = .ok (.iload 9, 2) := by decide +kernel
theorem dX7_best_79 : decode cX7_best 79 = .ok (.iadd, 1) := by decide +kernel
theorem dX7_best_80 : decode cX7_best 80 = .ok (.bipush 24, 2) := by decide +kernel
theorem dX7_best_82 : decode cX7_best 82 = .ok (.irem, 1) := by decide +kernel
theorem dX7_best_83 : decode cX7_best 83 = .ok (.ishl, 1) := by decide +kernel
theorem dX7_best_84 : decode cX7_best 84 = .ok (.ior, 1) := by decide +kernel
theorem dX7_best_85 : decode cX7_best 85 = .ok (.istore 8, 2) := by decide +kernel
theorem dX7_best_87 : decode cX7_best 87 = .ok (.iinc 9 1, 3) := by decide +kernel
theorem dX7_best_90 : decode cX7_best 90 = .ok (.goto (-25), 3) := by decide +kernel
theorem dX7_best_93 : decode cX7_best 93 = .ok (.aload_n 0, 1) := by decide +kernel
theorem dX7_best_94 : decode cX7_best 94 = .ok (.getfield 111, 3) := by decide +kernel
theorem dX7_best_97 : decode cX7_best 97 = .ok (.iload_n 1, 1) := by decide +kernel
theorem dX7_best_98 : decode cX7_best 98 = .ok (.iload 8, 2) := by decide +kernel
theorem dX7_best_100 : decode cX7_best 100 = .ok (.iastore, 1) := by decide +kernel
theorem dX7_best_101 : decode cX7_best 101 = .ok (.aload_n 0, 1) := by decide +kernel
theorem dX7_best_102 : decode cX7_best 102 = .ok (.invokevirtual 329, 3) := by decide +kernel
theorem dX7_best_105 : decode cX7_best 105 = .ok (.istore 9, 2) := by decide +kernel
theorem dX7_best_107 : decode cX7_best 107 = .ok (.iload 9, 2) := by decide +kernel
theorem dX7_best_109 : decode cX7_best 109 = .ok (.iload 5, 2) := by decide +kernel
theorem dX7_best_111 : decode cX7_best 111 = .ok (.if_icmp .gt 6, 3) := by decide +kernel
theorem dX7_best_114 : decode cX7_best 114 = .ok (.goto 14, 3) := by decide +kernel
theorem dX7_best_117 : decode cX7_best 117 = .ok (.iload 9, 2) := by decide +kernel
theorem dX7_best_119 : decode cX7_best 119 = .ok (.istore 5, 2) := by decide +kernel
theorem dX7_best_121 : decode cX7_best 121 = .ok (.iload 7, 2) := by decide +kernel
theorem dX7_best_123 : decode cX7_best 123 = .ok (.istore_n 3, 1) := by decide +kernel
theorem dX7_best_124 : decode cX7_best 124 = .ok (.iload 6, 2) := by decide +kernel
theorem dX7_best_126 : decode cX7_best 126 = .ok (.istore 4, 2) := by decide +kernel
theorem dX7_best_128 : decode cX7_best 128 = .ok (.iinc 7 1, 3) := by decide +kernel
theorem dX7_best_131 : decode cX7_best 131 = .ok (.goto (-79), 3) := by decide +kernel
theorem dX7_best_134 : decode cX7_best 134 = .ok (.iinc 6 1, 3) := by decide +kernel
theorem dX7_best_137 : decode cX7_best 137 = .ok (.goto (-95), 3) := by decide +kernel
theorem dX7_best_140 : decode cX7_best 140 = .ok (.iload_n 2, 1) := by decide +kernel
theorem dX7_best_141 : decode cX7_best 141 = .ok (.ifCond .ne 7, 3) := by decide +kernel
theorem dX7_best_144 : decode cX7_best 144 = .ok (.iload_n 3, 1) := by decide +kernel
theorem dX7_best_145 : decode cX7_best 145 = .ok (.goto 15, 3) := by decide +kernel
theorem dX7_best_148 : decode cX7_best 148 = .ok (.iload_n 2, 1) := by decide +kernel
theorem dX7_best_149 : decode cX7_best 149 = .ok (.iconst 1, 1) := by decide +kernel
theorem dX7_best_150 : decode cX7_best 150 = .ok (.if_icmp .ne 8, 3) := by decide +kernel
theorem dX7_best_153 : decode cX7_best 153 = .ok (.iload 4, 2) := by decide +kernel
theorem dX7_best_155 : decode cX7_best 155 = .ok (.goto 5, 3) := by decide +kernel
theorem dX7_best_158 : decode cX7_best 158 = .ok (.iload 5, 2) := by decide +kernel
theorem dX7_best_160 : decode cX7_best 160 = .ok (.ireturn, 1) := by decide +kernel
def fX7_best_b65 (sh : SH) (this : Nat) (k93 : (Int32 → Int32 → Int32 → Int32 → Int32 → Int32 → Int32 → Int32 → IH → Option (Int32 × IH))) : Nat → Int32 → Int32 → Int32 → Int32 → Int32 → Int32 → Int32 → Int32 → Int32 → IH → Option (Int32 × IH)
  | 0, _, _, _, _, _, _, _, _, _, _ => none
  | fuel + 1, v1, v2, v3, v4, v5, v6, v7, v8, v9, I =>
    if v6 ≤ v9 then (
      k93 v1 v2 v3 v4 v5 v6 v7 v8 I) else
    fX7_best_b65 sh this k93 fuel v1 v2 v3 v4 v5 v6 v7 (v8 ||| (1 <<< (((v7 + v9) - (v7 + v9) / 24 * 24) &&& 31))) (v9 + 1) I
def fX7_best_b93 (sh : SH) (this : Nat) (k52 : (Int32 → Int32 → Int32 → Int32 → Int32 → Int32 → Int32 → IH → Option (Int32 × IH))) (v1 : Int32) (v2 : Int32) (v3 : Int32) (v4 : Int32) (v5 : Int32) (v6 : Int32) (v7 : Int32) (v8 : Int32) (I : IH) : Option (Int32 × IH) :=
  (gR sh 7 this 33).bind fun x1 =>
  (sI sh I x1 v1 v8).bind fun i2 =>
  b2 (fX7_worthNow sh this i2) fun x3 i4 =>
  if v5 < x3 then (
    k52 v1 v2 v7 v6 x3 v6 (v7 + 1) i4) else
  k52 v1 v2 v3 v4 v5 v6 (v7 + 1) i4
def fX7_best_b52 (sh : SH) (this : Nat) (k42 : (Int32 → Int32 → Int32 → Int32 → Int32 → Int32 → IH → Option (Int32 × IH))) : Nat → Int32 → Int32 → Int32 → Int32 → Int32 → Int32 → Int32 → IH → Option (Int32 × IH)
  | 0, _, _, _, _, _, _, _, _ => none
  | fuel + 1, v1, v2, v3, v4, v5, v6, v7, I =>
    if 24 ≤ v7 then (
      k42 v1 v2 v3 v4 v5 (v6 + 1) I) else
    fX7_best_b65 sh this (fX7_best_b93 sh this (fX7_best_b52 sh this k42 fuel)) 1000 v1 v2 v3 v4 v5 v6 v7 0 0 I
def fX7_best_b42 (sh : SH) (this : Nat) (k140 : (Int32 → Int32 → Int32 → Int32 → IH → Option (Int32 × IH))) : Nat → Int32 → Int32 → Int32 → Int32 → Int32 → Int32 → IH → Option (Int32 × IH)
  | 0, _, _, _, _, _, _, _ => none
  | fuel + 1, v1, v2, v3, v4, v5, v6, I =>
    if 25 ≤ v6 then (
      k140 v2 v3 v4 v5 I) else
    fX7_best_b52 sh this (fX7_best_b42 sh this k140 fuel) 1000 v1 v2 v3 v4 v5 v6 0 I
def fX7_best_b140 (sh : SH) (this : Nat) (v2 : Int32) (v3 : Int32) (v4 : Int32) (v5 : Int32) (I : IH) : Option (Int32 × IH) :=
  if v2 = 0 then (
    some (v3, I)) else
  if v2 = 1 then (
    some (v4, I)) else
  some (v5, I)
def fX7_best (sh : SH) (this : Nat) (v1 : Int32) (v2 : Int32) (I : IH) : Option (Int32 × IH) :=
  (fX7_isPlace sh I this v1).bind fun x1 =>
  if x1 = 0 then (
    some ((-1), I)) else
  if (fX7_in v2 0 2) = 0 then (
    some ((-1), I)) else
  (fX7_asIs sh this I).bind fun i2 =>
  (gR sh 7 this 32).bind fun x3 =>
  (sI sh i2 x3 v1 1).bind fun i4 =>
  fX7_best_b42 sh this (fX7_best_b140 sh this) 1000 v1 v2 0 0 (-1) 0 i4
set_option maxHeartbeats 4000000 in
set_option maxRecDepth 20000 in
theorem jbX7_best_65 (G : GT) {X : XT} {sh : SH} {L : LH} {n : Nat} {r : Int32} {I' : IH}  {this : Nat} {k93 : (Int32 → Int32 → Int32 → Int32 → Int32 → Int32 → Int32 → Int32 → IH → Option (Int32 × IH))} (F : MF G X RX7 cX7_best 10 4 (some .int) "best") (hth : isO sh 7 this)
    (hk93 : ∀ {v1 : Int32} {v2 : Int32} {v3 : Int32} {v4 : Int32} {v5 : Int32} {v6 : Int32} {v7 : Int32} {v8 : Int32} {I : IH}, k93 v1 v2 v3 v4 v5 v6 v7 v8 I = some (r, I') → J G X (QE G X (some (.int r)) sh I' L n) 10 sh I L n 0 0 93 [(0, .ref this), (1, .int v1), (2, .int v2), (3, .int v3), (4, .int v4), (5, .int v5), (6, .int v6), (7, .int v7), (8, .int v8)] []) : ∀ (fuel : Nat) (v1 : Int32) (v2 : Int32) (v3 : Int32) (v4 : Int32) (v5 : Int32) (v6 : Int32) (v7 : Int32) (v8 : Int32) (v9 : Int32) (I : IH), fX7_best_b65 sh this k93 fuel v1 v2 v3 v4 v5 v6 v7 v8 v9 I = some (r, I') → J G X (QE G X (some (.int r)) sh I' L n) 10 sh I L n 0 0 65 [(0, .ref this), (1, .int v1), (2, .int v2), (3, .int v3), (4, .int v4), (5, .int v5), (6, .int v6), (7, .int v7), (8, .int v8), (9, .int v9)] []
  | 0 => by
    intros
    rename_i h
    exact absurd (show none = some _ from h) (by intro z; cases z)
  | fuel + 1 => by
    intro v1 v2 v3 v4 v5 v6 v7 v8 v9 I h
    rw [fX7_best_b65] at h
    refine j_iload (pc := 65) (k0 := 9) F 9 rfl dX7_best_65 ?_
    refine j_iload (pc := 67) (k0 := 6) F 6 rfl dX7_best_67 ?_
    refine j_icmp_ge (pc := 69) F 93 dX7_best_69 rfl (fun c => ?_) (fun c => ?_)
    · have h := iz_t c h
      refine j_sub [0, 1, 2, 3, 4, 5, 6, 7, 8] rfl ?_
      exact hk93 h
    · have h := iz_f c h
      refine j_iload (pc := 72) (k0 := 8) F 8 rfl dX7_best_72 ?_
      refine j_iconst (pc := 74) F 1 dX7_best_74 (by decide) ?_
      refine j_iload (pc := 75) (k0 := 7) F 7 rfl dX7_best_75 ?_
      refine j_iload (pc := 77) (k0 := 9) F 9 rfl dX7_best_77 ?_
      refine j_iadd (pc := 79) F dX7_best_79 ?_
      refine j_bipush (pc := 80) F 24 dX7_best_80 (by decide) ?_
      refine j_irem (pc := 82) F (by decide) dX7_best_82 ?_
      refine j_ishl (pc := 83) F dX7_best_83 ?_
      refine j_ior (pc := 84) F dX7_best_84 ?_
      refine j_istore (pc := 85) (k1 := 8) (ls' := [(8, .int (v8 ||| (1 <<< (((v7 + v9) - (v7 + v9) / 24 * 24) &&& 31)))), (0, .ref this), (1, .int v1), (2, .int v2), (3, .int v3), (4, .int v4), (5, .int v5), (6, .int v6), (7, .int v7), (9, .int v9)]) F rfl rfl dX7_best_85 ?_
      refine j_iinc (pc := 87) (k1 := 9) (ls' := [(9, .int (v9 + 1)), (8, .int (v8 ||| (1 <<< (((v7 + v9) - (v7 + v9) / 24 * 24) &&& 31)))), (0, .ref this), (1, .int v1), (2, .int v2), (3, .int v3), (4, .int v4), (5, .int v5), (6, .int v6), (7, .int v7)]) F (v9 + 1) 9 rfl rfl rfl rfl dX7_best_87 ?_
      refine j_goto (pc := 90) F 65 dX7_best_90 rfl ?_
      refine j_sub [2, 3, 4, 5, 6, 7, 8, 9, 1, 0] rfl ?_
      exact jbX7_best_65 G F hth hk93 fuel _ _ _ _ _ _ _ _ _ _ h
set_option maxHeartbeats 4000000 in
set_option maxRecDepth 20000 in
theorem jbX7_best_93 (G : GT) {X : XT} {sh : SH} {L : LH} {n : Nat} {r : Int32} {I' : IH}  {this : Nat} {k52 : (Int32 → Int32 → Int32 → Int32 → Int32 → Int32 → Int32 → IH → Option (Int32 × IH))} {v1 : Int32} {v2 : Int32} {v3 : Int32} {v4 : Int32} {v5 : Int32} {v6 : Int32} {v7 : Int32} {v8 : Int32} {I : IH} (F : MF G X RX7 cX7_best 10 4 (some .int) "best") (hth : isO sh 7 this)
    (hk52 : ∀ {v1 : Int32} {v2 : Int32} {v3 : Int32} {v4 : Int32} {v5 : Int32} {v6 : Int32} {v7 : Int32} {I : IH}, k52 v1 v2 v3 v4 v5 v6 v7 I = some (r, I') → J G X (QE G X (some (.int r)) sh I' L n) 10 sh I L n 0 0 52 [(0, .ref this), (1, .int v1), (2, .int v2), (3, .int v3), (4, .int v4), (5, .int v5), (6, .int v6), (7, .int v7)] []) (h : fX7_best_b93 sh this k52 v1 v2 v3 v4 v5 v6 v7 v8 I = some (r, I')) : J G X (QE G X (some (.int r)) sh I' L n) 10 sh I L n 0 0 93 [(0, .ref this), (1, .int v1), (2, .int v2), (3, .int v3), (4, .int v4), (5, .int v5), (6, .int v6), (7, .int v7), (8, .int v8)] [] := by
  unfold fX7_best_b93 at h
  refine j_aload_n (pc := 93) (k0 := 0) F 0 rfl dX7_best_93 ?_
  obtain ⟨x1, hx1, h⟩ := ob h
  refine j_getR (pc := 94) F flX7_111 hx1 dX7_best_94 ?_
  refine j_iload_n (pc := 97) (k0 := 1) F 1 rfl dX7_best_97 ?_
  refine j_iload (pc := 98) (k0 := 8) F 8 rfl dX7_best_98 ?_
  obtain ⟨i2, hi2, h⟩ := ob h
  refine j_iast (pc := 100) F hi2 dX7_best_100 ?_
  refine j_aload_n (pc := 101) (k0 := 0) F 0 rfl dX7_best_101 ?_
  obtain ⟨x3, i4, hx3, h⟩ := b2_obt h
  refine j_callV1 (pc := 102) (ci := 7) (As := []) (st := []) (e1 := 0) (es1 := 0) F clX7_329 cwX7_worthNow rfl hth (ctX7_worthNow G hth hx3) rfl rfl rfl rfl rfl rfl dX7_best_102 ?_
  refine j_istore (pc := 105) (k1 := 9) (ls' := [(9, .int x3), (0, .ref this), (1, .int v1), (2, .int v2), (3, .int v3), (4, .int v4), (5, .int v5), (6, .int v6), (7, .int v7), (8, .int v8)]) F rfl rfl dX7_best_105 ?_
  refine j_iload (pc := 107) (k0 := 9) F 0 rfl dX7_best_107 ?_
  refine j_iload (pc := 109) (k0 := 5) F 6 rfl dX7_best_109 ?_
  refine j_icmp_gt (pc := 111) F 117 dX7_best_111 rfl (fun c => ?_) (fun c => ?_)
  · have h := iz_t c h
    refine j_iload (pc := 117) (k0 := 9) F 0 rfl dX7_best_117 ?_
    refine j_istore (pc := 119) (k1 := 5) (ls' := [(5, .int x3), (9, .int x3), (0, .ref this), (1, .int v1), (2, .int v2), (3, .int v3), (4, .int v4), (6, .int v6), (7, .int v7), (8, .int v8)]) F rfl rfl dX7_best_119 ?_
    refine j_iload (pc := 121) (k0 := 7) F 8 rfl dX7_best_121 ?_
    refine j_istore_n (pc := 123) (k1 := 3) (ls' := [(3, .int v7), (5, .int x3), (9, .int x3), (0, .ref this), (1, .int v1), (2, .int v2), (4, .int v4), (6, .int v6), (7, .int v7), (8, .int v8)]) F rfl rfl rfl dX7_best_123 ?_
    refine j_iload (pc := 124) (k0 := 6) F 7 rfl dX7_best_124 ?_
    refine j_istore (pc := 126) (k1 := 4) (ls' := [(4, .int v6), (3, .int v7), (5, .int x3), (9, .int x3), (0, .ref this), (1, .int v1), (2, .int v2), (6, .int v6), (7, .int v7), (8, .int v8)]) F rfl rfl dX7_best_126 ?_
    refine j_iinc (pc := 128) (k1 := 7) (ls' := [(7, .int (v7 + 1)), (4, .int v6), (3, .int v7), (5, .int x3), (9, .int x3), (0, .ref this), (1, .int v1), (2, .int v2), (6, .int v6), (8, .int v8)]) F (v7 + 1) 8 rfl rfl rfl rfl dX7_best_128 ?_
    refine j_goto (pc := 131) F 52 dX7_best_131 rfl ?_
    refine j_sub [5, 6, 7, 2, 1, 3, 8, 0] rfl ?_
    exact hk52 h
  · have h := iz_f c h
    refine j_goto (pc := 114) F 128 dX7_best_114 rfl ?_
    refine j_iinc (pc := 128) (k1 := 7) (ls' := [(7, .int (v7 + 1)), (9, .int x3), (0, .ref this), (1, .int v1), (2, .int v2), (3, .int v3), (4, .int v4), (5, .int v5), (6, .int v6), (8, .int v8)]) F (v7 + 1) 8 rfl rfl rfl rfl dX7_best_128 ?_
    refine j_goto (pc := 131) F 52 dX7_best_131 rfl ?_
    refine j_sub [2, 3, 4, 5, 6, 7, 8, 0] rfl ?_
    exact hk52 h
set_option maxHeartbeats 4000000 in
set_option maxRecDepth 20000 in
theorem jbX7_best_52 (G : GT) {X : XT} {sh : SH} {L : LH} {n : Nat} {r : Int32} {I' : IH}  {this : Nat} {k42 : (Int32 → Int32 → Int32 → Int32 → Int32 → Int32 → IH → Option (Int32 × IH))} (F : MF G X RX7 cX7_best 10 4 (some .int) "best") (hth : isO sh 7 this)
    (hk42 : ∀ {v1 : Int32} {v2 : Int32} {v3 : Int32} {v4 : Int32} {v5 : Int32} {v6 : Int32} {I : IH}, k42 v1 v2 v3 v4 v5 v6 I = some (r, I') → J G X (QE G X (some (.int r)) sh I' L n) 10 sh I L n 0 0 42 [(0, .ref this), (1, .int v1), (2, .int v2), (3, .int v3), (4, .int v4), (5, .int v5), (6, .int v6)] []) : ∀ (fuel : Nat) (v1 : Int32) (v2 : Int32) (v3 : Int32) (v4 : Int32) (v5 : Int32) (v6 : Int32) (v7 : Int32) (I : IH), fX7_best_b52 sh this k42 fuel v1 v2 v3 v4 v5 v6 v7 I = some (r, I') → J G X (QE G X (some (.int r)) sh I' L n) 10 sh I L n 0 0 52 [(0, .ref this), (1, .int v1), (2, .int v2), (3, .int v3), (4, .int v4), (5, .int v5), (6, .int v6), (7, .int v7)] []
  | 0 => by
    intros
    rename_i h
    exact absurd (show none = some _ from h) (by intro z; cases z)
  | fuel + 1 => by
    intro v1 v2 v3 v4 v5 v6 v7 I h
    rw [fX7_best_b52] at h
    refine j_iload (pc := 52) (k0 := 7) F 7 rfl dX7_best_52 ?_
    refine j_bipush (pc := 54) F 24 dX7_best_54 (by decide) ?_
    refine j_icmp_ge (pc := 56) F 134 dX7_best_56 rfl (fun c => ?_) (fun c => ?_)
    · have h := iz_t c h
      refine j_iinc (pc := 134) (k1 := 6) (ls' := [(6, .int (v6 + 1)), (0, .ref this), (1, .int v1), (2, .int v2), (3, .int v3), (4, .int v4), (5, .int v5), (7, .int v7)]) F (v6 + 1) 6 rfl rfl rfl rfl dX7_best_134 ?_
      refine j_goto (pc := 137) F 42 dX7_best_137 rfl ?_
      refine j_sub [1, 2, 3, 4, 5, 6, 0] rfl ?_
      exact hk42 h
    · have h := iz_f c h
      refine j_iconst (pc := 59) F 0 dX7_best_59 (by decide) ?_
      refine j_istore (pc := 60) (k1 := 8) (ls' := [(8, .int 0), (0, .ref this), (1, .int v1), (2, .int v2), (3, .int v3), (4, .int v4), (5, .int v5), (6, .int v6), (7, .int v7)]) F rfl rfl dX7_best_60 ?_
      refine j_iconst (pc := 62) F 0 dX7_best_62 (by decide) ?_
      refine j_istore (pc := 63) (k1 := 9) (ls' := [(9, .int 0), (8, .int 0), (0, .ref this), (1, .int v1), (2, .int v2), (3, .int v3), (4, .int v4), (5, .int v5), (6, .int v6), (7, .int v7)]) F rfl rfl dX7_best_63 ?_
      refine j_sub [2, 3, 4, 5, 6, 7, 8, 9, 1, 0] rfl ?_
      exact jbX7_best_65 G F hth (fun h => jbX7_best_93 G F hth (fun h => jbX7_best_52 G F hth hk42 fuel _ _ _ _ _ _ _ _ h) h) 1000 _ _ _ _ _ _ _ _ _ _ h
set_option maxHeartbeats 4000000 in
set_option maxRecDepth 20000 in
theorem jbX7_best_42 (G : GT) {X : XT} {sh : SH} {L : LH} {n : Nat} {r : Int32} {I' : IH}  {this : Nat} {k140 : (Int32 → Int32 → Int32 → Int32 → IH → Option (Int32 × IH))} (F : MF G X RX7 cX7_best 10 4 (some .int) "best") (hth : isO sh 7 this)
    (hk140 : ∀ {v2 : Int32} {v3 : Int32} {v4 : Int32} {v5 : Int32} {I : IH}, k140 v2 v3 v4 v5 I = some (r, I') → J G X (QE G X (some (.int r)) sh I' L n) 10 sh I L n 0 0 140 [(0, .ref this), (2, .int v2), (3, .int v3), (4, .int v4), (5, .int v5)] []) : ∀ (fuel : Nat) (v1 : Int32) (v2 : Int32) (v3 : Int32) (v4 : Int32) (v5 : Int32) (v6 : Int32) (I : IH), fX7_best_b42 sh this k140 fuel v1 v2 v3 v4 v5 v6 I = some (r, I') → J G X (QE G X (some (.int r)) sh I' L n) 10 sh I L n 0 0 42 [(0, .ref this), (1, .int v1), (2, .int v2), (3, .int v3), (4, .int v4), (5, .int v5), (6, .int v6)] []
  | 0 => by
    intros
    rename_i h
    exact absurd (show none = some _ from h) (by intro z; cases z)
  | fuel + 1 => by
    intro v1 v2 v3 v4 v5 v6 I h
    rw [fX7_best_b42] at h
    refine j_iload (pc := 42) (k0 := 6) F 6 rfl dX7_best_42 ?_
    refine j_bipush (pc := 44) F 25 dX7_best_44 (by decide) ?_
    refine j_icmp_ge (pc := 46) F 140 dX7_best_46 rfl (fun c => ?_) (fun c => ?_)
    · have h := iz_t c h
      refine j_sub [0, 2, 3, 4, 5] rfl ?_
      exact hk140 h
    · have h := iz_f c h
      refine j_iconst (pc := 49) F 0 dX7_best_49 (by decide) ?_
      refine j_istore (pc := 50) (k1 := 7) (ls' := [(7, .int 0), (0, .ref this), (1, .int v1), (2, .int v2), (3, .int v3), (4, .int v4), (5, .int v5), (6, .int v6)]) F rfl rfl dX7_best_50 ?_
      refine j_sub [1, 2, 3, 4, 5, 6, 7, 0] rfl ?_
      exact jbX7_best_52 G F hth (fun h => jbX7_best_42 G F hth hk140 fuel _ _ _ _ _ _ _ h) 1000 _ _ _ _ _ _ _ _ h
set_option maxHeartbeats 4000000 in
set_option maxRecDepth 20000 in
theorem jbX7_best_140 (G : GT) {X : XT} {sh : SH} {L : LH} {n : Nat} {r : Int32} {I' : IH}  {this : Nat}  {v2 : Int32} {v3 : Int32} {v4 : Int32} {v5 : Int32} {I : IH} (F : MF G X RX7 cX7_best 10 4 (some .int) "best") (hth : isO sh 7 this) (h : fX7_best_b140 sh this v2 v3 v4 v5 I = some (r, I')) : J G X (QE G X (some (.int r)) sh I' L n) 10 sh I L n 0 0 140 [(0, .ref this), (2, .int v2), (3, .int v3), (4, .int v4), (5, .int v5)] [] := by
  unfold fX7_best_b140 at h
  refine j_iload_n (pc := 140) (k0 := 2) F 1 rfl dX7_best_140 ?_
  refine j_if_ne (pc := 141) F 148 dX7_best_141 rfl (fun c => ?_) (fun c => ?_)
  · have h := iz_f c h
    refine j_iload_n (pc := 148) (k0 := 2) F 1 rfl dX7_best_148 ?_
    refine j_iconst (pc := 149) F 1 dX7_best_149 (by decide) ?_
    refine j_icmp_ne (pc := 150) F 158 dX7_best_150 rfl (fun c => ?_) (fun c => ?_)
    · have h := iz_f c h
      refine j_iload (pc := 158) (k0 := 5) F 4 rfl dX7_best_158 ?_
      have g1 := Option.some.inj h
      obtain ⟨q3, g2⟩ := Prod.mk.inj g1
      subst q3
      subst g2
      exact j_iret (pc := 160) F dX7_best_160
    · have h := iz_t c h
      refine j_iload (pc := 153) (k0 := 4) F 3 rfl dX7_best_153 ?_
      refine j_goto (pc := 155) F 160 dX7_best_155 rfl ?_
      have g1 := Option.some.inj h
      obtain ⟨q3, g2⟩ := Prod.mk.inj g1
      subst q3
      subst g2
      exact j_iret (pc := 160) F dX7_best_160
  · have h := iz_t c h
    refine j_iload_n (pc := 144) (k0 := 3) F 2 rfl dX7_best_144 ?_
    refine j_goto (pc := 145) F 160 dX7_best_145 rfl ?_
    have g1 := Option.some.inj h
    obtain ⟨q3, g2⟩ := Prod.mk.inj g1
    subst q3
    subst g2
    exact j_iret (pc := 160) F dX7_best_160
set_option maxHeartbeats 4000000 in
set_option maxRecDepth 20000 in
theorem jbX7_best_0 (G : GT) {X : XT} {sh : SH} {L : LH} {n : Nat} {r : Int32} {I' : IH}  {this : Nat}  {v1 : Int32} {v2 : Int32} {I : IH} (F : MF G X RX7 cX7_best 10 4 (some .int) "best") (hth : isO sh 7 this) (h : fX7_best sh this v1 v2 I = some (r, I')) : J G X (QE G X (some (.int r)) sh I' L n) 10 sh I L n 0 0 0 [(0, .ref this), (1, .int v1), (2, .int v2)] [] := by
  unfold fX7_best at h
  refine j_aload_n (pc := 0) (k0 := 0) F 0 rfl dX7_best_0 ?_
  refine j_iload_n (pc := 1) (k0 := 1) F 1 rfl dX7_best_1 ?_
  obtain ⟨x1, hx1, h⟩ := ob h
  refine j_callV1 (pc := 2) (ci := 7) (As := [.int v1]) (st := []) (e1 := 0) (es1 := 0) F clX7_314 cwX7_isPlace rfl hth (ctX7_isPlace G hth hx1) rfl rfl rfl rfl rfl rfl dX7_best_2 ?_
  refine j_if_eq (pc := 5) F 18 dX7_best_5 rfl (fun c => ?_) (fun c => ?_)
  · have h := iz_t c h
    refine j_iconst (pc := 18) F (-1) dX7_best_18 (by decide) ?_
    have g1 := Option.some.inj h
    obtain ⟨q3, g2⟩ := Prod.mk.inj g1
    subst q3
    subst g2
    exact j_iret (pc := 19) F dX7_best_19
  · have h := iz_f c h
    refine j_aload_n (pc := 8) (k0 := 0) F 0 rfl dX7_best_8 ?_
    refine j_iload_n (pc := 9) (k0 := 2) F 2 rfl dX7_best_9 ?_
    refine j_iconst (pc := 10) F 0 dX7_best_10 (by decide) ?_
    refine j_iconst (pc := 11) F 2 dX7_best_11 (by decide) ?_
    refine j_callV1 (pc := 12) (ci := 7) (As := [.int v2, .int 0, .int 2]) (st := []) (e1 := 0) (es1 := 0) F clX7_215 cwX7_in rfl hth (ctX7_in G) rfl rfl rfl rfl rfl rfl dX7_best_12 ?_
    refine j_if_ne (pc := 15) F 20 dX7_best_15 rfl (fun c => ?_) (fun c => ?_)
    · have h := iz_f c h
      refine j_aload_n (pc := 20) (k0 := 0) F 0 rfl dX7_best_20 ?_
      obtain ⟨i2, hi2, h⟩ := ob h
      refine j_callV0 (pc := 21) (ci := 7) (As := []) (st := []) (e1 := 0) (es1 := 0) F clX7_317 cwX7_asIs rfl hth (ctX7_asIs G hth hi2) rfl rfl rfl rfl rfl rfl dX7_best_21 ?_
      refine j_aload_n (pc := 24) (k0 := 0) F 0 rfl dX7_best_24 ?_
      obtain ⟨x3, hx3, h⟩ := ob h
      refine j_getR (pc := 25) F flX7_108 hx3 dX7_best_25 ?_
      refine j_iload_n (pc := 28) (k0 := 1) F 1 rfl dX7_best_28 ?_
      refine j_iconst (pc := 29) F 1 dX7_best_29 (by decide) ?_
      obtain ⟨i4, hi4, h⟩ := ob h
      refine j_iast (pc := 30) F hi4 dX7_best_30 ?_
      refine j_iconst (pc := 31) F 0 dX7_best_31 (by decide) ?_
      refine j_istore_n (pc := 32) (k1 := 3) (ls' := [(3, .int 0), (0, .ref this), (1, .int v1), (2, .int v2)]) F rfl rfl rfl dX7_best_32 ?_
      refine j_iconst (pc := 33) F 0 dX7_best_33 (by decide) ?_
      refine j_istore (pc := 34) (k1 := 4) (ls' := [(4, .int 0), (3, .int 0), (0, .ref this), (1, .int v1), (2, .int v2)]) F rfl rfl dX7_best_34 ?_
      refine j_iconst (pc := 36) F (-1) dX7_best_36 (by decide) ?_
      refine j_istore (pc := 37) (k1 := 5) (ls' := [(5, .int (-1)), (4, .int 0), (3, .int 0), (0, .ref this), (1, .int v1), (2, .int v2)]) F rfl rfl dX7_best_37 ?_
      refine j_iconst (pc := 39) F 0 dX7_best_39 (by decide) ?_
      refine j_istore (pc := 40) (k1 := 6) (ls' := [(6, .int 0), (5, .int (-1)), (4, .int 0), (3, .int 0), (0, .ref this), (1, .int v1), (2, .int v2)]) F rfl rfl dX7_best_40 ?_
      refine j_sub [4, 5, 6, 3, 2, 1, 0] rfl ?_
      exact jbX7_best_42 G F hth (fun h => jbX7_best_140 G F hth h) 1000 _ _ _ _ _ _ _ h
    · have h := iz_t c h
      refine j_iconst (pc := 18) F (-1) dX7_best_18 (by decide) ?_
      have g1 := Option.some.inj h
      obtain ⟨q3, g2⟩ := Prod.mk.inj g1
      subst q3
      subst g2
      exact j_iret (pc := 19) F dX7_best_19
theorem ctX7_best (G : GT) {sh : SH} {I : IH} {L : LH} {n : Nat} {this : Nat} {v1 : Int32} {v2 : Int32} {r : Int32} {I' : IH}  (hth : isO sh 7 this) (h : fX7_best sh this v1 v2 I = some (r, I')) : Ct G yX7_best cX7_best 10 (some .int) 4 [.ref this, .int v1, .int v2] sh I L n (some (.int r)) sh I' L n 0 0 := by
  refine ct_of (y := yX7_best) (by decide +kernel) rfl (fun X F => ?_)
  exact jbX7_best_0 G F hth h
theorem dX7_price_0 : decode cX7_price 0 = .ok (.aload_n 0, 1) := by decide +kernel
theorem dX7_price_1 : decode cX7_price 1 = .ok (.iload_n 1, 1) := by decide +kernel
theorem dX7_price_2 : decode cX7_price 2 = .ok (.invokevirtual 291, 3) := by decide +kernel
theorem dX7_price_5 : decode cX7_price 5 = .ok (.ifCond .ne 7, 3) := by decide +kernel
theorem dX7_price_8 : decode cX7_price 8 = .ok (.sipush (-1001), 3) := by decide +kernel
theorem dX7_price_11 : decode cX7_price 11 = .ok (.ireturn, 1) := by decide +kernel
theorem dX7_price_12 : decode cX7_price 12 = .ok (.aload_n 0, 1) := by decide +kernel
theorem dX7_price_13 : decode cX7_price 13 = .ok (.invokevirtual 317, 3) := by decide +kernel
theorem dX7_price_16 : decode cX7_price 16 = .ok (.aload_n 0, 1) := by decide +kernel
theorem dX7_price_17 : decode cX7_price 17 = .ok (.invokevirtual 329, 3) := by decide +kernel
theorem dX7_price_20 : decode cX7_price 20 = .ok (.istore_n 2, 1) := by decide +kernel
theorem dX7_price_21 : decode cX7_price 21 = .ok (.aload_n 0, 1) := by decide +kernel
theorem dX7_price_22 : decode cX7_price 22 = .ok (.getfield 93, 3) := by decide +kernel
theorem dX7_price_25 : decode cX7_price 25 = .ok (.iload_n 1, 1) := by decide +kernel
theorem dX7_price_26 : decode cX7_price 26 = .ok (.dup2, 1) := by decide +kernel
theorem dX7_price_27 : decode cX7_price 27 = .ok (.iaload, 1) := by decide +kernel
theorem dX7_price_28 : decode cX7_price 28 = .ok (.iconst 1, 1) := by decide +kernel
theorem dX7_price_29 : decode cX7_price 29 = .ok (.iadd, 1) := by decide +kernel
theorem dX7_price_30 : decode cX7_price 30 = .ok (.iastore, 1) := by decide +kernel
theorem dX7_price_31 : decode cX7_price 31 = .ok (.aload_n 0, 1) := by decide +kernel
theorem dX7_price_32 : decode cX7_price 32 = .ok (.invokevirtual 329, 3) := by decide +kernel
theorem dX7_price_35 : decode cX7_price 35 = .ok (.iload_n 2, 1) := by decide +kernel
theorem dX7_price_36 : decode cX7_price 36 = .ok (.isub, 1) := by decide +kernel
theorem dX7_price_37 : decode cX7_price 37 = .ok (.ireturn, 1) := by decide +kernel
def fX7_price (sh : SH) (this : Nat) (v1 : Int32) (I : IH) : Option (Int32 × IH) :=
  if (fX7_isHour v1) = 0 then (
    some ((-1001), I)) else
  (fX7_asIs sh this I).bind fun i1 =>
  b2 (fX7_worthNow sh this i1) fun x2 i3 =>
  (gR sh 7 this 27).bind fun x4 =>
  (aI sh i3 0 x4 v1).bind fun x5 =>
  (sI sh i3 x4 v1 (x5 + 1)).bind fun i6 =>
  b2 (fX7_worthNow sh this i6) fun x7 i8 =>
  some ((x7 - x2), i8)
set_option maxHeartbeats 4000000 in
set_option maxRecDepth 20000 in
theorem jbX7_price_0 (G : GT) {X : XT} {sh : SH} {L : LH} {n : Nat} {r : Int32} {I' : IH}  {this : Nat}  {v1 : Int32} {I : IH} (F : MF G X RX7 cX7_price 3 4 (some .int) "price") (hth : isO sh 7 this) (h : fX7_price sh this v1 I = some (r, I')) : J G X (QE G X (some (.int r)) sh I' L n) 3 sh I L n 0 0 0 [(0, .ref this), (1, .int v1)] [] := by
  unfold fX7_price at h
  refine j_aload_n (pc := 0) (k0 := 0) F 0 rfl dX7_price_0 ?_
  refine j_iload_n (pc := 1) (k0 := 1) F 1 rfl dX7_price_1 ?_
  refine j_callV1 (pc := 2) (ci := 7) (As := [.int v1]) (st := []) (e1 := 0) (es1 := 0) F clX7_291 cwX7_isHour rfl hth (ctX7_isHour G hth) rfl rfl rfl rfl rfl rfl dX7_price_2 ?_
  refine j_if_ne (pc := 5) F 12 dX7_price_5 rfl (fun c => ?_) (fun c => ?_)
  · have h := iz_f c h
    refine j_aload_n (pc := 12) (k0 := 0) F 0 rfl dX7_price_12 ?_
    obtain ⟨i1, hi1, h⟩ := ob h
    refine j_callV0 (pc := 13) (ci := 7) (As := []) (st := []) (e1 := 0) (es1 := 0) F clX7_317 cwX7_asIs rfl hth (ctX7_asIs G hth hi1) rfl rfl rfl rfl rfl rfl dX7_price_13 ?_
    refine j_aload_n (pc := 16) (k0 := 0) F 0 rfl dX7_price_16 ?_
    obtain ⟨x2, i3, hx2, h⟩ := b2_obt h
    refine j_callV1 (pc := 17) (ci := 7) (As := []) (st := []) (e1 := 0) (es1 := 0) F clX7_329 cwX7_worthNow rfl hth (ctX7_worthNow G hth hx2) rfl rfl rfl rfl rfl rfl dX7_price_17 ?_
    refine j_istore_n (pc := 20) (k1 := 2) (ls' := [(2, .int x2), (0, .ref this), (1, .int v1)]) F rfl rfl rfl dX7_price_20 ?_
    refine j_aload_n (pc := 21) (k0 := 0) F 1 rfl dX7_price_21 ?_
    obtain ⟨x4, hx4, h⟩ := ob h
    refine j_getR (pc := 22) F flX7_93 hx4 dX7_price_22 ?_
    refine j_iload_n (pc := 25) (k0 := 1) F 2 rfl dX7_price_25 ?_
    refine j_dup2 (pc := 26) F dX7_price_26 rfl rfl ?_
    obtain ⟨x5, hx5, h⟩ := ob h
    refine j_iald (pc := 27) F hx5 dX7_price_27 ?_
    refine j_iconst (pc := 28) F 1 dX7_price_28 (by decide) ?_
    refine j_iadd (pc := 29) F dX7_price_29 ?_
    obtain ⟨i6, hi6, h⟩ := ob h
    refine j_iast (pc := 30) F hi6 dX7_price_30 ?_
    refine j_aload_n (pc := 31) (k0 := 0) F 1 rfl dX7_price_31 ?_
    obtain ⟨x7, i8, hx7, h⟩ := b2_obt h
    refine j_callV1 (pc := 32) (ci := 7) (As := []) (st := []) (e1 := 0) (es1 := 0) F clX7_329 cwX7_worthNow rfl hth (ctX7_worthNow G hth hx7) rfl rfl rfl rfl rfl rfl dX7_price_32 ?_
    refine j_iload_n (pc := 35) (k0 := 2) F 0 rfl dX7_price_35 ?_
    refine j_isub (pc := 36) F dX7_price_36 ?_
    have g1 := Option.some.inj h
    obtain ⟨q3, g2⟩ := Prod.mk.inj g1
    subst q3
    subst g2
    exact j_iret (pc := 37) F dX7_price_37
  · have h := iz_t c h
    refine j_sipush (pc := 8) F (-1001) dX7_price_8 (by decide) ?_
    have g1 := Option.some.inj h
    obtain ⟨q3, g2⟩ := Prod.mk.inj g1
    subst q3
    subst g2
    exact j_iret (pc := 11) F dX7_price_11
theorem ctX7_price (G : GT) {sh : SH} {I : IH} {L : LH} {n : Nat} {this : Nat} {v1 : Int32} {r : Int32} {I' : IH}  (hth : isO sh 7 this) (h : fX7_price sh this v1 I = some (r, I')) : Ct G yX7_price cX7_price 3 (some .int) 4 [.ref this, .int v1] sh I L n (some (.int r)) sh I' L n 0 0 := by
  refine ct_of (y := yX7_price) (by decide +kernel) rfl (fun X F => ?_)
  exact jbX7_price_0 G F hth h
theorem dX7_part_0 : decode cX7_part 0 = .ok (.aload_n 0, 1) := by decide +kernel
theorem dX7_part_1 : decode cX7_part 1 = .ok (.iload_n 1, 1) := by decide +kernel
theorem dX7_part_2 : decode cX7_part 2 = .ok (.invokevirtual 314, 3) := by decide +kernel
theorem dX7_part_5 : decode cX7_part 5 = .ok (.ifCond .eq 22, 3) := by decide +kernel
theorem dX7_part_8 : decode cX7_part 8 = .ok (.aload_n 0, 1) := by decide +kernel
theorem dX7_part_9 : decode cX7_part 9 = .ok (.iload_n 2, 1) := by decide +kernel
theorem dX7_part_10 : decode cX7_part 10 = .ok (.invokevirtual 291, 3) := by decide +kernel
theorem dX7_part_13 : decode cX7_part 13 = .ok (.ifCond .eq 14, 3) := by decide +kernel
theorem dX7_part_16 : decode cX7_part 16 = .ok (.aload_n 0, 1) := by decide +kernel
theorem dX7_part_17 : decode cX7_part 17 = .ok (.iload 4, 2) := by decide +kernel
theorem dX7_part_19 : decode cX7_part 19 = .ok (.iconst 0, 1) := by decide +kernel
theorem dX7_part_20 : decode cX7_part 20 = .ok (.iconst 1, 1) := by decide +kernel
theorem dX7_part_21 : decode cX7_part 21 = .ok (.invokevirtual 215, 3) := by decide +kernel
theorem dX7_part_24 : decode cX7_part 24 = .ok (.ifCond .ne 5, 3) := by decide +kernel
theorem dX7_part_27 : decode cX7_part 27 = .ok (.iconst (-1), 1) := by decide +kernel
theorem dX7_part_28 : decode cX7_part 28 = .ok (.ireturn, 1) := by decide +kernel
theorem dX7_part_29 : decode cX7_part 29 = .ok (.aload_n 0, 1) := by decide +kernel
theorem dX7_part_30 : decode cX7_part 30 = .ok (.iload_n 3, 1) := by decide +kernel
theorem dX7_part_31 : decode cX7_part 31 = .ok (.iconst 1, 1) := by decide +kernel
theorem dX7_part_32 : decode cX7_part 32 = .ok (.bipush 99, 2) := by decide +kernel
theorem dX7_part_34 : decode cX7_part 34 = .ok (.invokevirtual 215, 3) := by decide +kernel
theorem dX7_part_37 : decode cX7_part 37 = .ok (.ifCond .ne 6, 3) := by decide +kernel
theorem dX7_part_40 : decode cX7_part 40 = .ok (.bipush (-2), 2) := by decide +kernel
theorem dX7_part_42 : decode cX7_part 42 = .ok (.ireturn, 1) := by decide +kernel
theorem dX7_part_43 : decode cX7_part 43 = .ok (.aload_n 0, 1) := by decide +kernel
theorem dX7_part_44 : decode cX7_part 44 = .ok (.invokevirtual 317, 3) := by decide +kernel
theorem dX7_part_47 : decode cX7_part 47 = .ok (.iload_n 3, 1) := by decide +kernel
theorem dX7_part_48 : decode cX7_part 48 = .ok (.istore 5, 2) := by decide +kernel
theorem dX7_part_50 : decode cX7_part 50 = .ok (.iload_n 2, 1) := by decide +kernel
theorem dX7_part_51 : decode cX7_part 51 = .ok (.istore 6, 2) := by decide +kernel
theorem dX7_part_53 : decode cX7_part 53 = .ok (.iconst 0, 1) := by decide +kernel
theorem dX7_part_54 : decode cX7_part 54 = .ok (.istore 7, 2) := by decide +kernel
theorem dX7_part_56 : decode cX7_part 56 = .ok (.iload 7, 2) := by decide +kernel
theorem dX7_part_58 : decode cX7_part 58 = .ok (.iload_n 1, 1) := by decide +kernel
theorem dX7_part_59 : decode cX7_part 59 = .ok (.if_icmp .gt 42, 3) := by decide +kernel
theorem dX7_part_62 : decode cX7_part 62 = .ok (.aload_n 0, 1) := by decide +kernel
theorem dX7_part_63 : decode cX7_part 63 = .ok (.aload_n 0, 1) := by decide +kernel
theorem dX7_part_64 : decode cX7_part 64 = .ok (.iload 5, 2) := by decide +kernel
theorem dX7_part_66 : decode cX7_part 66 = .ok (.aload_n 0, 1) := by decide +kernel
theorem dX7_part_67 : decode cX7_part 67 = .ok (.getfield 102, 3) := by decide +kernel
theorem dX7_part_70 : decode cX7_part 70 = .ok (.iload 7, 2) := by decide +kernel
theorem dX7_part_72 : decode cX7_part 72 = .ok (.iaload, 1) := by decide +kernel
theorem dX7_part_73 : decode cX7_part 73 = .ok (.invokevirtual 284, 3) := by decide +kernel
theorem dX7_part_76 : decode cX7_part 76 = .ok (.iload 7, 2) := by decide +kernel
theorem dX7_part_78 : decode cX7_part 78 = .ok (.invokevirtual 300, 3) := by decide +kernel
theorem dX7_part_81 : decode cX7_part 81 = .ok (.istore 5, 2) := by decide +kernel
theorem dX7_part_83 : decode cX7_part 83 = .ok (.iload 6, 2) := by decide +kernel
theorem dX7_part_85 : decode cX7_part 85 = .ok (.aload_n 0, 1) := by decide +kernel
theorem dX7_part_86 : decode cX7_part 86 = .ok (.getfield 96, 3) := by decide +kernel
theorem dX7_part_89 : decode cX7_part 89 = .ok (.iload 7, 2) := by decide +kernel
theorem dX7_part_91 : decode cX7_part 91 = .ok (.iaload, 1) := by decide +kernel
theorem dX7_part_92 : decode cX7_part 92 = .ok (.iadd, 1) := by decide +kernel
theorem dX7_part_93 : decode cX7_part 93 = .ok (.istore 6, 2) := by decide +kernel
theorem dX7_part_95 : decode cX7_part 95 = .ok (.iinc 7 1, 3) := by decide +kernel
theorem dX7_part_98 : decode cX7_part 98 = .ok (.goto (-42), 3) := by decide +kernel
theorem dX7_part_101 : decode cX7_part 101 = .ok (.iload 6, 2) := by decide +kernel
theorem dX7_part_103 : decode cX7_part 103 = .ok (.bipush 47, 2) := by decide +kernel
theorem dX7_part_105 : decode cX7_part 105 = .ok (.if_icmp .gt 8, 3) := by decide +kernel
theorem dX7_part_108 : decode cX7_part 108 = .ok (.iload 5, 2) := by decide +kernel
theorem dX7_part_110 : decode cX7_part 110 = .ok (.ifCond .ne 15, 3) := by decide +kernel
theorem dX7_part_113 : decode cX7_part 113 = .ok (.iload 4, 2) := by decide +kernel
theorem dX7_part_115 : decode cX7_part 115 = .ok (.ifCond .ne 7, 3) := by decide +kernel
theorem dX7_part_118 : decode cX7_part 118 = .ok (.iconst 0, 1) := by decide +kernel
theorem dX7_part_119 : decode cX7_part 119 = .ok (.goto 5, 3) := by decide +kernel
theorem dX7_part_122 : decode cX7_part 122 = .ok (.bipush (-5), 2) := by decide +kernel
theorem dX7_part_124 : decode cX7_part 124 = .ok (.ireturn, 1) := by decide +kernel
theorem dX7_part_125 : decode cX7_part 125 = .ok (.iload 4, 2) := by decide +kernel
theorem dX7_part_127 : decode cX7_part 127 = .ok (.ifCond .ne 8, 3) := by decide +kernel
theorem dX7_part_130 : decode cX7_part 130 = .ok (.iload 5, 2) := by decide +kernel
theorem dX7_part_132 : decode cX7_part 132 = .ok (.goto 5, 3) := by decide +kernel
theorem dX7_part_135 : decode cX7_part 135 = .ok (.iload 6, 2) := by decide +kernel
theorem dX7_part_137 : decode cX7_part 137 = .ok (.ireturn, 1) := by decide +kernel
def fX7_part_b56 (sh : SH) (this : Nat) (k101 : (Int32 → Int32 → Int32 → IH → Option (Int32 × IH))) : Nat → Int32 → Int32 → Int32 → Int32 → Int32 → IH → Option (Int32 × IH)
  | 0, _, _, _, _, _, _ => none
  | fuel + 1, v1, v4, v5, v6, v7, I =>
    if v1 < v7 then (
      k101 v4 v5 v6 I) else
    (gR sh 7 this 30).bind fun x1 =>
    (aI sh I 0 x1 v7).bind fun x2 =>
    (fX7_less sh I this (fX7_min v5 x2) v7).bind fun x3 =>
    (gR sh 7 this 28).bind fun x4 =>
    (aI sh I 0 x4 v7).bind fun x5 =>
    fX7_part_b56 sh this k101 fuel v1 v4 x3 (v6 + x5) (v7 + 1) I
def fX7_part_b113 (sh : SH) (this : Nat) (v4 : Int32) (I : IH) : Option (Int32 × IH) :=
  if v4 = 0 then (
    some (0, I)) else
  some ((-5), I)
def fX7_part_b101 (sh : SH) (this : Nat) (v4 : Int32) (v5 : Int32) (v6 : Int32) (I : IH) : Option (Int32 × IH) :=
  if 47 < v6 then (
    fX7_part_b113 sh this v4 I) else
  if v5 = 0 then (
    fX7_part_b113 sh this v4 I) else
  if v4 = 0 then (
    some (v5, I)) else
  some (v6, I)
def fX7_part (sh : SH) (this : Nat) (v1 : Int32) (v2 : Int32) (v3 : Int32) (v4 : Int32) (I : IH) : Option (Int32 × IH) :=
  (fX7_isPlace sh I this v1).bind fun x1 =>
  if x1 = 0 then (
    some ((-1), I)) else
  if (fX7_isHour v2) = 0 then (
    some ((-1), I)) else
  if (fX7_in v4 0 1) = 0 then (
    some ((-1), I)) else
  if (fX7_in v3 1 99) = 0 then (
    some ((-2), I)) else
  (fX7_asIs sh this I).bind fun i2 =>
  fX7_part_b56 sh this (fX7_part_b101 sh this) 1000 v1 v4 v3 v2 0 i2
set_option maxHeartbeats 4000000 in
set_option maxRecDepth 20000 in
theorem jbX7_part_56 (G : GT) {X : XT} {sh : SH} {L : LH} {n : Nat} {r : Int32} {I' : IH}  {this : Nat} {k101 : (Int32 → Int32 → Int32 → IH → Option (Int32 × IH))} (F : MF G X RX7 cX7_part 8 4 (some .int) "part") (hth : isO sh 7 this)
    (hk101 : ∀ {v4 : Int32} {v5 : Int32} {v6 : Int32} {I : IH}, k101 v4 v5 v6 I = some (r, I') → J G X (QE G X (some (.int r)) sh I' L n) 8 sh I L n 0 0 101 [(0, .ref this), (4, .int v4), (5, .int v5), (6, .int v6)] []) : ∀ (fuel : Nat) (v1 : Int32) (v4 : Int32) (v5 : Int32) (v6 : Int32) (v7 : Int32) (I : IH), fX7_part_b56 sh this k101 fuel v1 v4 v5 v6 v7 I = some (r, I') → J G X (QE G X (some (.int r)) sh I' L n) 8 sh I L n 0 0 56 [(0, .ref this), (1, .int v1), (4, .int v4), (5, .int v5), (6, .int v6), (7, .int v7)] []
  | 0 => by
    intros
    rename_i h
    exact absurd (show none = some _ from h) (by intro z; cases z)
  | fuel + 1 => by
    intro v1 v4 v5 v6 v7 I h
    rw [fX7_part_b56] at h
    refine j_iload (pc := 56) (k0 := 7) F 5 rfl dX7_part_56 ?_
    refine j_iload_n (pc := 58) (k0 := 1) F 1 rfl dX7_part_58 ?_
    refine j_icmp_gt (pc := 59) F 101 dX7_part_59 rfl (fun c => ?_) (fun c => ?_)
    · have h := iz_t c h
      refine j_sub [0, 2, 3, 4] rfl ?_
      exact hk101 h
    · have h := iz_f c h
      refine j_aload_n (pc := 62) (k0 := 0) F 0 rfl dX7_part_62 ?_
      refine j_aload_n (pc := 63) (k0 := 0) F 0 rfl dX7_part_63 ?_
      refine j_iload (pc := 64) (k0 := 5) F 3 rfl dX7_part_64 ?_
      refine j_aload_n (pc := 66) (k0 := 0) F 0 rfl dX7_part_66 ?_
      obtain ⟨x1, hx1, h⟩ := ob h
      refine j_getR (pc := 67) F flX7_102 hx1 dX7_part_67 ?_
      refine j_iload (pc := 70) (k0 := 7) F 5 rfl dX7_part_70 ?_
      obtain ⟨x2, hx2, h⟩ := ob h
      refine j_iald (pc := 72) F hx2 dX7_part_72 ?_
      refine j_callV1 (pc := 73) (ci := 7) (As := [.int v5, .int x2]) (st := [.ref this]) (e1 := 0) (es1 := 0) F clX7_284 cwX7_min rfl hth (ctX7_min G) rfl rfl rfl rfl rfl rfl dX7_part_73 ?_
      refine j_iload (pc := 76) (k0 := 7) F 5 rfl dX7_part_76 ?_
      obtain ⟨x3, hx3, h⟩ := ob h
      refine j_callV1 (pc := 78) (ci := 7) (As := [.int (fX7_min v5 x2), .int v7]) (st := []) (e1 := 0) (es1 := 0) F clX7_300 cwX7_less rfl hth (ctX7_less G hx3) rfl rfl rfl rfl rfl rfl dX7_part_78 ?_
      refine j_istore (pc := 81) (k1 := 5) (ls' := [(5, .int x3), (0, .ref this), (1, .int v1), (4, .int v4), (6, .int v6), (7, .int v7)]) F rfl rfl dX7_part_81 ?_
      refine j_iload (pc := 83) (k0 := 6) F 4 rfl dX7_part_83 ?_
      refine j_aload_n (pc := 85) (k0 := 0) F 1 rfl dX7_part_85 ?_
      obtain ⟨x4, hx4, h⟩ := ob h
      refine j_getR (pc := 86) F flX7_96 hx4 dX7_part_86 ?_
      refine j_iload (pc := 89) (k0 := 7) F 5 rfl dX7_part_89 ?_
      obtain ⟨x5, hx5, h⟩ := ob h
      refine j_iald (pc := 91) F hx5 dX7_part_91 ?_
      refine j_iadd (pc := 92) F dX7_part_92 ?_
      refine j_istore (pc := 93) (k1 := 6) (ls' := [(6, .int (v6 + x5)), (5, .int x3), (0, .ref this), (1, .int v1), (4, .int v4), (7, .int v7)]) F rfl rfl dX7_part_93 ?_
      refine j_iinc (pc := 95) (k1 := 7) (ls' := [(7, .int (v7 + 1)), (6, .int (v6 + x5)), (5, .int x3), (0, .ref this), (1, .int v1), (4, .int v4)]) F (v7 + 1) 5 rfl rfl rfl rfl dX7_part_95 ?_
      refine j_goto (pc := 98) F 56 dX7_part_98 rfl ?_
      refine j_sub [3, 4, 5, 2, 1, 0] rfl ?_
      exact jbX7_part_56 G F hth hk101 fuel _ _ _ _ _ _ h
set_option maxHeartbeats 4000000 in
set_option maxRecDepth 20000 in
theorem jbX7_part_113 (G : GT) {X : XT} {sh : SH} {L : LH} {n : Nat} {r : Int32} {I' : IH}  {this : Nat}  {v4 : Int32} {I : IH} (F : MF G X RX7 cX7_part 8 4 (some .int) "part") (hth : isO sh 7 this) (h : fX7_part_b113 sh this v4 I = some (r, I')) : J G X (QE G X (some (.int r)) sh I' L n) 8 sh I L n 0 0 113 [(0, .ref this), (4, .int v4)] [] := by
  unfold fX7_part_b113 at h
  refine j_iload (pc := 113) (k0 := 4) F 1 rfl dX7_part_113 ?_
  refine j_if_ne (pc := 115) F 122 dX7_part_115 rfl (fun c => ?_) (fun c => ?_)
  · have h := iz_f c h
    refine j_bipush (pc := 122) F (-5) dX7_part_122 (by decide) ?_
    have g1 := Option.some.inj h
    obtain ⟨q3, g2⟩ := Prod.mk.inj g1
    subst q3
    subst g2
    exact j_iret (pc := 124) F dX7_part_124
  · have h := iz_t c h
    refine j_iconst (pc := 118) F 0 dX7_part_118 (by decide) ?_
    refine j_goto (pc := 119) F 124 dX7_part_119 rfl ?_
    have g1 := Option.some.inj h
    obtain ⟨q3, g2⟩ := Prod.mk.inj g1
    subst q3
    subst g2
    exact j_iret (pc := 124) F dX7_part_124
set_option maxHeartbeats 4000000 in
set_option maxRecDepth 20000 in
theorem jbX7_part_101 (G : GT) {X : XT} {sh : SH} {L : LH} {n : Nat} {r : Int32} {I' : IH}  {this : Nat}  {v4 : Int32} {v5 : Int32} {v6 : Int32} {I : IH} (F : MF G X RX7 cX7_part 8 4 (some .int) "part") (hth : isO sh 7 this) (h : fX7_part_b101 sh this v4 v5 v6 I = some (r, I')) : J G X (QE G X (some (.int r)) sh I' L n) 8 sh I L n 0 0 101 [(0, .ref this), (4, .int v4), (5, .int v5), (6, .int v6)] [] := by
  unfold fX7_part_b101 at h
  refine j_iload (pc := 101) (k0 := 6) F 3 rfl dX7_part_101 ?_
  refine j_bipush (pc := 103) F 47 dX7_part_103 (by decide) ?_
  refine j_icmp_gt (pc := 105) F 113 dX7_part_105 rfl (fun c => ?_) (fun c => ?_)
  · have h := iz_t c h
    refine j_sub [0, 1] rfl ?_
    exact jbX7_part_113 G F hth h
  · have h := iz_f c h
    refine j_iload (pc := 108) (k0 := 5) F 2 rfl dX7_part_108 ?_
    refine j_if_ne (pc := 110) F 125 dX7_part_110 rfl (fun c => ?_) (fun c => ?_)
    · have h := iz_f c h
      refine j_iload (pc := 125) (k0 := 4) F 1 rfl dX7_part_125 ?_
      refine j_if_ne (pc := 127) F 135 dX7_part_127 rfl (fun c => ?_) (fun c => ?_)
      · have h := iz_f c h
        refine j_iload (pc := 135) (k0 := 6) F 3 rfl dX7_part_135 ?_
        have g1 := Option.some.inj h
        obtain ⟨q3, g2⟩ := Prod.mk.inj g1
        subst q3
        subst g2
        exact j_iret (pc := 137) F dX7_part_137
      · have h := iz_t c h
        refine j_iload (pc := 130) (k0 := 5) F 2 rfl dX7_part_130 ?_
        refine j_goto (pc := 132) F 137 dX7_part_132 rfl ?_
        have g1 := Option.some.inj h
        obtain ⟨q3, g2⟩ := Prod.mk.inj g1
        subst q3
        subst g2
        exact j_iret (pc := 137) F dX7_part_137
    · have h := iz_t c h
      refine j_sub [0, 1] rfl ?_
      exact jbX7_part_113 G F hth h
set_option maxHeartbeats 4000000 in
set_option maxRecDepth 20000 in
theorem jbX7_part_0 (G : GT) {X : XT} {sh : SH} {L : LH} {n : Nat} {r : Int32} {I' : IH}  {this : Nat}  {v1 : Int32} {v2 : Int32} {v3 : Int32} {v4 : Int32} {I : IH} (F : MF G X RX7 cX7_part 8 4 (some .int) "part") (hth : isO sh 7 this) (h : fX7_part sh this v1 v2 v3 v4 I = some (r, I')) : J G X (QE G X (some (.int r)) sh I' L n) 8 sh I L n 0 0 0 [(0, .ref this), (1, .int v1), (2, .int v2), (3, .int v3), (4, .int v4)] [] := by
  unfold fX7_part at h
  refine j_aload_n (pc := 0) (k0 := 0) F 0 rfl dX7_part_0 ?_
  refine j_iload_n (pc := 1) (k0 := 1) F 1 rfl dX7_part_1 ?_
  obtain ⟨x1, hx1, h⟩ := ob h
  refine j_callV1 (pc := 2) (ci := 7) (As := [.int v1]) (st := []) (e1 := 0) (es1 := 0) F clX7_314 cwX7_isPlace rfl hth (ctX7_isPlace G hth hx1) rfl rfl rfl rfl rfl rfl dX7_part_2 ?_
  refine j_if_eq (pc := 5) F 27 dX7_part_5 rfl (fun c => ?_) (fun c => ?_)
  · have h := iz_t c h
    refine j_iconst (pc := 27) F (-1) dX7_part_27 (by decide) ?_
    have g1 := Option.some.inj h
    obtain ⟨q3, g2⟩ := Prod.mk.inj g1
    subst q3
    subst g2
    exact j_iret (pc := 28) F dX7_part_28
  · have h := iz_f c h
    refine j_aload_n (pc := 8) (k0 := 0) F 0 rfl dX7_part_8 ?_
    refine j_iload_n (pc := 9) (k0 := 2) F 2 rfl dX7_part_9 ?_
    refine j_callV1 (pc := 10) (ci := 7) (As := [.int v2]) (st := []) (e1 := 0) (es1 := 0) F clX7_291 cwX7_isHour rfl hth (ctX7_isHour G hth) rfl rfl rfl rfl rfl rfl dX7_part_10 ?_
    refine j_if_eq (pc := 13) F 27 dX7_part_13 rfl (fun c => ?_) (fun c => ?_)
    · have h := iz_t c h
      refine j_iconst (pc := 27) F (-1) dX7_part_27 (by decide) ?_
      have g1 := Option.some.inj h
      obtain ⟨q3, g2⟩ := Prod.mk.inj g1
      subst q3
      subst g2
      exact j_iret (pc := 28) F dX7_part_28
    · have h := iz_f c h
      refine j_aload_n (pc := 16) (k0 := 0) F 0 rfl dX7_part_16 ?_
      refine j_iload (pc := 17) (k0 := 4) F 4 rfl dX7_part_17 ?_
      refine j_iconst (pc := 19) F 0 dX7_part_19 (by decide) ?_
      refine j_iconst (pc := 20) F 1 dX7_part_20 (by decide) ?_
      refine j_callV1 (pc := 21) (ci := 7) (As := [.int v4, .int 0, .int 1]) (st := []) (e1 := 0) (es1 := 0) F clX7_215 cwX7_in rfl hth (ctX7_in G) rfl rfl rfl rfl rfl rfl dX7_part_21 ?_
      refine j_if_ne (pc := 24) F 29 dX7_part_24 rfl (fun c => ?_) (fun c => ?_)
      · have h := iz_f c h
        refine j_aload_n (pc := 29) (k0 := 0) F 0 rfl dX7_part_29 ?_
        refine j_iload_n (pc := 30) (k0 := 3) F 3 rfl dX7_part_30 ?_
        refine j_iconst (pc := 31) F 1 dX7_part_31 (by decide) ?_
        refine j_bipush (pc := 32) F 99 dX7_part_32 (by decide) ?_
        refine j_callV1 (pc := 34) (ci := 7) (As := [.int v3, .int 1, .int 99]) (st := []) (e1 := 0) (es1 := 0) F clX7_215 cwX7_in rfl hth (ctX7_in G) rfl rfl rfl rfl rfl rfl dX7_part_34 ?_
        refine j_if_ne (pc := 37) F 43 dX7_part_37 rfl (fun c => ?_) (fun c => ?_)
        · have h := iz_f c h
          refine j_aload_n (pc := 43) (k0 := 0) F 0 rfl dX7_part_43 ?_
          obtain ⟨i2, hi2, h⟩ := ob h
          refine j_callV0 (pc := 44) (ci := 7) (As := []) (st := []) (e1 := 0) (es1 := 0) F clX7_317 cwX7_asIs rfl hth (ctX7_asIs G hth hi2) rfl rfl rfl rfl rfl rfl dX7_part_44 ?_
          refine j_iload_n (pc := 47) (k0 := 3) F 3 rfl dX7_part_47 ?_
          refine j_istore (pc := 48) (k1 := 5) (ls' := [(5, .int v3), (0, .ref this), (1, .int v1), (2, .int v2), (3, .int v3), (4, .int v4)]) F rfl rfl dX7_part_48 ?_
          refine j_iload_n (pc := 50) (k0 := 2) F 3 rfl dX7_part_50 ?_
          refine j_istore (pc := 51) (k1 := 6) (ls' := [(6, .int v2), (5, .int v3), (0, .ref this), (1, .int v1), (2, .int v2), (3, .int v3), (4, .int v4)]) F rfl rfl dX7_part_51 ?_
          refine j_iconst (pc := 53) F 0 dX7_part_53 (by decide) ?_
          refine j_istore (pc := 54) (k1 := 7) (ls' := [(7, .int 0), (6, .int v2), (5, .int v3), (0, .ref this), (1, .int v1), (2, .int v2), (3, .int v3), (4, .int v4)]) F rfl rfl dX7_part_54 ?_
          refine j_sub [3, 4, 7, 2, 1, 0] rfl ?_
          exact jbX7_part_56 G F hth (fun h => jbX7_part_101 G F hth h) 1000 _ _ _ _ _ _ h
        · have h := iz_t c h
          refine j_bipush (pc := 40) F (-2) dX7_part_40 (by decide) ?_
          have g1 := Option.some.inj h
          obtain ⟨q3, g2⟩ := Prod.mk.inj g1
          subst q3
          subst g2
          exact j_iret (pc := 42) F dX7_part_42
      · have h := iz_t c h
        refine j_iconst (pc := 27) F (-1) dX7_part_27 (by decide) ?_
        have g1 := Option.some.inj h
        obtain ⟨q3, g2⟩ := Prod.mk.inj g1
        subst q3
        subst g2
        exact j_iret (pc := 28) F dX7_part_28
theorem ctX7_part (G : GT) {sh : SH} {I : IH} {L : LH} {n : Nat} {this : Nat} {v1 : Int32} {v2 : Int32} {v3 : Int32} {v4 : Int32} {r : Int32} {I' : IH}  (hth : isO sh 7 this) (h : fX7_part sh this v1 v2 v3 v4 I = some (r, I')) : Ct G yX7_part cX7_part 8 (some .int) 4 [.ref this, .int v1, .int v2, .int v3, .int v4] sh I L n (some (.int r)) sh I' L n 0 0 := by
  refine ct_of (y := yX7_part) (by decide +kernel) rfl (fun X F => ?_)
  exact jbX7_part_0 G F hth h
theorem dX7_odds_0 : decode cX7_odds 0 = .ok (.iload_n 1, 1) := by decide +kernel
theorem dX7_odds_1 : decode cX7_odds 1 = .ok (.ifCond .lt 27, 3) := by decide +kernel
theorem dX7_odds_4 : decode cX7_odds 4 = .ok (.iload_n 2, 1) := by decide +kernel
theorem dX7_odds_5 : decode cX7_odds 5 = .ok (.ifCond .lt 23, 3) := by decide +kernel
theorem dX7_odds_8 : decode cX7_odds 8 = .ok (.iload_n 1, 1) := by decide +kernel
theorem dX7_odds_9 : decode cX7_odds 9 = .ok (.bipush 10, 2) := by decide +kernel
theorem dX7_odds_11 : decode cX7_odds 11 = .ok (.if_icmp .gt 17, 3) := by decide +kernel
theorem dX7_odds_14 : decode cX7_odds 14 = .ok (.iload_n 2, 1) := by decide +kernel
theorem dX7_odds_15 : decode cX7_odds 15 = .ok (.bipush 10, 2) := by decide +kernel
theorem dX7_odds_17 : decode cX7_odds 17 = .ok (.if_icmp .gt 11, 3) := by decide +kernel
theorem dX7_odds_20 : decode cX7_odds 20 = .ok (.iload_n 1, 1) := by decide +kernel
theorem dX7_odds_21 : decode cX7_odds 21 = .ok (.iload_n 2, 1) := by decide +kernel
theorem dX7_odds_22 : decode cX7_odds 22 = .ok (.iadd, 1) := by decide +kernel
theorem dX7_odds_23 : decode cX7_odds 23 = .ok (.bipush 10, 2) := by decide +kernel
theorem dX7_odds_25 : decode cX7_odds 25 = .ok (.if_icmp .le 6, 3) := by decide +kernel
theorem dX7_odds_28 : decode cX7_odds 28 = .ok (.bipush (-2), 2) := by decide +kernel
theorem dX7_odds_30 : decode cX7_odds 30 = .ok (.ireturn, 1) := by decide +kernel
theorem dX7_odds_31 : decode cX7_odds 31 = .ok (.aload_n 0, 1) := by decide +kernel
theorem dX7_odds_32 : decode cX7_odds 32 = .ok (.iload_n 1, 1) := by decide +kernel
theorem dX7_odds_33 : decode cX7_odds 33 = .ok (.putfield 13, 3) := by decide +kernel
theorem dX7_odds_36 : decode cX7_odds 36 = .ok (.aload_n 0, 1) := by decide +kernel
theorem dX7_odds_37 : decode cX7_odds 37 = .ok (.iload_n 2, 1) := by decide +kernel
theorem dX7_odds_38 : decode cX7_odds 38 = .ok (.putfield 16, 3) := by decide +kernel
theorem dX7_odds_41 : decode cX7_odds 41 = .ok (.iconst 1, 1) := by decide +kernel
theorem dX7_odds_42 : decode cX7_odds 42 = .ok (.ireturn, 1) := by decide +kernel
def fX7_odds (sh : SH) (this : Nat) (v1 : Int32) (v2 : Int32) (I : IH) : Option (Int32 × IH) :=
  if v1 < 0 then (
    some ((-2), I)) else
  if v2 < 0 then (
    some ((-2), I)) else
  if 10 < v1 then (
    some ((-2), I)) else
  if 10 < v2 then (
    some ((-2), I)) else
  if (v1 + v2) ≤ 10 then (
    (pI sh I 7 this 1 v1).bind fun i1 =>
    (pI sh i1 7 this 2 v2).bind fun i2 =>
    some (1, i2)) else
  some ((-2), I)
set_option maxHeartbeats 4000000 in
set_option maxRecDepth 20000 in
theorem jbX7_odds_0 (G : GT) {X : XT} {sh : SH} {L : LH} {n : Nat} {r : Int32} {I' : IH}  {this : Nat}  {v1 : Int32} {v2 : Int32} {I : IH} (F : MF G X RX7 cX7_odds 3 0 (some .int) "odds") (h : fX7_odds sh this v1 v2 I = some (r, I')) : J G X (QE G X (some (.int r)) sh I' L n) 3 sh I L n 0 0 0 [(0, .ref this), (1, .int v1), (2, .int v2)] [] := by
  unfold fX7_odds at h
  refine j_iload_n (pc := 0) (k0 := 1) F 1 rfl dX7_odds_0 ?_
  refine j_if_lt (pc := 1) F 28 dX7_odds_1 rfl (fun c => ?_) (fun c => ?_)
  · have h := iz_t c h
    refine j_bipush (pc := 28) F (-2) dX7_odds_28 (by decide) ?_
    have g1 := Option.some.inj h
    obtain ⟨q3, g2⟩ := Prod.mk.inj g1
    subst q3
    subst g2
    exact j_iret (pc := 30) F dX7_odds_30
  · have h := iz_f c h
    refine j_iload_n (pc := 4) (k0 := 2) F 2 rfl dX7_odds_4 ?_
    refine j_if_lt (pc := 5) F 28 dX7_odds_5 rfl (fun c => ?_) (fun c => ?_)
    · have h := iz_t c h
      refine j_bipush (pc := 28) F (-2) dX7_odds_28 (by decide) ?_
      have g1 := Option.some.inj h
      obtain ⟨q3, g2⟩ := Prod.mk.inj g1
      subst q3
      subst g2
      exact j_iret (pc := 30) F dX7_odds_30
    · have h := iz_f c h
      refine j_iload_n (pc := 8) (k0 := 1) F 1 rfl dX7_odds_8 ?_
      refine j_bipush (pc := 9) F 10 dX7_odds_9 (by decide) ?_
      refine j_icmp_gt (pc := 11) F 28 dX7_odds_11 rfl (fun c => ?_) (fun c => ?_)
      · have h := iz_t c h
        refine j_bipush (pc := 28) F (-2) dX7_odds_28 (by decide) ?_
        have g1 := Option.some.inj h
        obtain ⟨q3, g2⟩ := Prod.mk.inj g1
        subst q3
        subst g2
        exact j_iret (pc := 30) F dX7_odds_30
      · have h := iz_f c h
        refine j_iload_n (pc := 14) (k0 := 2) F 2 rfl dX7_odds_14 ?_
        refine j_bipush (pc := 15) F 10 dX7_odds_15 (by decide) ?_
        refine j_icmp_gt (pc := 17) F 28 dX7_odds_17 rfl (fun c => ?_) (fun c => ?_)
        · have h := iz_t c h
          refine j_bipush (pc := 28) F (-2) dX7_odds_28 (by decide) ?_
          have g1 := Option.some.inj h
          obtain ⟨q3, g2⟩ := Prod.mk.inj g1
          subst q3
          subst g2
          exact j_iret (pc := 30) F dX7_odds_30
        · have h := iz_f c h
          refine j_iload_n (pc := 20) (k0 := 1) F 1 rfl dX7_odds_20 ?_
          refine j_iload_n (pc := 21) (k0 := 2) F 2 rfl dX7_odds_21 ?_
          refine j_iadd (pc := 22) F dX7_odds_22 ?_
          refine j_bipush (pc := 23) F 10 dX7_odds_23 (by decide) ?_
          refine j_icmp_le (pc := 25) F 31 dX7_odds_25 rfl (fun c => ?_) (fun c => ?_)
          · have h := iz_t c h
            refine j_aload_n (pc := 31) (k0 := 0) F 0 rfl dX7_odds_31 ?_
            refine j_iload_n (pc := 32) (k0 := 1) F 1 rfl dX7_odds_32 ?_
            obtain ⟨i1, hi1, h⟩ := ob h
            refine j_putI (pc := 33) F flX7_13 fp7_1 (fun z => by cases z) hi1 dX7_odds_33 ?_
            refine j_aload_n (pc := 36) (k0 := 0) F 0 rfl dX7_odds_36 ?_
            refine j_iload_n (pc := 37) (k0 := 2) F 2 rfl dX7_odds_37 ?_
            obtain ⟨i2, hi2, h⟩ := ob h
            refine j_putI (pc := 38) F flX7_16 fp7_2 (fun z => by cases z) hi2 dX7_odds_38 ?_
            refine j_iconst (pc := 41) F 1 dX7_odds_41 (by decide) ?_
            have g1 := Option.some.inj h
            obtain ⟨q3, g2⟩ := Prod.mk.inj g1
            subst q3
            subst g2
            exact j_iret (pc := 42) F dX7_odds_42
          · have h := iz_f c h
            refine j_bipush (pc := 28) F (-2) dX7_odds_28 (by decide) ?_
            have g1 := Option.some.inj h
            obtain ⟨q3, g2⟩ := Prod.mk.inj g1
            subst q3
            subst g2
            exact j_iret (pc := 30) F dX7_odds_30
theorem ctX7_odds (G : GT) {sh : SH} {I : IH} {L : LH} {n : Nat} {this : Nat} {v1 : Int32} {v2 : Int32} {r : Int32} {I' : IH}  (h : fX7_odds sh this v1 v2 I = some (r, I')) : Ct G yX7_odds cX7_odds 3 (some .int) 0 [.ref this, .int v1, .int v2] sh I L n (some (.int r)) sh I' L n 0 0 := by
  refine ct_of (y := yX7_odds) (by decide +kernel) rfl (fun X F => ?_)
  exact jbX7_odds_0 G F h
theorem dX7_oddsOf_0 : decode cX7_oddsOf 0 = .ok (.iload_n 1, 1) := by decide +kernel
theorem dX7_oddsOf_1 : decode cX7_oddsOf 1 = .ok (.ifCond .ne 10, 3) := by decide +kernel
theorem dX7_oddsOf_4 : decode cX7_oddsOf 4 = .ok (.aload_n 0, 1) := by decide +kernel
theorem dX7_oddsOf_5 : decode cX7_oddsOf 5 = .ok (.getfield 13, 3) := by decide +kernel
theorem dX7_oddsOf_8 : decode cX7_oddsOf 8 = .ok (.goto 27, 3) := by decide +kernel
theorem dX7_oddsOf_11 : decode cX7_oddsOf 11 = .ok (.iload_n 1, 1) := by decide +kernel
theorem dX7_oddsOf_12 : decode cX7_oddsOf 12 = .ok (.iconst 1, 1) := by decide +kernel
theorem dX7_oddsOf_13 : decode cX7_oddsOf 13 = .ok (.if_icmp .ne 10, 3) := by decide +kernel
theorem dX7_oddsOf_16 : decode cX7_oddsOf 16 = .ok (.aload_n 0, 1) := by decide +kernel
theorem dX7_oddsOf_17 : decode cX7_oddsOf 17 = .ok (.getfield 16, 3) := by decide +kernel
theorem dX7_oddsOf_20 : decode cX7_oddsOf 20 = .ok (.goto 15, 3) := by decide +kernel
theorem dX7_oddsOf_23 : decode cX7_oddsOf 23 = .ok (.bipush 10, 2) := by decide +kernel
theorem dX7_oddsOf_25 : decode cX7_oddsOf 25 = .ok (.aload_n 0, 1) := by decide +kernel
theorem dX7_oddsOf_26 : decode cX7_oddsOf 26 = .ok (.getfield 13, 3) := by decide +kernel
theorem dX7_oddsOf_29 : decode cX7_oddsOf 29 = .ok (.isub, 1) := by decide +kernel
theorem dX7_oddsOf_30 : decode cX7_oddsOf 30 = .ok (.aload_n 0, 1) := by decide +kernel
theorem dX7_oddsOf_31 : decode cX7_oddsOf 31 = .ok (.getfield 16, 3) := by decide +kernel
theorem dX7_oddsOf_34 : decode cX7_oddsOf 34 = .ok (.isub, 1) := by decide +kernel
theorem dX7_oddsOf_35 : decode cX7_oddsOf 35 = .ok (.ireturn, 1) := by decide +kernel
def fX7_oddsOf (sh : SH) (I : IH) (this : Nat) (v1 : Int32) : Option (Int32) :=
  if v1 = 0 then (
    (gI sh I 7 this 1).bind fun x4 =>
    some x4) else
  if v1 = 1 then (
    (gI sh I 7 this 2).bind fun x3 =>
    some x3) else
  (gI sh I 7 this 1).bind fun x1 =>
  (gI sh I 7 this 2).bind fun x2 =>
  some ((10 - x1) - x2)
set_option maxHeartbeats 4000000 in
set_option maxRecDepth 20000 in
theorem jbX7_oddsOf_0 (G : GT) {X : XT} {sh : SH} {I : IH} {L : LH} {n : Nat} {r : Int32}  {this : Nat}  {v1 : Int32} (F : MF G X RX7 cX7_oddsOf 2 0 (some .int) "oddsOf") (h : fX7_oddsOf sh I this v1 = some r) : J G X (QE G X (some (.int r)) sh I L n) 2 sh I L n 0 0 0 [(0, .ref this), (1, .int v1)] [] := by
  unfold fX7_oddsOf at h
  refine j_iload_n (pc := 0) (k0 := 1) F 1 rfl dX7_oddsOf_0 ?_
  refine j_if_ne (pc := 1) F 11 dX7_oddsOf_1 rfl (fun c => ?_) (fun c => ?_)
  · have h := iz_f c h
    refine j_iload_n (pc := 11) (k0 := 1) F 1 rfl dX7_oddsOf_11 ?_
    refine j_iconst (pc := 12) F 1 dX7_oddsOf_12 (by decide) ?_
    refine j_icmp_ne (pc := 13) F 23 dX7_oddsOf_13 rfl (fun c => ?_) (fun c => ?_)
    · have h := iz_f c h
      refine j_bipush (pc := 23) F 10 dX7_oddsOf_23 (by decide) ?_
      refine j_aload_n (pc := 25) (k0 := 0) F 0 rfl dX7_oddsOf_25 ?_
      obtain ⟨x1, hx1, h⟩ := ob h
      refine j_getI (pc := 26) F flX7_13 hx1 dX7_oddsOf_26 ?_
      refine j_isub (pc := 29) F dX7_oddsOf_29 ?_
      refine j_aload_n (pc := 30) (k0 := 0) F 0 rfl dX7_oddsOf_30 ?_
      obtain ⟨x2, hx2, h⟩ := ob h
      refine j_getI (pc := 31) F flX7_16 hx2 dX7_oddsOf_31 ?_
      refine j_isub (pc := 34) F dX7_oddsOf_34 ?_
      have g1 := Option.some.inj h
      subst g1
      exact j_iret (pc := 35) F dX7_oddsOf_35
    · have h := iz_t c h
      refine j_aload_n (pc := 16) (k0 := 0) F 0 rfl dX7_oddsOf_16 ?_
      obtain ⟨x3, hx3, h⟩ := ob h
      refine j_getI (pc := 17) F flX7_16 hx3 dX7_oddsOf_17 ?_
      refine j_goto (pc := 20) F 35 dX7_oddsOf_20 rfl ?_
      have g1 := Option.some.inj h
      subst g1
      exact j_iret (pc := 35) F dX7_oddsOf_35
  · have h := iz_t c h
    refine j_aload_n (pc := 4) (k0 := 0) F 0 rfl dX7_oddsOf_4 ?_
    obtain ⟨x4, hx4, h⟩ := ob h
    refine j_getI (pc := 5) F flX7_13 hx4 dX7_oddsOf_5 ?_
    refine j_goto (pc := 8) F 35 dX7_oddsOf_8 rfl ?_
    have g1 := Option.some.inj h
    subst g1
    exact j_iret (pc := 35) F dX7_oddsOf_35
theorem ctX7_oddsOf (G : GT) {sh : SH} {I : IH} {L : LH} {n : Nat} {this : Nat} {v1 : Int32} {r : Int32}  (h : fX7_oddsOf sh I this v1 = some r) : Ct G yX7_oddsOf cX7_oddsOf 2 (some .int) 0 [.ref this, .int v1] sh I L n (some (.int r)) sh I L n 0 0 := by
  refine ct_of (y := yX7_oddsOf) (by decide +kernel) rfl (fun X F => ?_)
  exact jbX7_oddsOf_0 G F h
theorem dX7_divisor_0 : decode cX7_divisor 0 = .ok (.lload_n 1, 1) := by decide +kernel
theorem dX7_divisor_1 : decode cX7_divisor 1 = .ok (.lstore 5, 2) := by decide +kernel
theorem dX7_divisor_3 : decode cX7_divisor 3 = .ok (.lload_n 3, 1) := by decide +kernel
theorem dX7_divisor_4 : decode cX7_divisor 4 = .ok (.lstore 7, 2) := by decide +kernel
theorem dX7_divisor_6 : decode cX7_divisor 6 = .ok (.lload 7, 2) := by decide +kernel
theorem dX7_divisor_8 : decode cX7_divisor 8 = .ok (.lconst 0, 1) := by decide +kernel
theorem dX7_divisor_9 : decode cX7_divisor 9 = .ok (.lcmp, 1) := by decide +kernel
theorem dX7_divisor_10 : decode cX7_divisor 10 = .ok (.ifCond .eq 21, 3) := by decide +kernel
theorem dX7_divisor_13 : decode cX7_divisor 13 = .ok (.lload 5, 2) := by decide +kernel
theorem dX7_divisor_15 : decode cX7_divisor 15 = .ok (.lload 7, 2) := by decide +kernel
theorem dX7_divisor_17 : decode cX7_divisor 17 = .ok (.lrem, 1) := by decide +kernel
theorem dX7_divisor_18 : decode cX7_divisor 18 = .ok (.lstore 9, 2) := by decide +kernel
theorem dX7_divisor_20 : decode cX7_divisor 20 = .ok (.lload 7, 2) := by decide +kernel
theorem dX7_divisor_22 : decode cX7_divisor 22 = .ok (.lstore 5, 2) := by decide +kernel
theorem dX7_divisor_24 : decode cX7_divisor 24 = .ok (.lload 9, 2) := by decide +kernel
theorem dX7_divisor_26 : decode cX7_divisor 26 = .ok (.lstore 7, 2) := by decide +kernel
theorem dX7_divisor_28 : decode cX7_divisor 28 = .ok (.goto (-22), 3) := by decide +kernel
theorem dX7_divisor_31 : decode cX7_divisor 31 = .ok (.lload 5, 2) := by decide +kernel
theorem dX7_divisor_33 : decode cX7_divisor 33 = .ok (.lreturn, 1) := by decide +kernel
def fX7_divisor_b6 (this : Nat) : Nat → Int64 → Int64 → Option (Int64)
  | 0, _, _ => none
  | fuel + 1, v5, v7 =>
    if (lg_cmp v7 0) = 0 then (
      some v5) else
    (rmL v5 v7).bind fun x1 =>
    fX7_divisor_b6 this fuel v7 x1
def fX7_divisor (this : Nat) (v1 : Int64) (v3 : Int64) : Option (Int64) :=
  fX7_divisor_b6 this 1000 v1 v3
set_option maxHeartbeats 4000000 in
set_option maxRecDepth 20000 in
theorem jbX7_divisor_6 (G : GT) {X : XT} {sh : SH} {I : IH} {L : LH} {n : Nat} {r : Int64}  {this : Nat}  (F : MF G X RX7 cX7_divisor 11 0 (some .long) "divisor") : ∀ (fuel : Nat) (v5 : Int64) (v7 : Int64), fX7_divisor_b6 this fuel v5 v7 = some r → J G X (QE G X (some (.long r)) sh I L n) 11 sh I L n 0 0 6 [(0, .ref this), (5, .long v5), (7, .long v7)] []
  | 0 => by
    intros
    rename_i h
    exact absurd (show none = some _ from h) (by intro z; cases z)
  | fuel + 1 => by
    intro v5 v7 h
    rw [fX7_divisor_b6] at h
    refine j_lload (pc := 6) (k0 := 7) F 2 rfl dX7_divisor_6 ?_
    refine j_lconst (pc := 8) F 0 dX7_divisor_8 (by decide) ?_
    refine j_lcmp (pc := 9) F dX7_divisor_9 ?_
    refine j_if_eq (pc := 10) F 31 dX7_divisor_10 rfl (fun c => ?_) (fun c => ?_)
    · have h := iz_t c h
      refine j_lload (pc := 31) (k0 := 5) F 1 rfl dX7_divisor_31 ?_
      have g1 := Option.some.inj h
      subst g1
      exact j_lret (pc := 33) F dX7_divisor_33
    · have h := iz_f c h
      refine j_lload (pc := 13) (k0 := 5) F 1 rfl dX7_divisor_13 ?_
      refine j_lload (pc := 15) (k0 := 7) F 2 rfl dX7_divisor_15 ?_
      obtain ⟨x1, hx1, h⟩ := ob h
      obtain ⟨hx1n, hx1e⟩ := rmL_obt hx1
      refine j_lrem (pc := 17) F hx1n dX7_divisor_17 ?_
      rw [← hx1e]
      refine j_lstore (pc := 18) (k1 := 9) (ls' := [(9, .long x1), (0, .ref this), (5, .long v5), (7, .long v7)]) F rfl rfl dX7_divisor_18 ?_
      refine j_lload (pc := 20) (k0 := 7) F 3 rfl dX7_divisor_20 ?_
      refine j_lstore (pc := 22) (k1 := 5) (ls' := [(5, .long v7), (9, .long x1), (0, .ref this), (7, .long v7)]) F rfl rfl dX7_divisor_22 ?_
      refine j_lload (pc := 24) (k0 := 9) F 1 rfl dX7_divisor_24 ?_
      refine j_lstore (pc := 26) (k1 := 7) (ls' := [(7, .long x1), (5, .long v7), (9, .long x1), (0, .ref this)]) F rfl rfl dX7_divisor_26 ?_
      refine j_goto (pc := 28) F 6 dX7_divisor_28 rfl ?_
      refine j_sub [3, 1, 0] rfl ?_
      exact jbX7_divisor_6 G F fuel _ _ h
set_option maxHeartbeats 4000000 in
set_option maxRecDepth 20000 in
theorem jbX7_divisor_0 (G : GT) {X : XT} {sh : SH} {I : IH} {L : LH} {n : Nat} {r : Int64}  {this : Nat}  {v1 : Int64} {v3 : Int64} (F : MF G X RX7 cX7_divisor 11 0 (some .long) "divisor") (h : fX7_divisor this v1 v3 = some r) : J G X (QE G X (some (.long r)) sh I L n) 11 sh I L n 0 0 0 [(0, .ref this), (1, .long v1), (3, .long v3)] [] := by
  unfold fX7_divisor at h
  refine j_lload_n (pc := 0) (k0 := 1) F 1 rfl dX7_divisor_0 ?_
  refine j_lstore (pc := 1) (k1 := 5) (ls' := [(5, .long v1), (0, .ref this), (1, .long v1), (3, .long v3)]) F rfl rfl dX7_divisor_1 ?_
  refine j_lload_n (pc := 3) (k0 := 3) F 3 rfl dX7_divisor_3 ?_
  refine j_lstore (pc := 4) (k1 := 7) (ls' := [(7, .long v3), (5, .long v1), (0, .ref this), (1, .long v1), (3, .long v3)]) F rfl rfl dX7_divisor_4 ?_
  refine j_sub [2, 1, 0] rfl ?_
  exact jbX7_divisor_6 G F 1000 _ _ h
theorem ctX7_divisor (G : GT) {sh : SH} {I : IH} {L : LH} {n : Nat} {this : Nat} {v1 : Int64} {v3 : Int64} {r : Int64}  (h : fX7_divisor this v1 v3 = some r) : Ct G yX7_divisor cX7_divisor 11 (some .long) 0 [.ref this, .long v1, .long v3] sh I L n (some (.long r)) sh I L n 0 0 := by
  refine ct_of (y := yX7_divisor) (by decide +kernel) rfl (fun X F => ?_)
  exact jbX7_divisor_0 G F h
