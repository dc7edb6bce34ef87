/-! decompiled: X5_pass, X5_servedBefore, X5_serve, X5_again, X5_settle, X5_worthWithout, X5_utmost, X5_rows, X6_sum, X5_inPlace, X5_inAllPlaces, X6_init, X6_places, X6_sky, X6_feed, X6_valley, X6_told, X6_melts -/
theorem dX5_pass_0 : decode cX5_pass 0 = .ok (.aload_n 0, 1) := by decide +kernel
theorem dX5_pass_1 : decode cX5_pass 1 = .ok (.getfield 20, 3) := by decide +kernel
theorem dX5_pass_4 : decode cX5_pass 4 = .ok (.iload_n 1, 1) := by decide +kernel
theorem dX5_pass_5 : decode cX5_pass 5 = .ok (.aaload, 1) := by decide +kernel
theorem dX5_pass_6 : decode cX5_pass 6 = .ok (.astore_n 2, 1) := by decide +kernel
theorem dX5_pass_7 : decode cX5_pass 7 = .ok (.aload_n 2, 1) := by decide +kernel
theorem dX5_pass_8 : decode cX5_pass 8 = .ok (.iconst 0, 1) := by decide +kernel
theorem dX5_pass_9 : decode cX5_pass 9 = .ok (.iaload, 1) := by decide +kernel
theorem dX5_pass_10 : decode cX5_pass 10 = .ok (.iconst 3, 1) := by decide +kernel
theorem dX5_pass_11 : decode cX5_pass 11 = .ok (.if_icmp .eq 11, 3) := by decide +kernel
theorem dX5_pass_14 : decode cX5_pass 14 = .ok (.aload_n 2, 1) := by decide +kernel
theorem dX5_pass_15 : decode cX5_pass 15 = .ok (.iconst 0, 1) := by decide +kernel
theorem dX5_pass_16 : decode cX5_pass 16 = .ok (.iaload, 1) := by decide +kernel
theorem dX5_pass_17 : decode cX5_pass 17 = .ok (.bipush 6, 2) := by decide +kernel
theorem dX5_pass_19 : decode cX5_pass 19 = .ok (.if_icmp .ne 14, 3) := by decide +kernel
theorem dX5_pass_22 : decode cX5_pass 22 = .ok (.aload_n 0, 1) := by decide +kernel
theorem dX5_pass_23 : decode cX5_pass 23 = .ok (.getfield 17, 3) := by decide +kernel
theorem dX5_pass_26 : decode cX5_pass 26 = .ok (.iconst 3, 1) := by decide +kernel
theorem dX5_pass_27 : decode cX5_pass 27 = .ok (.aaload, 1) := by decide +kernel
theorem dX5_pass_28 : decode cX5_pass 28 = .ok (.iload_n 1, 1) := by decide +kernel
theorem dX5_pass_29 : decode cX5_pass 29 = .ok (.iaload, 1) := by decide +kernel
theorem dX5_pass_30 : decode cX5_pass 30 = .ok (.goto 4, 3) := by decide +kernel
theorem dX5_pass_33 : decode cX5_pass 33 = .ok (.iconst 0, 1) := by decide +kernel
theorem dX5_pass_34 : decode cX5_pass 34 = .ok (.istore_n 3, 1) := by decide +kernel
theorem dX5_pass_35 : decode cX5_pass 35 = .ok (.iconst 0, 1) := by decide +kernel
theorem dX5_pass_36 : decode cX5_pass 36 = .ok (.istore 4, 2) := by decide +kernel
theorem dX5_pass_38 : decode cX5_pass 38 = .ok (.iconst 0, 1) := by decide +kernel
theorem dX5_pass_39 : decode cX5_pass 39 = .ok (.istore 5, 2) := by decide +kernel
theorem dX5_pass_41 : decode cX5_pass 41 = .ok (.iload 5, 2) := by decide +kernel
theorem dX5_pass_43 : decode cX5_pass 43 = .ok (.bipush 48, 2) := by decide +kernel
theorem dX5_pass_45 : decode cX5_pass 45 = .ok (.if_icmp .ge 85, 3) := by decide +kernel
theorem dX5_pass_48 : decode cX5_pass 48 = .ok (.aload_n 0, 1) := by decide +kernel
theorem dX5_pass_49 : decode cX5_pass 49 = .ok (.getfield 23, 3) := by decide +kernel
theorem dX5_pass_52 : decode cX5_pass 52 = .ok (.iload_n 1, 1) := by decide +kernel
theorem dX5_pass_53 : decode cX5_pass 53 = .ok (.aaload, 1) := by decide +kernel
theorem dX5_pass_54 : decode cX5_pass 54 = .ok (.iload 5, 2) := by decide +kernel
theorem dX5_pass_56 : decode cX5_pass 56 = .ok (.iaload, 1) := by decide +kernel
theorem dX5_pass_57 : decode cX5_pass 57 = .ok (.iload 4, 2) := by decide +kernel
theorem dX5_pass_59 : decode cX5_pass 59 = .ok (.iadd, 1) := by decide +kernel
theorem dX5_pass_60 : decode cX5_pass 60 = .ok (.istore 6, 2) := by decide +kernel
theorem dX5_pass_62 : decode cX5_pass 62 = .ok (.aload_n 0, 1) := by decide +kernel
theorem dX5_pass_63 : decode cX5_pass 63 = .ok (.aload_n 2, 1) := by decide +kernel
theorem dX5_pass_64 : decode cX5_pass 64 = .ok (.iload_n 1, 1) := by decide +kernel
theorem dX5_pass_65 : decode cX5_pass 65 = .ok (.iload 5, 2) := by decide +kernel
theorem dX5_pass_67 : decode cX5_pass 67 = .ok (.iload 6, 2) := by decide +kernel
theorem dX5_pass_69 : decode cX5_pass 69 = .ok (.invokevirtual 114, 3) := by decide +kernel
theorem dX5_pass_72 : decode cX5_pass 72 = .ok (.istore 7, 2) := by decide +kernel
theorem dX5_pass_74 : decode cX5_pass 74 = .ok (.iload 6, 2) := by decide +kernel
theorem dX5_pass_76 : decode cX5_pass 76 = .ok (.iload 7, 2) := by decide +kernel
theorem dX5_pass_78 : decode cX5_pass 78 = .ok (.isub, 1) := by decide +kernel
theorem dX5_pass_79 : decode cX5_pass 79 = .ok (.iload_n 3, 1) := by decide +kernel
theorem dX5_pass_80 : decode cX5_pass 80 = .ok (.invokestatic 93, 3) := by decide +kernel
theorem dX5_pass_83 : decode cX5_pass 83 = .ok (.istore 4, 2) := by decide +kernel
theorem dX5_pass_85 : decode cX5_pass 85 = .ok (.aload_n 0, 1) := by decide +kernel
theorem dX5_pass_86 : decode cX5_pass 86 = .ok (.getfield 26, 3) := by decide +kernel
theorem dX5_pass_89 : decode cX5_pass 89 = .ok (.iload_n 1, 1) := by decide +kernel
theorem dX5_pass_90 : decode cX5_pass 90 = .ok (.aaload, 1) := by decide +kernel
theorem dX5_pass_91 : decode cX5_pass 91 = .ok (.iload 5, 2) := by decide +kernel
theorem dX5_pass_93 : decode cX5_pass 93 = .ok (.iload 7, 2) := by decide +kernel
theorem dX5_pass_95 : decode cX5_pass 95 = .ok (.iastore, 1) := by decide +kernel
theorem dX5_pass_96 : decode cX5_pass 96 = .ok (.aload_n 0, 1) := by decide +kernel
theorem dX5_pass_97 : decode cX5_pass 97 = .ok (.getfield 32, 3) := by decide +kernel
theorem dX5_pass_100 : decode cX5_pass 100 = .ok (.iload_n 1, 1) := by decide +kernel
theorem dX5_pass_101 : decode cX5_pass 101 = .ok (.aaload, 1) := by decide +kernel
theorem dX5_pass_102 : decode cX5_pass 102 = .ok (.iload 5, 2) := by decide +kernel
theorem dX5_pass_104 : decode cX5_pass 104 = .ok (.iload 4, 2) := by decide +kernel
theorem dX5_pass_106 : decode cX5_pass 106 = .ok (.iastore, 1) := by decide +kernel
theorem dX5_pass_107 : decode cX5_pass 107 = .ok (.aload_n 0, 1) := by decide +kernel
theorem dX5_pass_108 : decode cX5_pass 108 = .ok (.getfield 29, 3) := by decide +kernel
theorem dX5_pass_111 : decode cX5_pass 111 = .ok (.iload_n 1, 1) := by decide +kernel
theorem dX5_pass_112 : decode cX5_pass 112 = .ok (.aaload, 1) := by decide +kernel
theorem dX5_pass_113 : decode cX5_pass 113 = .ok (.iload 5, 2) := by decide +kernel
theorem dX5_pass_115 : decode cX5_pass 115 = .ok (.iload 6, 2) := by decide +kernel
theorem dX5_pass_117 : decode cX5_pass 117 = .ok (.iload 7, 2) := by decide +kernel
theorem dX5_pass_119 : decode cX5_pass 119 = .ok (.isub, 1) := by decide +kernel
theorem dX5_pass_120 : decode cX5_pass 120 = .ok (.iload 4, 2) := by decide +kernel
theorem dX5_pass_122 : decode cX5_pass 122 = .ok (.isub, 1) := by decide +kernel
theorem dX5_pass_123 : decode cX5_pass 123 = .ok (.iastore, 1) := by decide +kernel
theorem dX5_pass_124 : decode cX5_pass 124 = .ok (.iinc 5 1, 3) := by decide +kernel
theorem dX5_pass_127 : decode cX5_pass 127 = .ok (.goto (-86), 3) := by decide +kernel
theorem dX5_pass_130 : decode cX5_pass 130 = .ok (.return_, 1) := by decide +kernel
def fX5_pass_b41 (sh : SH) (this : Nat) : Nat → Int32 → Nat → Int32 → Int32 → Int32 → IH → Option (IH)
  | 0, _, _, _, _, _, _ => none
  | fuel + 1, v1, v2, v3, v4, v5, I =>
    if 48 ≤ v5 then (
      some I) else
    (gR sh 5 this 4).bind fun x1 =>
    (aR sh 4 x1 v1).bind fun x2 =>
    (aI sh I 0 x2 v5).bind fun x3 =>
    (fX5_takes sh I this v2 v1 v5 (x3 + v4)).bind fun x4 =>
    (gR sh 5 this 5).bind fun x5 =>
    (aR sh 4 x5 v1).bind fun x6 =>
    (sI sh I x6 v5 x4).bind fun i7 =>
    (gR sh 5 this 7).bind fun x8 =>
    (aR sh 4 x8 v1).bind fun x9 =>
    (sI sh i7 x9 v5 (fJ9_min_7cf53 ((x3 + v4) - x4) v3)).bind fun i10 =>
    (gR sh 5 this 6).bind fun x11 =>
    (aR sh 4 x11 v1).bind fun x12 =>
    (sI sh i10 x12 v5 (((x3 + v4) - x4) - (fJ9_min_7cf53 ((x3 + v4) - x4) v3))).bind fun i13 =>
    fX5_pass_b41 sh this fuel v1 v2 v3 (fJ9_min_7cf53 ((x3 + v4) - x4) v3) (v5 + 1) i13
def fX5_pass_b22 (sh : SH) (this : Nat) (v1 : Int32) (v2 : Nat) (I : IH) : Option (IH) :=
  (gR sh 5 this 2).bind fun x1 =>
  (aR sh 4 x1 3).bind fun x2 =>
  (aI sh I 0 x2 v1).bind fun x3 =>
  fX5_pass_b41 sh this 1000 v1 v2 x3 0 0 I
def fX5_pass (sh : SH) (this : Nat) (v1 : Int32) (I : IH) : Option (IH) :=
  (gR sh 5 this 3).bind fun x1 =>
  (aR sh 4 x1 v1).bind fun x2 =>
  (aI sh I 0 x2 0).bind fun x3 =>
  if x3 = 3 then (
    fX5_pass_b22 sh this v1 x2 I) else
  (aI sh I 0 x2 0).bind fun x4 =>
  if x4 = 6 then (
    fX5_pass_b22 sh this v1 x2 I) else
  fX5_pass_b41 sh this 1000 v1 x2 0 0 0 I
set_option maxHeartbeats 4000000 in
set_option maxRecDepth 20000 in
theorem jbX5_pass_41 (G : GT) {X : XT} {sh : SH} {L : LH} {n : Nat} {I' : IH}  {this : Nat}  (F : MF G X RX5 cX5_pass 8 2 none "pass") (hth : isO sh 5 this) : ∀ (fuel : Nat) (v1 : Int32) (v2 : Nat) (v3 : Int32) (v4 : Int32) (v5 : Int32) (I : IH), fX5_pass_b41 sh this fuel v1 v2 v3 v4 v5 I = some I' → J G X (QE G X (none) sh I' L n) 8 sh I L n 0 0 41 [(0, .ref this), (1, .int v1), (2, .ref v2), (3, .int v3), (4, .int v4), (5, .int v5)] []
  | 0 => by
    intros
    rename_i h
    exact absurd (show none = some _ from h) (by intro z; cases z)
  | fuel + 1 => by
    intro v1 v2 v3 v4 v5 I h
    rw [fX5_pass_b41] at h
    refine j_iload (pc := 41) (k0 := 5) F 5 rfl dX5_pass_41 ?_
    refine j_bipush (pc := 43) F 48 dX5_pass_43 (by decide) ?_
    refine j_icmp_ge (pc := 45) F 130 dX5_pass_45 rfl (fun c => ?_) (fun c => ?_)
    · have h := iz_t c h
      have g1 := Option.some.inj h
      subst g1
      exact j_vret (pc := 130) F dX5_pass_130
    · have h := iz_f c h
      refine j_aload_n (pc := 48) (k0 := 0) F 0 rfl dX5_pass_48 ?_
      obtain ⟨x1, hx1, h⟩ := ob h
      refine j_getR (pc := 49) F flX5_23 hx1 dX5_pass_49 ?_
      refine j_iload_n (pc := 52) (k0 := 1) F 1 rfl dX5_pass_52 ?_
      obtain ⟨x2, hx2, h⟩ := ob h
      refine j_aald (pc := 53) F (Or.inr rfl) hx2 dX5_pass_53 ?_
      refine j_iload (pc := 54) (k0 := 5) F 5 rfl dX5_pass_54 ?_
      obtain ⟨x3, hx3, h⟩ := ob h
      refine j_iald (pc := 56) F hx3 dX5_pass_56 ?_
      refine j_iload (pc := 57) (k0 := 4) F 4 rfl dX5_pass_57 ?_
      refine j_iadd (pc := 59) F dX5_pass_59 ?_
      refine j_istore (pc := 60) (k1 := 6) (ls' := [(6, .int (x3 + v4)), (0, .ref this), (1, .int v1), (2, .ref v2), (3, .int v3), (4, .int v4), (5, .int v5)]) F rfl rfl dX5_pass_60 ?_
      refine j_aload_n (pc := 62) (k0 := 0) F 1 rfl dX5_pass_62 ?_
      refine j_aload_n (pc := 63) (k0 := 2) F 3 rfl dX5_pass_63 ?_
      refine j_iload_n (pc := 64) (k0 := 1) F 2 rfl dX5_pass_64 ?_
      refine j_iload (pc := 65) (k0 := 5) F 6 rfl dX5_pass_65 ?_
      refine j_iload (pc := 67) (k0 := 6) F 0 rfl dX5_pass_67 ?_
      obtain ⟨x4, hx4, h⟩ := ob h
      refine j_callV1 (pc := 69) (ci := 5) (As := [.ref v2, .int v1, .int v5, .int (x3 + v4)]) (st := []) (e1 := 0) (es1 := 0) F clX5_114 cwX5_takes rfl hth (ctX5_takes G hx4) rfl rfl rfl rfl rfl rfl dX5_pass_69 ?_
      refine j_istore (pc := 72) (k1 := 7) (ls' := [(7, .int x4), (6, .int (x3 + v4)), (0, .ref this), (1, .int v1), (2, .ref v2), (3, .int v3), (4, .int v4), (5, .int v5)]) F rfl rfl dX5_pass_72 ?_
      refine j_iload (pc := 74) (k0 := 6) F 1 rfl dX5_pass_74 ?_
      refine j_iload (pc := 76) (k0 := 7) F 0 rfl dX5_pass_76 ?_
      refine j_isub (pc := 78) F dX5_pass_78 ?_
      refine j_iload_n (pc := 79) (k0 := 3) F 5 rfl dX5_pass_79 ?_
      refine j_callS1 (pc := 80) (As := [.int ((x3 + v4) - x4), .int v3]) (st := []) (e1 := 0) (es1 := 0) F clX5_93 cwJ9_min_7cf53 (ctJ9_min_7cf53 G) rfl rfl rfl rfl rfl rfl dX5_pass_80 ?_
      refine j_istore (pc := 83) (k1 := 4) (ls' := [(4, .int (fJ9_min_7cf53 ((x3 + v4) - x4) v3)), (7, .int x4), (6, .int (x3 + v4)), (0, .ref this), (1, .int v1), (2, .ref v2), (3, .int v3), (5, .int v5)]) F rfl rfl dX5_pass_83 ?_
      refine j_aload_n (pc := 85) (k0 := 0) F 3 rfl dX5_pass_85 ?_
      obtain ⟨x5, hx5, h⟩ := ob h
      refine j_getR (pc := 86) F flX5_26 hx5 dX5_pass_86 ?_
      refine j_iload_n (pc := 89) (k0 := 1) F 4 rfl dX5_pass_89 ?_
      obtain ⟨x6, hx6, h⟩ := ob h
      refine j_aald (pc := 90) F (Or.inr rfl) hx6 dX5_pass_90 ?_
      refine j_iload (pc := 91) (k0 := 5) F 7 rfl dX5_pass_91 ?_
      refine j_iload (pc := 93) (k0 := 7) F 1 rfl dX5_pass_93 ?_
      obtain ⟨i7, hi7, h⟩ := ob h
      refine j_iast (pc := 95) F hi7 dX5_pass_95 ?_
      refine j_aload_n (pc := 96) (k0 := 0) F 3 rfl dX5_pass_96 ?_
      obtain ⟨x8, hx8, h⟩ := ob h
      refine j_getR (pc := 97) F flX5_32 hx8 dX5_pass_97 ?_
      refine j_iload_n (pc := 100) (k0 := 1) F 4 rfl dX5_pass_100 ?_
      obtain ⟨x9, hx9, h⟩ := ob h
      refine j_aald (pc := 101) F (Or.inr rfl) hx9 dX5_pass_101 ?_
      refine j_iload (pc := 102) (k0 := 5) F 7 rfl dX5_pass_102 ?_
      refine j_iload (pc := 104) (k0 := 4) F 0 rfl dX5_pass_104 ?_
      obtain ⟨i10, hi10, h⟩ := ob h
      refine j_iast (pc := 106) F hi10 dX5_pass_106 ?_
      refine j_aload_n (pc := 107) (k0 := 0) F 3 rfl dX5_pass_107 ?_
      obtain ⟨x11, hx11, h⟩ := ob h
      refine j_getR (pc := 108) F flX5_29 hx11 dX5_pass_108 ?_
      refine j_iload_n (pc := 111) (k0 := 1) F 4 rfl dX5_pass_111 ?_
      obtain ⟨x12, hx12, h⟩ := ob h
      refine j_aald (pc := 112) F (Or.inr rfl) hx12 dX5_pass_112 ?_
      refine j_iload (pc := 113) (k0 := 5) F 7 rfl dX5_pass_113 ?_
      refine j_iload (pc := 115) (k0 := 6) F 2 rfl dX5_pass_115 ?_
      refine j_iload (pc := 117) (k0 := 7) F 1 rfl dX5_pass_117 ?_
      refine j_isub (pc := 119) F dX5_pass_119 ?_
      refine j_iload (pc := 120) (k0 := 4) F 0 rfl dX5_pass_120 ?_
      refine j_isub (pc := 122) F dX5_pass_122 ?_
      obtain ⟨i13, hi13, h⟩ := ob h
      refine j_iast (pc := 123) F hi13 dX5_pass_123 ?_
      refine j_iinc (pc := 124) (k1 := 5) (ls' := [(5, .int (v5 + 1)), (4, .int (fJ9_min_7cf53 ((x3 + v4) - x4) v3)), (7, .int x4), (6, .int (x3 + v4)), (0, .ref this), (1, .int v1), (2, .ref v2), (3, .int v3)]) F (v5 + 1) 7 rfl rfl rfl rfl dX5_pass_124 ?_
      refine j_goto (pc := 127) F 41 dX5_pass_127 rfl ?_
      refine j_sub [4, 5, 6, 7, 1, 0] rfl ?_
      exact jbX5_pass_41 G F hth fuel _ _ _ _ _ _ h
set_option maxHeartbeats 4000000 in
set_option maxRecDepth 20000 in
theorem jbX5_pass_22 (G : GT) {X : XT} {sh : SH} {L : LH} {n : Nat} {I' : IH}  {this : Nat}  {v1 : Int32} {v2 : Nat} {I : IH} (F : MF G X RX5 cX5_pass 8 2 none "pass") (hth : isO sh 5 this) (h : fX5_pass_b22 sh this v1 v2 I = some I') : J G X (QE G X (none) sh I' L n) 8 sh I L n 0 0 22 [(0, .ref this), (1, .int v1), (2, .ref v2)] [] := by
  unfold fX5_pass_b22 at h
  refine j_aload_n (pc := 22) (k0 := 0) F 0 rfl dX5_pass_22 ?_
  obtain ⟨x1, hx1, h⟩ := ob h
  refine j_getR (pc := 23) F flX5_17 hx1 dX5_pass_23 ?_
  refine j_iconst (pc := 26) F 3 dX5_pass_26 (by decide) ?_
  obtain ⟨x2, hx2, h⟩ := ob h
  refine j_aald (pc := 27) F (Or.inr rfl) hx2 dX5_pass_27 ?_
  refine j_iload_n (pc := 28) (k0 := 1) F 1 rfl dX5_pass_28 ?_
  obtain ⟨x3, hx3, h⟩ := ob h
  refine j_iald (pc := 29) F hx3 dX5_pass_29 ?_
  refine j_goto (pc := 30) F 34 dX5_pass_30 rfl ?_
  refine j_istore_n (pc := 34) (k1 := 3) (ls' := [(3, .int x3), (0, .ref this), (1, .int v1), (2, .ref v2)]) F rfl rfl rfl dX5_pass_34 ?_
  refine j_iconst (pc := 35) F 0 dX5_pass_35 (by decide) ?_
  refine j_istore (pc := 36) (k1 := 4) (ls' := [(4, .int 0), (3, .int x3), (0, .ref this), (1, .int v1), (2, .ref v2)]) F rfl rfl dX5_pass_36 ?_
  refine j_iconst (pc := 38) F 0 dX5_pass_38 (by decide) ?_
  refine j_istore (pc := 39) (k1 := 5) (ls' := [(5, .int 0), (4, .int 0), (3, .int x3), (0, .ref this), (1, .int v1), (2, .ref v2)]) F rfl rfl dX5_pass_39 ?_
  refine j_sub [3, 4, 5, 2, 1, 0] rfl ?_
  exact jbX5_pass_41 G F hth 1000 _ _ _ _ _ _ h
set_option maxHeartbeats 4000000 in
set_option maxRecDepth 20000 in
theorem jbX5_pass_0 (G : GT) {X : XT} {sh : SH} {L : LH} {n : Nat} {I' : IH}  {this : Nat}  {v1 : Int32} {I : IH} (F : MF G X RX5 cX5_pass 8 2 none "pass") (hth : isO sh 5 this) (h : fX5_pass sh this v1 I = some I') : J G X (QE G X (none) sh I' L n) 8 sh I L n 0 0 0 [(0, .ref this), (1, .int v1)] [] := by
  unfold fX5_pass at h
  refine j_aload_n (pc := 0) (k0 := 0) F 0 rfl dX5_pass_0 ?_
  obtain ⟨x1, hx1, h⟩ := ob h
  refine j_getR (pc := 1) F flX5_20 hx1 dX5_pass_1 ?_
  refine j_iload_n (pc := 4) (k0 := 1) F 1 rfl dX5_pass_4 ?_
  obtain ⟨x2, hx2, h⟩ := ob h
  refine j_aald (pc := 5) F (Or.inr rfl) hx2 dX5_pass_5 ?_
  refine j_astore_n (pc := 6) (k1 := 2) (ls' := [(2, .ref x2), (0, .ref this), (1, .int v1)]) F rfl rfl rfl dX5_pass_6 ?_
  refine j_aload_n (pc := 7) (k0 := 2) F 0 rfl dX5_pass_7 ?_
  refine j_iconst (pc := 8) F 0 dX5_pass_8 (by decide) ?_
  obtain ⟨x3, hx3, h⟩ := ob h
  refine j_iald (pc := 9) F hx3 dX5_pass_9 ?_
  refine j_iconst (pc := 10) F 3 dX5_pass_10 (by decide) ?_
  refine j_icmp_eq (pc := 11) F 22 dX5_pass_11 rfl (fun c => ?_) (fun c => ?_)
  · have h := iz_t c h
    refine j_sub [1, 2, 0] rfl ?_
    exact jbX5_pass_22 G F hth h
  · have h := iz_f c h
    refine j_aload_n (pc := 14) (k0 := 2) F 0 rfl dX5_pass_14 ?_
    refine j_iconst (pc := 15) F 0 dX5_pass_15 (by decide) ?_
    obtain ⟨x4, hx4, h⟩ := ob h
    refine j_iald (pc := 16) F hx4 dX5_pass_16 ?_
    refine j_bipush (pc := 17) F 6 dX5_pass_17 (by decide) ?_
    refine j_icmp_ne (pc := 19) F 33 dX5_pass_19 rfl (fun c => ?_) (fun c => ?_)
    · have h := iz_f c h
      refine j_iconst (pc := 33) F 0 dX5_pass_33 (by decide) ?_
      refine j_istore_n (pc := 34) (k1 := 3) (ls' := [(3, .int 0), (2, .ref x2), (0, .ref this), (1, .int v1)]) F rfl rfl rfl dX5_pass_34 ?_
      refine j_iconst (pc := 35) F 0 dX5_pass_35 (by decide) ?_
      refine j_istore (pc := 36) (k1 := 4) (ls' := [(4, .int 0), (3, .int 0), (2, .ref x2), (0, .ref this), (1, .int v1)]) F rfl rfl dX5_pass_36 ?_
      refine j_iconst (pc := 38) F 0 dX5_pass_38 (by decide) ?_
      refine j_istore (pc := 39) (k1 := 5) (ls' := [(5, .int 0), (4, .int 0), (3, .int 0), (2, .ref x2), (0, .ref this), (1, .int v1)]) F rfl rfl dX5_pass_39 ?_
      refine j_sub [4, 5, 3, 2, 1, 0] rfl ?_
      exact jbX5_pass_41 G F hth 1000 _ _ _ _ _ _ h
    · have h := iz_t c h
      refine j_sub [1, 2, 0] rfl ?_
      exact jbX5_pass_22 G F hth h
theorem ctX5_pass (G : GT) {sh : SH} {I : IH} {L : LH} {n : Nat} {this : Nat} {v1 : Int32} {I' : IH}  (hth : isO sh 5 this) (h : fX5_pass sh this v1 I = some I') : Ct G yX5_pass cX5_pass 8 none 2 [.ref this, .int v1] sh I L n (none) sh I' L n 0 0 := by
  refine ct_of (y := yX5_pass) (by decide +kernel) rfl (fun X F => ?_)
  exact jbX5_pass_0 G F hth h
theorem dX5_servedBefore_0 : decode cX5_servedBefore 0 = .ok (.iconst 0, 1) := by decide +kernel
theorem dX5_servedBefore_1 : decode cX5_servedBefore 1 = .ok (.istore_n 2, 1) := by decide +kernel
theorem dX5_servedBefore_2 : decode cX5_servedBefore 2 = .ok (.iconst 0, 1) := by decide +kernel
theorem dX5_servedBefore_3 : decode cX5_servedBefore 3 = .ok (.istore_n 3, 1) := by decide +kernel
theorem dX5_servedBefore_4 : decode cX5_servedBefore 4 = .ok (.iload_n 3, 1) := by decide +kernel
theorem dX5_servedBefore_5 : decode cX5_servedBefore 5 = .ok (.iload_n 1, 1) := by decide +kernel
theorem dX5_servedBefore_6 : decode cX5_servedBefore 6 = .ok (.if_icmp .ge 68, 3) := by decide +kernel
theorem dX5_servedBefore_9 : decode cX5_servedBefore 9 = .ok (.aload_n 0, 1) := by decide +kernel
theorem dX5_servedBefore_10 : decode cX5_servedBefore 10 = .ok (.getfield 41, 3) := by decide +kernel
theorem dX5_servedBefore_13 : decode cX5_servedBefore 13 = .ok (.getfield 128, 3) := by decide +kernel
theorem dX5_servedBefore_16 : decode cX5_servedBefore 16 = .ok (.iload_n 3, 1) := by decide +kernel
theorem dX5_servedBefore_17 : decode cX5_servedBefore 17 = .ok (.aaload, 1) := by decide +kernel
theorem dX5_servedBefore_18 : decode cX5_servedBefore 18 = .ok (.iconst 0, 1) := by decide +kernel
theorem dX5_servedBefore_19 : decode cX5_servedBefore 19 = .ok (.iaload, 1) := by decide +kernel
theorem dX5_servedBefore_20 : decode cX5_servedBefore 20 = .ok (.aload_n 0, 1) := by decide +kernel
theorem dX5_servedBefore_21 : decode cX5_servedBefore 21 = .ok (.getfield 41, 3) := by decide +kernel
theorem dX5_servedBefore_24 : decode cX5_servedBefore 24 = .ok (.getfield 128, 3) := by decide +kernel
theorem dX5_servedBefore_27 : decode cX5_servedBefore 27 = .ok (.iload_n 1, 1) := by decide +kernel
theorem dX5_servedBefore_28 : decode cX5_servedBefore 28 = .ok (.aaload, 1) := by decide +kernel
theorem dX5_servedBefore_29 : decode cX5_servedBefore 29 = .ok (.iconst 0, 1) := by decide +kernel
theorem dX5_servedBefore_30 : decode cX5_servedBefore 30 = .ok (.iaload, 1) := by decide +kernel
theorem dX5_servedBefore_31 : decode cX5_servedBefore 31 = .ok (.if_icmp .ne 37, 3) := by decide +kernel
theorem dX5_servedBefore_34 : decode cX5_servedBefore 34 = .ok (.aload_n 0, 1) := by decide +kernel
theorem dX5_servedBefore_35 : decode cX5_servedBefore 35 = .ok (.getfield 41, 3) := by decide +kernel
theorem dX5_servedBefore_38 : decode cX5_servedBefore 38 = .ok (.getfield 128, 3) := by decide +kernel
theorem dX5_servedBefore_41 : decode cX5_servedBefore 41 = .ok (.iload_n 3, 1) := by decide +kernel
theorem dX5_servedBefore_42 : decode cX5_servedBefore 42 = .ok (.aaload, 1) := by decide +kernel
theorem dX5_servedBefore_43 : decode cX5_servedBefore 43 = .ok (.iconst 1, 1) := by decide +kernel
theorem dX5_servedBefore_44 : decode cX5_servedBefore 44 = .ok (.iaload, 1) := by decide +kernel
theorem dX5_servedBefore_45 : decode cX5_servedBefore 45 = .ok (.aload_n 0, 1) := by decide +kernel
theorem dX5_servedBefore_46 : decode cX5_servedBefore 46 = .ok (.getfield 41, 3) := by decide +kernel
theorem dX5_servedBefore_49 : decode cX5_servedBefore 49 = .ok (.getfield 128, 3) := by decide +kernel
theorem dX5_servedBefore_52 : decode cX5_servedBefore 52 = .ok (.iload_n 1, 1) := by decide +kernel
theorem dX5_servedBefore_53 : decode cX5_servedBefore 53 = .ok (.aaload, 1) := by decide +kernel
theorem dX5_servedBefore_54 : decode cX5_servedBefore 54 = .ok (.iconst 1, 1) := by decide +kernel
theorem dX5_servedBefore_55 : decode cX5_servedBefore 55 = .ok (.iaload, 1) := by decide +kernel
theorem dX5_servedBefore_56 : decode cX5_servedBefore 56 = .ok (.if_icmp .ne 12, 3) := by decide +kernel
theorem dX5_servedBefore_59 : decode cX5_servedBefore 59 = .ok (.iload_n 2, 1) := by decide +kernel
theorem dX5_servedBefore_60 : decode cX5_servedBefore 60 = .ok (.aload_n 0, 1) := by decide +kernel
theorem dX5_servedBefore_61 : decode cX5_servedBefore 61 = .ok (.getfield 38, 3) := by decide +kernel
theorem dX5_servedBefore_64 : decode cX5_servedBefore 64 = .ok (.iload_n 3, 1) := by decide +kernel
theorem dX5_servedBefore_65 : decode cX5_servedBefore 65 = .ok (.iaload, 1) := by decide +kernel
theorem dX5_servedBefore_66 : decode cX5_servedBefore 66 = .ok (.iadd, 1) := by decide +kernel
theorem dX5_servedBefore_67 : decode cX5_servedBefore 67 = .ok (.istore_n 2, 1) := by decide +kernel
theorem dX5_servedBefore_68 : decode cX5_servedBefore 68 = .ok (.iinc 3 1, 3) := by decide +kernel
theorem dX5_servedBefore_71 : decode cX5_servedBefore 71 = .ok (.goto (-67), 3) := by decide +kernel
theorem dX5_servedBefore_74 : decode cX5_servedBefore 74 = .ok (.iload_n 2, 1) := by decide +kernel
theorem dX5_servedBefore_75 : decode cX5_servedBefore 75 = .ok (.ireturn, 1) := by decide +kernel
def fX5_servedBefore_b4 (sh : SH) (I : IH) (this : Nat) : Nat → Int32 → Int32 → Int32 → Option (Int32)
  | 0, _, _, _ => none
  | fuel + 1, v1, v2, v3 =>
    if v1 ≤ v3 then (
      some v2) else
    (gR sh 5 this 0).bind fun x1 =>
    (gR sh 2 x1 4).bind fun x2 =>
    (aR sh 4 x2 v3).bind fun x3 =>
    (aI sh I 0 x3 0).bind fun x4 =>
    (gR sh 5 this 0).bind fun x5 =>
    (gR sh 2 x5 4).bind fun x6 =>
    (aR sh 4 x6 v1).bind fun x7 =>
    (aI sh I 0 x7 0).bind fun x8 =>
    if x4 = x8 then (
      (gR sh 5 this 0).bind fun x9 =>
      (gR sh 2 x9 4).bind fun x10 =>
      (aR sh 4 x10 v3).bind fun x11 =>
      (aI sh I 0 x11 1).bind fun x12 =>
      (gR sh 5 this 0).bind fun x13 =>
      (gR sh 2 x13 4).bind fun x14 =>
      (aR sh 4 x14 v1).bind fun x15 =>
      (aI sh I 0 x15 1).bind fun x16 =>
      if x12 = x16 then (
        (gR sh 5 this 9).bind fun x17 =>
        (aI sh I 0 x17 v3).bind fun x18 =>
        fX5_servedBefore_b4 sh I this fuel v1 (v2 + x18) (v3 + 1)) else
      fX5_servedBefore_b4 sh I this fuel v1 v2 (v3 + 1)) else
    fX5_servedBefore_b4 sh I this fuel v1 v2 (v3 + 1)
def fX5_servedBefore (sh : SH) (I : IH) (this : Nat) (v1 : Int32) : Option (Int32) :=
  fX5_servedBefore_b4 sh I this 1000 v1 0 0
set_option maxHeartbeats 4000000 in
set_option maxRecDepth 20000 in
theorem jbX5_servedBefore_4 (G : GT) {X : XT} {sh : SH} {I : IH} {L : LH} {n : Nat} {r : Int32}  {this : Nat}  (F : MF G X RX5 cX5_servedBefore 4 0 (some .int) "servedBefore") : ∀ (fuel : Nat) (v1 : Int32) (v2 : Int32) (v3 : Int32), fX5_servedBefore_b4 sh I this fuel v1 v2 v3 = some r → J G X (QE G X (some (.int r)) sh I L n) 4 sh I L n 0 0 4 [(0, .ref this), (1, .int v1), (2, .int v2), (3, .int v3)] []
  | 0 => by
    intros
    rename_i h
    exact absurd (show none = some _ from h) (by intro z; cases z)
  | fuel + 1 => by
    intro v1 v2 v3 h
    rw [fX5_servedBefore_b4] at h
    refine j_iload_n (pc := 4) (k0 := 3) F 3 rfl dX5_servedBefore_4 ?_
    refine j_iload_n (pc := 5) (k0 := 1) F 1 rfl dX5_servedBefore_5 ?_
    refine j_icmp_ge (pc := 6) F 74 dX5_servedBefore_6 rfl (fun c => ?_) (fun c => ?_)
    · have h := iz_t c h
      refine j_iload_n (pc := 74) (k0 := 2) F 2 rfl dX5_servedBefore_74 ?_
      have g1 := Option.some.inj h
      subst g1
      exact j_iret (pc := 75) F dX5_servedBefore_75
    · have h := iz_f c h
      refine j_aload_n (pc := 9) (k0 := 0) F 0 rfl dX5_servedBefore_9 ?_
      obtain ⟨x1, hx1, h⟩ := ob h
      refine j_getR (pc := 10) F flX5_41 hx1 dX5_servedBefore_10 ?_
      obtain ⟨x2, hx2, h⟩ := ob h
      refine j_getR (pc := 13) F flX5_128 hx2 dX5_servedBefore_13 ?_
      refine j_iload_n (pc := 16) (k0 := 3) F 3 rfl dX5_servedBefore_16 ?_
      obtain ⟨x3, hx3, h⟩ := ob h
      refine j_aald (pc := 17) F (Or.inr rfl) hx3 dX5_servedBefore_17 ?_
      refine j_iconst (pc := 18) F 0 dX5_servedBefore_18 (by decide) ?_
      obtain ⟨x4, hx4, h⟩ := ob h
      refine j_iald (pc := 19) F hx4 dX5_servedBefore_19 ?_
      refine j_aload_n (pc := 20) (k0 := 0) F 0 rfl dX5_servedBefore_20 ?_
      obtain ⟨x5, hx5, h⟩ := ob h
      refine j_getR (pc := 21) F flX5_41 hx5 dX5_servedBefore_21 ?_
      obtain ⟨x6, hx6, h⟩ := ob h
      refine j_getR (pc := 24) F flX5_128 hx6 dX5_servedBefore_24 ?_
      refine j_iload_n (pc := 27) (k0 := 1) F 1 rfl dX5_servedBefore_27 ?_
      obtain ⟨x7, hx7, h⟩ := ob h
      refine j_aald (pc := 28) F (Or.inr rfl) hx7 dX5_servedBefore_28 ?_
      refine j_iconst (pc := 29) F 0 dX5_servedBefore_29 (by decide) ?_
      obtain ⟨x8, hx8, h⟩ := ob h
      refine j_iald (pc := 30) F hx8 dX5_servedBefore_30 ?_
      refine j_icmp_ne (pc := 31) F 68 dX5_servedBefore_31 rfl (fun c => ?_) (fun c => ?_)
      · have h := iz_f c h
        refine j_iinc (pc := 68) (k1 := 3) (ls' := [(3, .int (v3 + 1)), (0, .ref this), (1, .int v1), (2, .int v2)]) F (v3 + 1) 3 rfl rfl rfl rfl dX5_servedBefore_68 ?_
        refine j_goto (pc := 71) F 4 dX5_servedBefore_71 rfl ?_
        refine j_sub [1, 2, 3, 0] rfl ?_
        exact jbX5_servedBefore_4 G F fuel _ _ _ h
      · have h := iz_t c h
        refine j_aload_n (pc := 34) (k0 := 0) F 0 rfl dX5_servedBefore_34 ?_
        obtain ⟨x9, hx9, h⟩ := ob h
        refine j_getR (pc := 35) F flX5_41 hx9 dX5_servedBefore_35 ?_
        obtain ⟨x10, hx10, h⟩ := ob h
        refine j_getR (pc := 38) F flX5_128 hx10 dX5_servedBefore_38 ?_
        refine j_iload_n (pc := 41) (k0 := 3) F 3 rfl dX5_servedBefore_41 ?_
        obtain ⟨x11, hx11, h⟩ := ob h
        refine j_aald (pc := 42) F (Or.inr rfl) hx11 dX5_servedBefore_42 ?_
        refine j_iconst (pc := 43) F 1 dX5_servedBefore_43 (by decide) ?_
        obtain ⟨x12, hx12, h⟩ := ob h
        refine j_iald (pc := 44) F hx12 dX5_servedBefore_44 ?_
        refine j_aload_n (pc := 45) (k0 := 0) F 0 rfl dX5_servedBefore_45 ?_
        obtain ⟨x13, hx13, h⟩ := ob h
        refine j_getR (pc := 46) F flX5_41 hx13 dX5_servedBefore_46 ?_
        obtain ⟨x14, hx14, h⟩ := ob h
        refine j_getR (pc := 49) F flX5_128 hx14 dX5_servedBefore_49 ?_
        refine j_iload_n (pc := 52) (k0 := 1) F 1 rfl dX5_servedBefore_52 ?_
        obtain ⟨x15, hx15, h⟩ := ob h
        refine j_aald (pc := 53) F (Or.inr rfl) hx15 dX5_servedBefore_53 ?_
        refine j_iconst (pc := 54) F 1 dX5_servedBefore_54 (by decide) ?_
        obtain ⟨x16, hx16, h⟩ := ob h
        refine j_iald (pc := 55) F hx16 dX5_servedBefore_55 ?_
        refine j_icmp_ne (pc := 56) F 68 dX5_servedBefore_56 rfl (fun c => ?_) (fun c => ?_)
        · have h := iz_f c h
          refine j_iinc (pc := 68) (k1 := 3) (ls' := [(3, .int (v3 + 1)), (0, .ref this), (1, .int v1), (2, .int v2)]) F (v3 + 1) 3 rfl rfl rfl rfl dX5_servedBefore_68 ?_
          refine j_goto (pc := 71) F 4 dX5_servedBefore_71 rfl ?_
          refine j_sub [1, 2, 3, 0] rfl ?_
          exact jbX5_servedBefore_4 G F fuel _ _ _ h
        · have h := iz_t c h
          refine j_iload_n (pc := 59) (k0 := 2) F 2 rfl dX5_servedBefore_59 ?_
          refine j_aload_n (pc := 60) (k0 := 0) F 0 rfl dX5_servedBefore_60 ?_
          obtain ⟨x17, hx17, h⟩ := ob h
          refine j_getR (pc := 61) F flX5_38 hx17 dX5_servedBefore_61 ?_
          refine j_iload_n (pc := 64) (k0 := 3) F 3 rfl dX5_servedBefore_64 ?_
          obtain ⟨x18, hx18, h⟩ := ob h
          refine j_iald (pc := 65) F hx18 dX5_servedBefore_65 ?_
          refine j_iadd (pc := 66) F dX5_servedBefore_66 ?_
          refine j_istore_n (pc := 67) (k1 := 2) (ls' := [(2, .int (v2 + x18)), (0, .ref this), (1, .int v1), (3, .int v3)]) F rfl rfl rfl dX5_servedBefore_67 ?_
          refine j_iinc (pc := 68) (k1 := 3) (ls' := [(3, .int (v3 + 1)), (2, .int (v2 + x18)), (0, .ref this), (1, .int v1)]) F (v3 + 1) 3 rfl rfl rfl rfl dX5_servedBefore_68 ?_
          refine j_goto (pc := 71) F 4 dX5_servedBefore_71 rfl ?_
          refine j_sub [2, 3, 1, 0] rfl ?_
          exact jbX5_servedBefore_4 G F fuel _ _ _ h
set_option maxHeartbeats 4000000 in
set_option maxRecDepth 20000 in
theorem jbX5_servedBefore_0 (G : GT) {X : XT} {sh : SH} {I : IH} {L : LH} {n : Nat} {r : Int32}  {this : Nat}  {v1 : Int32} (F : MF G X RX5 cX5_servedBefore 4 0 (some .int) "servedBefore") (h : fX5_servedBefore sh I this v1 = some r) : J G X (QE G X (some (.int r)) sh I L n) 4 sh I L n 0 0 0 [(0, .ref this), (1, .int v1)] [] := by
  unfold fX5_servedBefore at h
  refine j_iconst (pc := 0) F 0 dX5_servedBefore_0 (by decide) ?_
  refine j_istore_n (pc := 1) (k1 := 2) (ls' := [(2, .int 0), (0, .ref this), (1, .int v1)]) F rfl rfl rfl dX5_servedBefore_1 ?_
  refine j_iconst (pc := 2) F 0 dX5_servedBefore_2 (by decide) ?_
  refine j_istore_n (pc := 3) (k1 := 3) (ls' := [(3, .int 0), (2, .int 0), (0, .ref this), (1, .int v1)]) F rfl rfl rfl dX5_servedBefore_3 ?_
  refine j_sub [2, 3, 1, 0] rfl ?_
  exact jbX5_servedBefore_4 G F 1000 _ _ _ h
theorem ctX5_servedBefore (G : GT) {sh : SH} {I : IH} {L : LH} {n : Nat} {this : Nat} {v1 : Int32} {r : Int32}  (h : fX5_servedBefore sh I this v1 = some r) : Ct G yX5_servedBefore cX5_servedBefore 4 (some .int) 0 [.ref this, .int v1] sh I L n (some (.int r)) sh I L n 0 0 := by
  refine ct_of (y := yX5_servedBefore) (by decide +kernel) rfl (fun X F => ?_)
  exact jbX5_servedBefore_0 G F h
theorem dX5_serve_0 : decode cX5_serve 0 = .ok (.iconst 0, 1) := by decide +kernel
theorem dX5_serve_1 : decode cX5_serve 1 = .ok (.istore_n 1, 1) := by decide +kernel
theorem dX5_serve_2 : decode cX5_serve 2 = .ok (.iconst 0, 1) := by decide +kernel
theorem dX5_serve_3 : decode cX5_serve 3 = .ok (.istore_n 2, 1) := by decide +kernel
theorem dX5_serve_4 : decode cX5_serve 4 = .ok (.iload_n 2, 1) := by decide +kernel
theorem dX5_serve_5 : decode cX5_serve 5 = .ok (.bipush 10, 2) := by decide +kernel
theorem dX5_serve_7 : decode cX5_serve 7 = .ok (.if_icmp .ge 119, 3) := by decide +kernel
theorem dX5_serve_10 : decode cX5_serve 10 = .ok (.aload_n 0, 1) := by decide +kernel
theorem dX5_serve_11 : decode cX5_serve 11 = .ok (.getfield 41, 3) := by decide +kernel
theorem dX5_serve_14 : decode cX5_serve 14 = .ok (.iload_n 2, 1) := by decide +kernel
theorem dX5_serve_15 : decode cX5_serve 15 = .ok (.invokevirtual 125, 3) := by decide +kernel
theorem dX5_serve_18 : decode cX5_serve 18 = .ok (.ifCond .eq 108, 3) := by decide +kernel
theorem dX5_serve_21 : decode cX5_serve 21 = .ok (.aload_n 0, 1) := by decide +kernel
theorem dX5_serve_22 : decode cX5_serve 22 = .ok (.getfield 41, 3) := by decide +kernel
theorem dX5_serve_25 : decode cX5_serve 25 = .ok (.getfield 128, 3) := by decide +kernel
theorem dX5_serve_28 : decode cX5_serve 28 = .ok (.iload_n 2, 1) := by decide +kernel
theorem dX5_serve_29 : decode cX5_serve 29 = .ok (.aaload, 1) := by decide +kernel
theorem dX5_serve_30 : decode cX5_serve 30 = .ok (.astore_n 3, 1) := by decide +kernel
theorem dX5_serve_31 : decode cX5_serve 31 = .ok (.aload_n 3, 1) := by decide +kernel
theorem dX5_serve_32 : decode cX5_serve 32 = .ok (.iconst 0, 1) := by decide +kernel
theorem dX5_serve_33 : decode cX5_serve 33 = .ok (.iaload, 1) := by decide +kernel
theorem dX5_serve_34 : decode cX5_serve 34 = .ok (.istore 4, 2) := by decide +kernel
theorem dX5_serve_36 : decode cX5_serve 36 = .ok (.aload_n 3, 1) := by decide +kernel
theorem dX5_serve_37 : decode cX5_serve 37 = .ok (.iconst 1, 1) := by decide +kernel
theorem dX5_serve_38 : decode cX5_serve 38 = .ok (.iaload, 1) := by decide +kernel
theorem dX5_serve_39 : decode cX5_serve 39 = .ok (.istore 5, 2) := by decide +kernel
theorem dX5_serve_41 : decode cX5_serve 41 = .ok (.aload_n 0, 1) := by decide +kernel
theorem dX5_serve_42 : decode cX5_serve 42 = .ok (.getfield 41, 3) := by decide +kernel
theorem dX5_serve_45 : decode cX5_serve 45 = .ok (.iload 4, 2) := by decide +kernel
theorem dX5_serve_47 : decode cX5_serve 47 = .ok (.invokevirtual 77, 3) := by decide +kernel
theorem dX5_serve_50 : decode cX5_serve 50 = .ok (.ifCond .eq 17, 3) := by decide +kernel
theorem dX5_serve_53 : decode cX5_serve 53 = .ok (.iload 5, 2) := by decide +kernel
theorem dX5_serve_55 : decode cX5_serve 55 = .ok (.bipush 48, 2) := by decide +kernel
theorem dX5_serve_57 : decode cX5_serve 57 = .ok (.invokestatic 107, 3) := by decide +kernel
theorem dX5_serve_60 : decode cX5_serve 60 = .ok (.ifCond .eq 7, 3) := by decide +kernel
theorem dX5_serve_63 : decode cX5_serve 63 = .ok (.iconst 1, 1) := by decide +kernel
theorem dX5_serve_64 : decode cX5_serve 64 = .ok (.goto 4, 3) := by decide +kernel
theorem dX5_serve_67 : decode cX5_serve 67 = .ok (.iconst 0, 1) := by decide +kernel
theorem dX5_serve_68 : decode cX5_serve 68 = .ok (.istore 6, 2) := by decide +kernel
theorem dX5_serve_70 : decode cX5_serve 70 = .ok (.aload_n 0, 1) := by decide +kernel
theorem dX5_serve_71 : decode cX5_serve 71 = .ok (.getfield 38, 3) := by decide +kernel
theorem dX5_serve_74 : decode cX5_serve 74 = .ok (.iload_n 2, 1) := by decide +kernel
theorem dX5_serve_75 : decode cX5_serve 75 = .ok (.iload 6, 2) := by decide +kernel
theorem dX5_serve_77 : decode cX5_serve 77 = .ok (.ifCond .eq 28, 3) := by decide +kernel
theorem dX5_serve_80 : decode cX5_serve 80 = .ok (.aload_n 3, 1) := by decide +kernel
theorem dX5_serve_81 : decode cX5_serve 81 = .ok (.iconst 2, 1) := by decide +kernel
theorem dX5_serve_82 : decode cX5_serve 82 = .ok (.iaload, 1) := by decide +kernel
theorem dX5_serve_83 : decode cX5_serve 83 = .ok (.aload_n 0, 1) := by decide +kernel
theorem dX5_serve_84 : decode cX5_serve 84 = .ok (.getfield 26, 3) := by decide +kernel
theorem dX5_serve_87 : decode cX5_serve 87 = .ok (.iload 4, 2) := by decide +kernel
theorem dX5_serve_89 : decode cX5_serve 89 = .ok (.aaload, 1) := by decide +kernel
theorem dX5_serve_90 : decode cX5_serve 90 = .ok (.iload 5, 2) := by decide +kernel
theorem dX5_serve_92 : decode cX5_serve 92 = .ok (.iaload, 1) := by decide +kernel
theorem dX5_serve_93 : decode cX5_serve 93 = .ok (.aload_n 0, 1) := by decide +kernel
theorem dX5_serve_94 : decode cX5_serve 94 = .ok (.iload_n 2, 1) := by decide +kernel
theorem dX5_serve_95 : decode cX5_serve 95 = .ok (.invokevirtual 131, 3) := by decide +kernel
theorem dX5_serve_98 : decode cX5_serve 98 = .ok (.isub, 1) := by decide +kernel
theorem dX5_serve_99 : decode cX5_serve 99 = .ok (.invokestatic 93, 3) := by decide +kernel
theorem dX5_serve_102 : decode cX5_serve 102 = .ok (.goto 4, 3) := by decide +kernel
theorem dX5_serve_105 : decode cX5_serve 105 = .ok (.iconst 0, 1) := by decide +kernel
theorem dX5_serve_106 : decode cX5_serve 106 = .ok (.iastore, 1) := by decide +kernel
theorem dX5_serve_107 : decode cX5_serve 107 = .ok (.iload_n 1, 1) := by decide +kernel
theorem dX5_serve_108 : decode cX5_serve 108 = .ok (.aload_n 0, 1) := by decide +kernel
theorem dX5_serve_109 : decode cX5_serve 109 = .ok (.getfield 38, 3) := by decide +kernel
theorem dX5_serve_112 : decode cX5_serve 112 = .ok (.iload_n 2, 1) := by decide +kernel
theorem dX5_serve_113 : decode cX5_serve 113 = .ok (.iaload, 1) := by decide +kernel
theorem dX5_serve_114 : decode cX5_serve 114 = .ok (.aload_n 3, 1) := by decide +kernel
theorem dX5_serve_115 : decode cX5_serve 115 = .ok (.iconst 3, 1) := by decide +kernel
theorem dX5_serve_116 : decode cX5_serve 116 = .ok (.iaload, 1) := by decide +kernel
theorem dX5_serve_117 : decode cX5_serve 117 = .ok (.imul, 1) := by decide +kernel
theorem dX5_serve_118 : decode cX5_serve 118 = .ok (.iadd, 1) := by decide +kernel
theorem dX5_serve_119 : decode cX5_serve 119 = .ok (.istore_n 1, 1) := by decide +kernel
theorem dX5_serve_120 : decode cX5_serve 120 = .ok (.iinc 2 1, 3) := by decide +kernel
theorem dX5_serve_123 : decode cX5_serve 123 = .ok (.goto (-119), 3) := by decide +kernel
theorem dX5_serve_126 : decode cX5_serve 126 = .ok (.iload_n 1, 1) := by decide +kernel
theorem dX5_serve_127 : decode cX5_serve 127 = .ok (.ireturn, 1) := by decide +kernel
def fX5_serve_b106 (sh : SH) (this : Nat) (k4 : (Int32 → Int32 → IH → Option (Int32 × IH))) (v1 : Int32) (v2 : Int32) (v3 : Nat) (s0 : Nat) (s1 : Int32) (s2 : Int32) (I : IH) : Option (Int32 × IH) :=
  (sI sh I s0 s1 s2).bind fun i1 =>
  (gR sh 5 this 9).bind fun x2 =>
  (aI sh i1 0 x2 v2).bind fun x3 =>
  (aI sh i1 0 v3 3).bind fun x4 =>
  k4 (v1 + (x3 * x4)) (v2 + 1) i1
def fX5_serve_b68 (sh : SH) (this : Nat) (k4 : (Int32 → Int32 → IH → Option (Int32 × IH))) (v1 : Int32) (v2 : Int32) (v3 : Nat) (v4 : Int32) (v5 : Int32) (s0 : Int32) (I : IH) : Option (Int32 × IH) :=
  (gR sh 5 this 9).bind fun x1 =>
  if s0 = 0 then (
    fX5_serve_b106 sh this k4 v1 v2 v3 x1 v2 0 I) else
  (aI sh I 0 v3 2).bind fun x2 =>
  (gR sh 5 this 5).bind fun x3 =>
  (aR sh 4 x3 v4).bind fun x4 =>
  (aI sh I 0 x4 v5).bind fun x5 =>
  (fX5_servedBefore sh I this v2).bind fun x6 =>
  fX5_serve_b106 sh this k4 v1 v2 v3 x1 v2 (fJ9_min_7cf53 x2 (x5 - x6)) I
def fX5_serve_b4 (sh : SH) (this : Nat) : Nat → Int32 → Int32 → IH → Option (Int32 × IH)
  | 0, _, _, _ => none
  | fuel + 1, v1, v2, I =>
    if 10 ≤ v2 then (
      some (v1, I)) else
    (gR sh 5 this 0).bind fun x1 =>
    (ck sh 2 x1).bind fun u2 =>
    (fX2_isWant sh I x1 v2).bind fun x3 =>
    if x3 = 0 then (
      some (v1, I)) else
    (gR sh 5 this 0).bind fun x4 =>
    (gR sh 2 x4 4).bind fun x5 =>
    (aR sh 4 x5 v2).bind fun x6 =>
    (aI sh I 0 x6 0).bind fun x7 =>
    (aI sh I 0 x6 1).bind fun x8 =>
    (gR sh 5 this 0).bind fun x9 =>
    (ck sh 2 x9).bind fun u10 =>
    (fX2_isPlace sh I x9 x7).bind fun x11 =>
    if x11 = 0 then (
      fX5_serve_b68 sh this (fX5_serve_b4 sh this fuel) v1 v2 x6 x7 x8 0 I) else
    if (fX6_isUnder x8 48) = 0 then (
      fX5_serve_b68 sh this (fX5_serve_b4 sh this fuel) v1 v2 x6 x7 x8 0 I) else
    fX5_serve_b68 sh this (fX5_serve_b4 sh this fuel) v1 v2 x6 x7 x8 1 I
def fX5_serve (sh : SH) (this : Nat) (I : IH) : Option (Int32 × IH) :=
  fX5_serve_b4 sh this 1000 0 0 I
set_option maxHeartbeats 4000000 in
set_option maxRecDepth 20000 in
theorem jbX5_serve_106 (G : GT) {X : XT} {sh : SH} {L : LH} {n : Nat} {r : Int32} {I' : IH}  {this : Nat} {k4 : (Int32 → Int32 → IH → Option (Int32 × IH))} {v1 : Int32} {v2 : Int32} {v3 : Nat} {s0 : Nat} {s1 : Int32} {s2 : Int32} {I : IH} (F : MF G X RX5 cX5_serve 7 2 (some .int) "serve") (hth : isO sh 5 this)
    (hk4 : ∀ {v1 : Int32} {v2 : Int32} {I : IH}, k4 v1 v2 I = some (r, I') → J G X (QE G X (some (.int r)) sh I' L n) 7 sh I L n 0 0 4 [(0, .ref this), (1, .int v1), (2, .int v2)] []) (h : fX5_serve_b106 sh this k4 v1 v2 v3 s0 s1 s2 I = some (r, I')) : J G X (QE G X (some (.int r)) sh I' L n) 7 sh I L n 0 0 106 [(0, .ref this), (1, .int v1), (2, .int v2), (3, .ref v3)] [.int s2, .int s1, .ref s0] := by
  unfold fX5_serve_b106 at h
  obtain ⟨i1, hi1, h⟩ := ob h
  refine j_iast (pc := 106) F hi1 dX5_serve_106 ?_
  refine j_iload_n (pc := 107) (k0 := 1) F 1 rfl dX5_serve_107 ?_
  refine j_aload_n (pc := 108) (k0 := 0) F 0 rfl dX5_serve_108 ?_
  obtain ⟨x2, hx2, h⟩ := ob h
  refine j_getR (pc := 109) F flX5_38 hx2 dX5_serve_109 ?_
  refine j_iload_n (pc := 112) (k0 := 2) F 2 rfl dX5_serve_112 ?_
  obtain ⟨x3, hx3, h⟩ := ob h
  refine j_iald (pc := 113) F hx3 dX5_serve_113 ?_
  refine j_aload_n (pc := 114) (k0 := 3) F 3 rfl dX5_serve_114 ?_
  refine j_iconst (pc := 115) F 3 dX5_serve_115 (by decide) ?_
  obtain ⟨x4, hx4, h⟩ := ob h
  refine j_iald (pc := 116) F hx4 dX5_serve_116 ?_
  refine j_imul (pc := 117) F dX5_serve_117 ?_
  refine j_iadd (pc := 118) F dX5_serve_118 ?_
  refine j_istore_n (pc := 119) (k1 := 1) (ls' := [(1, .int (v1 + (x3 * x4))), (0, .ref this), (2, .int v2), (3, .ref v3)]) F rfl rfl rfl dX5_serve_119 ?_
  refine j_iinc (pc := 120) (k1 := 2) (ls' := [(2, .int (v2 + 1)), (1, .int (v1 + (x3 * x4))), (0, .ref this), (3, .ref v3)]) F (v2 + 1) 2 rfl rfl rfl rfl dX5_serve_120 ?_
  refine j_goto (pc := 123) F 4 dX5_serve_123 rfl ?_
  refine j_sub [2, 1, 0] rfl ?_
  exact hk4 h
set_option maxHeartbeats 4000000 in
set_option maxRecDepth 20000 in
theorem jbX5_serve_68 (G : GT) {X : XT} {sh : SH} {L : LH} {n : Nat} {r : Int32} {I' : IH}  {this : Nat} {k4 : (Int32 → Int32 → IH → Option (Int32 × IH))} {v1 : Int32} {v2 : Int32} {v3 : Nat} {v4 : Int32} {v5 : Int32} {s0 : Int32} {I : IH} (F : MF G X RX5 cX5_serve 7 2 (some .int) "serve") (hth : isO sh 5 this)
    (hk4 : ∀ {v1 : Int32} {v2 : Int32} {I : IH}, k4 v1 v2 I = some (r, I') → J G X (QE G X (some (.int r)) sh I' L n) 7 sh I L n 0 0 4 [(0, .ref this), (1, .int v1), (2, .int v2)] []) (h : fX5_serve_b68 sh this k4 v1 v2 v3 v4 v5 s0 I = some (r, I')) : J G X (QE G X (some (.int r)) sh I' L n) 7 sh I L n 0 0 68 [(0, .ref this), (1, .int v1), (2, .int v2), (3, .ref v3), (4, .int v4), (5, .int v5)] [.int s0] := by
  unfold fX5_serve_b68 at h
  refine j_istore (pc := 68) (k1 := 6) (ls' := [(6, .int s0), (0, .ref this), (1, .int v1), (2, .int v2), (3, .ref v3), (4, .int v4), (5, .int v5)]) F rfl rfl dX5_serve_68 ?_
  refine j_aload_n (pc := 70) (k0 := 0) F 1 rfl dX5_serve_70 ?_
  obtain ⟨x1, hx1, h⟩ := ob h
  refine j_getR (pc := 71) F flX5_38 hx1 dX5_serve_71 ?_
  refine j_iload_n (pc := 74) (k0 := 2) F 3 rfl dX5_serve_74 ?_
  refine j_iload (pc := 75) (k0 := 6) F 0 rfl dX5_serve_75 ?_
  refine j_if_eq (pc := 77) F 105 dX5_serve_77 rfl (fun c => ?_) (fun c => ?_)
  · have h := iz_t c h
    refine j_iconst (pc := 105) F 0 dX5_serve_105 (by decide) ?_
    refine j_sub [1, 2, 3, 4] rfl ?_
    exact jbX5_serve_106 G F hth (fun h => hk4 h) h
  · have h := iz_f c h
    refine j_aload_n (pc := 80) (k0 := 3) F 4 rfl dX5_serve_80 ?_
    refine j_iconst (pc := 81) F 2 dX5_serve_81 (by decide) ?_
    obtain ⟨x2, hx2, h⟩ := ob h
    refine j_iald (pc := 82) F hx2 dX5_serve_82 ?_
    refine j_aload_n (pc := 83) (k0 := 0) F 1 rfl dX5_serve_83 ?_
    obtain ⟨x3, hx3, h⟩ := ob h
    refine j_getR (pc := 84) F flX5_26 hx3 dX5_serve_84 ?_
    refine j_iload (pc := 87) (k0 := 4) F 5 rfl dX5_serve_87 ?_
    obtain ⟨x4, hx4, h⟩ := ob h
    refine j_aald (pc := 89) F (Or.inr rfl) hx4 dX5_serve_89 ?_
    refine j_iload (pc := 90) (k0 := 5) F 6 rfl dX5_serve_90 ?_
    obtain ⟨x5, hx5, h⟩ := ob h
    refine j_iald (pc := 92) F hx5 dX5_serve_92 ?_
    refine j_aload_n (pc := 93) (k0 := 0) F 1 rfl dX5_serve_93 ?_
    refine j_iload_n (pc := 94) (k0 := 2) F 3 rfl dX5_serve_94 ?_
    obtain ⟨x6, hx6, h⟩ := ob h
    refine j_callV1 (pc := 95) (ci := 5) (As := [.int v2]) (st := [.int x5, .int x2, .int v2, .ref x1]) (e1 := 0) (es1 := 0) F clX5_131 cwX5_servedBefore rfl hth (ctX5_servedBefore G hx6) rfl rfl rfl rfl rfl rfl dX5_serve_95 ?_
    refine j_isub (pc := 98) F dX5_serve_98 ?_
    refine j_callS1 (pc := 99) (As := [.int x2, .int (x5 - x6)]) (st := [.int v2, .ref x1]) (e1 := 0) (es1 := 0) F clX5_93 cwJ9_min_7cf53 (ctJ9_min_7cf53 G) rfl rfl rfl rfl rfl rfl dX5_serve_99 ?_
    refine j_goto (pc := 102) F 106 dX5_serve_102 rfl ?_
    refine j_sub [1, 2, 3, 4] rfl ?_
    exact jbX5_serve_106 G F hth (fun h => hk4 h) h
set_option maxHeartbeats 4000000 in
set_option maxRecDepth 20000 in
theorem jbX5_serve_4 (G : GT) {X : XT} {sh : SH} {L : LH} {n : Nat} {r : Int32} {I' : IH}  {this : Nat}  (F : MF G X RX5 cX5_serve 7 2 (some .int) "serve") (hth : isO sh 5 this) : ∀ (fuel : Nat) (v1 : Int32) (v2 : Int32) (I : IH), fX5_serve_b4 sh this fuel v1 v2 I = some (r, I') → J G X (QE G X (some (.int r)) sh I' L n) 7 sh I L n 0 0 4 [(0, .ref this), (1, .int v1), (2, .int v2)] []
  | 0 => by
    intros
    rename_i h
    exact absurd (show none = some _ from h) (by intro z; cases z)
  | fuel + 1 => by
    intro v1 v2 I h
    rw [fX5_serve_b4] at h
    refine j_iload_n (pc := 4) (k0 := 2) F 2 rfl dX5_serve_4 ?_
    refine j_bipush (pc := 5) F 10 dX5_serve_5 (by decide) ?_
    refine j_icmp_ge (pc := 7) F 126 dX5_serve_7 rfl (fun c => ?_) (fun c => ?_)
    · have h := iz_t c h
      refine j_iload_n (pc := 126) (k0 := 1) F 1 rfl dX5_serve_126 ?_
      have g1 := Option.some.inj h
      obtain ⟨q3, g2⟩ := Prod.mk.inj g1
      subst q3
      subst g2
      exact j_iret (pc := 127) F dX5_serve_127
    · have h := iz_f c h
      refine j_aload_n (pc := 10) (k0 := 0) F 0 rfl dX5_serve_10 ?_
      obtain ⟨x1, hx1, h⟩ := ob h
      refine j_getR (pc := 11) F flX5_41 hx1 dX5_serve_11 ?_
      refine j_iload_n (pc := 14) (k0 := 2) F 2 rfl dX5_serve_14 ?_
      obtain ⟨u2, hu2, h⟩ := ob h
      have hou2 := ck_obt hu2
      obtain ⟨x3, hx3, h⟩ := ob h
      refine j_callV1 (pc := 15) (ci := 2) (As := [.int v2]) (st := []) (e1 := 0) (es1 := 0) F clX5_125 cwX2_isWant rfl hou2 (ctX2_isWant G hx3) rfl rfl rfl rfl rfl rfl dX5_serve_15 ?_
      refine j_if_eq (pc := 18) F 126 dX5_serve_18 rfl (fun c => ?_) (fun c => ?_)
      · have h := iz_t c h
        refine j_iload_n (pc := 126) (k0 := 1) F 1 rfl dX5_serve_126 ?_
        have g1 := Option.some.inj h
        obtain ⟨q3, g2⟩ := Prod.mk.inj g1
        subst q3
        subst g2
        exact j_iret (pc := 127) F dX5_serve_127
      · have h := iz_f c h
        refine j_aload_n (pc := 21) (k0 := 0) F 0 rfl dX5_serve_21 ?_
        obtain ⟨x4, hx4, h⟩ := ob h
        refine j_getR (pc := 22) F flX5_41 hx4 dX5_serve_22 ?_
        obtain ⟨x5, hx5, h⟩ := ob h
        refine j_getR (pc := 25) F flX5_128 hx5 dX5_serve_25 ?_
        refine j_iload_n (pc := 28) (k0 := 2) F 2 rfl dX5_serve_28 ?_
        obtain ⟨x6, hx6, h⟩ := ob h
        refine j_aald (pc := 29) F (Or.inr rfl) hx6 dX5_serve_29 ?_
        refine j_astore_n (pc := 30) (k1 := 3) (ls' := [(3, .ref x6), (0, .ref this), (1, .int v1), (2, .int v2)]) F rfl rfl rfl dX5_serve_30 ?_
        refine j_aload_n (pc := 31) (k0 := 3) F 0 rfl dX5_serve_31 ?_
        refine j_iconst (pc := 32) F 0 dX5_serve_32 (by decide) ?_
        obtain ⟨x7, hx7, h⟩ := ob h
        refine j_iald (pc := 33) F hx7 dX5_serve_33 ?_
        refine j_istore (pc := 34) (k1 := 4) (ls' := [(4, .int x7), (3, .ref x6), (0, .ref this), (1, .int v1), (2, .int v2)]) F rfl rfl dX5_serve_34 ?_
        refine j_aload_n (pc := 36) (k0 := 3) F 1 rfl dX5_serve_36 ?_
        refine j_iconst (pc := 37) F 1 dX5_serve_37 (by decide) ?_
        obtain ⟨x8, hx8, h⟩ := ob h
        refine j_iald (pc := 38) F hx8 dX5_serve_38 ?_
        refine j_istore (pc := 39) (k1 := 5) (ls' := [(5, .int x8), (4, .int x7), (3, .ref x6), (0, .ref this), (1, .int v1), (2, .int v2)]) F rfl rfl dX5_serve_39 ?_
        refine j_aload_n (pc := 41) (k0 := 0) F 3 rfl dX5_serve_41 ?_
        obtain ⟨x9, hx9, h⟩ := ob h
        refine j_getR (pc := 42) F flX5_41 hx9 dX5_serve_42 ?_
        refine j_iload (pc := 45) (k0 := 4) F 1 rfl dX5_serve_45 ?_
        obtain ⟨u10, hu10, h⟩ := ob h
        have hou10 := ck_obt hu10
        obtain ⟨x11, hx11, h⟩ := ob h
        refine j_callV1 (pc := 47) (ci := 2) (As := [.int x7]) (st := []) (e1 := 0) (es1 := 0) F clX5_77 cwX2_isPlace rfl hou10 (ctX2_isPlace G hx11) rfl rfl rfl rfl rfl rfl dX5_serve_47 ?_
        refine j_if_eq (pc := 50) F 67 dX5_serve_50 rfl (fun c => ?_) (fun c => ?_)
        · have h := iz_t c h
          refine j_iconst (pc := 67) F 0 dX5_serve_67 (by decide) ?_
          refine j_sub [3, 4, 5, 2, 1, 0] rfl ?_
          exact jbX5_serve_68 G F hth (fun h => jbX5_serve_4 G F hth fuel _ _ _ h) h
        · have h := iz_f c h
          refine j_iload (pc := 53) (k0 := 5) F 0 rfl dX5_serve_53 ?_
          refine j_bipush (pc := 55) F 48 dX5_serve_55 (by decide) ?_
          refine j_callSN1 (pc := 57) (As := [.int x8, .int 48]) (st := []) (e1 := 0) (es1 := 0) F clX5_107 cwX6_isUnder (ctX6_isUnder G) rfl rfl rfl rfl rfl rfl dX5_serve_57 ?_
          refine j_if_eq (pc := 60) F 67 dX5_serve_60 rfl (fun c => ?_) (fun c => ?_)
          · have h := iz_t c h
            refine j_iconst (pc := 67) F 0 dX5_serve_67 (by decide) ?_
            refine j_sub [3, 4, 5, 2, 1, 0] rfl ?_
            exact jbX5_serve_68 G F hth (fun h => jbX5_serve_4 G F hth fuel _ _ _ h) h
          · have h := iz_f c h
            refine j_iconst (pc := 63) F 1 dX5_serve_63 (by decide) ?_
            refine j_goto (pc := 64) F 68 dX5_serve_64 rfl ?_
            refine j_sub [3, 4, 5, 2, 1, 0] rfl ?_
            exact jbX5_serve_68 G F hth (fun h => jbX5_serve_4 G F hth fuel _ _ _ h) h
set_option maxHeartbeats 4000000 in
set_option maxRecDepth 20000 in
theorem jbX5_serve_0 (G : GT) {X : XT} {sh : SH} {L : LH} {n : Nat} {r : Int32} {I' : IH}  {this : Nat}  {I : IH} (F : MF G X RX5 cX5_serve 7 2 (some .int) "serve") (hth : isO sh 5 this) (h : fX5_serve sh this I = some (r, I')) : J G X (QE G X (some (.int r)) sh I' L n) 7 sh I L n 0 0 0 [(0, .ref this)] [] := by
  unfold fX5_serve at h
  refine j_iconst (pc := 0) F 0 dX5_serve_0 (by decide) ?_
  refine j_istore_n (pc := 1) (k1 := 1) (ls' := [(1, .int 0), (0, .ref this)]) F rfl rfl rfl dX5_serve_1 ?_
  refine j_iconst (pc := 2) F 0 dX5_serve_2 (by decide) ?_
  refine j_istore_n (pc := 3) (k1 := 2) (ls' := [(2, .int 0), (1, .int 0), (0, .ref this)]) F rfl rfl rfl dX5_serve_3 ?_
  refine j_sub [2, 1, 0] rfl ?_
  exact jbX5_serve_4 G F hth 1000 _ _ _ h
theorem ctX5_serve (G : GT) {sh : SH} {I : IH} {L : LH} {n : Nat} {this : Nat} {r : Int32} {I' : IH}  (hth : isO sh 5 this) (h : fX5_serve sh this I = some (r, I')) : Ct G yX5_serve cX5_serve 7 (some .int) 2 [.ref this] sh I L n (some (.int r)) sh I' L n 0 0 := by
  refine ct_of (y := yX5_serve) (by decide +kernel) rfl (fun X F => ?_)
  exact jbX5_serve_0 G F hth h
theorem dX5_again_0 : decode cX5_again 0 = .ok (.iload_n 1, 1) := by decide +kernel
theorem dX5_again_1 : decode cX5_again 1 = .ok (.istore_n 2, 1) := by decide +kernel
theorem dX5_again_2 : decode cX5_again 2 = .ok (.iload_n 2, 1) := by decide +kernel
theorem dX5_again_3 : decode cX5_again 3 = .ok (.iconst 5, 1) := by decide +kernel
theorem dX5_again_4 : decode cX5_again 4 = .ok (.if_icmp .ge 49, 3) := by decide +kernel
theorem dX5_again_7 : decode cX5_again 7 = .ok (.aload_n 0, 1) := by decide +kernel
theorem dX5_again_8 : decode cX5_again 8 = .ok (.getfield 41, 3) := by decide +kernel
theorem dX5_again_11 : decode cX5_again 11 = .ok (.iload_n 2, 1) := by decide +kernel
theorem dX5_again_12 : decode cX5_again 12 = .ok (.invokevirtual 77, 3) := by decide +kernel
theorem dX5_again_15 : decode cX5_again 15 = .ok (.ifCond .eq 38, 3) := by decide +kernel
theorem dX5_again_18 : decode cX5_again 18 = .ok (.aload_n 0, 1) := by decide +kernel
theorem dX5_again_19 : decode cX5_again 19 = .ok (.iload_n 2, 1) := by decide +kernel
theorem dX5_again_20 : decode cX5_again 20 = .ok (.iload_n 2, 1) := by decide +kernel
theorem dX5_again_21 : decode cX5_again 21 = .ok (.ifCond .ne 10, 3) := by decide +kernel
theorem dX5_again_24 : decode cX5_again 24 = .ok (.aload_n 0, 1) := by decide +kernel
theorem dX5_again_25 : decode cX5_again 25 = .ok (.getfield 9, 3) := by decide +kernel
theorem dX5_again_28 : decode cX5_again 28 = .ok (.goto 11, 3) := by decide +kernel
theorem dX5_again_31 : decode cX5_again 31 = .ok (.aload_n 0, 1) := by decide +kernel
theorem dX5_again_32 : decode cX5_again 32 = .ok (.getfield 29, 3) := by decide +kernel
theorem dX5_again_35 : decode cX5_again 35 = .ok (.iload_n 2, 1) := by decide +kernel
theorem dX5_again_36 : decode cX5_again 36 = .ok (.iconst 1, 1) := by decide +kernel
theorem dX5_again_37 : decode cX5_again 37 = .ok (.isub, 1) := by decide +kernel
theorem dX5_again_38 : decode cX5_again 38 = .ok (.aaload, 1) := by decide +kernel
theorem dX5_again_39 : decode cX5_again 39 = .ok (.invokevirtual 81, 3) := by decide +kernel
theorem dX5_again_42 : decode cX5_again 42 = .ok (.aload_n 0, 1) := by decide +kernel
theorem dX5_again_43 : decode cX5_again 43 = .ok (.iload_n 2, 1) := by decide +kernel
theorem dX5_again_44 : decode cX5_again 44 = .ok (.invokevirtual 85, 3) := by decide +kernel
theorem dX5_again_47 : decode cX5_again 47 = .ok (.iinc 2 1, 3) := by decide +kernel
theorem dX5_again_50 : decode cX5_again 50 = .ok (.goto (-48), 3) := by decide +kernel
theorem dX5_again_53 : decode cX5_again 53 = .ok (.aload_n 0, 1) := by decide +kernel
theorem dX5_again_54 : decode cX5_again 54 = .ok (.invokevirtual 89, 3) := by decide +kernel
theorem dX5_again_57 : decode cX5_again 57 = .ok (.ireturn, 1) := by decide +kernel
def fX5_again_b39 (sh : SH) (this : Nat) (k2 : (Int32 → IH → Option (Int32 × IH))) (v2 : Int32) (s1 : Int32) (s2 : Nat) (I : IH) : Option (Int32 × IH) :=
  (fX5_come sh this s1 s2 I).bind fun i1 =>
  (fX5_pass sh this v2 i1).bind fun i2 =>
  k2 (v2 + 1) i2
def fX5_again_b2 (sh : SH) (this : Nat) (k53 : (IH → Option (Int32 × IH))) : Nat → Int32 → IH → Option (Int32 × IH)
  | 0, _, _ => none
  | fuel + 1, v2, I =>
    if 5 ≤ v2 then (
      k53 I) else
    (gR sh 5 this 0).bind fun x1 =>
    (ck sh 2 x1).bind fun u2 =>
    (fX2_isPlace sh I x1 v2).bind fun x3 =>
    if x3 = 0 then (
      k53 I) else
    if v2 = 0 then (
      (gR sh 5 this 1).bind fun x6 =>
      fX5_again_b39 sh this (fX5_again_b2 sh this k53 fuel) v2 v2 x6 I) else
    (gR sh 5 this 6).bind fun x4 =>
    (aR sh 4 x4 (v2 - 1)).bind fun x5 =>
    fX5_again_b39 sh this (fX5_again_b2 sh this k53 fuel) v2 v2 x5 I
def fX5_again_b53 (sh : SH) (this : Nat) (I : IH) : Option (Int32 × IH) :=
  b2 (fX5_serve sh this I) fun x1 i2 =>
  some (x1, i2)
def fX5_again (sh : SH) (this : Nat) (v1 : Int32) (I : IH) : Option (Int32 × IH) :=
  fX5_again_b2 sh this (fX5_again_b53 sh this) 1000 v1 I
set_option maxHeartbeats 4000000 in
set_option maxRecDepth 20000 in
theorem jbX5_again_39 (G : GT) {X : XT} {sh : SH} {L : LH} {n : Nat} {r : Int32} {I' : IH}  {this : Nat} {k2 : (Int32 → IH → Option (Int32 × IH))} {v2 : Int32} {s1 : Int32} {s2 : Nat} {I : IH} (F : MF G X RX5 cX5_again 3 3 (some .int) "again") (hth : isO sh 5 this)
    (hk2 : ∀ {v2 : Int32} {I : IH}, k2 v2 I = some (r, I') → J G X (QE G X (some (.int r)) sh I' L n) 3 sh I L n 0 0 2 [(0, .ref this), (2, .int v2)] []) (h : fX5_again_b39 sh this k2 v2 s1 s2 I = some (r, I')) : J G X (QE G X (some (.int r)) sh I' L n) 3 sh I L n 0 0 39 [(0, .ref this), (2, .int v2)] [.ref s2, .int s1, .ref this] := by
  unfold fX5_again_b39 at h
  obtain ⟨i1, hi1, h⟩ := ob h
  refine j_callV0 (pc := 39) (ci := 5) (As := [.int s1, .ref s2]) (st := []) (e1 := 0) (es1 := 0) F clX5_81 cwX5_come rfl hth (ctX5_come G hth hi1) rfl rfl rfl rfl rfl rfl dX5_again_39 ?_
  refine j_aload_n (pc := 42) (k0 := 0) F 0 rfl dX5_again_42 ?_
  refine j_iload_n (pc := 43) (k0 := 2) F 1 rfl dX5_again_43 ?_
  obtain ⟨i2, hi2, h⟩ := ob h
  refine j_callV0 (pc := 44) (ci := 5) (As := [.int v2]) (st := []) (e1 := 0) (es1 := 0) F clX5_85 cwX5_pass rfl hth (ctX5_pass G hth hi2) rfl rfl rfl rfl rfl rfl dX5_again_44 ?_
  refine j_iinc (pc := 47) (k1 := 2) (ls' := [(2, .int (v2 + 1)), (0, .ref this)]) F (v2 + 1) 1 rfl rfl rfl rfl dX5_again_47 ?_
  refine j_goto (pc := 50) F 2 dX5_again_50 rfl ?_
  refine j_sub [1, 0] rfl ?_
  exact hk2 h
set_option maxHeartbeats 4000000 in
set_option maxRecDepth 20000 in
theorem jbX5_again_2 (G : GT) {X : XT} {sh : SH} {L : LH} {n : Nat} {r : Int32} {I' : IH}  {this : Nat} {k53 : (IH → Option (Int32 × IH))} (F : MF G X RX5 cX5_again 3 3 (some .int) "again") (hth : isO sh 5 this)
    (hk53 : ∀ {I : IH}, k53 I = some (r, I') → J G X (QE G X (some (.int r)) sh I' L n) 3 sh I L n 0 0 53 [(0, .ref this)] []) : ∀ (fuel : Nat) (v2 : Int32) (I : IH), fX5_again_b2 sh this k53 fuel v2 I = some (r, I') → J G X (QE G X (some (.int r)) sh I' L n) 3 sh I L n 0 0 2 [(0, .ref this), (2, .int v2)] []
  | 0 => by
    intros
    rename_i h
    exact absurd (show none = some _ from h) (by intro z; cases z)
  | fuel + 1 => by
    intro v2 I h
    rw [fX5_again_b2] at h
    refine j_iload_n (pc := 2) (k0 := 2) F 1 rfl dX5_again_2 ?_
    refine j_iconst (pc := 3) F 5 dX5_again_3 (by decide) ?_
    refine j_icmp_ge (pc := 4) F 53 dX5_again_4 rfl (fun c => ?_) (fun c => ?_)
    · have h := iz_t c h
      refine j_sub [0] rfl ?_
      exact hk53 h
    · have h := iz_f c h
      refine j_aload_n (pc := 7) (k0 := 0) F 0 rfl dX5_again_7 ?_
      obtain ⟨x1, hx1, h⟩ := ob h
      refine j_getR (pc := 8) F flX5_41 hx1 dX5_again_8 ?_
      refine j_iload_n (pc := 11) (k0 := 2) F 1 rfl dX5_again_11 ?_
      obtain ⟨u2, hu2, h⟩ := ob h
      have hou2 := ck_obt hu2
      obtain ⟨x3, hx3, h⟩ := ob h
      refine j_callV1 (pc := 12) (ci := 2) (As := [.int v2]) (st := []) (e1 := 0) (es1 := 0) F clX5_77 cwX2_isPlace rfl hou2 (ctX2_isPlace G hx3) rfl rfl rfl rfl rfl rfl dX5_again_12 ?_
      refine j_if_eq (pc := 15) F 53 dX5_again_15 rfl (fun c => ?_) (fun c => ?_)
      · have h := iz_t c h
        refine j_sub [0] rfl ?_
        exact hk53 h
      · have h := iz_f c h
        refine j_aload_n (pc := 18) (k0 := 0) F 0 rfl dX5_again_18 ?_
        refine j_iload_n (pc := 19) (k0 := 2) F 1 rfl dX5_again_19 ?_
        refine j_iload_n (pc := 20) (k0 := 2) F 1 rfl dX5_again_20 ?_
        refine j_if_ne (pc := 21) F 31 dX5_again_21 rfl (fun c => ?_) (fun c => ?_)
        · have h := iz_f c h
          refine j_aload_n (pc := 31) (k0 := 0) F 0 rfl dX5_again_31 ?_
          obtain ⟨x4, hx4, h⟩ := ob h
          refine j_getR (pc := 32) F flX5_29 hx4 dX5_again_32 ?_
          refine j_iload_n (pc := 35) (k0 := 2) F 1 rfl dX5_again_35 ?_
          refine j_iconst (pc := 36) F 1 dX5_again_36 (by decide) ?_
          refine j_isub (pc := 37) F dX5_again_37 ?_
          obtain ⟨x5, hx5, h⟩ := ob h
          refine j_aald (pc := 38) F (Or.inr rfl) hx5 dX5_again_38 ?_
          exact jbX5_again_39 G F hth (fun h => jbX5_again_2 G F hth hk53 fuel _ _ h) h
        · have h := iz_t c h
          refine j_aload_n (pc := 24) (k0 := 0) F 0 rfl dX5_again_24 ?_
          obtain ⟨x6, hx6, h⟩ := ob h
          refine j_getR (pc := 25) F flX5_9 hx6 dX5_again_25 ?_
          refine j_goto (pc := 28) F 39 dX5_again_28 rfl ?_
          exact jbX5_again_39 G F hth (fun h => jbX5_again_2 G F hth hk53 fuel _ _ h) h
set_option maxHeartbeats 4000000 in
set_option maxRecDepth 20000 in
theorem jbX5_again_53 (G : GT) {X : XT} {sh : SH} {L : LH} {n : Nat} {r : Int32} {I' : IH}  {this : Nat}  {I : IH} (F : MF G X RX5 cX5_again 3 3 (some .int) "again") (hth : isO sh 5 this) (h : fX5_again_b53 sh this I = some (r, I')) : J G X (QE G X (some (.int r)) sh I' L n) 3 sh I L n 0 0 53 [(0, .ref this)] [] := by
  unfold fX5_again_b53 at h
  refine j_aload_n (pc := 53) (k0 := 0) F 0 rfl dX5_again_53 ?_
  obtain ⟨x1, i2, hx1, h⟩ := b2_obt h
  refine j_callV1 (pc := 54) (ci := 5) (As := []) (st := []) (e1 := 0) (es1 := 0) F clX5_89 cwX5_serve rfl hth (ctX5_serve G hth hx1) rfl rfl rfl rfl rfl rfl dX5_again_54 ?_
  have g1 := Option.some.inj h
  obtain ⟨q3, g2⟩ := Prod.mk.inj g1
  subst q3
  subst g2
  exact j_iret (pc := 57) F dX5_again_57
set_option maxHeartbeats 4000000 in
set_option maxRecDepth 20000 in
theorem jbX5_again_0 (G : GT) {X : XT} {sh : SH} {L : LH} {n : Nat} {r : Int32} {I' : IH}  {this : Nat}  {v1 : Int32} {I : IH} (F : MF G X RX5 cX5_again 3 3 (some .int) "again") (hth : isO sh 5 this) (h : fX5_again sh this v1 I = some (r, I')) : J G X (QE G X (some (.int r)) sh I' L n) 3 sh I L n 0 0 0 [(0, .ref this), (1, .int v1)] [] := by
  unfold fX5_again at h
  refine j_iload_n (pc := 0) (k0 := 1) F 1 rfl dX5_again_0 ?_
  refine j_istore_n (pc := 1) (k1 := 2) (ls' := [(2, .int v1), (0, .ref this), (1, .int v1)]) F rfl rfl rfl dX5_again_1 ?_
  refine j_sub [1, 0] rfl ?_
  exact jbX5_again_2 G F hth (fun h => jbX5_again_53 G F hth h) 1000 _ _ h
theorem ctX5_again (G : GT) {sh : SH} {I : IH} {L : LH} {n : Nat} {this : Nat} {v1 : Int32} {r : Int32} {I' : IH}  (hth : isO sh 5 this) (h : fX5_again sh this v1 I = some (r, I')) : Ct G yX5_again cX5_again 3 (some .int) 3 [.ref this, .int v1] sh I L n (some (.int r)) sh I' L n 0 0 := by
  refine ct_of (y := yX5_again) (by decide +kernel) rfl (fun X F => ?_)
  exact jbX5_again_0 G F hth h
theorem dX5_settle_0 : decode cX5_settle 0 = .ok (.aload_n 0, 1) := by decide +kernel
theorem dX5_settle_1 : decode cX5_settle 1 = .ok (.invokevirtual 63, 3) := by decide +kernel
theorem dX5_settle_4 : decode cX5_settle 4 = .ok (.aload_n 0, 1) := by decide +kernel
theorem dX5_settle_5 : decode cX5_settle 5 = .ok (.aload_n 0, 1) := by decide +kernel
theorem dX5_settle_6 : decode cX5_settle 6 = .ok (.getfield 41, 3) := by decide +kernel
theorem dX5_settle_9 : decode cX5_settle 9 = .ok (.getfield 66, 3) := by decide +kernel
theorem dX5_settle_12 : decode cX5_settle 12 = .ok (.iconst 0, 1) := by decide +kernel
theorem dX5_settle_13 : decode cX5_settle 13 = .ok (.iaload, 1) := by decide +kernel
theorem dX5_settle_14 : decode cX5_settle 14 = .ok (.aload_n 0, 1) := by decide +kernel
theorem dX5_settle_15 : decode cX5_settle 15 = .ok (.getfield 41, 3) := by decide +kernel
theorem dX5_settle_18 : decode cX5_settle 18 = .ok (.getfield 66, 3) := by decide +kernel
theorem dX5_settle_21 : decode cX5_settle 21 = .ok (.iconst 1, 1) := by decide +kernel
theorem dX5_settle_22 : decode cX5_settle 22 = .ok (.iaload, 1) := by decide +kernel
theorem dX5_settle_23 : decode cX5_settle 23 = .ok (.invokevirtual 69, 3) := by decide +kernel
theorem dX5_settle_26 : decode cX5_settle 26 = .ok (.aload_n 0, 1) := by decide +kernel
theorem dX5_settle_27 : decode cX5_settle 27 = .ok (.iconst 0, 1) := by decide +kernel
theorem dX5_settle_28 : decode cX5_settle 28 = .ok (.invokevirtual 73, 3) := by decide +kernel
theorem dX5_settle_31 : decode cX5_settle 31 = .ok (.ireturn, 1) := by decide +kernel
def fX5_settle (sh : SH) (this : Nat) (I : IH) : Option (Int32 × IH) :=
  (fX5_load sh this I).bind fun i1 =>
  (gR sh 5 this 0).bind fun x2 =>
  (gR sh 2 x2 1).bind fun x3 =>
  (aI sh i1 0 x3 0).bind fun x4 =>
  (gR sh 5 this 0).bind fun x5 =>
  (gR sh 2 x5 1).bind fun x6 =>
  (aI sh i1 0 x6 1).bind fun x7 =>
  (fX5_meltUnder sh this x4 x7 i1).bind fun i8 =>
  b2 (fX5_again sh this 0 i8) fun x9 i10 =>
  some (x9, i10)
set_option maxHeartbeats 4000000 in
set_option maxRecDepth 20000 in
theorem jbX5_settle_0 (G : GT) {X : XT} {sh : SH} {L : LH} {n : Nat} {r : Int32} {I' : IH}  {this : Nat}  {I : IH} (F : MF G X RX5 cX5_settle 1 4 (some .int) "settle") (hth : isO sh 5 this) (h : fX5_settle sh this I = some (r, I')) : J G X (QE G X (some (.int r)) sh I' L n) 1 sh I L n 0 0 0 [(0, .ref this)] [] := by
  unfold fX5_settle at h
  refine j_aload_n (pc := 0) (k0 := 0) F 0 rfl dX5_settle_0 ?_
  obtain ⟨i1, hi1, h⟩ := ob h
  refine j_callV0 (pc := 1) (ci := 5) (As := []) (st := []) (e1 := 0) (es1 := 0) F clX5_63 cwX5_load rfl hth (ctX5_load G hi1) rfl rfl rfl rfl rfl rfl dX5_settle_1 ?_
  refine j_aload_n (pc := 4) (k0 := 0) F 0 rfl dX5_settle_4 ?_
  refine j_aload_n (pc := 5) (k0 := 0) F 0 rfl dX5_settle_5 ?_
  obtain ⟨x2, hx2, h⟩ := ob h
  refine j_getR (pc := 6) F flX5_41 hx2 dX5_settle_6 ?_
  obtain ⟨x3, hx3, h⟩ := ob h
  refine j_getR (pc := 9) F flX5_66 hx3 dX5_settle_9 ?_
  refine j_iconst (pc := 12) F 0 dX5_settle_12 (by decide) ?_
  obtain ⟨x4, hx4, h⟩ := ob h
  refine j_iald (pc := 13) F hx4 dX5_settle_13 ?_
  refine j_aload_n (pc := 14) (k0 := 0) F 0 rfl dX5_settle_14 ?_
  obtain ⟨x5, hx5, h⟩ := ob h
  refine j_getR (pc := 15) F flX5_41 hx5 dX5_settle_15 ?_
  obtain ⟨x6, hx6, h⟩ := ob h
  refine j_getR (pc := 18) F flX5_66 hx6 dX5_settle_18 ?_
  refine j_iconst (pc := 21) F 1 dX5_settle_21 (by decide) ?_
  obtain ⟨x7, hx7, h⟩ := ob h
  refine j_iald (pc := 22) F hx7 dX5_settle_22 ?_
  obtain ⟨i8, hi8, h⟩ := ob h
  refine j_callV0 (pc := 23) (ci := 5) (As := [.int x4, .int x7]) (st := []) (e1 := 0) (es1 := 0) F clX5_69 cwX5_meltUnder rfl hth (ctX5_meltUnder G hi8) rfl rfl rfl rfl rfl rfl dX5_settle_23 ?_
  refine j_aload_n (pc := 26) (k0 := 0) F 0 rfl dX5_settle_26 ?_
  refine j_iconst (pc := 27) F 0 dX5_settle_27 (by decide) ?_
  obtain ⟨x9, i10, hx9, h⟩ := b2_obt h
  refine j_callV1 (pc := 28) (ci := 5) (As := [.int 0]) (st := []) (e1 := 0) (es1 := 0) F clX5_73 cwX5_again rfl hth (ctX5_again G hth hx9) rfl rfl rfl rfl rfl rfl dX5_settle_28 ?_
  have g1 := Option.some.inj h
  obtain ⟨q3, g2⟩ := Prod.mk.inj g1
  subst q3
  subst g2
  exact j_iret (pc := 31) F dX5_settle_31
theorem ctX5_settle (G : GT) {sh : SH} {I : IH} {L : LH} {n : Nat} {this : Nat} {r : Int32} {I' : IH}  (hth : isO sh 5 this) (h : fX5_settle sh this I = some (r, I')) : Ct G yX5_settle cX5_settle 1 (some .int) 4 [.ref this] sh I L n (some (.int r)) sh I' L n 0 0 := by
  refine ct_of (y := yX5_settle) (by decide +kernel) rfl (fun X F => ?_)
  exact jbX5_settle_0 G F hth h
theorem dX5_worthWithout_0 : decode cX5_worthWithout 0 = .ok (.aload_n 0, 1) := by decide +kernel
theorem dX5_worthWithout_1 : decode cX5_worthWithout 1 = .ok (.invokevirtual 63, 3) := by decide +kernel
theorem dX5_worthWithout_4 : decode cX5_worthWithout 4 = .ok (.iconst 0, 1) := by decide +kernel
theorem dX5_worthWithout_5 : decode cX5_worthWithout 5 = .ok (.istore_n 2, 1) := by decide +kernel
theorem dX5_worthWithout_6 : decode cX5_worthWithout 6 = .ok (.iload_n 2, 1) := by decide +kernel
theorem dX5_worthWithout_7 : decode cX5_worthWithout 7 = .ok (.aload_n 0, 1) := by decide +kernel
theorem dX5_worthWithout_8 : decode cX5_worthWithout 8 = .ok (.getfield 20, 3) := by decide +kernel
theorem dX5_worthWithout_11 : decode cX5_worthWithout 11 = .ok (.arraylength, 1) := by decide +kernel
theorem dX5_worthWithout_12 : decode cX5_worthWithout 12 = .ok (.if_icmp .ge 26, 3) := by decide +kernel
theorem dX5_worthWithout_15 : decode cX5_worthWithout 15 = .ok (.iload_n 1, 1) := by decide +kernel
theorem dX5_worthWithout_16 : decode cX5_worthWithout 16 = .ok (.iload_n 2, 1) := by decide +kernel
theorem dX5_worthWithout_17 : decode cX5_worthWithout 17 = .ok (.ishr, 1) := by decide +kernel
theorem dX5_worthWithout_18 : decode cX5_worthWithout 18 = .ok (.iconst 1, 1) := by decide +kernel
theorem dX5_worthWithout_19 : decode cX5_worthWithout 19 = .ok (.iand, 1) := by decide +kernel
theorem dX5_worthWithout_20 : decode cX5_worthWithout 20 = .ok (.ifCond .eq 12, 3) := by decide +kernel
theorem dX5_worthWithout_23 : decode cX5_worthWithout 23 = .ok (.aload_n 0, 1) := by decide +kernel
theorem dX5_worthWithout_24 : decode cX5_worthWithout 24 = .ok (.getfield 20, 3) := by decide +kernel
theorem dX5_worthWithout_27 : decode cX5_worthWithout 27 = .ok (.iload_n 2, 1) := by decide +kernel
theorem dX5_worthWithout_28 : decode cX5_worthWithout 28 = .ok (.aaload, 1) := by decide +kernel
theorem dX5_worthWithout_29 : decode cX5_worthWithout 29 = .ok (.iconst 0, 1) := by decide +kernel
theorem dX5_worthWithout_30 : decode cX5_worthWithout 30 = .ok (.iconst 0, 1) := by decide +kernel
theorem dX5_worthWithout_31 : decode cX5_worthWithout 31 = .ok (.iastore, 1) := by decide +kernel
theorem dX5_worthWithout_32 : decode cX5_worthWithout 32 = .ok (.iinc 2 1, 3) := by decide +kernel
theorem dX5_worthWithout_35 : decode cX5_worthWithout 35 = .ok (.goto (-29), 3) := by decide +kernel
theorem dX5_worthWithout_38 : decode cX5_worthWithout 38 = .ok (.aload_n 0, 1) := by decide +kernel
theorem dX5_worthWithout_39 : decode cX5_worthWithout 39 = .ok (.iconst 0, 1) := by decide +kernel
theorem dX5_worthWithout_40 : decode cX5_worthWithout 40 = .ok (.invokevirtual 73, 3) := by decide +kernel
theorem dX5_worthWithout_43 : decode cX5_worthWithout 43 = .ok (.ireturn, 1) := by decide +kernel
def fX5_worthWithout_b6 (sh : SH) (this : Nat) (k38 : (IH → Option (Int32 × IH))) : Nat → Int32 → Int32 → IH → Option (Int32 × IH)
  | 0, _, _, _ => none
  | fuel + 1, v1, v2, I =>
    (gR sh 5 this 3).bind fun x1 =>
    (aL sh x1).bind fun x2 =>
    if x2 ≤ v2 then (
      k38 I) else
    if ((v1 >>> (v2 &&& 31)) &&& 1) = 0 then (
      fX5_worthWithout_b6 sh this k38 fuel v1 (v2 + 1) I) else
    (gR sh 5 this 3).bind fun x3 =>
    (aR sh 4 x3 v2).bind fun x4 =>
    (sI sh I x4 0 0).bind fun i5 =>
    fX5_worthWithout_b6 sh this k38 fuel v1 (v2 + 1) i5
def fX5_worthWithout_b38 (sh : SH) (this : Nat) (I : IH) : Option (Int32 × IH) :=
  b2 (fX5_again sh this 0 I) fun x1 i2 =>
  some (x1, i2)
def fX5_worthWithout (sh : SH) (this : Nat) (v1 : Int32) (I : IH) : Option (Int32 × IH) :=
  (fX5_load sh this I).bind fun i1 =>
  fX5_worthWithout_b6 sh this (fX5_worthWithout_b38 sh this) 1000 v1 0 i1
set_option maxHeartbeats 4000000 in
set_option maxRecDepth 20000 in
theorem jbX5_worthWithout_6 (G : GT) {X : XT} {sh : SH} {L : LH} {n : Nat} {r : Int32} {I' : IH}  {this : Nat} {k38 : (IH → Option (Int32 × IH))} (F : MF G X RX5 cX5_worthWithout 3 4 (some .int) "worthWithout") (hth : isO sh 5 this)
    (hk38 : ∀ {I : IH}, k38 I = some (r, I') → J G X (QE G X (some (.int r)) sh I' L n) 3 sh I L n 0 0 38 [(0, .ref this)] []) : ∀ (fuel : Nat) (v1 : Int32) (v2 : Int32) (I : IH), fX5_worthWithout_b6 sh this k38 fuel v1 v2 I = some (r, I') → J G X (QE G X (some (.int r)) sh I' L n) 3 sh I L n 0 0 6 [(0, .ref this), (1, .int v1), (2, .int v2)] []
  | 0 => by
    intros
    rename_i h
    exact absurd (show none = some _ from h) (by intro z; cases z)
  | fuel + 1 => by
    intro v1 v2 I h
    rw [fX5_worthWithout_b6] at h
    refine j_iload_n (pc := 6) (k0 := 2) F 2 rfl dX5_worthWithout_6 ?_
    refine j_aload_n (pc := 7) (k0 := 0) F 0 rfl dX5_worthWithout_7 ?_
    obtain ⟨x1, hx1, h⟩ := ob h
    refine j_getR (pc := 8) F flX5_20 hx1 dX5_worthWithout_8 ?_
    obtain ⟨x2, hx2, h⟩ := ob h
    refine j_alen (pc := 11) F hx2 dX5_worthWithout_11 ?_
    refine j_icmp_ge (pc := 12) F 38 dX5_worthWithout_12 rfl (fun c => ?_) (fun c => ?_)
    · have h := iz_t c h
      refine j_sub [0] rfl ?_
      exact hk38 h
    · have h := iz_f c h
      refine j_iload_n (pc := 15) (k0 := 1) F 1 rfl dX5_worthWithout_15 ?_
      refine j_iload_n (pc := 16) (k0 := 2) F 2 rfl dX5_worthWithout_16 ?_
      refine j_ishr (pc := 17) F dX5_worthWithout_17 ?_
      refine j_iconst (pc := 18) F 1 dX5_worthWithout_18 (by decide) ?_
      refine j_iand (pc := 19) F dX5_worthWithout_19 ?_
      refine j_if_eq (pc := 20) F 32 dX5_worthWithout_20 rfl (fun c => ?_) (fun c => ?_)
      · have h := iz_t c h
        refine j_iinc (pc := 32) (k1 := 2) (ls' := [(2, .int (v2 + 1)), (0, .ref this), (1, .int v1)]) F (v2 + 1) 2 rfl rfl rfl rfl dX5_worthWithout_32 ?_
        refine j_goto (pc := 35) F 6 dX5_worthWithout_35 rfl ?_
        refine j_sub [1, 2, 0] rfl ?_
        exact jbX5_worthWithout_6 G F hth hk38 fuel _ _ _ h
      · have h := iz_f c h
        refine j_aload_n (pc := 23) (k0 := 0) F 0 rfl dX5_worthWithout_23 ?_
        obtain ⟨x3, hx3, h⟩ := ob h
        refine j_getR (pc := 24) F flX5_20 hx3 dX5_worthWithout_24 ?_
        refine j_iload_n (pc := 27) (k0 := 2) F 2 rfl dX5_worthWithout_27 ?_
        obtain ⟨x4, hx4, h⟩ := ob h
        refine j_aald (pc := 28) F (Or.inr rfl) hx4 dX5_worthWithout_28 ?_
        refine j_iconst (pc := 29) F 0 dX5_worthWithout_29 (by decide) ?_
        refine j_iconst (pc := 30) F 0 dX5_worthWithout_30 (by decide) ?_
        obtain ⟨i5, hi5, h⟩ := ob h
        refine j_iast (pc := 31) F hi5 dX5_worthWithout_31 ?_
        refine j_iinc (pc := 32) (k1 := 2) (ls' := [(2, .int (v2 + 1)), (0, .ref this), (1, .int v1)]) F (v2 + 1) 2 rfl rfl rfl rfl dX5_worthWithout_32 ?_
        refine j_goto (pc := 35) F 6 dX5_worthWithout_35 rfl ?_
        refine j_sub [1, 2, 0] rfl ?_
        exact jbX5_worthWithout_6 G F hth hk38 fuel _ _ _ h
set_option maxHeartbeats 4000000 in
set_option maxRecDepth 20000 in
theorem jbX5_worthWithout_38 (G : GT) {X : XT} {sh : SH} {L : LH} {n : Nat} {r : Int32} {I' : IH}  {this : Nat}  {I : IH} (F : MF G X RX5 cX5_worthWithout 3 4 (some .int) "worthWithout") (hth : isO sh 5 this) (h : fX5_worthWithout_b38 sh this I = some (r, I')) : J G X (QE G X (some (.int r)) sh I' L n) 3 sh I L n 0 0 38 [(0, .ref this)] [] := by
  unfold fX5_worthWithout_b38 at h
  refine j_aload_n (pc := 38) (k0 := 0) F 0 rfl dX5_worthWithout_38 ?_
  refine j_iconst (pc := 39) F 0 dX5_worthWithout_39 (by decide) ?_
  obtain ⟨x1, i2, hx1, h⟩ := b2_obt h
  refine j_callV1 (pc := 40) (ci := 5) (As := [.int 0]) (st := []) (e1 := 0) (es1 := 0) F clX5_73 cwX5_again rfl hth (ctX5_again G hth hx1) rfl rfl rfl rfl rfl rfl dX5_worthWithout_40 ?_
  have g1 := Option.some.inj h
  obtain ⟨q3, g2⟩ := Prod.mk.inj g1
  subst q3
  subst g2
  exact j_iret (pc := 43) F dX5_worthWithout_43
set_option maxHeartbeats 4000000 in
set_option maxRecDepth 20000 in
theorem jbX5_worthWithout_0 (G : GT) {X : XT} {sh : SH} {L : LH} {n : Nat} {r : Int32} {I' : IH}  {this : Nat}  {v1 : Int32} {I : IH} (F : MF G X RX5 cX5_worthWithout 3 4 (some .int) "worthWithout") (hth : isO sh 5 this) (h : fX5_worthWithout sh this v1 I = some (r, I')) : J G X (QE G X (some (.int r)) sh I' L n) 3 sh I L n 0 0 0 [(0, .ref this), (1, .int v1)] [] := by
  unfold fX5_worthWithout at h
  refine j_aload_n (pc := 0) (k0 := 0) F 0 rfl dX5_worthWithout_0 ?_
  obtain ⟨i1, hi1, h⟩ := ob h
  refine j_callV0 (pc := 1) (ci := 5) (As := []) (st := []) (e1 := 0) (es1 := 0) F clX5_63 cwX5_load rfl hth (ctX5_load G hi1) rfl rfl rfl rfl rfl rfl dX5_worthWithout_1 ?_
  refine j_iconst (pc := 4) F 0 dX5_worthWithout_4 (by decide) ?_
  refine j_istore_n (pc := 5) (k1 := 2) (ls' := [(2, .int 0), (0, .ref this), (1, .int v1)]) F rfl rfl rfl dX5_worthWithout_5 ?_
  refine j_sub [1, 2, 0] rfl ?_
  exact jbX5_worthWithout_6 G F hth (fun h => jbX5_worthWithout_38 G F hth h) 1000 _ _ _ h
theorem ctX5_worthWithout (G : GT) {sh : SH} {I : IH} {L : LH} {n : Nat} {this : Nat} {v1 : Int32} {r : Int32} {I' : IH}  (hth : isO sh 5 this) (h : fX5_worthWithout sh this v1 I = some (r, I')) : Ct G yX5_worthWithout cX5_worthWithout 3 (some .int) 4 [.ref this, .int v1] sh I L n (some (.int r)) sh I' L n 0 0 := by
  refine ct_of (y := yX5_worthWithout) (by decide +kernel) rfl (fun X F => ?_)
  exact jbX5_worthWithout_0 G F hth h
theorem dX5_utmost_0 : decode cX5_utmost 0 = .ok (.iconst 0, 1) := by decide +kernel
theorem dX5_utmost_1 : decode cX5_utmost 1 = .ok (.istore_n 2, 1) := by decide +kernel
theorem dX5_utmost_2 : decode cX5_utmost 2 = .ok (.iconst 0, 1) := by decide +kernel
theorem dX5_utmost_3 : decode cX5_utmost 3 = .ok (.istore_n 3, 1) := by decide +kernel
theorem dX5_utmost_4 : decode cX5_utmost 4 = .ok (.iload_n 3, 1) := by decide +kernel
theorem dX5_utmost_5 : decode cX5_utmost 5 = .ok (.bipush 10, 2) := by decide +kernel
theorem dX5_utmost_7 : decode cX5_utmost 7 = .ok (.if_icmp .ge 86, 3) := by decide +kernel
theorem dX5_utmost_10 : decode cX5_utmost 10 = .ok (.aload_n 0, 1) := by decide +kernel
theorem dX5_utmost_11 : decode cX5_utmost 11 = .ok (.getfield 41, 3) := by decide +kernel
theorem dX5_utmost_14 : decode cX5_utmost 14 = .ok (.iload_n 3, 1) := by decide +kernel
theorem dX5_utmost_15 : decode cX5_utmost 15 = .ok (.invokevirtual 125, 3) := by decide +kernel
theorem dX5_utmost_18 : decode cX5_utmost 18 = .ok (.ifCond .eq 75, 3) := by decide +kernel
theorem dX5_utmost_21 : decode cX5_utmost 21 = .ok (.aload_n 0, 1) := by decide +kernel
theorem dX5_utmost_22 : decode cX5_utmost 22 = .ok (.getfield 41, 3) := by decide +kernel
theorem dX5_utmost_25 : decode cX5_utmost 25 = .ok (.getfield 128, 3) := by decide +kernel
theorem dX5_utmost_28 : decode cX5_utmost 28 = .ok (.iload_n 3, 1) := by decide +kernel
theorem dX5_utmost_29 : decode cX5_utmost 29 = .ok (.aaload, 1) := by decide +kernel
theorem dX5_utmost_30 : decode cX5_utmost 30 = .ok (.astore 4, 2) := by decide +kernel
theorem dX5_utmost_32 : decode cX5_utmost 32 = .ok (.aload 4, 2) := by decide +kernel
theorem dX5_utmost_34 : decode cX5_utmost 34 = .ok (.iconst 0, 1) := by decide +kernel
theorem dX5_utmost_35 : decode cX5_utmost 35 = .ok (.iaload, 1) := by decide +kernel
theorem dX5_utmost_36 : decode cX5_utmost 36 = .ok (.iload_n 1, 1) := by decide +kernel
theorem dX5_utmost_37 : decode cX5_utmost 37 = .ok (.if_icmp .lt 21, 3) := by decide +kernel
theorem dX5_utmost_40 : decode cX5_utmost 40 = .ok (.aload_n 0, 1) := by decide +kernel
theorem dX5_utmost_41 : decode cX5_utmost 41 = .ok (.getfield 41, 3) := by decide +kernel
theorem dX5_utmost_44 : decode cX5_utmost 44 = .ok (.aload 4, 2) := by decide +kernel
theorem dX5_utmost_46 : decode cX5_utmost 46 = .ok (.iconst 0, 1) := by decide +kernel
theorem dX5_utmost_47 : decode cX5_utmost 47 = .ok (.iaload, 1) := by decide +kernel
theorem dX5_utmost_48 : decode cX5_utmost 48 = .ok (.invokevirtual 77, 3) := by decide +kernel
theorem dX5_utmost_51 : decode cX5_utmost 51 = .ok (.ifCond .eq 7, 3) := by decide +kernel
theorem dX5_utmost_54 : decode cX5_utmost 54 = .ok (.iconst 1, 1) := by decide +kernel
theorem dX5_utmost_55 : decode cX5_utmost 55 = .ok (.goto 4, 3) := by decide +kernel
theorem dX5_utmost_58 : decode cX5_utmost 58 = .ok (.iconst 0, 1) := by decide +kernel
theorem dX5_utmost_59 : decode cX5_utmost 59 = .ok (.istore 5, 2) := by decide +kernel
theorem dX5_utmost_61 : decode cX5_utmost 61 = .ok (.iload_n 2, 1) := by decide +kernel
theorem dX5_utmost_62 : decode cX5_utmost 62 = .ok (.iload 5, 2) := by decide +kernel
theorem dX5_utmost_64 : decode cX5_utmost 64 = .ok (.ifCond .eq 10, 3) := by decide +kernel
theorem dX5_utmost_67 : decode cX5_utmost 67 = .ok (.aload 4, 2) := by decide +kernel
theorem dX5_utmost_69 : decode cX5_utmost 69 = .ok (.iconst 2, 1) := by decide +kernel
theorem dX5_utmost_70 : decode cX5_utmost 70 = .ok (.iaload, 1) := by decide +kernel
theorem dX5_utmost_71 : decode cX5_utmost 71 = .ok (.goto 9, 3) := by decide +kernel
theorem dX5_utmost_74 : decode cX5_utmost 74 = .ok (.aload_n 0, 1) := by decide +kernel
theorem dX5_utmost_75 : decode cX5_utmost 75 = .ok (.getfield 38, 3) := by decide +kernel
theorem dX5_utmost_78 : decode cX5_utmost 78 = .ok (.iload_n 3, 1) := by decide +kernel
theorem dX5_utmost_79 : decode cX5_utmost 79 = .ok (.iaload, 1) := by decide +kernel
theorem dX5_utmost_80 : decode cX5_utmost 80 = .ok (.aload 4, 2) := by decide +kernel
theorem dX5_utmost_82 : decode cX5_utmost 82 = .ok (.iconst 3, 1) := by decide +kernel
theorem dX5_utmost_83 : decode cX5_utmost 83 = .ok (.iaload, 1) := by decide +kernel
theorem dX5_utmost_84 : decode cX5_utmost 84 = .ok (.imul, 1) := by decide +kernel
theorem dX5_utmost_85 : decode cX5_utmost 85 = .ok (.iadd, 1) := by decide +kernel
theorem dX5_utmost_86 : decode cX5_utmost 86 = .ok (.istore_n 2, 1) := by decide +kernel
theorem dX5_utmost_87 : decode cX5_utmost 87 = .ok (.iinc 3 1, 3) := by decide +kernel
theorem dX5_utmost_90 : decode cX5_utmost 90 = .ok (.goto (-86), 3) := by decide +kernel
theorem dX5_utmost_93 : decode cX5_utmost 93 = .ok (.iload_n 2, 1) := by decide +kernel
theorem dX5_utmost_94 : decode cX5_utmost 94 = .ok (.ireturn, 1) := by decide +kernel
def fX5_utmost_b80 (sh : SH) (I : IH) (this : Nat) (k4 : (Int32 → Int32 → Int32 → Option (Int32))) (v1 : Int32) (v3 : Int32) (v4 : Nat) (s0 : Int32) (s1 : Int32) : Option (Int32) :=
  (aI sh I 0 v4 3).bind fun x1 =>
  k4 v1 (s0 + (s1 * x1)) (v3 + 1)
def fX5_utmost_b59 (sh : SH) (I : IH) (this : Nat) (k4 : (Int32 → Int32 → Int32 → Option (Int32))) (v1 : Int32) (v2 : Int32) (v3 : Int32) (v4 : Nat) (s0 : Int32) : Option (Int32) :=
  if s0 = 0 then (
    (gR sh 5 this 9).bind fun x1 =>
    (aI sh I 0 x1 v3).bind fun x2 =>
    fX5_utmost_b80 sh I this k4 v1 v3 v4 v2 x2) else
  (aI sh I 0 v4 2).bind fun x3 =>
  fX5_utmost_b80 sh I this k4 v1 v3 v4 v2 x3
def fX5_utmost_b4 (sh : SH) (I : IH) (this : Nat) : Nat → Int32 → Int32 → Int32 → Option (Int32)
  | 0, _, _, _ => none
  | fuel + 1, v1, v2, v3 =>
    if 10 ≤ v3 then (
      some v2) else
    (gR sh 5 this 0).bind fun x1 =>
    (ck sh 2 x1).bind fun u2 =>
    (fX2_isWant sh I x1 v3).bind fun x3 =>
    if x3 = 0 then (
      some v2) else
    (gR sh 5 this 0).bind fun x4 =>
    (gR sh 2 x4 4).bind fun x5 =>
    (aR sh 4 x5 v3).bind fun x6 =>
    (aI sh I 0 x6 0).bind fun x7 =>
    if x7 < v1 then (
      fX5_utmost_b59 sh I this (fX5_utmost_b4 sh I this fuel) v1 v2 v3 x6 0) else
    (gR sh 5 this 0).bind fun x8 =>
    (aI sh I 0 x6 0).bind fun x9 =>
    (ck sh 2 x8).bind fun u10 =>
    (fX2_isPlace sh I x8 x9).bind fun x11 =>
    if x11 = 0 then (
      fX5_utmost_b59 sh I this (fX5_utmost_b4 sh I this fuel) v1 v2 v3 x6 0) else
    fX5_utmost_b59 sh I this (fX5_utmost_b4 sh I this fuel) v1 v2 v3 x6 1
def fX5_utmost (sh : SH) (I : IH) (this : Nat) (v1 : Int32) : Option (Int32) :=
  fX5_utmost_b4 sh I this 1000 v1 0 0
set_option maxHeartbeats 4000000 in
set_option maxRecDepth 20000 in
theorem jbX5_utmost_80 (G : GT) {X : XT} {sh : SH} {I : IH} {L : LH} {n : Nat} {r : Int32}  {this : Nat} {k4 : (Int32 → Int32 → Int32 → Option (Int32))} {v1 : Int32} {v3 : Int32} {v4 : Nat} {s0 : Int32} {s1 : Int32} (F : MF G X RX5 cX5_utmost 6 2 (some .int) "utmost")
    (hk4 : ∀ {v1 : Int32} {v2 : Int32} {v3 : Int32}, k4 v1 v2 v3 = some r → J G X (QE G X (some (.int r)) sh I L n) 6 sh I L n 0 0 4 [(0, .ref this), (1, .int v1), (2, .int v2), (3, .int v3)] []) (h : fX5_utmost_b80 sh I this k4 v1 v3 v4 s0 s1 = some r) : J G X (QE G X (some (.int r)) sh I L n) 6 sh I L n 0 0 80 [(0, .ref this), (1, .int v1), (3, .int v3), (4, .ref v4)] [.int s1, .int s0] := by
  unfold fX5_utmost_b80 at h
  refine j_aload (pc := 80) (k0 := 4) F 3 rfl dX5_utmost_80 ?_
  refine j_iconst (pc := 82) F 3 dX5_utmost_82 (by decide) ?_
  obtain ⟨x1, hx1, h⟩ := ob h
  refine j_iald (pc := 83) F hx1 dX5_utmost_83 ?_
  refine j_imul (pc := 84) F dX5_utmost_84 ?_
  refine j_iadd (pc := 85) F dX5_utmost_85 ?_
  refine j_istore_n (pc := 86) (k1 := 2) (ls' := [(2, .int (s0 + (s1 * x1))), (0, .ref this), (1, .int v1), (3, .int v3), (4, .ref v4)]) F rfl rfl rfl dX5_utmost_86 ?_
  refine j_iinc (pc := 87) (k1 := 3) (ls' := [(3, .int (v3 + 1)), (2, .int (s0 + (s1 * x1))), (0, .ref this), (1, .int v1), (4, .ref v4)]) F (v3 + 1) 3 rfl rfl rfl rfl dX5_utmost_87 ?_
  refine j_goto (pc := 90) F 4 dX5_utmost_90 rfl ?_
  refine j_sub [2, 3, 1, 0] rfl ?_
  exact hk4 h
set_option maxHeartbeats 4000000 in
set_option maxRecDepth 20000 in
theorem jbX5_utmost_59 (G : GT) {X : XT} {sh : SH} {I : IH} {L : LH} {n : Nat} {r : Int32}  {this : Nat} {k4 : (Int32 → Int32 → Int32 → Option (Int32))} {v1 : Int32} {v2 : Int32} {v3 : Int32} {v4 : Nat} {s0 : Int32} (F : MF G X RX5 cX5_utmost 6 2 (some .int) "utmost")
    (hk4 : ∀ {v1 : Int32} {v2 : Int32} {v3 : Int32}, k4 v1 v2 v3 = some r → J G X (QE G X (some (.int r)) sh I L n) 6 sh I L n 0 0 4 [(0, .ref this), (1, .int v1), (2, .int v2), (3, .int v3)] []) (h : fX5_utmost_b59 sh I this k4 v1 v2 v3 v4 s0 = some r) : J G X (QE G X (some (.int r)) sh I L n) 6 sh I L n 0 0 59 [(0, .ref this), (1, .int v1), (2, .int v2), (3, .int v3), (4, .ref v4)] [.int s0] := by
  unfold fX5_utmost_b59 at h
  refine j_istore (pc := 59) (k1 := 5) (ls' := [(5, .int s0), (0, .ref this), (1, .int v1), (2, .int v2), (3, .int v3), (4, .ref v4)]) F rfl rfl dX5_utmost_59 ?_
  refine j_iload_n (pc := 61) (k0 := 2) F 3 rfl dX5_utmost_61 ?_
  refine j_iload (pc := 62) (k0 := 5) F 0 rfl dX5_utmost_62 ?_
  refine j_if_eq (pc := 64) F 74 dX5_utmost_64 rfl (fun c => ?_) (fun c => ?_)
  · have h := iz_t c h
    refine j_aload_n (pc := 74) (k0 := 0) F 1 rfl dX5_utmost_74 ?_
    obtain ⟨x1, hx1, h⟩ := ob h
    refine j_getR (pc := 75) F flX5_38 hx1 dX5_utmost_75 ?_
    refine j_iload_n (pc := 78) (k0 := 3) F 4 rfl dX5_utmost_78 ?_
    obtain ⟨x2, hx2, h⟩ := ob h
    refine j_iald (pc := 79) F hx2 dX5_utmost_79 ?_
    refine j_sub [1, 2, 4, 5] rfl ?_
    exact jbX5_utmost_80 G F (fun h => hk4 h) h
  · have h := iz_f c h
    refine j_aload (pc := 67) (k0 := 4) F 5 rfl dX5_utmost_67 ?_
    refine j_iconst (pc := 69) F 2 dX5_utmost_69 (by decide) ?_
    obtain ⟨x3, hx3, h⟩ := ob h
    refine j_iald (pc := 70) F hx3 dX5_utmost_70 ?_
    refine j_goto (pc := 71) F 80 dX5_utmost_71 rfl ?_
    refine j_sub [1, 2, 4, 5] rfl ?_
    exact jbX5_utmost_80 G F (fun h => hk4 h) h
set_option maxHeartbeats 4000000 in
set_option maxRecDepth 20000 in
theorem jbX5_utmost_4 (G : GT) {X : XT} {sh : SH} {I : IH} {L : LH} {n : Nat} {r : Int32}  {this : Nat}  (F : MF G X RX5 cX5_utmost 6 2 (some .int) "utmost") : ∀ (fuel : Nat) (v1 : Int32) (v2 : Int32) (v3 : Int32), fX5_utmost_b4 sh I this fuel v1 v2 v3 = some r → J G X (QE G X (some (.int r)) sh I L n) 6 sh I L n 0 0 4 [(0, .ref this), (1, .int v1), (2, .int v2), (3, .int v3)] []
  | 0 => by
    intros
    rename_i h
    exact absurd (show none = some _ from h) (by intro z; cases z)
  | fuel + 1 => by
    intro v1 v2 v3 h
    rw [fX5_utmost_b4] at h
    refine j_iload_n (pc := 4) (k0 := 3) F 3 rfl dX5_utmost_4 ?_
    refine j_bipush (pc := 5) F 10 dX5_utmost_5 (by decide) ?_
    refine j_icmp_ge (pc := 7) F 93 dX5_utmost_7 rfl (fun c => ?_) (fun c => ?_)
    · have h := iz_t c h
      refine j_iload_n (pc := 93) (k0 := 2) F 2 rfl dX5_utmost_93 ?_
      have g1 := Option.some.inj h
      subst g1
      exact j_iret (pc := 94) F dX5_utmost_94
    · have h := iz_f c h
      refine j_aload_n (pc := 10) (k0 := 0) F 0 rfl dX5_utmost_10 ?_
      obtain ⟨x1, hx1, h⟩ := ob h
      refine j_getR (pc := 11) F flX5_41 hx1 dX5_utmost_11 ?_
      refine j_iload_n (pc := 14) (k0 := 3) F 3 rfl dX5_utmost_14 ?_
      obtain ⟨u2, hu2, h⟩ := ob h
      have hou2 := ck_obt hu2
      obtain ⟨x3, hx3, h⟩ := ob h
      refine j_callV1 (pc := 15) (ci := 2) (As := [.int v3]) (st := []) (e1 := 0) (es1 := 0) F clX5_125 cwX2_isWant rfl hou2 (ctX2_isWant G hx3) rfl rfl rfl rfl rfl rfl dX5_utmost_15 ?_
      refine j_if_eq (pc := 18) F 93 dX5_utmost_18 rfl (fun c => ?_) (fun c => ?_)
      · have h := iz_t c h
        refine j_iload_n (pc := 93) (k0 := 2) F 2 rfl dX5_utmost_93 ?_
        have g1 := Option.some.inj h
        subst g1
        exact j_iret (pc := 94) F dX5_utmost_94
      · have h := iz_f c h
        refine j_aload_n (pc := 21) (k0 := 0) F 0 rfl dX5_utmost_21 ?_
        obtain ⟨x4, hx4, h⟩ := ob h
        refine j_getR (pc := 22) F flX5_41 hx4 dX5_utmost_22 ?_
        obtain ⟨x5, hx5, h⟩ := ob h
        refine j_getR (pc := 25) F flX5_128 hx5 dX5_utmost_25 ?_
        refine j_iload_n (pc := 28) (k0 := 3) F 3 rfl dX5_utmost_28 ?_
        obtain ⟨x6, hx6, h⟩ := ob h
        refine j_aald (pc := 29) F (Or.inr rfl) hx6 dX5_utmost_29 ?_
        refine j_astore (pc := 30) (k1 := 4) (ls' := [(4, .ref x6), (0, .ref this), (1, .int v1), (2, .int v2), (3, .int v3)]) F rfl rfl dX5_utmost_30 ?_
        refine j_aload (pc := 32) (k0 := 4) F 0 rfl dX5_utmost_32 ?_
        refine j_iconst (pc := 34) F 0 dX5_utmost_34 (by decide) ?_
        obtain ⟨x7, hx7, h⟩ := ob h
        refine j_iald (pc := 35) F hx7 dX5_utmost_35 ?_
        refine j_iload_n (pc := 36) (k0 := 1) F 2 rfl dX5_utmost_36 ?_
        refine j_icmp_lt (pc := 37) F 58 dX5_utmost_37 rfl (fun c => ?_) (fun c => ?_)
        · have h := iz_t c h
          refine j_iconst (pc := 58) F 0 dX5_utmost_58 (by decide) ?_
          refine j_sub [1, 2, 3, 4, 0] rfl ?_
          exact jbX5_utmost_59 G F (fun h => jbX5_utmost_4 G F fuel _ _ _ h) h
        · have h := iz_f c h
          refine j_aload_n (pc := 40) (k0 := 0) F 1 rfl dX5_utmost_40 ?_
          obtain ⟨x8, hx8, h⟩ := ob h
          refine j_getR (pc := 41) F flX5_41 hx8 dX5_utmost_41 ?_
          refine j_aload (pc := 44) (k0 := 4) F 0 rfl dX5_utmost_44 ?_
          refine j_iconst (pc := 46) F 0 dX5_utmost_46 (by decide) ?_
          obtain ⟨x9, hx9, h⟩ := ob h
          refine j_iald (pc := 47) F hx9 dX5_utmost_47 ?_
          obtain ⟨u10, hu10, h⟩ := ob h
          have hou10 := ck_obt hu10
          obtain ⟨x11, hx11, h⟩ := ob h
          refine j_callV1 (pc := 48) (ci := 2) (As := [.int x9]) (st := []) (e1 := 0) (es1 := 0) F clX5_77 cwX2_isPlace rfl hou10 (ctX2_isPlace G hx11) rfl rfl rfl rfl rfl rfl dX5_utmost_48 ?_
          refine j_if_eq (pc := 51) F 58 dX5_utmost_51 rfl (fun c => ?_) (fun c => ?_)
          · have h := iz_t c h
            refine j_iconst (pc := 58) F 0 dX5_utmost_58 (by decide) ?_
            refine j_sub [1, 2, 3, 4, 0] rfl ?_
            exact jbX5_utmost_59 G F (fun h => jbX5_utmost_4 G F fuel _ _ _ h) h
          · have h := iz_f c h
            refine j_iconst (pc := 54) F 1 dX5_utmost_54 (by decide) ?_
            refine j_goto (pc := 55) F 59 dX5_utmost_55 rfl ?_
            refine j_sub [1, 2, 3, 4, 0] rfl ?_
            exact jbX5_utmost_59 G F (fun h => jbX5_utmost_4 G F fuel _ _ _ h) h
set_option maxHeartbeats 4000000 in
set_option maxRecDepth 20000 in
theorem jbX5_utmost_0 (G : GT) {X : XT} {sh : SH} {I : IH} {L : LH} {n : Nat} {r : Int32}  {this : Nat}  {v1 : Int32} (F : MF G X RX5 cX5_utmost 6 2 (some .int) "utmost") (h : fX5_utmost sh I this v1 = some r) : J G X (QE G X (some (.int r)) sh I L n) 6 sh I L n 0 0 0 [(0, .ref this), (1, .int v1)] [] := by
  unfold fX5_utmost at h
  refine j_iconst (pc := 0) F 0 dX5_utmost_0 (by decide) ?_
  refine j_istore_n (pc := 1) (k1 := 2) (ls' := [(2, .int 0), (0, .ref this), (1, .int v1)]) F rfl rfl rfl dX5_utmost_1 ?_
  refine j_iconst (pc := 2) F 0 dX5_utmost_2 (by decide) ?_
  refine j_istore_n (pc := 3) (k1 := 3) (ls' := [(3, .int 0), (2, .int 0), (0, .ref this), (1, .int v1)]) F rfl rfl rfl dX5_utmost_3 ?_
  refine j_sub [2, 3, 1, 0] rfl ?_
  exact jbX5_utmost_4 G F 1000 _ _ _ h
theorem ctX5_utmost (G : GT) {sh : SH} {I : IH} {L : LH} {n : Nat} {this : Nat} {v1 : Int32} {r : Int32}  (h : fX5_utmost sh I this v1 = some r) : Ct G yX5_utmost cX5_utmost 6 (some .int) 2 [.ref this, .int v1] sh I L n (some (.int r)) sh I L n 0 0 := by
  refine ct_of (y := yX5_utmost) (by decide +kernel) rfl (fun X F => ?_)
  exact jbX5_utmost_0 G F h
theorem dX5_rows_0 : decode cX5_rows 0 = .ok (.iload_n 1, 1) := by decide +kernel
theorem dX5_rows_1 : decode cX5_rows 1 = .ok (.tableswitch 51 0 3 #[31, 36, 41, 46], 31) := by decide +kernel
theorem dX5_rows_32 : decode cX5_rows 32 = .ok (.aload_n 0, 1) := by decide +kernel
theorem dX5_rows_33 : decode cX5_rows 33 = .ok (.getfield 23, 3) := by decide +kernel
theorem dX5_rows_36 : decode cX5_rows 36 = .ok (.areturn, 1) := by decide +kernel
theorem dX5_rows_37 : decode cX5_rows 37 = .ok (.aload_n 0, 1) := by decide +kernel
theorem dX5_rows_38 : decode cX5_rows 38 = .ok (.getfield 26, 3) := by decide +kernel
theorem dX5_rows_41 : decode cX5_rows 41 = .ok (.areturn, 1) := by decide +kernel
theorem dX5_rows_42 : decode cX5_rows 42 = .ok (.aload_n 0, 1) := by decide +kernel
theorem dX5_rows_43 : decode cX5_rows 43 = .ok (.getfield 29, 3) := by decide +kernel
theorem dX5_rows_46 : decode cX5_rows 46 = .ok (.areturn, 1) := by decide +kernel
theorem dX5_rows_47 : decode cX5_rows 47 = .ok (.aload_n 0, 1) := by decide +kernel
theorem dX5_rows_48 : decode cX5_rows 48 = .ok (.getfield 32, 3) := by decide +kernel
theorem dX5_rows_51 : decode cX5_rows 51 = .ok (.areturn, 1) := by decide +kernel
theorem dX5_rows_52 : decode cX5_rows 52 = .ok (.aload_n 0, 1) := by decide +kernel
theorem dX5_rows_53 : decode cX5_rows 53 = .ok (.getfield 35, 3) := by decide +kernel
theorem dX5_rows_56 : decode cX5_rows 56 = .ok (.areturn, 1) := by decide +kernel
def fX5_rows (sh : SH) (this : Nat) (v1 : Int32) : Option (Nat) :=
  if v1 = 0 then (
    (gR sh 5 this 4).bind fun x1 =>
    some x1) else
  if v1 = 1 then (
    (gR sh 5 this 5).bind fun x2 =>
    some x2) else
  if v1 = 2 then (
    (gR sh 5 this 6).bind fun x3 =>
    some x3) else
  if v1 = 3 then (
    (gR sh 5 this 7).bind fun x4 =>
    some x4) else
  (gR sh 5 this 8).bind fun x5 =>
  some x5
set_option maxHeartbeats 4000000 in
set_option maxRecDepth 20000 in
theorem jbX5_rows_0 (G : GT) {X : XT} {sh : SH} {I : IH} {L : LH} {n : Nat} {r : Nat}  {this : Nat}  {v1 : Int32} (F : MF G X RX5 cX5_rows 2 0 (some (.array (.array .int))) "rows") (h : fX5_rows sh this v1 = some r) : J G X (QE G X (some (.ref r)) sh I L n) 2 sh I L n 0 0 0 [(0, .ref this), (1, .int v1)] [] := by
  unfold fX5_rows at h
  refine j_iload_n (pc := 0) (k0 := 1) F 1 rfl dX5_rows_0 ?_
  by_cases c1 : v1 = 0
  · have h := iz_t c1 h
    refine j_tabIn (pc := 1) (k0 := 0) F 32 c1 dX5_rows_1 (by decide) rfl rfl ?_
    refine j_aload_n (pc := 32) (k0 := 0) F 0 rfl dX5_rows_32 ?_
    obtain ⟨x1, hx1, h⟩ := ob h
    refine j_getR (pc := 33) F flX5_23 hx1 dX5_rows_33 ?_
    have g1 := Option.some.inj h
    subst g1
    exact j_aretR (pc := 36) F rfl (Or.inr ⟨_, rfl⟩) dX5_rows_36
  have h := iz_f c1 h
  by_cases c2 : v1 = 1
  · have h := iz_t c2 h
    refine j_tabIn (pc := 1) (k0 := 1) F 37 c2 dX5_rows_1 (by decide) rfl rfl ?_
    refine j_aload_n (pc := 37) (k0 := 0) F 0 rfl dX5_rows_37 ?_
    obtain ⟨x2, hx2, h⟩ := ob h
    refine j_getR (pc := 38) F flX5_26 hx2 dX5_rows_38 ?_
    have g1 := Option.some.inj h
    subst g1
    exact j_aretR (pc := 41) F rfl (Or.inr ⟨_, rfl⟩) dX5_rows_41
  have h := iz_f c2 h
  by_cases c3 : v1 = 2
  · have h := iz_t c3 h
    refine j_tabIn (pc := 1) (k0 := 2) F 42 c3 dX5_rows_1 (by decide) rfl rfl ?_
    refine j_aload_n (pc := 42) (k0 := 0) F 0 rfl dX5_rows_42 ?_
    obtain ⟨x3, hx3, h⟩ := ob h
    refine j_getR (pc := 43) F flX5_29 hx3 dX5_rows_43 ?_
    have g1 := Option.some.inj h
    subst g1
    exact j_aretR (pc := 46) F rfl (Or.inr ⟨_, rfl⟩) dX5_rows_46
  have h := iz_f c3 h
  by_cases c4 : v1 = 3
  · have h := iz_t c4 h
    refine j_tabIn (pc := 1) (k0 := 3) F 47 c4 dX5_rows_1 (by decide) rfl rfl ?_
    refine j_aload_n (pc := 47) (k0 := 0) F 0 rfl dX5_rows_47 ?_
    obtain ⟨x4, hx4, h⟩ := ob h
    refine j_getR (pc := 48) F flX5_32 hx4 dX5_rows_48 ?_
    have g1 := Option.some.inj h
    subst g1
    exact j_aretR (pc := 51) F rfl (Or.inr ⟨_, rfl⟩) dX5_rows_51
  have h := iz_f c4 h
  have tc1 := lv_neT (a := 0) c1 (by decide)
  have tc2 := lv_neT (a := 1) c2 (by decide)
  have tc3 := lv_neT (a := 2) c3 (by decide)
  have tc4 := lv_neT (a := 3) c4 (by decide)
  refine j_tabOut (pc := 1) F 52 dX5_rows_1 (by omega) rfl ?_
  refine j_aload_n (pc := 52) (k0 := 0) F 0 rfl dX5_rows_52 ?_
  obtain ⟨x5, hx5, h⟩ := ob h
  refine j_getR (pc := 53) F flX5_35 hx5 dX5_rows_53 ?_
  have g1 := Option.some.inj h
  subst g1
  exact j_aretR (pc := 56) F rfl (Or.inr ⟨_, rfl⟩) dX5_rows_56
theorem ctX5_rows (G : GT) {sh : SH} {I : IH} {L : LH} {n : Nat} {this : Nat} {v1 : Int32} {r : Nat}  (h : fX5_rows sh this v1 = some r) : Ct G yX5_rows cX5_rows 2 (some (.array (.array .int))) 0 [.ref this, .int v1] sh I L n (some (.ref r)) sh I L n 0 0 := by
  refine ct_of (y := yX5_rows) (by decide +kernel) rfl (fun X F => ?_)
  exact jbX5_rows_0 G F h
theorem dX6_sum_0 : decode cX6_sum 0 = .ok (.iconst 0, 1) := by decide +kernel
theorem dX6_sum_1 : decode cX6_sum 1 = .ok (.istore_n 1, 1) := by decide +kernel
theorem dX6_sum_2 : decode cX6_sum 2 = .ok (.aload_n 0, 1) := by decide +kernel
theorem dX6_sum_3 : decode cX6_sum 3 = .ok (.astore_n 2, 1) := by decide +kernel
theorem dX6_sum_4 : decode cX6_sum 4 = .ok (.aload_n 2, 1) := by decide +kernel
theorem dX6_sum_5 : decode cX6_sum 5 = .ok (.arraylength, 1) := by decide +kernel
theorem dX6_sum_6 : decode cX6_sum 6 = .ok (.istore_n 3, 1) := by decide +kernel
theorem dX6_sum_7 : decode cX6_sum 7 = .ok (.iconst 0, 1) := by decide +kernel
theorem dX6_sum_8 : decode cX6_sum 8 = .ok (.istore 4, 2) := by decide +kernel
theorem dX6_sum_10 : decode cX6_sum 10 = .ok (.iload 4, 2) := by decide +kernel
theorem dX6_sum_12 : decode cX6_sum 12 = .ok (.iload_n 3, 1) := by decide +kernel
theorem dX6_sum_13 : decode cX6_sum 13 = .ok (.if_icmp .ge 20, 3) := by decide +kernel
theorem dX6_sum_16 : decode cX6_sum 16 = .ok (.aload_n 2, 1) := by decide +kernel
theorem dX6_sum_17 : decode cX6_sum 17 = .ok (.iload 4, 2) := by decide +kernel
theorem dX6_sum_19 : decode cX6_sum 19 = .ok (.iaload, 1) := by decide +kernel
theorem dX6_sum_20 : decode cX6_sum 20 = .ok (.istore 5, 2) := by decide +kernel
theorem dX6_sum_22 : decode cX6_sum 22 = .ok (.iload_n 1, 1) := by decide +kernel
theorem dX6_sum_23 : decode cX6_sum 23 = .ok (.iload 5, 2) := by decide +kernel
theorem dX6_sum_25 : decode cX6_sum 25 = .ok (.iadd, 1) := by decide +kernel
theorem dX6_sum_26 : decode cX6_sum 26 = .ok (.istore_n 1, 1) := by decide +kernel
theorem dX6_sum_27 : decode cX6_sum 27 = .ok (.iinc 4 1, 3) := by decide +kernel
theorem dX6_sum_30 : decode cX6_sum 30 = .ok (.goto (-20), 3) := by decide +kernel
theorem dX6_sum_33 : decode cX6_sum 33 = .ok (.iload_n 1, 1) := by decide +kernel
theorem dX6_sum_34 : decode cX6_sum 34 = .ok (.ireturn, 1) := by decide +kernel
def fX6_sum_b10 (sh : SH) (I : IH) : Nat → Int32 → Nat → Int32 → Int32 → Option (Int32)
  | 0, _, _, _, _ => none
  | fuel + 1, v1, v2, v3, v4 =>
    if v3 ≤ v4 then (
      some v1) else
    (aI sh I 0 v2 v4).bind fun x1 =>
    fX6_sum_b10 sh I fuel (v1 + x1) v2 v3 (v4 + 1)
def fX6_sum (sh : SH) (I : IH) (v0 : Nat) : Option (Int32) :=
  (aL sh v0).bind fun x1 =>
  fX6_sum_b10 sh I 1000 0 v0 x1 0
set_option maxHeartbeats 4000000 in
set_option maxRecDepth 20000 in
theorem jbX6_sum_10 (G : GT) {X : XT} {sh : SH} {I : IH} {L : LH} {n : Nat} {r : Int32}   (F : MF G X RX6 cX6_sum 6 0 (some .int) "sum") : ∀ (fuel : Nat) (v1 : Int32) (v2 : Nat) (v3 : Int32) (v4 : Int32), fX6_sum_b10 sh I fuel v1 v2 v3 v4 = some r → J G X (QE G X (some (.int r)) sh I L n) 6 sh I L n 0 0 10 [(1, .int v1), (2, .ref v2), (3, .int v3), (4, .int v4)] []
  | 0 => by
    intros
    rename_i h
    exact absurd (show none = some _ from h) (by intro z; cases z)
  | fuel + 1 => by
    intro v1 v2 v3 v4 h
    rw [fX6_sum_b10] at h
    refine j_iload (pc := 10) (k0 := 4) F 3 rfl dX6_sum_10 ?_
    refine j_iload_n (pc := 12) (k0 := 3) F 2 rfl dX6_sum_12 ?_
    refine j_icmp_ge (pc := 13) F 33 dX6_sum_13 rfl (fun c => ?_) (fun c => ?_)
    · have h := iz_t c h
      refine j_iload_n (pc := 33) (k0 := 1) F 0 rfl dX6_sum_33 ?_
      have g1 := Option.some.inj h
      subst g1
      exact j_iret (pc := 34) F dX6_sum_34
    · have h := iz_f c h
      refine j_aload_n (pc := 16) (k0 := 2) F 1 rfl dX6_sum_16 ?_
      refine j_iload (pc := 17) (k0 := 4) F 3 rfl dX6_sum_17 ?_
      obtain ⟨x1, hx1, h⟩ := ob h
      refine j_iald (pc := 19) F hx1 dX6_sum_19 ?_
      refine j_istore (pc := 20) (k1 := 5) (ls' := [(5, .int x1), (1, .int v1), (2, .ref v2), (3, .int v3), (4, .int v4)]) F rfl rfl dX6_sum_20 ?_
      refine j_iload_n (pc := 22) (k0 := 1) F 1 rfl dX6_sum_22 ?_
      refine j_iload (pc := 23) (k0 := 5) F 0 rfl dX6_sum_23 ?_
      refine j_iadd (pc := 25) F dX6_sum_25 ?_
      refine j_istore_n (pc := 26) (k1 := 1) (ls' := [(1, .int (v1 + x1)), (5, .int x1), (2, .ref v2), (3, .int v3), (4, .int v4)]) F rfl rfl rfl dX6_sum_26 ?_
      refine j_iinc (pc := 27) (k1 := 4) (ls' := [(4, .int (v4 + 1)), (1, .int (v1 + x1)), (5, .int x1), (2, .ref v2), (3, .int v3)]) F (v4 + 1) 4 rfl rfl rfl rfl dX6_sum_27 ?_
      refine j_goto (pc := 30) F 10 dX6_sum_30 rfl ?_
      refine j_sub [1, 3, 4, 0] rfl ?_
      exact jbX6_sum_10 G F fuel _ _ _ _ h
set_option maxHeartbeats 4000000 in
set_option maxRecDepth 20000 in
theorem jbX6_sum_0 (G : GT) {X : XT} {sh : SH} {I : IH} {L : LH} {n : Nat} {r : Int32}   {v0 : Nat} (F : MF G X RX6 cX6_sum 6 0 (some .int) "sum") (h : fX6_sum sh I v0 = some r) : J G X (QE G X (some (.int r)) sh I L n) 6 sh I L n 0 0 0 [(0, .ref v0)] [] := by
  unfold fX6_sum at h
  refine j_iconst (pc := 0) F 0 dX6_sum_0 (by decide) ?_
  refine j_istore_n (pc := 1) (k1 := 1) (ls' := [(1, .int 0), (0, .ref v0)]) F rfl rfl rfl dX6_sum_1 ?_
  refine j_aload_n (pc := 2) (k0 := 0) F 1 rfl dX6_sum_2 ?_
  refine j_astore_n (pc := 3) (k1 := 2) (ls' := [(2, .ref v0), (1, .int 0), (0, .ref v0)]) F rfl rfl rfl dX6_sum_3 ?_
  refine j_aload_n (pc := 4) (k0 := 2) F 0 rfl dX6_sum_4 ?_
  obtain ⟨x1, hx1, h⟩ := ob h
  refine j_alen (pc := 5) F hx1 dX6_sum_5 ?_
  refine j_istore_n (pc := 6) (k1 := 3) (ls' := [(3, .int x1), (2, .ref v0), (1, .int 0), (0, .ref v0)]) F rfl rfl rfl dX6_sum_6 ?_
  refine j_iconst (pc := 7) F 0 dX6_sum_7 (by decide) ?_
  refine j_istore (pc := 8) (k1 := 4) (ls' := [(4, .int 0), (3, .int x1), (2, .ref v0), (1, .int 0), (0, .ref v0)]) F rfl rfl dX6_sum_8 ?_
  refine j_sub [3, 2, 1, 0] rfl ?_
  exact jbX6_sum_10 G F 1000 _ _ _ _ h
theorem ctX6_sum (G : GT) {sh : SH} {I : IH} {L : LH} {n : Nat} {v0 : Nat} {r : Int32}  (h : fX6_sum sh I v0 = some r) : Ct G yX6_sum cX6_sum 6 (some .int) 0 [.ref v0] sh I L n (some (.int r)) sh I L n 0 0 := by
  refine ct_of (y := yX6_sum) (by decide +kernel) rfl (fun X F => ?_)
  exact jbX6_sum_0 G F h
theorem dX5_inPlace_0 : decode cX5_inPlace 0 = .ok (.aload_n 0, 1) := by decide +kernel
theorem dX5_inPlace_1 : decode cX5_inPlace 1 = .ok (.getfield 41, 3) := by decide +kernel
theorem dX5_inPlace_4 : decode cX5_inPlace 4 = .ok (.iload_n 2, 1) := by decide +kernel
theorem dX5_inPlace_5 : decode cX5_inPlace 5 = .ok (.invokevirtual 77, 3) := by decide +kernel
theorem dX5_inPlace_8 : decode cX5_inPlace 8 = .ok (.ifCond .eq 12, 3) := by decide +kernel
theorem dX5_inPlace_11 : decode cX5_inPlace 11 = .ok (.aload_n 1, 1) := by decide +kernel
theorem dX5_inPlace_12 : decode cX5_inPlace 12 = .ok (.iload_n 2, 1) := by decide +kernel
theorem dX5_inPlace_13 : decode cX5_inPlace 13 = .ok (.aaload, 1) := by decide +kernel
theorem dX5_inPlace_14 : decode cX5_inPlace 14 = .ok (.invokestatic 138, 3) := by decide +kernel
theorem dX5_inPlace_17 : decode cX5_inPlace 17 = .ok (.goto 4, 3) := by decide +kernel
theorem dX5_inPlace_20 : decode cX5_inPlace 20 = .ok (.iconst 0, 1) := by decide +kernel
theorem dX5_inPlace_21 : decode cX5_inPlace 21 = .ok (.ireturn, 1) := by decide +kernel
def fX5_inPlace (sh : SH) (I : IH) (this : Nat) (v1 : Nat) (v2 : Int32) : Option (Int32) :=
  (gR sh 5 this 0).bind fun x1 =>
  (ck sh 2 x1).bind fun u2 =>
  (fX2_isPlace sh I x1 v2).bind fun x3 =>
  if x3 = 0 then (
    some 0) else
  (aR sh 4 v1 v2).bind fun x4 =>
  (fX6_sum sh I x4).bind fun x5 =>
  some x5
set_option maxHeartbeats 4000000 in
set_option maxRecDepth 20000 in
theorem jbX5_inPlace_0 (G : GT) {X : XT} {sh : SH} {I : IH} {L : LH} {n : Nat} {r : Int32}  {this : Nat}  {v1 : Nat} {v2 : Int32} (F : MF G X RX5 cX5_inPlace 3 2 (some .int) "inPlace") (h : fX5_inPlace sh I this v1 v2 = some r) : J G X (QE G X (some (.int r)) sh I L n) 3 sh I L n 0 0 0 [(0, .ref this), (1, .ref v1), (2, .int v2)] [] := by
  unfold fX5_inPlace at h
  refine j_aload_n (pc := 0) (k0 := 0) F 0 rfl dX5_inPlace_0 ?_
  obtain ⟨x1, hx1, h⟩ := ob h
  refine j_getR (pc := 1) F flX5_41 hx1 dX5_inPlace_1 ?_
  refine j_iload_n (pc := 4) (k0 := 2) F 2 rfl dX5_inPlace_4 ?_
  obtain ⟨u2, hu2, h⟩ := ob h
  have hou2 := ck_obt hu2
  obtain ⟨x3, hx3, h⟩ := ob h
  refine j_callV1 (pc := 5) (ci := 2) (As := [.int v2]) (st := []) (e1 := 0) (es1 := 0) F clX5_77 cwX2_isPlace rfl hou2 (ctX2_isPlace G hx3) rfl rfl rfl rfl rfl rfl dX5_inPlace_5 ?_
  refine j_if_eq (pc := 8) F 20 dX5_inPlace_8 rfl (fun c => ?_) (fun c => ?_)
  · have h := iz_t c h
    refine j_iconst (pc := 20) F 0 dX5_inPlace_20 (by decide) ?_
    have g1 := Option.some.inj h
    subst g1
    exact j_iret (pc := 21) F dX5_inPlace_21
  · have h := iz_f c h
    refine j_aload_n (pc := 11) (k0 := 1) F 1 rfl dX5_inPlace_11 ?_
    refine j_iload_n (pc := 12) (k0 := 2) F 2 rfl dX5_inPlace_12 ?_
    obtain ⟨x4, hx4, h⟩ := ob h
    refine j_aald (pc := 13) F (Or.inr rfl) hx4 dX5_inPlace_13 ?_
    obtain ⟨x5, hx5, h⟩ := ob h
    refine j_callSN1 (pc := 14) (As := [.ref x4]) (st := []) (e1 := 0) (es1 := 0) F clX5_138 cwX6_sum (ctX6_sum G hx5) rfl rfl rfl rfl rfl rfl dX5_inPlace_14 ?_
    refine j_goto (pc := 17) F 21 dX5_inPlace_17 rfl ?_
    have g1 := Option.some.inj h
    subst g1
    exact j_iret (pc := 21) F dX5_inPlace_21
theorem ctX5_inPlace (G : GT) {sh : SH} {I : IH} {L : LH} {n : Nat} {this : Nat} {v1 : Nat} {v2 : Int32} {r : Int32}  (h : fX5_inPlace sh I this v1 v2 = some r) : Ct G yX5_inPlace cX5_inPlace 3 (some .int) 2 [.ref this, .ref v1, .int v2] sh I L n (some (.int r)) sh I L n 0 0 := by
  refine ct_of (y := yX5_inPlace) (by decide +kernel) rfl (fun X F => ?_)
  exact jbX5_inPlace_0 G F h
theorem dX5_inAllPlaces_0 : decode cX5_inAllPlaces 0 = .ok (.iconst 0, 1) := by decide +kernel
theorem dX5_inAllPlaces_1 : decode cX5_inAllPlaces 1 = .ok (.istore_n 2, 1) := by decide +kernel
theorem dX5_inAllPlaces_2 : decode cX5_inAllPlaces 2 = .ok (.iconst 0, 1) := by decide +kernel
theorem dX5_inAllPlaces_3 : decode cX5_inAllPlaces 3 = .ok (.istore_n 3, 1) := by decide +kernel
theorem dX5_inAllPlaces_4 : decode cX5_inAllPlaces 4 = .ok (.iload_n 3, 1) := by decide +kernel
theorem dX5_inAllPlaces_5 : decode cX5_inAllPlaces 5 = .ok (.iconst 5, 1) := by decide +kernel
theorem dX5_inAllPlaces_6 : decode cX5_inAllPlaces 6 = .ok (.if_icmp .ge 18, 3) := by decide +kernel
theorem dX5_inAllPlaces_9 : decode cX5_inAllPlaces 9 = .ok (.iload_n 2, 1) := by decide +kernel
theorem dX5_inAllPlaces_10 : decode cX5_inAllPlaces 10 = .ok (.aload_n 0, 1) := by decide +kernel
theorem dX5_inAllPlaces_11 : decode cX5_inAllPlaces 11 = .ok (.aload_n 1, 1) := by decide +kernel
theorem dX5_inAllPlaces_12 : decode cX5_inAllPlaces 12 = .ok (.iload_n 3, 1) := by decide +kernel
theorem dX5_inAllPlaces_13 : decode cX5_inAllPlaces 13 = .ok (.invokevirtual 134, 3) := by decide +kernel
theorem dX5_inAllPlaces_16 : decode cX5_inAllPlaces 16 = .ok (.iadd, 1) := by decide +kernel
theorem dX5_inAllPlaces_17 : decode cX5_inAllPlaces 17 = .ok (.istore_n 2, 1) := by decide +kernel
theorem dX5_inAllPlaces_18 : decode cX5_inAllPlaces 18 = .ok (.iinc 3 1, 3) := by decide +kernel
theorem dX5_inAllPlaces_21 : decode cX5_inAllPlaces 21 = .ok (.goto (-17), 3) := by decide +kernel
theorem dX5_inAllPlaces_24 : decode cX5_inAllPlaces 24 = .ok (.iload_n 2, 1) := by decide +kernel
theorem dX5_inAllPlaces_25 : decode cX5_inAllPlaces 25 = .ok (.ireturn, 1) := by decide +kernel
def fX5_inAllPlaces_b4 (sh : SH) (I : IH) (this : Nat) : Nat → Nat → Int32 → Int32 → Option (Int32)
  | 0, _, _, _ => none
  | fuel + 1, v1, v2, v3 =>
    if 5 ≤ v3 then (
      some v2) else
    (fX5_inPlace sh I this v1 v3).bind fun x1 =>
    fX5_inAllPlaces_b4 sh I this fuel v1 (v2 + x1) (v3 + 1)
def fX5_inAllPlaces (sh : SH) (I : IH) (this : Nat) (v1 : Nat) : Option (Int32) :=
  fX5_inAllPlaces_b4 sh I this 1000 v1 0 0
set_option maxHeartbeats 4000000 in
set_option maxRecDepth 20000 in
theorem jbX5_inAllPlaces_4 (G : GT) {X : XT} {sh : SH} {I : IH} {L : LH} {n : Nat} {r : Int32}  {this : Nat}  (F : MF G X RX5 cX5_inAllPlaces 4 3 (some .int) "inAllPlaces") (hth : isO sh 5 this) : ∀ (fuel : Nat) (v1 : Nat) (v2 : Int32) (v3 : Int32), fX5_inAllPlaces_b4 sh I this fuel v1 v2 v3 = some r → J G X (QE G X (some (.int r)) sh I L n) 4 sh I L n 0 0 4 [(0, .ref this), (1, .ref v1), (2, .int v2), (3, .int v3)] []
  | 0 => by
    intros
    rename_i h
    exact absurd (show none = some _ from h) (by intro z; cases z)
  | fuel + 1 => by
    intro v1 v2 v3 h
    rw [fX5_inAllPlaces_b4] at h
    refine j_iload_n (pc := 4) (k0 := 3) F 3 rfl dX5_inAllPlaces_4 ?_
    refine j_iconst (pc := 5) F 5 dX5_inAllPlaces_5 (by decide) ?_
    refine j_icmp_ge (pc := 6) F 24 dX5_inAllPlaces_6 rfl (fun c => ?_) (fun c => ?_)
    · have h := iz_t c h
      refine j_iload_n (pc := 24) (k0 := 2) F 2 rfl dX5_inAllPlaces_24 ?_
      have g1 := Option.some.inj h
      subst g1
      exact j_iret (pc := 25) F dX5_inAllPlaces_25
    · have h := iz_f c h
      refine j_iload_n (pc := 9) (k0 := 2) F 2 rfl dX5_inAllPlaces_9 ?_
      refine j_aload_n (pc := 10) (k0 := 0) F 0 rfl dX5_inAllPlaces_10 ?_
      refine j_aload_n (pc := 11) (k0 := 1) F 1 rfl dX5_inAllPlaces_11 ?_
      refine j_iload_n (pc := 12) (k0 := 3) F 3 rfl dX5_inAllPlaces_12 ?_
      obtain ⟨x1, hx1, h⟩ := ob h
      refine j_callV1 (pc := 13) (ci := 5) (As := [.ref v1, .int v3]) (st := [.int v2]) (e1 := 0) (es1 := 0) F clX5_134 cwX5_inPlace rfl hth (ctX5_inPlace G hx1) rfl rfl rfl rfl rfl rfl dX5_inAllPlaces_13 ?_
      refine j_iadd (pc := 16) F dX5_inAllPlaces_16 ?_
      refine j_istore_n (pc := 17) (k1 := 2) (ls' := [(2, .int (v2 + x1)), (0, .ref this), (1, .ref v1), (3, .int v3)]) F rfl rfl rfl dX5_inAllPlaces_17 ?_
      refine j_iinc (pc := 18) (k1 := 3) (ls' := [(3, .int (v3 + 1)), (2, .int (v2 + x1)), (0, .ref this), (1, .ref v1)]) F (v3 + 1) 3 rfl rfl rfl rfl dX5_inAllPlaces_18 ?_
      refine j_goto (pc := 21) F 4 dX5_inAllPlaces_21 rfl ?_
      refine j_sub [2, 3, 1, 0] rfl ?_
      exact jbX5_inAllPlaces_4 G F hth fuel _ _ _ h
set_option maxHeartbeats 4000000 in
set_option maxRecDepth 20000 in
theorem jbX5_inAllPlaces_0 (G : GT) {X : XT} {sh : SH} {I : IH} {L : LH} {n : Nat} {r : Int32}  {this : Nat}  {v1 : Nat} (F : MF G X RX5 cX5_inAllPlaces 4 3 (some .int) "inAllPlaces") (hth : isO sh 5 this) (h : fX5_inAllPlaces sh I this v1 = some r) : J G X (QE G X (some (.int r)) sh I L n) 4 sh I L n 0 0 0 [(0, .ref this), (1, .ref v1)] [] := by
  unfold fX5_inAllPlaces at h
  refine j_iconst (pc := 0) F 0 dX5_inAllPlaces_0 (by decide) ?_
  refine j_istore_n (pc := 1) (k1 := 2) (ls' := [(2, .int 0), (0, .ref this), (1, .ref v1)]) F rfl rfl rfl dX5_inAllPlaces_1 ?_
  refine j_iconst (pc := 2) F 0 dX5_inAllPlaces_2 (by decide) ?_
  refine j_istore_n (pc := 3) (k1 := 3) (ls' := [(3, .int 0), (2, .int 0), (0, .ref this), (1, .ref v1)]) F rfl rfl rfl dX5_inAllPlaces_3 ?_
  refine j_sub [2, 3, 1, 0] rfl ?_
  exact jbX5_inAllPlaces_4 G F hth 1000 _ _ _ h
theorem ctX5_inAllPlaces (G : GT) {sh : SH} {I : IH} {L : LH} {n : Nat} {this : Nat} {v1 : Nat} {r : Int32}  (hth : isO sh 5 this) (h : fX5_inAllPlaces sh I this v1 = some r) : Ct G yX5_inAllPlaces cX5_inAllPlaces 4 (some .int) 3 [.ref this, .ref v1] sh I L n (some (.int r)) sh I L n 0 0 := by
  refine ct_of (y := yX5_inAllPlaces) (by decide +kernel) rfl (fun X F => ?_)
  exact jbX5_inAllPlaces_0 G F hth h
theorem dX6_init_0 : decode cX6_init 0 = .ok (.aload_n 0, 1) := by decide +kernel
theorem dX6_init_1 : decode cX6_init 1 = .ok (.invokespecial 5, 3) := by decide +kernel
theorem dX6_init_4 : decode cX6_init 4 = .ok (.aload_n 0, 1) := by decide +kernel
theorem dX6_init_5 : decode cX6_init 5 = .ok (.new 11, 3) := by decide +kernel
theorem dX6_init_8 : decode cX6_init 8 = .ok (.dup, 1) := by decide +kernel
theorem dX6_init_9 : decode cX6_init 9 = .ok (.new 13, 3) := by decide +kernel
theorem dX6_init_12 : decode cX6_init 12 = .ok (.dup, 1) := by decide +kernel
theorem dX6_init_13 : decode cX6_init 13 = .ok (.invokespecial 15, 3) := by decide +kernel
theorem dX6_init_16 : decode cX6_init 16 = .ok (.invokespecial 16, 3) := by decide +kernel
theorem dX6_init_19 : decode cX6_init 19 = .ok (.putfield 19, 3) := by decide +kernel
theorem dX6_init_22 : decode cX6_init 22 = .ok (.aload_n 0, 1) := by decide +kernel
theorem dX6_init_23 : decode cX6_init 23 = .ok (.new 11, 3) := by decide +kernel
theorem dX6_init_26 : decode cX6_init 26 = .ok (.dup, 1) := by decide +kernel
theorem dX6_init_27 : decode cX6_init 27 = .ok (.aload_n 0, 1) := by decide +kernel
theorem dX6_init_28 : decode cX6_init 28 = .ok (.getfield 19, 3) := by decide +kernel
theorem dX6_init_31 : decode cX6_init 31 = .ok (.getfield 23, 3) := by decide +kernel
theorem dX6_init_34 : decode cX6_init 34 = .ok (.invokespecial 16, 3) := by decide +kernel
theorem dX6_init_37 : decode cX6_init 37 = .ok (.putfield 27, 3) := by decide +kernel
theorem dX6_init_40 : decode cX6_init 40 = .ok (.aload_n 0, 1) := by decide +kernel
theorem dX6_init_41 : decode cX6_init 41 = .ok (.new 30, 3) := by decide +kernel
theorem dX6_init_44 : decode cX6_init 44 = .ok (.dup, 1) := by decide +kernel
theorem dX6_init_45 : decode cX6_init 45 = .ok (.aload_n 0, 1) := by decide +kernel
theorem dX6_init_46 : decode cX6_init 46 = .ok (.getfield 19, 3) := by decide +kernel
theorem dX6_init_49 : decode cX6_init 49 = .ok (.invokespecial 32, 3) := by decide +kernel
theorem dX6_init_52 : decode cX6_init 52 = .ok (.putfield 35, 3) := by decide +kernel
theorem dX6_init_55 : decode cX6_init 55 = .ok (.aload_n 0, 1) := by decide +kernel
theorem dX6_init_56 : decode cX6_init 56 = .ok (.new 39, 3) := by decide +kernel
theorem dX6_init_59 : decode cX6_init 59 = .ok (.dup, 1) := by decide +kernel
theorem dX6_init_60 : decode cX6_init 60 = .ok (.invokespecial 41, 3) := by decide +kernel
theorem dX6_init_63 : decode cX6_init 63 = .ok (.putfield 42, 3) := by decide +kernel
theorem dX6_init_66 : decode cX6_init 66 = .ok (.aload_n 0, 1) := by decide +kernel
theorem dX6_init_67 : decode cX6_init 67 = .ok (.bipush 100, 2) := by decide +kernel
theorem dX6_init_69 : decode cX6_init 69 = .ok (.newarray .int, 2) := by decide +kernel
theorem dX6_init_71 : decode cX6_init 71 = .ok (.putfield 46, 3) := by decide +kernel
theorem dX6_init_74 : decode cX6_init 74 = .ok (.aload_n 0, 1) := by decide +kernel
theorem dX6_init_75 : decode cX6_init 75 = .ok (.bipush 6, 2) := by decide +kernel
theorem dX6_init_77 : decode cX6_init 77 = .ok (.anewarray 50, 3) := by decide +kernel
theorem dX6_init_80 : decode cX6_init 80 = .ok (.putfield 52, 3) := by decide +kernel
theorem dX6_init_83 : decode cX6_init 83 = .ok (.iconst 0, 1) := by decide +kernel
theorem dX6_init_84 : decode cX6_init 84 = .ok (.istore_n 1, 1) := by decide +kernel
theorem dX6_init_85 : decode cX6_init 85 = .ok (.iload_n 1, 1) := by decide +kernel
theorem dX6_init_86 : decode cX6_init 86 = .ok (.aload_n 0, 1) := by decide +kernel
theorem dX6_init_87 : decode cX6_init 87 = .ok (.getfield 52, 3) := by decide +kernel
theorem dX6_init_90 : decode cX6_init 90 = .ok (.arraylength, 1) := by decide +kernel
theorem dX6_init_91 : decode cX6_init 91 = .ok (.if_icmp .ge 22, 3) := by decide +kernel
theorem dX6_init_94 : decode cX6_init 94 = .ok (.aload_n 0, 1) := by decide +kernel
theorem dX6_init_95 : decode cX6_init 95 = .ok (.getfield 52, 3) := by decide +kernel
theorem dX6_init_98 : decode cX6_init 98 = .ok (.iload_n 1, 1) := by decide +kernel
theorem dX6_init_99 : decode cX6_init 99 = .ok (.new 50, 3) := by decide +kernel
theorem dX6_init_102 : decode cX6_init 102 = .ok (.dup, 1) := by decide +kernel
theorem dX6_init_103 : decode cX6_init 103 = .ok (.invokespecial 56, 3) := by decide +kernel
theorem dX6_init_106 : decode cX6_init 106 = .ok (.aastore, 1) := by decide +kernel
theorem dX6_init_107 : decode cX6_init 107 = .ok (.iinc 1 1, 3) := by decide +kernel
theorem dX6_init_110 : decode cX6_init 110 = .ok (.goto (-25), 3) := by decide +kernel
theorem dX6_init_113 : decode cX6_init 113 = .ok (.return_, 1) := by decide +kernel
def fX6_init_b85 (this : Nat) : Nat → Int32 → SH → IH → LH → Nat → Option ((Nat × Nat) × (SH × IH × LH × Nat))
  | 0, _, _, _, _, _ => none
  | fuel + 1, v1, sh, I, L, n =>
    (gR sh 6 this 8).bind fun x1 =>
    (aL sh x1).bind fun x2 =>
    if x2 ≤ v1 then (
      some ((0, 0), (sh, I, L, n))) else
    (gR sh 6 this 8).bind fun x3 =>
    b2 (some (nO sh n 3, nOI I n)) fun h4 i5 =>
    addE 1 3 (
    bE4 (fX3_init n (nO sh n 3) (nOI I n) L (n + 1)) fun h8 i9 l10 n11 =>
    (sR h8 x3 v1 n).bind fun h16 =>
    fX6_init_b85 this fuel (v1 + 1) h16 i9 l10 n11)
def fX6_init (this : Nat) (sh : SH) (I : IH) (L : LH) (n : Nat) : Option ((Nat × Nat) × (SH × IH × LH × Nat)) :=
  b2 (some (nO sh n 2, nOI I n)) fun h1 i2 =>
  addE 1 9 (
  b2 (some (nO (nO sh n 2) (n + 1) 4, nOI (nOI I n) (n + 1))) fun h5 i6 =>
  addE 1 2 (
  bE3 (fX4_init (n + 1) (nO (nO sh n 2) (n + 1) 4) (nOI (nOI I n) (n + 1)) ((n + 1) + 1)) fun h9 i10 n11 =>
  bE3 (fX2_init n (n + 1) h9 i10 n11) fun h16 i17 n18 =>
  (pR h16 6 this 0 n).bind fun h23 =>
  b2 (some (nO h23 n18 2, nOI i17 n18)) fun h24 i25 =>
  addE 1 9 (
  (gR (nO h23 n18 2) 6 this 0).bind fun x28 =>
  (gR (nO h23 n18 2) 2 x28 8).bind fun x29 =>
  bE3 (fX2_init n18 x29 (nO h23 n18 2) (nOI i17 n18) (n18 + 1)) fun h30 i31 n32 =>
  (pR h30 6 this 1 n18).bind fun h37 =>
  b2 (some (nO h37 n32 5, nOI i31 n32)) fun h38 i39 =>
  addE 1 10 (
  (gR (nO h37 n32 5) 6 this 0).bind fun x42 =>
  bE3 (fX5_init n32 x42 (nO h37 n32 5) (nOI i31 n32) (n32 + 1)) fun h43 i44 n45 =>
  (pR h43 6 this 3 n32).bind fun h50 =>
  b2 (some (nO h50 n45 0, nOI i44 n45)) fun h51 i52 =>
  addE 1 5 (
  bE3 (fX0_init n45 (nO h50 n45 0) (nOI i44 n45) (n45 + 1)) fun h55 i56 n57 =>
  (pR h55 6 this 4 n45).bind fun h62 =>
  b2 (nAI h62 i56 n57 0 100) fun h63 i64 =>
  addE 1 (100 : Int32).toNatClampNeg (
  (pR h63 6 this 5 n57).bind fun h67 =>
  (nAR h67 (n57 + 1) 6).bind fun h68 =>
  addE 1 (6 : Int32).toNatClampNeg (
  (pR h68 6 this 8 (n57 + 1)).bind fun h71 =>
  fX6_init_b85 this 1000 0 h71 i64 L ((n57 + 1) + 1))))))))
set_option maxHeartbeats 4000000 in
set_option maxRecDepth 20000 in
theorem jbX6_init_85 (G : GT) {X : XT}  {sh' : SH} {I' : IH} {L' : LH} {n' : Nat}  {this : Nat}  (F : MF G X RX6 cX6_init 2 2 none "<init>") : ∀ (fuel : Nat) (v1 : Int32) (sh : SH) (I : IH) (L : LH) (n : Nat) (e es : Nat), fX6_init_b85 this fuel v1 sh I L n = some ((e, es), (sh', I', L', n')) → J G X (QE G X (none) sh' I' L' n') 2 sh I L n e es 85 [(0, .ref this), (1, .int v1)] []
  | 0 => by
    intros
    rename_i h
    exact absurd (show none = some _ from h) (by intro z; cases z)
  | fuel + 1 => by
    intro v1 sh I L n e es h
    rw [fX6_init_b85] at h
    refine j_iload_n (pc := 85) (k0 := 1) F 1 rfl dX6_init_85 ?_
    refine j_aload_n (pc := 86) (k0 := 0) F 0 rfl dX6_init_86 ?_
    obtain ⟨x1, hx1, h⟩ := ob h
    refine j_getR (pc := 87) F flX6_52 hx1 dX6_init_87 ?_
    obtain ⟨x2, hx2, h⟩ := ob h
    refine j_alen (pc := 90) F hx2 dX6_init_90 ?_
    refine j_icmp_ge (pc := 91) F 113 dX6_init_91 rfl (fun c => ?_) (fun c => ?_)
    · have h := iz_t c h
      have g0 := Option.some.inj h
      obtain ⟨hq, g1⟩ := Prod.mk.inj g0
      obtain ⟨q1, q2⟩ := Prod.mk.inj hq
      obtain ⟨q3, g2⟩ := Prod.mk.inj g1
      obtain ⟨q4, g3⟩ := Prod.mk.inj g2
      obtain ⟨q5, g4⟩ := Prod.mk.inj g3
      subst q1
      subst q2
      subst q3
      subst q4
      subst q5
      subst g4
      exact j_vret (pc := 113) F dX6_init_113
    · have h := iz_f c h
      refine j_aload_n (pc := 94) (k0 := 0) F 0 rfl dX6_init_94 ?_
      obtain ⟨x3, hx3, h⟩ := ob h
      refine j_getR (pc := 95) F flX6_52 hx3 dX6_init_95 ?_
      refine j_iload_n (pc := 98) (k0 := 1) F 1 rfl dX6_init_98 ?_
      obtain ⟨h4, i5, hh4, h⟩ := b2_obt h
      cases hh4
      obtain ⟨e6, es7, h, he, hes⟩ := addE_obt h
      refine j_new (pc := 99) F cnX6_50 he hes dX6_init_99 ?_
      refine j_dup (pc := 102) F dX6_init_102 rfl ?_
      obtain ⟨d12, ds13, h8, i9, l10, n11, e14, es15, hh8, h, he, hes⟩ := bE4_obt h
      refine j_callIN (pc := 103) (As := []) (st := [.ref n, .int v1, .ref x3]) (e1 := e14) (es1 := es15) F clX6_56 cwX3_init (ctX3_init G hh8) rfl rfl rfl rfl he hes dX6_init_103 ?_
      obtain ⟨h16, hh16, h⟩ := ob h
      refine j_aast (pc := 106) F hh16 dX6_init_106 ?_
      refine j_iinc (pc := 107) (k1 := 1) (ls' := [(1, .int (v1 + 1)), (0, .ref this)]) F (v1 + 1) 1 rfl rfl rfl rfl dX6_init_107 ?_
      refine j_goto (pc := 110) F 85 dX6_init_110 rfl ?_
      refine j_sub [1, 0] rfl ?_
      exact jbX6_init_85 G F fuel _ _ _ _ _ _ _ h
set_option maxHeartbeats 4000000 in
set_option maxRecDepth 20000 in
theorem jbX6_init_0 (G : GT) {X : XT}  {sh' : SH} {I' : IH} {L' : LH} {n' : Nat}  {this : Nat}  {sh : SH} {I : IH} {L : LH} {n : Nat} {e es : Nat} (F : MF G X RX6 cX6_init 2 2 none "<init>") (h : fX6_init this sh I L n = some ((e, es), (sh', I', L', n'))) : J G X (QE G X (none) sh' I' L' n') 2 sh I L n e es 0 [(0, .ref this)] [] := by
  unfold fX6_init at h
  refine j_aload_n (pc := 0) (k0 := 0) F 0 rfl dX6_init_0 ?_
  refine j_objInit (pc := 1) F (good_of 92 (by decide +kernel) (by decide +kernel)) rfl rfl dX6_init_1 ?_
  refine j_aload_n (pc := 4) (k0 := 0) F 0 rfl dX6_init_4 ?_
  obtain ⟨h1, i2, hh1, h⟩ := b2_obt h
  cases hh1
  obtain ⟨e3, es4, h, he, hes⟩ := addE_obt h
  refine j_new (pc := 5) F cnX6_11 he hes dX6_init_5 ?_
  refine j_dup (pc := 8) F dX6_init_8 rfl ?_
  obtain ⟨h5, i6, hh5, h⟩ := b2_obt h
  cases hh5
  obtain ⟨e7, es8, h, he, hes⟩ := addE_obt h
  refine j_new (pc := 9) F cnX6_13 he hes dX6_init_9 ?_
  refine j_dup (pc := 12) F dX6_init_12 rfl ?_
  obtain ⟨d12, ds13, h9, i10, n11, e14, es15, hh9, h, he, hes⟩ := bE3_obt h
  refine j_callI (pc := 13) (As := []) (st := [.ref (n + 1), .ref n, .ref n, .ref this]) (e1 := e14) (es1 := es15) F clX6_15 cwX4_init (ctX4_init G hh9) rfl rfl rfl rfl he hes dX6_init_13 ?_
  obtain ⟨d19, ds20, h16, i17, n18, e21, es22, hh16, h, he, hes⟩ := bE3_obt h
  refine j_callI (pc := 16) (As := [.ref (n + 1)]) (st := [.ref n, .ref this]) (e1 := e21) (es1 := es22) F clX6_16 cwX2_init (ctX2_init G hh16) rfl rfl rfl rfl he hes dX6_init_16 ?_
  obtain ⟨h23, hh23, h⟩ := ob h
  refine j_putR (pc := 19) (ty := (.object "MeltHours$State")) F ⟨rfl, rfl⟩ flX6_19 fp6_0 (fun _ => ⟨rfl, rfl⟩) hh23 dX6_init_19 ?_
  refine j_aload_n (pc := 22) (k0 := 0) F 0 rfl dX6_init_22 ?_
  obtain ⟨h24, i25, hh24, h⟩ := b2_obt h
  cases hh24
  obtain ⟨e26, es27, h, he, hes⟩ := addE_obt h
  refine j_new (pc := 23) F cnX6_11 he hes dX6_init_23 ?_
  refine j_dup (pc := 26) F dX6_init_26 rfl ?_
  refine j_aload_n (pc := 27) (k0 := 0) F 0 rfl dX6_init_27 ?_
  obtain ⟨x28, hx28, h⟩ := ob h
  refine j_getR (pc := 28) F flX6_19 hx28 dX6_init_28 ?_
  obtain ⟨x29, hx29, h⟩ := ob h
  refine j_getR (pc := 31) F flX6_23 hx29 dX6_init_31 ?_
  obtain ⟨d33, ds34, h30, i31, n32, e35, es36, hh30, h, he, hes⟩ := bE3_obt h
  refine j_callI (pc := 34) (As := [.ref x29]) (st := [.ref n18, .ref this]) (e1 := e35) (es1 := es36) F clX6_16 cwX2_init (ctX2_init G hh30) rfl rfl rfl rfl he hes dX6_init_34 ?_
  obtain ⟨h37, hh37, h⟩ := ob h
  refine j_putR (pc := 37) (ty := (.object "MeltHours$State")) F ⟨rfl, rfl⟩ flX6_27 fp6_1 (fun _ => ⟨rfl, rfl⟩) hh37 dX6_init_37 ?_
  refine j_aload_n (pc := 40) (k0 := 0) F 0 rfl dX6_init_40 ?_
  obtain ⟨h38, i39, hh38, h⟩ := b2_obt h
  cases hh38
  obtain ⟨e40, es41, h, he, hes⟩ := addE_obt h
  refine j_new (pc := 41) F cnX6_30 he hes dX6_init_41 ?_
  refine j_dup (pc := 44) F dX6_init_44 rfl ?_
  refine j_aload_n (pc := 45) (k0 := 0) F 0 rfl dX6_init_45 ?_
  obtain ⟨x42, hx42, h⟩ := ob h
  refine j_getR (pc := 46) F flX6_19 hx42 dX6_init_46 ?_
  obtain ⟨d46, ds47, h43, i44, n45, e48, es49, hh43, h, he, hes⟩ := bE3_obt h
  refine j_callI (pc := 49) (As := [.ref x42]) (st := [.ref n32, .ref this]) (e1 := e48) (es1 := es49) F clX6_32 cwX5_init (ctX5_init G hh43) rfl rfl rfl rfl he hes dX6_init_49 ?_
  obtain ⟨h50, hh50, h⟩ := ob h
  refine j_putR (pc := 52) (ty := (.object "MeltHours$Water")) F ⟨rfl, rfl⟩ flX6_35 fp6_3 (fun _ => ⟨rfl, rfl⟩) hh50 dX6_init_52 ?_
  refine j_aload_n (pc := 55) (k0 := 0) F 0 rfl dX6_init_55 ?_
  obtain ⟨h51, i52, hh51, h⟩ := b2_obt h
  cases hh51
  obtain ⟨e53, es54, h, he, hes⟩ := addE_obt h
  refine j_new (pc := 56) F cnX6_39 he hes dX6_init_56 ?_
  refine j_dup (pc := 59) F dX6_init_59 rfl ?_
  obtain ⟨d58, ds59, h55, i56, n57, e60, es61, hh55, h, he, hes⟩ := bE3_obt h
  refine j_callIN (pc := 60) (As := []) (st := [.ref n45, .ref this]) (e1 := e60) (es1 := es61) F clX6_41 cwX0_init (ctX0_init G hh55) rfl rfl rfl rfl he hes dX6_init_60 ?_
  obtain ⟨h62, hh62, h⟩ := ob h
  refine j_putR (pc := 63) (ty := (.object "MeltHours$Acts")) F ⟨rfl, rfl⟩ flX6_42 fp6_4 (fun _ => ⟨rfl, rfl⟩) hh62 dX6_init_63 ?_
  refine j_aload_n (pc := 66) (k0 := 0) F 0 rfl dX6_init_66 ?_
  refine j_bipush (pc := 67) F 100 dX6_init_67 (by decide) ?_
  obtain ⟨h63, i64, hh63, h⟩ := b2_obt h
  obtain ⟨e65, es66, h, he, hes⟩ := addE_obt h
  refine j_newI (pc := 69) F (Or.inl ⟨rfl, rfl⟩) aw_int hh63 he hes dX6_init_69 ?_
  obtain ⟨h67, hh67, h⟩ := ob h
  refine j_putR (pc := 71) (ty := (.array .int)) F ⟨rfl, rfl⟩ flX6_46 fp6_5 (fun _ => ⟨rfl, rfl⟩) hh67 dX6_init_71 ?_
  refine j_aload_n (pc := 74) (k0 := 0) F 0 rfl dX6_init_74 ?_
  refine j_bipush (pc := 75) F 6 dX6_init_75 (by decide) ?_
  obtain ⟨h68, hh68, h⟩ := ob h
  obtain ⟨e69, es70, h, he, hes⟩ := addE_obt h
  refine j_anew (pc := 77) F (good_of 236 (by decide +kernel) (by decide +kernel)) hh68 he hes dX6_init_77 ?_
  obtain ⟨h71, hh71, h⟩ := ob h
  refine j_putR (pc := 80) (ty := (.array (.object "MeltHours$Tape"))) F ⟨rfl, rfl⟩ flX6_52 fp6_8 (fun _ => ⟨rfl, rfl⟩) hh71 dX6_init_80 ?_
  refine j_iconst (pc := 83) F 0 dX6_init_83 (by decide) ?_
  refine j_istore_n (pc := 84) (k1 := 1) (ls' := [(1, .int 0), (0, .ref this)]) F rfl rfl rfl dX6_init_84 ?_
  refine j_sub [1, 0] rfl ?_
  exact jbX6_init_85 G F 1000 _ _ _ _ _ _ _ h
theorem ctX6_init (G : GT) {sh : SH} {I : IH} {L : LH} {n : Nat} {this : Nat} {sh' : SH} {I' : IH} {L' : LH} {n' : Nat} {e es : Nat}  (h : fX6_init this sh I L n = some ((e, es), (sh', I', L', n'))) : Ct G yX6_init cX6_init 2 none 2 [.ref this] sh I L n (none) sh' I' L' n' e es := by
  refine ct_of (y := yX6_init) (by decide +kernel) rfl (fun X F => ?_)
  exact jbX6_init_0 G F h
theorem dX6_places_0 : decode cX6_places 0 = .ok (.iload_n 1, 1) := by decide +kernel
theorem dX6_places_1 : decode cX6_places 1 = .ok (.iconst 1, 1) := by decide +kernel
theorem dX6_places_2 : decode cX6_places 2 = .ok (.if_icmp .lt 8, 3) := by decide +kernel
theorem dX6_places_5 : decode cX6_places 5 = .ok (.iload_n 1, 1) := by decide +kernel
theorem dX6_places_6 : decode cX6_places 6 = .ok (.iconst 5, 1) := by decide +kernel
theorem dX6_places_7 : decode cX6_places 7 = .ok (.if_icmp .le 6, 3) := by decide +kernel
theorem dX6_places_10 : decode cX6_places 10 = .ok (.bipush (-2), 2) := by decide +kernel
theorem dX6_places_12 : decode cX6_places 12 = .ok (.ireturn, 1) := by decide +kernel
theorem dX6_places_13 : decode cX6_places 13 = .ok (.aload_n 0, 1) := by decide +kernel
theorem dX6_places_14 : decode cX6_places 14 = .ok (.getfield 19, 3) := by decide +kernel
theorem dX6_places_17 : decode cX6_places 17 = .ok (.getfield 57, 3) := by decide +kernel
theorem dX6_places_20 : decode cX6_places 20 = .ok (.istore_n 2, 1) := by decide +kernel
theorem dX6_places_21 : decode cX6_places 21 = .ok (.aload_n 0, 1) := by decide +kernel
theorem dX6_places_22 : decode cX6_places 22 = .ok (.getfield 19, 3) := by decide +kernel
theorem dX6_places_25 : decode cX6_places 25 = .ok (.iload_n 1, 1) := by decide +kernel
theorem dX6_places_26 : decode cX6_places 26 = .ok (.putfield 57, 3) := by decide +kernel
theorem dX6_places_29 : decode cX6_places 29 = .ok (.iload_n 2, 1) := by decide +kernel
theorem dX6_places_30 : decode cX6_places 30 = .ok (.ireturn, 1) := by decide +kernel
def fX6_places (sh : SH) (this : Nat) (v1 : Int32) (I : IH) : Option (Int32 × IH) :=
  if v1 < 1 then (
    some ((-2), I)) else
  if v1 ≤ 5 then (
    (gR sh 6 this 0).bind fun x1 =>
    (gI sh I 2 x1 0).bind fun x2 =>
    (gR sh 6 this 0).bind fun x3 =>
    (pI sh I 2 x3 0 v1).bind fun i4 =>
    some (x2, i4)) else
  some ((-2), I)
set_option maxHeartbeats 4000000 in
set_option maxRecDepth 20000 in
theorem jbX6_places_0 (G : GT) {X : XT} {sh : SH} {L : LH} {n : Nat} {r : Int32} {I' : IH}  {this : Nat}  {v1 : Int32} {I : IH} (F : MF G X RX6 cX6_places 3 0 (some .int) "places") (h : fX6_places sh this v1 I = some (r, I')) : J G X (QE G X (some (.int r)) sh I' L n) 3 sh I L n 0 0 0 [(0, .ref this), (1, .int v1)] [] := by
  unfold fX6_places at h
  refine j_iload_n (pc := 0) (k0 := 1) F 1 rfl dX6_places_0 ?_
  refine j_iconst (pc := 1) F 1 dX6_places_1 (by decide) ?_
  refine j_icmp_lt (pc := 2) F 10 dX6_places_2 rfl (fun c => ?_) (fun c => ?_)
  · have h := iz_t c h
    refine j_bipush (pc := 10) F (-2) dX6_places_10 (by decide) ?_
    have g1 := Option.some.inj h
    obtain ⟨q3, g2⟩ := Prod.mk.inj g1
    subst q3
    subst g2
    exact j_iret (pc := 12) F dX6_places_12
  · have h := iz_f c h
    refine j_iload_n (pc := 5) (k0 := 1) F 1 rfl dX6_places_5 ?_
    refine j_iconst (pc := 6) F 5 dX6_places_6 (by decide) ?_
    refine j_icmp_le (pc := 7) F 13 dX6_places_7 rfl (fun c => ?_) (fun c => ?_)
    · have h := iz_t c h
      refine j_aload_n (pc := 13) (k0 := 0) F 0 rfl dX6_places_13 ?_
      obtain ⟨x1, hx1, h⟩ := ob h
      refine j_getR (pc := 14) F flX6_19 hx1 dX6_places_14 ?_
      obtain ⟨x2, hx2, h⟩ := ob h
      refine j_getI (pc := 17) F flX6_57 hx2 dX6_places_17 ?_
      refine j_istore_n (pc := 20) (k1 := 2) (ls' := [(2, .int x2), (0, .ref this), (1, .int v1)]) F rfl rfl rfl dX6_places_20 ?_
      refine j_aload_n (pc := 21) (k0 := 0) F 1 rfl dX6_places_21 ?_
      obtain ⟨x3, hx3, h⟩ := ob h
      refine j_getR (pc := 22) F flX6_19 hx3 dX6_places_22 ?_
      refine j_iload_n (pc := 25) (k0 := 1) F 2 rfl dX6_places_25 ?_
      obtain ⟨i4, hi4, h⟩ := ob h
      refine j_putI (pc := 26) F flX6_57 fp2_0 (fun z => by cases z) hi4 dX6_places_26 ?_
      refine j_iload_n (pc := 29) (k0 := 2) F 0 rfl dX6_places_29 ?_
      have g1 := Option.some.inj h
      obtain ⟨q3, g2⟩ := Prod.mk.inj g1
      subst q3
      subst g2
      exact j_iret (pc := 30) F dX6_places_30
    · have h := iz_f c h
      refine j_bipush (pc := 10) F (-2) dX6_places_10 (by decide) ?_
      have g1 := Option.some.inj h
      obtain ⟨q3, g2⟩ := Prod.mk.inj g1
      subst q3
      subst g2
      exact j_iret (pc := 12) F dX6_places_12
theorem ctX6_places (G : GT) {sh : SH} {I : IH} {L : LH} {n : Nat} {this : Nat} {v1 : Int32} {r : Int32} {I' : IH}  (h : fX6_places sh this v1 I = some (r, I')) : Ct G yX6_places cX6_places 3 (some .int) 0 [.ref this, .int v1] sh I L n (some (.int r)) sh I' L n 0 0 := by
  refine ct_of (y := yX6_places) (by decide +kernel) rfl (fun X F => ?_)
  exact jbX6_places_0 G F h
theorem dX6_sky_0 : decode cX6_sky 0 = .ok (.iload_n 1, 1) := by decide +kernel
theorem dX6_sky_1 : decode cX6_sky 1 = .ok (.iconst 2, 1) := by decide +kernel
theorem dX6_sky_2 : decode cX6_sky 2 = .ok (.invokestatic 61, 3) := by decide +kernel
theorem dX6_sky_5 : decode cX6_sky 5 = .ok (.ifCond .ne 5, 3) := by decide +kernel
theorem dX6_sky_8 : decode cX6_sky 8 = .ok (.iconst (-1), 1) := by decide +kernel
theorem dX6_sky_9 : decode cX6_sky 9 = .ok (.ireturn, 1) := by decide +kernel
theorem dX6_sky_10 : decode cX6_sky 10 = .ok (.iload_n 2, 1) := by decide +kernel
theorem dX6_sky_11 : decode cX6_sky 11 = .ok (.iconst 3, 1) := by decide +kernel
theorem dX6_sky_12 : decode cX6_sky 12 = .ok (.invokestatic 61, 3) := by decide +kernel
theorem dX6_sky_15 : decode cX6_sky 15 = .ok (.ifCond .ne 6, 3) := by decide +kernel
theorem dX6_sky_18 : decode cX6_sky 18 = .ok (.bipush (-2), 2) := by decide +kernel
theorem dX6_sky_20 : decode cX6_sky 20 = .ok (.ireturn, 1) := by decide +kernel
theorem dX6_sky_21 : decode cX6_sky 21 = .ok (.aload_n 0, 1) := by decide +kernel
theorem dX6_sky_22 : decode cX6_sky 22 = .ok (.getfield 19, 3) := by decide +kernel
theorem dX6_sky_25 : decode cX6_sky 25 = .ok (.getfield 65, 3) := by decide +kernel
theorem dX6_sky_28 : decode cX6_sky 28 = .ok (.iload_n 1, 1) := by decide +kernel
theorem dX6_sky_29 : decode cX6_sky 29 = .ok (.iaload, 1) := by decide +kernel
theorem dX6_sky_30 : decode cX6_sky 30 = .ok (.istore_n 3, 1) := by decide +kernel
theorem dX6_sky_31 : decode cX6_sky 31 = .ok (.aload_n 0, 1) := by decide +kernel
theorem dX6_sky_32 : decode cX6_sky 32 = .ok (.getfield 19, 3) := by decide +kernel
theorem dX6_sky_35 : decode cX6_sky 35 = .ok (.getfield 65, 3) := by decide +kernel
theorem dX6_sky_38 : decode cX6_sky 38 = .ok (.iload_n 1, 1) := by decide +kernel
theorem dX6_sky_39 : decode cX6_sky 39 = .ok (.iload_n 2, 1) := by decide +kernel
theorem dX6_sky_40 : decode cX6_sky 40 = .ok (.iastore, 1) := by decide +kernel
theorem dX6_sky_41 : decode cX6_sky 41 = .ok (.iload_n 3, 1) := by decide +kernel
theorem dX6_sky_42 : decode cX6_sky 42 = .ok (.ireturn, 1) := by decide +kernel
def fX6_sky (sh : SH) (this : Nat) (v1 : Int32) (v2 : Int32) (I : IH) : Option (Int32 × IH) :=
  if (fX6_isUnder v1 2) = 0 then (
    some ((-1), I)) else
  if (fX6_isUnder v2 3) = 0 then (
    some ((-2), I)) else
  (gR sh 6 this 0).bind fun x1 =>
  (gR sh 2 x1 1).bind fun x2 =>
  (aI sh I 0 x2 v1).bind fun x3 =>
  (gR sh 6 this 0).bind fun x4 =>
  (gR sh 2 x4 1).bind fun x5 =>
  (sI sh I x5 v1 v2).bind fun i6 =>
  some (x3, i6)
set_option maxHeartbeats 4000000 in
set_option maxRecDepth 20000 in
theorem jbX6_sky_0 (G : GT) {X : XT} {sh : SH} {L : LH} {n : Nat} {r : Int32} {I' : IH}  {this : Nat}  {v1 : Int32} {v2 : Int32} {I : IH} (F : MF G X RX6 cX6_sky 4 1 (some .int) "sky") (h : fX6_sky sh this v1 v2 I = some (r, I')) : J G X (QE G X (some (.int r)) sh I' L n) 4 sh I L n 0 0 0 [(0, .ref this), (1, .int v1), (2, .int v2)] [] := by
  unfold fX6_sky at h
  refine j_iload_n (pc := 0) (k0 := 1) F 1 rfl dX6_sky_0 ?_
  refine j_iconst (pc := 1) F 2 dX6_sky_1 (by decide) ?_
  refine j_callS1 (pc := 2) (As := [.int v1, .int 2]) (st := []) (e1 := 0) (es1 := 0) F clX6_61 cwX6_isUnder (ctX6_isUnder G) rfl rfl rfl rfl rfl rfl dX6_sky_2 ?_
  refine j_if_ne (pc := 5) F 10 dX6_sky_5 rfl (fun c => ?_) (fun c => ?_)
  · have h := iz_f c h
    refine j_iload_n (pc := 10) (k0 := 2) F 2 rfl dX6_sky_10 ?_
    refine j_iconst (pc := 11) F 3 dX6_sky_11 (by decide) ?_
    refine j_callS1 (pc := 12) (As := [.int v2, .int 3]) (st := []) (e1 := 0) (es1 := 0) F clX6_61 cwX6_isUnder (ctX6_isUnder G) rfl rfl rfl rfl rfl rfl dX6_sky_12 ?_
    refine j_if_ne (pc := 15) F 21 dX6_sky_15 rfl (fun c => ?_) (fun c => ?_)
    · have h := iz_f c h
      refine j_aload_n (pc := 21) (k0 := 0) F 0 rfl dX6_sky_21 ?_
      obtain ⟨x1, hx1, h⟩ := ob h
      refine j_getR (pc := 22) F flX6_19 hx1 dX6_sky_22 ?_
      obtain ⟨x2, hx2, h⟩ := ob h
      refine j_getR (pc := 25) F flX6_65 hx2 dX6_sky_25 ?_
      refine j_iload_n (pc := 28) (k0 := 1) F 1 rfl dX6_sky_28 ?_
      obtain ⟨x3, hx3, h⟩ := ob h
      refine j_iald (pc := 29) F hx3 dX6_sky_29 ?_
      refine j_istore_n (pc := 30) (k1 := 3) (ls' := [(3, .int x3), (0, .ref this), (1, .int v1), (2, .int v2)]) F rfl rfl rfl dX6_sky_30 ?_
      refine j_aload_n (pc := 31) (k0 := 0) F 1 rfl dX6_sky_31 ?_
      obtain ⟨x4, hx4, h⟩ := ob h
      refine j_getR (pc := 32) F flX6_19 hx4 dX6_sky_32 ?_
      obtain ⟨x5, hx5, h⟩ := ob h
      refine j_getR (pc := 35) F flX6_65 hx5 dX6_sky_35 ?_
      refine j_iload_n (pc := 38) (k0 := 1) F 2 rfl dX6_sky_38 ?_
      refine j_iload_n (pc := 39) (k0 := 2) F 3 rfl dX6_sky_39 ?_
      obtain ⟨i6, hi6, h⟩ := ob h
      refine j_iast (pc := 40) F hi6 dX6_sky_40 ?_
      refine j_iload_n (pc := 41) (k0 := 3) F 0 rfl dX6_sky_41 ?_
      have g1 := Option.some.inj h
      obtain ⟨q3, g2⟩ := Prod.mk.inj g1
      subst q3
      subst g2
      exact j_iret (pc := 42) F dX6_sky_42
    · have h := iz_t c h
      refine j_bipush (pc := 18) F (-2) dX6_sky_18 (by decide) ?_
      have g1 := Option.some.inj h
      obtain ⟨q3, g2⟩ := Prod.mk.inj g1
      subst q3
      subst g2
      exact j_iret (pc := 20) F dX6_sky_20
  · have h := iz_t c h
    refine j_iconst (pc := 8) F (-1) dX6_sky_8 (by decide) ?_
    have g1 := Option.some.inj h
    obtain ⟨q3, g2⟩ := Prod.mk.inj g1
    subst q3
    subst g2
    exact j_iret (pc := 9) F dX6_sky_9
theorem ctX6_sky (G : GT) {sh : SH} {I : IH} {L : LH} {n : Nat} {this : Nat} {v1 : Int32} {v2 : Int32} {r : Int32} {I' : IH}  (h : fX6_sky sh this v1 v2 I = some (r, I')) : Ct G yX6_sky cX6_sky 4 (some .int) 1 [.ref this, .int v1, .int v2] sh I L n (some (.int r)) sh I' L n 0 0 := by
  refine ct_of (y := yX6_sky) (by decide +kernel) rfl (fun X F => ?_)
  exact jbX6_sky_0 G F h
theorem dX6_feed_0 : decode cX6_feed 0 = .ok (.iload_n 2, 1) := by decide +kernel
theorem dX6_feed_1 : decode cX6_feed 1 = .ok (.ifCond .lt 8, 3) := by decide +kernel
theorem dX6_feed_4 : decode cX6_feed 4 = .ok (.iload_n 2, 1) := by decide +kernel
theorem dX6_feed_5 : decode cX6_feed 5 = .ok (.iconst 4, 1) := by decide +kernel
theorem dX6_feed_6 : decode cX6_feed 6 = .ok (.if_icmp .le 6, 3) := by decide +kernel
theorem dX6_feed_9 : decode cX6_feed 9 = .ok (.bipush (-2), 2) := by decide +kernel
theorem dX6_feed_11 : decode cX6_feed 11 = .ok (.ireturn, 1) := by decide +kernel
theorem dX6_feed_12 : decode cX6_feed 12 = .ok (.iload_n 2, 1) := by decide +kernel
theorem dX6_feed_13 : decode cX6_feed 13 = .ok (.aload_n 0, 1) := by decide +kernel
theorem dX6_feed_14 : decode cX6_feed 14 = .ok (.getfield 46, 3) := by decide +kernel
theorem dX6_feed_17 : decode cX6_feed 17 = .ok (.arraylength, 1) := by decide +kernel
theorem dX6_feed_18 : decode cX6_feed 18 = .ok (.aload_n 0, 1) := by decide +kernel
theorem dX6_feed_19 : decode cX6_feed 19 = .ok (.getfield 68, 3) := by decide +kernel
theorem dX6_feed_22 : decode cX6_feed 22 = .ok (.isub, 1) := by decide +kernel
theorem dX6_feed_23 : decode cX6_feed 23 = .ok (.if_icmp .le 6, 3) := by decide +kernel
theorem dX6_feed_26 : decode cX6_feed 26 = .ok (.bipush (-4), 2) := by decide +kernel
theorem dX6_feed_28 : decode cX6_feed 28 = .ok (.ireturn, 1) := by decide +kernel
theorem dX6_feed_29 : decode cX6_feed 29 = .ok (.iload_n 2, 1) := by decide +kernel
theorem dX6_feed_30 : decode cX6_feed 30 = .ok (.iconst 1, 1) := by decide +kernel
theorem dX6_feed_31 : decode cX6_feed 31 = .ok (.isub, 1) := by decide +kernel
theorem dX6_feed_32 : decode cX6_feed 32 = .ok (.istore_n 3, 1) := by decide +kernel
theorem dX6_feed_33 : decode cX6_feed 33 = .ok (.iload_n 3, 1) := by decide +kernel
theorem dX6_feed_34 : decode cX6_feed 34 = .ok (.ifCond .lt 38, 3) := by decide +kernel
theorem dX6_feed_37 : decode cX6_feed 37 = .ok (.aload_n 0, 1) := by decide +kernel
theorem dX6_feed_38 : decode cX6_feed 38 = .ok (.getfield 46, 3) := by decide +kernel
theorem dX6_feed_41 : decode cX6_feed 41 = .ok (.aload_n 0, 1) := by decide +kernel
theorem dX6_feed_42 : decode cX6_feed 42 = .ok (.getfield 68, 3) := by decide +kernel
theorem dX6_feed_45 : decode cX6_feed 45 = .ok (.iload_n 1, 1) := by decide +kernel
theorem dX6_feed_46 : decode cX6_feed 46 = .ok (.bipush 8, 2) := by decide +kernel
theorem dX6_feed_48 : decode cX6_feed 48 = .ok (.iload_n 3, 1) := by decide +kernel
theorem dX6_feed_49 : decode cX6_feed 49 = .ok (.imul, 1) := by decide +kernel
theorem dX6_feed_50 : decode cX6_feed 50 = .ok (.iushr, 1) := by decide +kernel
theorem dX6_feed_51 : decode cX6_feed 51 = .ok (.sipush 255, 3) := by decide +kernel
theorem dX6_feed_54 : decode cX6_feed 54 = .ok (.iand, 1) := by decide +kernel
theorem dX6_feed_55 : decode cX6_feed 55 = .ok (.iastore, 1) := by decide +kernel
theorem dX6_feed_56 : decode cX6_feed 56 = .ok (.aload_n 0, 1) := by decide +kernel
theorem dX6_feed_57 : decode cX6_feed 57 = .ok (.dup, 1) := by decide +kernel
theorem dX6_feed_58 : decode cX6_feed 58 = .ok (.getfield 68, 3) := by decide +kernel
theorem dX6_feed_61 : decode cX6_feed 61 = .ok (.iconst 1, 1) := by decide +kernel
theorem dX6_feed_62 : decode cX6_feed 62 = .ok (.iadd, 1) := by decide +kernel
theorem dX6_feed_63 : decode cX6_feed 63 = .ok (.putfield 68, 3) := by decide +kernel
theorem dX6_feed_66 : decode cX6_feed 66 = .ok (.iinc 3 (-1), 3) := by decide +kernel
theorem dX6_feed_69 : decode cX6_feed 69 = .ok (.goto (-36), 3) := by decide +kernel
theorem dX6_feed_72 : decode cX6_feed 72 = .ok (.aload_n 0, 1) := by decide +kernel
theorem dX6_feed_73 : decode cX6_feed 73 = .ok (.getfield 68, 3) := by decide +kernel
theorem dX6_feed_76 : decode cX6_feed 76 = .ok (.ireturn, 1) := by decide +kernel
def fX6_feed_b33 (sh : SH) (this : Nat) : Nat → Int32 → Int32 → IH → Option (Int32 × IH)
  | 0, _, _, _ => none
  | fuel + 1, v1, v3, I =>
    if v3 < 0 then (
      (gI sh I 6 this 6).bind fun x1 =>
      some (x1, I)) else
    (gR sh 6 this 5).bind fun x2 =>
    (gI sh I 6 this 6).bind fun x3 =>
    (sI sh I x2 x3 ((v1.toUInt32 >>> (Int32.toUInt32 (8 * v3) &&& Int32.toUInt32 31)).toInt32 &&& 255)).bind fun i4 =>
    (gI sh i4 6 this 6).bind fun x5 =>
    (pI sh i4 6 this 6 (x5 + 1)).bind fun i6 =>
    fX6_feed_b33 sh this fuel v1 (v3 + (-1)) i6
def fX6_feed (sh : SH) (this : Nat) (v1 : Int32) (v2 : Int32) (I : IH) : Option (Int32 × IH) :=
  if v2 < 0 then (
    some ((-2), I)) else
  if v2 ≤ 4 then (
    (gR sh 6 this 5).bind fun x1 =>
    (aL sh x1).bind fun x2 =>
    (gI sh I 6 this 6).bind fun x3 =>
    if v2 ≤ (x2 - x3) then (
      fX6_feed_b33 sh this 1000 v1 (v2 - 1) I) else
    some ((-4), I)) else
  some ((-2), I)
set_option maxHeartbeats 4000000 in
set_option maxRecDepth 20000 in
theorem jbX6_feed_33 (G : GT) {X : XT} {sh : SH} {L : LH} {n : Nat} {r : Int32} {I' : IH}  {this : Nat}  (F : MF G X RX6 cX6_feed 4 0 (some .int) "feed") : ∀ (fuel : Nat) (v1 : Int32) (v3 : Int32) (I : IH), fX6_feed_b33 sh this fuel v1 v3 I = some (r, I') → J G X (QE G X (some (.int r)) sh I' L n) 4 sh I L n 0 0 33 [(0, .ref this), (1, .int v1), (3, .int v3)] []
  | 0 => by
    intros
    rename_i h
    exact absurd (show none = some _ from h) (by intro z; cases z)
  | fuel + 1 => by
    intro v1 v3 I h
    rw [fX6_feed_b33] at h
    refine j_iload_n (pc := 33) (k0 := 3) F 2 rfl dX6_feed_33 ?_
    refine j_if_lt (pc := 34) F 72 dX6_feed_34 rfl (fun c => ?_) (fun c => ?_)
    · have h := iz_t c h
      refine j_aload_n (pc := 72) (k0 := 0) F 0 rfl dX6_feed_72 ?_
      obtain ⟨x1, hx1, h⟩ := ob h
      refine j_getI (pc := 73) F flX6_68 hx1 dX6_feed_73 ?_
      have g1 := Option.some.inj h
      obtain ⟨q3, g2⟩ := Prod.mk.inj g1
      subst q3
      subst g2
      exact j_iret (pc := 76) F dX6_feed_76
    · have h := iz_f c h
      refine j_aload_n (pc := 37) (k0 := 0) F 0 rfl dX6_feed_37 ?_
      obtain ⟨x2, hx2, h⟩ := ob h
      refine j_getR (pc := 38) F flX6_46 hx2 dX6_feed_38 ?_
      refine j_aload_n (pc := 41) (k0 := 0) F 0 rfl dX6_feed_41 ?_
      obtain ⟨x3, hx3, h⟩ := ob h
      refine j_getI (pc := 42) F flX6_68 hx3 dX6_feed_42 ?_
      refine j_iload_n (pc := 45) (k0 := 1) F 1 rfl dX6_feed_45 ?_
      refine j_bipush (pc := 46) F 8 dX6_feed_46 (by decide) ?_
      refine j_iload_n (pc := 48) (k0 := 3) F 2 rfl dX6_feed_48 ?_
      refine j_imul (pc := 49) F dX6_feed_49 ?_
      refine j_iushr (pc := 50) F dX6_feed_50 ?_
      refine j_sipush (pc := 51) F 255 dX6_feed_51 (by decide) ?_
      refine j_iand (pc := 54) F dX6_feed_54 ?_
      obtain ⟨i4, hi4, h⟩ := ob h
      refine j_iast (pc := 55) F hi4 dX6_feed_55 ?_
      refine j_aload_n (pc := 56) (k0 := 0) F 0 rfl dX6_feed_56 ?_
      refine j_dup (pc := 57) F dX6_feed_57 rfl ?_
      obtain ⟨x5, hx5, h⟩ := ob h
      refine j_getI (pc := 58) F flX6_68 hx5 dX6_feed_58 ?_
      refine j_iconst (pc := 61) F 1 dX6_feed_61 (by decide) ?_
      refine j_iadd (pc := 62) F dX6_feed_62 ?_
      obtain ⟨i6, hi6, h⟩ := ob h
      refine j_putI (pc := 63) F flX6_68 fp6_6 (fun z => by cases z) hi6 dX6_feed_63 ?_
      refine j_iinc (pc := 66) (k1 := 3) (ls' := [(3, .int (v3 + (-1))), (0, .ref this), (1, .int v1)]) F (v3 + (-1)) 2 rfl (congrArg (fun z => v3 + z) (by decide)) rfl rfl dX6_feed_66 ?_
      refine j_goto (pc := 69) F 33 dX6_feed_69 rfl ?_
      refine j_sub [1, 2, 0] rfl ?_
      exact jbX6_feed_33 G F fuel _ _ _ h
set_option maxHeartbeats 4000000 in
set_option maxRecDepth 20000 in
theorem jbX6_feed_0 (G : GT) {X : XT} {sh : SH} {L : LH} {n : Nat} {r : Int32} {I' : IH}  {this : Nat}  {v1 : Int32} {v2 : Int32} {I : IH} (F : MF G X RX6 cX6_feed 4 0 (some .int) "feed") (h : fX6_feed sh this v1 v2 I = some (r, I')) : J G X (QE G X (some (.int r)) sh I' L n) 4 sh I L n 0 0 0 [(0, .ref this), (1, .int v1), (2, .int v2)] [] := by
  unfold fX6_feed at h
  refine j_iload_n (pc := 0) (k0 := 2) F 2 rfl dX6_feed_0 ?_
  refine j_if_lt (pc := 1) F 9 dX6_feed_1 rfl (fun c => ?_) (fun c => ?_)
  · have h := iz_t c h
    refine j_bipush (pc := 9) F (-2) dX6_feed_9 (by decide) ?_
    have g1 := Option.some.inj h
    obtain ⟨q3, g2⟩ := Prod.mk.inj g1
    subst q3
    subst g2
    exact j_iret (pc := 11) F dX6_feed_11
  · have h := iz_f c h
    refine j_iload_n (pc := 4) (k0 := 2) F 2 rfl dX6_feed_4 ?_
    refine j_iconst (pc := 5) F 4 dX6_feed_5 (by decide) ?_
    refine j_icmp_le (pc := 6) F 12 dX6_feed_6 rfl (fun c => ?_) (fun c => ?_)
    · have h := iz_t c h
      refine j_iload_n (pc := 12) (k0 := 2) F 2 rfl dX6_feed_12 ?_
      refine j_aload_n (pc := 13) (k0 := 0) F 0 rfl dX6_feed_13 ?_
      obtain ⟨x1, hx1, h⟩ := ob h
      refine j_getR (pc := 14) F flX6_46 hx1 dX6_feed_14 ?_
      obtain ⟨x2, hx2, h⟩ := ob h
      refine j_alen (pc := 17) F hx2 dX6_feed_17 ?_
      refine j_aload_n (pc := 18) (k0 := 0) F 0 rfl dX6_feed_18 ?_
      obtain ⟨x3, hx3, h⟩ := ob h
      refine j_getI (pc := 19) F flX6_68 hx3 dX6_feed_19 ?_
      refine j_isub (pc := 22) F dX6_feed_22 ?_
      refine j_icmp_le (pc := 23) F 29 dX6_feed_23 rfl (fun c => ?_) (fun c => ?_)
      · have h := iz_t c h
        refine j_iload_n (pc := 29) (k0 := 2) F 2 rfl dX6_feed_29 ?_
        refine j_iconst (pc := 30) F 1 dX6_feed_30 (by decide) ?_
        refine j_isub (pc := 31) F dX6_feed_31 ?_
        refine j_istore_n (pc := 32) (k1 := 3) (ls' := [(3, .int (v2 - 1)), (0, .ref this), (1, .int v1), (2, .int v2)]) F rfl rfl rfl dX6_feed_32 ?_
        refine j_sub [1, 2, 0] rfl ?_
        exact jbX6_feed_33 G F 1000 _ _ _ h
      · have h := iz_f c h
        refine j_bipush (pc := 26) F (-4) dX6_feed_26 (by decide) ?_
        have g1 := Option.some.inj h
        obtain ⟨q3, g2⟩ := Prod.mk.inj g1
        subst q3
        subst g2
        exact j_iret (pc := 28) F dX6_feed_28
    · have h := iz_f c h
      refine j_bipush (pc := 9) F (-2) dX6_feed_9 (by decide) ?_
      have g1 := Option.some.inj h
      obtain ⟨q3, g2⟩ := Prod.mk.inj g1
      subst q3
      subst g2
      exact j_iret (pc := 11) F dX6_feed_11
theorem ctX6_feed (G : GT) {sh : SH} {I : IH} {L : LH} {n : Nat} {this : Nat} {v1 : Int32} {v2 : Int32} {r : Int32} {I' : IH}  (h : fX6_feed sh this v1 v2 I = some (r, I')) : Ct G yX6_feed cX6_feed 4 (some .int) 0 [.ref this, .int v1, .int v2] sh I L n (some (.int r)) sh I' L n 0 0 := by
  refine ct_of (y := yX6_feed) (by decide +kernel) rfl (fun X F => ?_)
  exact jbX6_feed_0 G F h
theorem dX6_valley_0 : decode cX6_valley 0 = .ok (.aload_n 0, 1) := by decide +kernel
theorem dX6_valley_1 : decode cX6_valley 1 = .ok (.getfield 71, 3) := by decide +kernel
theorem dX6_valley_4 : decode cX6_valley 4 = .ok (.iconst 5, 1) := by decide +kernel
theorem dX6_valley_5 : decode cX6_valley 5 = .ok (.if_icmp .lt 6, 3) := by decide +kernel
theorem dX6_valley_8 : decode cX6_valley 8 = .ok (.bipush (-4), 2) := by decide +kernel
theorem dX6_valley_10 : decode cX6_valley 10 = .ok (.ireturn, 1) := by decide +kernel
theorem dX6_valley_11 : decode cX6_valley 11 = .ok (.new 74, 3) := by decide +kernel
theorem dX6_valley_14 : decode cX6_valley 14 = .ok (.dup, 1) := by decide +kernel
theorem dX6_valley_15 : decode cX6_valley 15 = .ok (.aload_n 0, 1) := by decide +kernel
theorem dX6_valley_16 : decode cX6_valley 16 = .ok (.getfield 46, 3) := by decide +kernel
theorem dX6_valley_19 : decode cX6_valley 19 = .ok (.aload_n 0, 1) := by decide +kernel
theorem dX6_valley_20 : decode cX6_valley 20 = .ok (.getfield 68, 3) := by decide +kernel
theorem dX6_valley_23 : decode cX6_valley 23 = .ok (.invokespecial 76, 3) := by decide +kernel
theorem dX6_valley_26 : decode cX6_valley 26 = .ok (.astore_n 1, 1) := by decide +kernel
theorem dX6_valley_27 : decode cX6_valley 27 = .ok (.aload_n 0, 1) := by decide +kernel
theorem dX6_valley_28 : decode cX6_valley 28 = .ok (.iconst 0, 1) := by decide +kernel
theorem dX6_valley_29 : decode cX6_valley 29 = .ok (.putfield 68, 3) := by decide +kernel
theorem dX6_valley_32 : decode cX6_valley 32 = .ok (.aload_n 1, 1) := by decide +kernel
theorem dX6_valley_33 : decode cX6_valley 33 = .ok (.invokevirtual 79, 3) := by decide +kernel
theorem dX6_valley_36 : decode cX6_valley 36 = .ok (.ifCond .ne 11, 3) := by decide +kernel
theorem dX6_valley_39 : decode cX6_valley 39 = .ok (.bipush (-10), 2) := by decide +kernel
theorem dX6_valley_41 : decode cX6_valley 41 = .ok (.aload_n 1, 1) := by decide +kernel
theorem dX6_valley_42 : decode cX6_valley 42 = .ok (.getfield 83, 3) := by decide +kernel
theorem dX6_valley_45 : decode cX6_valley 45 = .ok (.isub, 1) := by decide +kernel
theorem dX6_valley_46 : decode cX6_valley 46 = .ok (.ireturn, 1) := by decide +kernel
theorem dX6_valley_47 : decode cX6_valley 47 = .ok (.aload_n 0, 1) := by decide +kernel
theorem dX6_valley_48 : decode cX6_valley 48 = .ok (.getfield 19, 3) := by decide +kernel
theorem dX6_valley_51 : decode cX6_valley 51 = .ok (.aload_n 1, 1) := by decide +kernel
theorem dX6_valley_52 : decode cX6_valley 52 = .ok (.getfield 86, 3) := by decide +kernel
theorem dX6_valley_55 : decode cX6_valley 55 = .ok (.putfield 23, 3) := by decide +kernel
theorem dX6_valley_58 : decode cX6_valley 58 = .ok (.aload_n 0, 1) := by decide +kernel
theorem dX6_valley_59 : decode cX6_valley 59 = .ok (.dup, 1) := by decide +kernel
theorem dX6_valley_60 : decode cX6_valley 60 = .ok (.getfield 71, 3) := by decide +kernel
theorem dX6_valley_63 : decode cX6_valley 63 = .ok (.iconst 1, 1) := by decide +kernel
theorem dX6_valley_64 : decode cX6_valley 64 = .ok (.iadd, 1) := by decide +kernel
theorem dX6_valley_65 : decode cX6_valley 65 = .ok (.putfield 71, 3) := by decide +kernel
theorem dX6_valley_68 : decode cX6_valley 68 = .ok (.aload_n 0, 1) := by decide +kernel
theorem dX6_valley_69 : decode cX6_valley 69 = .ok (.getfield 71, 3) := by decide +kernel
theorem dX6_valley_72 : decode cX6_valley 72 = .ok (.iconst 1, 1) := by decide +kernel
theorem dX6_valley_73 : decode cX6_valley 73 = .ok (.isub, 1) := by decide +kernel
theorem dX6_valley_74 : decode cX6_valley 74 = .ok (.ireturn, 1) := by decide +kernel
def fX6_valley (this : Nat) (sh : SH) (I : IH) (n : Nat) : Option ((Nat × Nat) × (Int32 × SH × IH × Nat)) :=
  (gI sh I 6 this 7).bind fun x1 =>
  if x1 < 5 then (
    b2 (some (nO sh n 1, nOI I n)) fun h2 i3 =>
    addE 1 5 (
    (gR (nO sh n 1) 6 this 5).bind fun x6 =>
    (gI (nO sh n 1) (nOI I n) 6 this 6).bind fun x7 =>
    bE3 (fX1_init n x6 x7 (nO sh n 1) (nOI I n) (n + 1)) fun h8 i9 n10 =>
    (pI h8 i9 6 this 6 0).bind fun i15 =>
    (ck h8 1 n).bind fun u16 =>
    bE4 (fX1_isValley n h8 i15 n10) fun x17 h18 i19 n20 =>
    if x17 = 0 then (
      (gI h18 i19 1 n 3).bind fun x31 =>
      some ((0, 0), (((-10) - x31), h18, i19, n20))) else
    (gR h18 6 this 0).bind fun x25 =>
    (gR h18 1 n 4).bind fun x26 =>
    (pR h18 2 x25 8 x26).bind fun h27 =>
    (gI h27 i19 6 this 7).bind fun x28 =>
    (pI h27 i19 6 this 7 (x28 + 1)).bind fun i29 =>
    (gI h27 i29 6 this 7).bind fun x30 =>
    some ((0, 0), ((x30 - 1), h27, i29, n20)))) else
  some ((0, 0), ((-4), sh, I, n))
set_option maxHeartbeats 4000000 in
set_option maxRecDepth 20000 in
theorem jbX6_valley_0 (G : GT) {X : XT} {L : LH} {r : Int32} {sh' : SH} {I' : IH} {n' : Nat}  {this : Nat}  {sh : SH} {I : IH} {n : Nat} {e es : Nat} (F : MF G X RX6 cX6_valley 2 110 (some .int) "valley") (h : fX6_valley this sh I n = some ((e, es), (r, sh', I', n'))) : J G X (QE G X (some (.int r)) sh' I' L n') 2 sh I L n e es 0 [(0, .ref this)] [] := by
  unfold fX6_valley at h
  refine j_aload_n (pc := 0) (k0 := 0) F 0 rfl dX6_valley_0 ?_
  obtain ⟨x1, hx1, h⟩ := ob h
  refine j_getI (pc := 1) F flX6_71 hx1 dX6_valley_1 ?_
  refine j_iconst (pc := 4) F 5 dX6_valley_4 (by decide) ?_
  refine j_icmp_lt (pc := 5) F 11 dX6_valley_5 rfl (fun c => ?_) (fun c => ?_)
  · have h := iz_t c h
    obtain ⟨h2, i3, hh2, h⟩ := b2_obt h
    cases hh2
    obtain ⟨e4, es5, h, he, hes⟩ := addE_obt h
    refine j_new (pc := 11) F cnX6_74 he hes dX6_valley_11 ?_
    refine j_dup (pc := 14) F dX6_valley_14 rfl ?_
    refine j_aload_n (pc := 15) (k0 := 0) F 0 rfl dX6_valley_15 ?_
    obtain ⟨x6, hx6, h⟩ := ob h
    refine j_getR (pc := 16) F flX6_46 hx6 dX6_valley_16 ?_
    refine j_aload_n (pc := 19) (k0 := 0) F 0 rfl dX6_valley_19 ?_
    obtain ⟨x7, hx7, h⟩ := ob h
    refine j_getI (pc := 20) F flX6_68 hx7 dX6_valley_20 ?_
    obtain ⟨d11, ds12, h8, i9, n10, e13, es14, hh8, h, he, hes⟩ := bE3_obt h
    refine j_callI (pc := 23) (As := [.ref x6, .int x7]) (st := [.ref n]) (e1 := e13) (es1 := es14) F clX6_76 cwX1_init (ctX1_init G hh8) rfl rfl rfl rfl he hes dX6_valley_23 ?_
    refine j_astore_n (pc := 26) (k1 := 1) (ls' := [(1, .ref n), (0, .ref this)]) F rfl rfl rfl dX6_valley_26 ?_
    refine j_aload_n (pc := 27) (k0 := 0) F 1 rfl dX6_valley_27 ?_
    refine j_iconst (pc := 28) F 0 dX6_valley_28 (by decide) ?_
    obtain ⟨i15, hi15, h⟩ := ob h
    refine j_putI (pc := 29) F flX6_68 fp6_6 (fun z => by cases z) hi15 dX6_valley_29 ?_
    refine j_aload_n (pc := 32) (k0 := 1) F 0 rfl dX6_valley_32 ?_
    obtain ⟨u16, hu16, h⟩ := ob h
    have hou16 := ck_obt hu16
    obtain ⟨d21, ds22, x17, h18, i19, n20, e23, es24, hx17, h, he, hes⟩ := bE4_obt h
    refine j_callV1 (pc := 33) (ci := 1) (As := []) (st := []) (e1 := e23) (es1 := es24) F clX6_79 cwX1_isValley rfl hou16 (ctX1_isValley G hou16 hx17) rfl rfl rfl rfl he hes dX6_valley_33 ?_
    refine j_if_ne (pc := 36) F 47 dX6_valley_36 rfl (fun c => ?_) (fun c => ?_)
    · have h := iz_f c h
      refine j_aload_n (pc := 47) (k0 := 0) F 1 rfl dX6_valley_47 ?_
      obtain ⟨x25, hx25, h⟩ := ob h
      refine j_getR (pc := 48) F flX6_19 hx25 dX6_valley_48 ?_
      refine j_aload_n (pc := 51) (k0 := 1) F 0 rfl dX6_valley_51 ?_
      obtain ⟨x26, hx26, h⟩ := ob h
      refine j_getR (pc := 52) F flX6_86 hx26 dX6_valley_52 ?_
      obtain ⟨h27, hh27, h⟩ := ob h
      refine j_putR (pc := 55) (ty := (.object "MeltHours$Valley")) F ⟨rfl, rfl⟩ flX6_23 fp2_8 (fun z => by cases z) hh27 dX6_valley_55 ?_
      refine j_aload_n (pc := 58) (k0 := 0) F 1 rfl dX6_valley_58 ?_
      refine j_dup (pc := 59) F dX6_valley_59 rfl ?_
      obtain ⟨x28, hx28, h⟩ := ob h
      refine j_getI (pc := 60) F flX6_71 hx28 dX6_valley_60 ?_
      refine j_iconst (pc := 63) F 1 dX6_valley_63 (by decide) ?_
      refine j_iadd (pc := 64) F dX6_valley_64 ?_
      obtain ⟨i29, hi29, h⟩ := ob h
      refine j_putI (pc := 65) F flX6_71 fp6_7 (fun z => by cases z) hi29 dX6_valley_65 ?_
      refine j_aload_n (pc := 68) (k0 := 0) F 1 rfl dX6_valley_68 ?_
      obtain ⟨x30, hx30, h⟩ := ob h
      refine j_getI (pc := 69) F flX6_71 hx30 dX6_valley_69 ?_
      refine j_iconst (pc := 72) F 1 dX6_valley_72 (by decide) ?_
      refine j_isub (pc := 73) F dX6_valley_73 ?_
      have g0 := Option.some.inj h
      obtain ⟨hq, g1⟩ := Prod.mk.inj g0
      obtain ⟨q1, q2⟩ := Prod.mk.inj hq
      obtain ⟨q3, g2⟩ := Prod.mk.inj g1
      obtain ⟨q4, g3⟩ := Prod.mk.inj g2
      obtain ⟨q5, g4⟩ := Prod.mk.inj g3
      subst q1
      subst q2
      subst q3
      subst q4
      subst q5
      subst g4
      exact j_iret (pc := 74) F dX6_valley_74
    · have h := iz_t c h
      refine j_bipush (pc := 39) F (-10) dX6_valley_39 (by decide) ?_
      refine j_aload_n (pc := 41) (k0 := 1) F 0 rfl dX6_valley_41 ?_
      obtain ⟨x31, hx31, h⟩ := ob h
      refine j_getI (pc := 42) F flX6_83 hx31 dX6_valley_42 ?_
      refine j_isub (pc := 45) F dX6_valley_45 ?_
      have g0 := Option.some.inj h
      obtain ⟨hq, g1⟩ := Prod.mk.inj g0
      obtain ⟨q1, q2⟩ := Prod.mk.inj hq
      obtain ⟨q3, g2⟩ := Prod.mk.inj g1
      obtain ⟨q4, g3⟩ := Prod.mk.inj g2
      obtain ⟨q5, g4⟩ := Prod.mk.inj g3
      subst q1
      subst q2
      subst q3
      subst q4
      subst q5
      subst g4
      exact j_iret (pc := 46) F dX6_valley_46
  · have h := iz_f c h
    refine j_bipush (pc := 8) F (-4) dX6_valley_8 (by decide) ?_
    have g0 := Option.some.inj h
    obtain ⟨hq, g1⟩ := Prod.mk.inj g0
    obtain ⟨q1, q2⟩ := Prod.mk.inj hq
    obtain ⟨q3, g2⟩ := Prod.mk.inj g1
    obtain ⟨q4, g3⟩ := Prod.mk.inj g2
    obtain ⟨q5, g4⟩ := Prod.mk.inj g3
    subst q1
    subst q2
    subst q3
    subst q4
    subst q5
    subst g4
    exact j_iret (pc := 10) F dX6_valley_10
theorem ctX6_valley (G : GT) {sh : SH} {I : IH} {L : LH} {n : Nat} {this : Nat} {r : Int32} {sh' : SH} {I' : IH} {n' : Nat} {e es : Nat}  (h : fX6_valley this sh I n = some ((e, es), (r, sh', I', n'))) : Ct G yX6_valley cX6_valley 2 (some .int) 110 [.ref this] sh I L n (some (.int r)) sh' I' L n' e es := by
  refine ct_of (y := yX6_valley) (by decide +kernel) rfl (fun X F => ?_)
  exact jbX6_valley_0 G F h
theorem dX6_told_0 : decode cX6_told 0 = .ok (.iload_n 1, 1) := by decide +kernel
theorem dX6_told_1 : decode cX6_told 1 = .ok (.iconst 5, 1) := by decide +kernel
theorem dX6_told_2 : decode cX6_told 2 = .ok (.invokestatic 61, 3) := by decide +kernel
theorem dX6_told_5 : decode cX6_told 5 = .ok (.ifCond .eq 11, 3) := by decide +kernel
theorem dX6_told_8 : decode cX6_told 8 = .ok (.iload_n 2, 1) := by decide +kernel
theorem dX6_told_9 : decode cX6_told 9 = .ok (.iconst 4, 1) := by decide +kernel
theorem dX6_told_10 : decode cX6_told 10 = .ok (.invokestatic 61, 3) := by decide +kernel
theorem dX6_told_13 : decode cX6_told 13 = .ok (.ifCond .ne 5, 3) := by decide +kernel
theorem dX6_told_16 : decode cX6_told 16 = .ok (.iconst (-1), 1) := by decide +kernel
theorem dX6_told_17 : decode cX6_told 17 = .ok (.ireturn, 1) := by decide +kernel
theorem dX6_told_18 : decode cX6_told 18 = .ok (.aload_n 0, 1) := by decide +kernel
theorem dX6_told_19 : decode cX6_told 19 = .ok (.getfield 19, 3) := by decide +kernel
theorem dX6_told_22 : decode cX6_told 22 = .ok (.getfield 23, 3) := by decide +kernel
theorem dX6_told_25 : decode cX6_told 25 = .ok (.getfield 87, 3) := by decide +kernel
theorem dX6_told_28 : decode cX6_told 28 = .ok (.iload_n 2, 1) := by decide +kernel
theorem dX6_told_29 : decode cX6_told 29 = .ok (.aaload, 1) := by decide +kernel
theorem dX6_told_30 : decode cX6_told 30 = .ok (.iload_n 1, 1) := by decide +kernel
theorem dX6_told_31 : decode cX6_told 31 = .ok (.iaload, 1) := by decide +kernel
theorem dX6_told_32 : decode cX6_told 32 = .ok (.ireturn, 1) := by decide +kernel
def fX6_told (sh : SH) (I : IH) (this : Nat) (v1 : Int32) (v2 : Int32) : Option (Int32) :=
  if (fX6_isUnder v1 5) = 0 then (
    some (-1)) else
  if (fX6_isUnder v2 4) = 0 then (
    some (-1)) else
  (gR sh 6 this 0).bind fun x1 =>
  (gR sh 2 x1 8).bind fun x2 =>
  (gR sh 4 x2 0).bind fun x3 =>
  (aR sh 4 x3 v2).bind fun x4 =>
  (aI sh I 0 x4 v1).bind fun x5 =>
  some x5
set_option maxHeartbeats 4000000 in
set_option maxRecDepth 20000 in
theorem jbX6_told_0 (G : GT) {X : XT} {sh : SH} {I : IH} {L : LH} {n : Nat} {r : Int32}  {this : Nat}  {v1 : Int32} {v2 : Int32} (F : MF G X RX6 cX6_told 3 1 (some .int) "told") (h : fX6_told sh I this v1 v2 = some r) : J G X (QE G X (some (.int r)) sh I L n) 3 sh I L n 0 0 0 [(0, .ref this), (1, .int v1), (2, .int v2)] [] := by
  unfold fX6_told at h
  refine j_iload_n (pc := 0) (k0 := 1) F 1 rfl dX6_told_0 ?_
  refine j_iconst (pc := 1) F 5 dX6_told_1 (by decide) ?_
  refine j_callS1 (pc := 2) (As := [.int v1, .int 5]) (st := []) (e1 := 0) (es1 := 0) F clX6_61 cwX6_isUnder (ctX6_isUnder G) rfl rfl rfl rfl rfl rfl dX6_told_2 ?_
  refine j_if_eq (pc := 5) F 16 dX6_told_5 rfl (fun c => ?_) (fun c => ?_)
  · have h := iz_t c h
    refine j_iconst (pc := 16) F (-1) dX6_told_16 (by decide) ?_
    have g1 := Option.some.inj h
    subst g1
    exact j_iret (pc := 17) F dX6_told_17
  · have h := iz_f c h
    refine j_iload_n (pc := 8) (k0 := 2) F 2 rfl dX6_told_8 ?_
    refine j_iconst (pc := 9) F 4 dX6_told_9 (by decide) ?_
    refine j_callS1 (pc := 10) (As := [.int v2, .int 4]) (st := []) (e1 := 0) (es1 := 0) F clX6_61 cwX6_isUnder (ctX6_isUnder G) rfl rfl rfl rfl rfl rfl dX6_told_10 ?_
    refine j_if_ne (pc := 13) F 18 dX6_told_13 rfl (fun c => ?_) (fun c => ?_)
    · have h := iz_f c h
      refine j_aload_n (pc := 18) (k0 := 0) F 0 rfl dX6_told_18 ?_
      obtain ⟨x1, hx1, h⟩ := ob h
      refine j_getR (pc := 19) F flX6_19 hx1 dX6_told_19 ?_
      obtain ⟨x2, hx2, h⟩ := ob h
      refine j_getR (pc := 22) F flX6_23 hx2 dX6_told_22 ?_
      obtain ⟨x3, hx3, h⟩ := ob h
      refine j_getR (pc := 25) F flX6_87 hx3 dX6_told_25 ?_
      refine j_iload_n (pc := 28) (k0 := 2) F 2 rfl dX6_told_28 ?_
      obtain ⟨x4, hx4, h⟩ := ob h
      refine j_aald (pc := 29) F (Or.inr rfl) hx4 dX6_told_29 ?_
      refine j_iload_n (pc := 30) (k0 := 1) F 1 rfl dX6_told_30 ?_
      obtain ⟨x5, hx5, h⟩ := ob h
      refine j_iald (pc := 31) F hx5 dX6_told_31 ?_
      have g1 := Option.some.inj h
      subst g1
      exact j_iret (pc := 32) F dX6_told_32
    · have h := iz_t c h
      refine j_iconst (pc := 16) F (-1) dX6_told_16 (by decide) ?_
      have g1 := Option.some.inj h
      subst g1
      exact j_iret (pc := 17) F dX6_told_17
theorem ctX6_told (G : GT) {sh : SH} {I : IH} {L : LH} {n : Nat} {this : Nat} {v1 : Int32} {v2 : Int32} {r : Int32}  (h : fX6_told sh I this v1 v2 = some r) : Ct G yX6_told cX6_told 3 (some .int) 1 [.ref this, .int v1, .int v2] sh I L n (some (.int r)) sh I L n 0 0 := by
  refine ct_of (y := yX6_told) (by decide +kernel) rfl (fun X F => ?_)
  exact jbX6_told_0 G F h
theorem dX6_melts_0 : decode cX6_melts 0 = .ok (.iload_n 1, 1) := by decide +kernel
theorem dX6_melts_1 : decode cX6_melts 1 = .ok (.bipush 48, 2) := by decide +kernel
theorem dX6_melts_3 : decode cX6_melts 3 = .ok (.invokestatic 61, 3) := by decide +kernel
theorem dX6_melts_6 : decode cX6_melts 6 = .ok (.ifCond .ne 5, 3) := by decide +kernel
theorem dX6_melts_9 : decode cX6_melts 9 = .ok (.iconst (-1), 1) := by decide +kernel
theorem dX6_melts_10 : decode cX6_melts 10 = .ok (.ireturn, 1) := by decide +kernel
theorem dX6_melts_11 : decode cX6_melts 11 = .ok (.aload_n 0, 1) := by decide +kernel
theorem dX6_melts_12 : decode cX6_melts 12 = .ok (.getfield 19, 3) := by decide +kernel
theorem dX6_melts_15 : decode cX6_melts 15 = .ok (.iload_n 1, 1) := by decide +kernel
theorem dX6_melts_16 : decode cX6_melts 16 = .ok (.aload_n 0, 1) := by decide +kernel
theorem dX6_melts_17 : decode cX6_melts 17 = .ok (.getfield 19, 3) := by decide +kernel
theorem dX6_melts_20 : decode cX6_melts 20 = .ok (.getfield 65, 3) := by decide +kernel
theorem dX6_melts_23 : decode cX6_melts 23 = .ok (.iload_n 1, 1) := by decide +kernel
theorem dX6_melts_24 : decode cX6_melts 24 = .ok (.bipush 24, 2) := by decide +kernel
theorem dX6_melts_26 : decode cX6_melts 26 = .ok (.idiv, 1) := by decide +kernel
theorem dX6_melts_27 : decode cX6_melts 27 = .ok (.iaload, 1) := by decide +kernel
theorem dX6_melts_28 : decode cX6_melts 28 = .ok (.invokevirtual 91, 3) := by decide +kernel
theorem dX6_melts_31 : decode cX6_melts 31 = .ok (.ireturn, 1) := by decide +kernel
def fX6_melts (sh : SH) (I : IH) (this : Nat) (v1 : Int32) : Option (Int32) :=
  if (fX6_isUnder v1 48) = 0 then (
    some (-1)) else
  (gR sh 6 this 0).bind fun x1 =>
  (gR sh 6 this 0).bind fun x2 =>
  (gR sh 2 x2 1).bind fun x3 =>
  (aI sh I 0 x3 (v1 / 24)).bind fun x4 =>
  (ck sh 2 x1).bind fun u5 =>
  (fX2_melting sh I x1 v1 x4).bind fun x6 =>
  some x6
set_option maxHeartbeats 4000000 in
set_option maxRecDepth 20000 in
theorem jbX6_melts_0 (G : GT) {X : XT} {sh : SH} {I : IH} {L : LH} {n : Nat} {r : Int32}  {this : Nat}  {v1 : Int32} (F : MF G X RX6 cX6_melts 2 2 (some .int) "melts") (h : fX6_melts sh I this v1 = some r) : J G X (QE G X (some (.int r)) sh I L n) 2 sh I L n 0 0 0 [(0, .ref this), (1, .int v1)] [] := by
  unfold fX6_melts at h
  refine j_iload_n (pc := 0) (k0 := 1) F 1 rfl dX6_melts_0 ?_
  refine j_bipush (pc := 1) F 48 dX6_melts_1 (by decide) ?_
  refine j_callS1 (pc := 3) (As := [.int v1, .int 48]) (st := []) (e1 := 0) (es1 := 0) F clX6_61 cwX6_isUnder (ctX6_isUnder G) rfl rfl rfl rfl rfl rfl dX6_melts_3 ?_
  refine j_if_ne (pc := 6) F 11 dX6_melts_6 rfl (fun c => ?_) (fun c => ?_)
  · have h := iz_f c h
    refine j_aload_n (pc := 11) (k0 := 0) F 0 rfl dX6_melts_11 ?_
    obtain ⟨x1, hx1, h⟩ := ob h
    refine j_getR (pc := 12) F flX6_19 hx1 dX6_melts_12 ?_
    refine j_iload_n (pc := 15) (k0 := 1) F 1 rfl dX6_melts_15 ?_
    refine j_aload_n (pc := 16) (k0 := 0) F 0 rfl dX6_melts_16 ?_
    obtain ⟨x2, hx2, h⟩ := ob h
    refine j_getR (pc := 17) F flX6_19 hx2 dX6_melts_17 ?_
    obtain ⟨x3, hx3, h⟩ := ob h
    refine j_getR (pc := 20) F flX6_65 hx3 dX6_melts_20 ?_
    refine j_iload_n (pc := 23) (k0 := 1) F 1 rfl dX6_melts_23 ?_
    refine j_bipush (pc := 24) F 24 dX6_melts_24 (by decide) ?_
    refine j_idiv (pc := 26) F (by decide) dX6_melts_26 ?_
    obtain ⟨x4, hx4, h⟩ := ob h
    refine j_iald (pc := 27) F hx4 dX6_melts_27 ?_
    obtain ⟨u5, hu5, h⟩ := ob h
    have hou5 := ck_obt hu5
    obtain ⟨x6, hx6, h⟩ := ob h
    refine j_callV1 (pc := 28) (ci := 2) (As := [.int v1, .int x4]) (st := []) (e1 := 0) (es1 := 0) F clX6_91 cwX2_melting rfl hou5 (ctX2_melting G hx6) rfl rfl rfl rfl rfl rfl dX6_melts_28 ?_
    have g1 := Option.some.inj h
    subst g1
    exact j_iret (pc := 31) F dX6_melts_31
  · have h := iz_t c h
    refine j_iconst (pc := 9) F (-1) dX6_melts_9 (by decide) ?_
    have g1 := Option.some.inj h
    subst g1
    exact j_iret (pc := 10) F dX6_melts_10
theorem ctX6_melts (G : GT) {sh : SH} {I : IH} {L : LH} {n : Nat} {this : Nat} {v1 : Int32} {r : Int32}  (h : fX6_melts sh I this v1 = some r) : Ct G yX6_melts cX6_melts 2 (some .int) 2 [.ref this, .int v1] sh I L n (some (.int r)) sh I L n 0 0 := by
  refine ct_of (y := yX6_melts) (by decide +kernel) rfl (fun X F => ?_)
  exact jbX6_melts_0 G F h
