/-! decompiled: X7_mean, X7_pond, X7_wrong, X7_ones, X7_spare, X7_isTape, X7_judge, X7_copy, X7_image, X7_undo, X7_body, X7_plainLets, X7_letsAct, X7_plainTakes, X7_clockTakes -/
theorem dX7_mean_0 : decode cX7_mean 0 = .ok (.aload_n 0, 1) := by decide +kernel
theorem dX7_mean_1 : decode cX7_mean 1 = .ok (.iload_n 1, 1) := by decide +kernel
theorem dX7_mean_2 : decode cX7_mean 2 = .ok (.iconst 0, 1) := by decide +kernel
theorem dX7_mean_3 : decode cX7_mean 3 = .ok (.iconst 1, 1) := by decide +kernel
theorem dX7_mean_4 : decode cX7_mean 4 = .ok (.invokevirtual 215, 3) := by decide +kernel
theorem dX7_mean_7 : decode cX7_mean 7 = .ok (.ifCond .eq 13, 3) := by decide +kernel
theorem dX7_mean_10 : decode cX7_mean 10 = .ok (.aload_n 0, 1) := by decide +kernel
theorem dX7_mean_11 : decode cX7_mean 11 = .ok (.iload_n 2, 1) := by decide +kernel
theorem dX7_mean_12 : decode cX7_mean 12 = .ok (.iconst 0, 1) := by decide +kernel
theorem dX7_mean_13 : decode cX7_mean 13 = .ok (.iconst 1, 1) := by decide +kernel
theorem dX7_mean_14 : decode cX7_mean 14 = .ok (.invokevirtual 215, 3) := by decide +kernel
theorem dX7_mean_17 : decode cX7_mean 17 = .ok (.ifCond .ne 7, 3) := by decide +kernel
theorem dX7_mean_20 : decode cX7_mean 20 = .ok (.ldc2_w 332, 3) := by decide +kernel
theorem dX7_mean_23 : decode cX7_mean 23 = .ok (.lreturn, 1) := by decide +kernel
theorem dX7_mean_24 : decode cX7_mean 24 = .ok (.aload_n 0, 1) := by decide +kernel
theorem dX7_mean_25 : decode cX7_mean 25 = .ok (.invokevirtual 317, 3) := by decide +kernel
theorem dX7_mean_28 : decode cX7_mean 28 = .ok (.lconst 0, 1) := by decide +kernel
theorem dX7_mean_29 : decode cX7_mean 29 = .ok (.lstore_n 3, 1) := by decide +kernel
theorem dX7_mean_30 : decode cX7_mean 30 = .ok (.iconst 0, 1) := by decide +kernel
theorem dX7_mean_31 : decode cX7_mean 31 = .ok (.istore 5, 2) := by decide +kernel
theorem dX7_mean_33 : decode cX7_mean 33 = .ok (.iload 5, 2) := by decide +kernel
theorem dX7_mean_35 : decode cX7_mean 35 = .ok (.iconst 3, 1) := by decide +kernel
theorem dX7_mean_36 : decode cX7_mean 36 = .ok (.if_icmp .ge 129, 3) := by decide +kernel
theorem dX7_mean_39 : decode cX7_mean 39 = .ok (.iconst 0, 1) := by decide +kernel
theorem dX7_mean_40 : decode cX7_mean 40 = .ok (.istore 6, 2) := by decide +kernel
theorem dX7_mean_42 : decode cX7_mean 42 = .ok (.iload 6, 2) := by decide +kernel
theorem dX7_mean_44 : decode cX7_mean 44 = .ok (.iconst 3, 1) := by decide +kernel
theorem dX7_mean_45 : decode cX7_mean 45 = .ok (.if_icmp .ge 114, 3) := by decide +kernel
theorem dX7_mean_48 : decode cX7_mean 48 = .ok (.aload_n 0, 1) := by decide +kernel
theorem dX7_mean_49 : decode cX7_mean 49 = .ok (.iload 5, 2) := by decide +kernel
theorem dX7_mean_51 : decode cX7_mean 51 = .ok (.invokevirtual 334, 3) := by decide +kernel
theorem dX7_mean_54 : decode cX7_mean 54 = .ok (.i2l, 1) := by decide +kernel
theorem dX7_mean_55 : decode cX7_mean 55 = .ok (.aload_n 0, 1) := by decide +kernel
theorem dX7_mean_56 : decode cX7_mean 56 = .ok (.iload 6, 2) := by decide +kernel
theorem dX7_mean_58 : decode cX7_mean 58 = .ok (.invokevirtual 334, 3) := by decide +kernel
theorem dX7_mean_61 : decode cX7_mean 61 = .ok (.i2l, 1) := by decide +kernel
theorem dX7_mean_62 : decode cX7_mean 62 = .ok (.lmul, 1) := by decide +kernel
theorem dX7_mean_63 : decode cX7_mean 63 = .ok (.lstore 7, 2) := by decide +kernel
theorem dX7_mean_65 : decode cX7_mean 65 = .ok (.lload 7, 2) := by decide +kernel
theorem dX7_mean_67 : decode cX7_mean 67 = .ok (.lconst 0, 1) := by decide +kernel
theorem dX7_mean_68 : decode cX7_mean 68 = .ok (.lcmp, 1) := by decide +kernel
theorem dX7_mean_69 : decode cX7_mean 69 = .ok (.ifCond .ne 6, 3) := by decide +kernel
theorem dX7_mean_72 : decode cX7_mean 72 = .ok (.goto 81, 3) := by decide +kernel
theorem dX7_mean_75 : decode cX7_mean 75 = .ok (.iconst 0, 1) := by decide +kernel
theorem dX7_mean_76 : decode cX7_mean 76 = .ok (.istore 9, 2) := by decide +kernel
theorem dX7_mean_78 : decode cX7_mean 78 = .ok (.iload 9, 2) := by decide +kernel
theorem dX7_mean_80 : decode cX7_mean 80 = .ok (.bipush 48, 2) := by decide +kernel
theorem dX7_mean_82 : decode cX7_mean 82 = .ok (.if_icmp .ge 36, 3) := by decide +kernel
theorem dX7_mean_85 : decode cX7_mean 85 = .ok (.aload_n 0, 1) := by decide +kernel
theorem dX7_mean_86 : decode cX7_mean 86 = .ok (.getfield 93, 3) := by decide +kernel
theorem dX7_mean_89 : decode cX7_mean 89 = .ok (.iload 9, 2) := by decide +kernel
theorem dX7_mean_91 : decode cX7_mean 91 = .ok (.aload_n 0, 1) := by decide +kernel
theorem dX7_mean_92 : decode cX7_mean 92 = .ok (.iload 9, 2) := by decide +kernel
theorem dX7_mean_94 : decode cX7_mean 94 = .ok (.iload 9, 2) := by decide +kernel
theorem dX7_mean_96 : decode cX7_mean 96 = .ok (.bipush 24, 2) := by decide +kernel
theorem dX7_mean_98 : decode cX7_mean 98 = .ok (.if_icmp .ge 8, 3) := by decide +kernel
theorem dX7_mean_101 : decode cX7_mean 101 = .ok (.iload 5, 2) := by decide +kernel
theorem dX7_mean_103 : decode cX7_mean 103 = .ok (.goto 5, 3) := by decide +kernel
theorem dX7_mean_106 : decode cX7_mean 106 = .ok (.iload 6, 2) := by decide +kernel
theorem dX7_mean_108 : decode cX7_mean 108 = .ok (.invokevirtual 294, 3) := by decide +kernel
theorem dX7_mean_111 : decode cX7_mean 111 = .ok (.iastore, 1) := by decide +kernel
theorem dX7_mean_112 : decode cX7_mean 112 = .ok (.iinc 9 1, 3) := by decide +kernel
theorem dX7_mean_115 : decode cX7_mean 115 = .ok (.goto (-37), 3) := by decide +kernel
theorem dX7_mean_118 : decode cX7_mean 118 = .ok (.aload_n 0, 1) := by decide +kernel
theorem dX7_mean_119 : decode cX7_mean 119 = .ok (.invokevirtual 329, 3) := by decide +kernel
theorem dX7_mean_122 : decode cX7_mean 122 = .ok (.istore 9, 2) := by decide +kernel
theorem dX7_mean_124 : decode cX7_mean 124 = .ok (.lload_n 3, 1) := by decide +kernel
theorem dX7_mean_125 : decode cX7_mean 125 = .ok (.iload_n 1, 1) := by decide +kernel
theorem dX7_mean_126 : decode cX7_mean 126 = .ok (.ifCond .ne 12, 3) := by decide +kernel
theorem dX7_mean_129 : decode cX7_mean 129 = .ok (.lload 7, 2) := by decide +kernel
theorem dX7_mean_131 : decode cX7_mean 131 = .ok (.iload 9, 2) := by decide +kernel
theorem dX7_mean_133 : decode cX7_mean 133 = .ok (.i2l, 1) := by decide +kernel
theorem dX7_mean_134 : decode cX7_mean 134 = .ok (.lmul, 1) := by decide +kernel
theorem dX7_mean_135 : decode cX7_mean 135 = .ok (.goto 16, 3) := by decide +kernel
theorem dX7_mean_138 : decode cX7_mean 138 = .ok (.aload_n 0, 1) := by decide +kernel
theorem dX7_mean_139 : decode cX7_mean 139 = .ok (.invokevirtual 323, 3) := by decide +kernel
theorem dX7_mean_142 : decode cX7_mean 142 = .ok (.ifCond .ne 8, 3) := by decide +kernel
theorem dX7_mean_145 : decode cX7_mean 145 = .ok (.lload 7, 2) := by decide +kernel
theorem dX7_mean_147 : decode cX7_mean 147 = .ok (.goto 4, 3) := by decide +kernel
theorem dX7_mean_150 : decode cX7_mean 150 = .ok (.lconst 0, 1) := by decide +kernel
theorem dX7_mean_151 : decode cX7_mean 151 = .ok (.ladd, 1) := by decide +kernel
theorem dX7_mean_152 : decode cX7_mean 152 = .ok (.lstore_n 3, 1) := by decide +kernel
theorem dX7_mean_153 : decode cX7_mean 153 = .ok (.iinc 6 1, 3) := by decide +kernel
theorem dX7_mean_156 : decode cX7_mean 156 = .ok (.goto (-114), 3) := by decide +kernel
theorem dX7_mean_159 : decode cX7_mean 159 = .ok (.iinc 5 1, 3) := by decide +kernel
theorem dX7_mean_162 : decode cX7_mean 162 = .ok (.goto (-129), 3) := by decide +kernel
theorem dX7_mean_165 : decode cX7_mean 165 = .ok (.aload_n 0, 1) := by decide +kernel
theorem dX7_mean_166 : decode cX7_mean 166 = .ok (.lload_n 3, 1) := by decide +kernel
theorem dX7_mean_167 : decode cX7_mean 167 = .ok (.ldc2_w 338, 3) := by decide +kernel
theorem dX7_mean_170 : decode cX7_mean 170 = .ok (.invokevirtual 340, 3) := by decide +kernel
theorem dX7_mean_173 : decode cX7_mean 173 = .ok (.lstore 5, 2) := by decide +kernel
theorem dX7_mean_175 : decode cX7_mean 175 = .ok (.iload_n 2, 1) := by decide +kernel
theorem dX7_mean_176 : decode cX7_mean 176 = .ok (.ifCond .ne 10, 3) := by decide +kernel
theorem dX7_mean_179 : decode cX7_mean 179 = .ok (.lload_n 3, 1) := by decide +kernel
theorem dX7_mean_180 : decode cX7_mean 180 = .ok (.lload 5, 2) := by decide +kernel
theorem dX7_mean_182 : decode cX7_mean 182 = .ok (.ldiv, 1) := by decide +kernel
theorem dX7_mean_183 : decode cX7_mean 183 = .ok (.goto 9, 3) := by decide +kernel
theorem dX7_mean_186 : decode cX7_mean 186 = .ok (.ldc2_w 338, 3) := by decide +kernel
theorem dX7_mean_189 : decode cX7_mean 189 = .ok (.lload 5, 2) := by decide +kernel
theorem dX7_mean_191 : decode cX7_mean 191 = .ok (.ldiv, 1) := by decide +kernel
theorem dX7_mean_192 : decode cX7_mean 192 = .ok (.lreturn, 1) := by decide +kernel
def fX7_mean_b108 (sh : SH) (this : Nat) (k78 : (Int32 → Int32 → Int64 → Int32 → Int32 → Int64 → Int32 → IH → Option (Int64 × IH))) (v1 : Int32) (v2 : Int32) (v3 : Int64) (v5 : Int32) (v6 : Int32) (v7 : Int64) (v9 : Int32) (s0 : Nat) (s1 : Int32) (s3 : Int32) (s4 : Int32) (I : IH) : Option (Int64 × IH) :=
  b2 (fX7_meltOf sh this s3 s4 I) fun x1 i2 =>
  (sI sh i2 s0 s1 x1).bind fun i3 =>
  k78 v1 v2 v3 v5 v6 v7 (v9 + 1) i3
def fX7_mean_b78 (sh : SH) (this : Nat) (k118 : (Int32 → Int32 → Int64 → Int32 → Int32 → Int64 → IH → Option (Int64 × IH))) : Nat → Int32 → Int32 → Int64 → Int32 → Int32 → Int64 → Int32 → IH → Option (Int64 × IH)
  | 0, _, _, _, _, _, _, _, _ => none
  | fuel + 1, v1, v2, v3, v5, v6, v7, v9, I =>
    if 48 ≤ v9 then (
      k118 v1 v2 v3 v5 v6 v7 I) else
    (gR sh 7 this 27).bind fun x1 =>
    if 24 ≤ v9 then (
      fX7_mean_b108 sh this (fX7_mean_b78 sh this k118 fuel) v1 v2 v3 v5 v6 v7 v9 x1 v9 v9 v6 I) else
    fX7_mean_b108 sh this (fX7_mean_b78 sh this k118 fuel) v1 v2 v3 v5 v6 v7 v9 x1 v9 v9 v5 I
def fX7_mean_b118 (sh : SH) (this : Nat) (k42 : (Int32 → Int32 → Int64 → Int32 → Int32 → IH → Option (Int64 × IH))) (v1 : Int32) (v2 : Int32) (v3 : Int64) (v5 : Int32) (v6 : Int32) (v7 : Int64) (I : IH) : Option (Int64 × IH) :=
  b2 (fX7_worthNow sh this I) fun x1 i2 =>
  if v1 = 0 then (
    k42 v1 v2 (v3 + (v7 * x1.toInt64)) v5 (v6 + 1) i2) else
  (fX7_floods sh i2 this).bind fun x3 =>
  if x3 = 0 then (
    k42 v1 v2 (v3 + v7) v5 (v6 + 1) i2) else
  k42 v1 v2 (v3 + 0) v5 (v6 + 1) i2
def fX7_mean_b42 (sh : SH) (this : Nat) (k33 : (Int32 → Int32 → Int64 → Int32 → IH → Option (Int64 × IH))) : Nat → Int32 → Int32 → Int64 → Int32 → Int32 → IH → Option (Int64 × IH)
  | 0, _, _, _, _, _, _ => none
  | fuel + 1, v1, v2, v3, v5, v6, I =>
    if 3 ≤ v6 then (
      k33 v1 v2 v3 (v5 + 1) I) else
    (fX7_oddsOf sh I this v5).bind fun x1 =>
    (fX7_oddsOf sh I this v6).bind fun x2 =>
    if (lg_cmp (x1.toInt64 * x2.toInt64) 0) = 0 then (
      fX7_mean_b42 sh this k33 fuel v1 v2 v3 v5 (v6 + 1) I) else
    fX7_mean_b78 sh this (fX7_mean_b118 sh this (fX7_mean_b42 sh this k33 fuel)) 1000 v1 v2 v3 v5 v6 (x1.toInt64 * x2.toInt64) 0 I
def fX7_mean_b33 (sh : SH) (this : Nat) (k165 : (Int32 → Int64 → IH → Option (Int64 × IH))) : Nat → Int32 → Int32 → Int64 → Int32 → IH → Option (Int64 × IH)
  | 0, _, _, _, _, _ => none
  | fuel + 1, v1, v2, v3, v5, I =>
    if 3 ≤ v5 then (
      k165 v2 v3 I) else
    fX7_mean_b42 sh this (fX7_mean_b33 sh this k165 fuel) 1000 v1 v2 v3 v5 0 I
def fX7_mean_b165 (sh : SH) (this : Nat) (v2 : Int32) (v3 : Int64) (I : IH) : Option (Int64 × IH) :=
  (fX7_divisor this v3 100).bind fun x1 =>
  if v2 = 0 then (
    (dvL v3 x1).bind fun x3 =>
    some (x3, I)) else
  (dvL 100 x1).bind fun x2 =>
  some (x2, I)
def fX7_mean (sh : SH) (this : Nat) (v1 : Int32) (v2 : Int32) (I : IH) : Option (Int64 × IH) :=
  if (fX7_in v1 0 1) = 0 then (
    some ((-9223372036854775808), I)) else
  if (fX7_in v2 0 1) = 0 then (
    some ((-9223372036854775808), I)) else
  (fX7_asIs sh this I).bind fun i1 =>
  fX7_mean_b33 sh this (fX7_mean_b165 sh this) 1000 v1 v2 0 0 i1
set_option maxHeartbeats 4000000 in
set_option maxRecDepth 20000 in
theorem jbX7_mean_108 (G : GT) {X : XT} {sh : SH} {L : LH} {n : Nat} {r : Int64} {I' : IH}  {this : Nat} {k78 : (Int32 → Int32 → Int64 → Int32 → Int32 → Int64 → Int32 → IH → Option (Int64 × IH))} {v1 : Int32} {v2 : Int32} {v3 : Int64} {v5 : Int32} {v6 : Int32} {v7 : Int64} {v9 : Int32} {s0 : Nat} {s1 : Int32} {s3 : Int32} {s4 : Int32} {I : IH} (F : MF G X RX7 cX7_mean 10 4 (some .long) "mean") (hth : isO sh 7 this)
    (hk78 : ∀ {v1 : Int32} {v2 : Int32} {v3 : Int64} {v5 : Int32} {v6 : Int32} {v7 : Int64} {v9 : Int32} {I : IH}, k78 v1 v2 v3 v5 v6 v7 v9 I = some (r, I') → J G X (QE G X (some (.long r)) sh I' L n) 10 sh I L n 0 0 78 [(0, .ref this), (1, .int v1), (2, .int v2), (3, .long v3), (5, .int v5), (6, .int v6), (7, .long v7), (9, .int v9)] []) (h : fX7_mean_b108 sh this k78 v1 v2 v3 v5 v6 v7 v9 s0 s1 s3 s4 I = some (r, I')) : J G X (QE G X (some (.long r)) sh I' L n) 10 sh I L n 0 0 108 [(0, .ref this), (1, .int v1), (2, .int v2), (3, .long v3), (5, .int v5), (6, .int v6), (7, .long v7), (9, .int v9)] [.int s4, .int s3, .ref this, .int s1, .ref s0] := by
  unfold fX7_mean_b108 at h
  obtain ⟨x1, i2, hx1, h⟩ := b2_obt h
  refine j_callV1 (pc := 108) (ci := 7) (As := [.int s3, .int s4]) (st := [.int s1, .ref s0]) (e1 := 0) (es1 := 0) F clX7_294 cwX7_meltOf rfl hth (ctX7_meltOf G hth hx1) rfl rfl rfl rfl rfl rfl dX7_mean_108 ?_
  obtain ⟨i3, hi3, h⟩ := ob h
  refine j_iast (pc := 111) F hi3 dX7_mean_111 ?_
  refine j_iinc (pc := 112) (k1 := 9) (ls' := [(9, .int (v9 + 1)), (0, .ref this), (1, .int v1), (2, .int v2), (3, .long v3), (5, .int v5), (6, .int v6), (7, .long v7)]) F (v9 + 1) 7 rfl rfl rfl rfl dX7_mean_112 ?_
  refine j_goto (pc := 115) F 78 dX7_mean_115 rfl ?_
  refine j_sub [1, 2, 3, 4, 5, 6, 7, 0] rfl ?_
  exact hk78 h
set_option maxHeartbeats 4000000 in
set_option maxRecDepth 20000 in
theorem jbX7_mean_78 (G : GT) {X : XT} {sh : SH} {L : LH} {n : Nat} {r : Int64} {I' : IH}  {this : Nat} {k118 : (Int32 → Int32 → Int64 → Int32 → Int32 → Int64 → IH → Option (Int64 × IH))} (F : MF G X RX7 cX7_mean 10 4 (some .long) "mean") (hth : isO sh 7 this)
    (hk118 : ∀ {v1 : Int32} {v2 : Int32} {v3 : Int64} {v5 : Int32} {v6 : Int32} {v7 : Int64} {I : IH}, k118 v1 v2 v3 v5 v6 v7 I = some (r, I') → J G X (QE G X (some (.long r)) sh I' L n) 10 sh I L n 0 0 118 [(0, .ref this), (1, .int v1), (2, .int v2), (3, .long v3), (5, .int v5), (6, .int v6), (7, .long v7)] []) : ∀ (fuel : Nat) (v1 : Int32) (v2 : Int32) (v3 : Int64) (v5 : Int32) (v6 : Int32) (v7 : Int64) (v9 : Int32) (I : IH), fX7_mean_b78 sh this k118 fuel v1 v2 v3 v5 v6 v7 v9 I = some (r, I') → J G X (QE G X (some (.long r)) sh I' L n) 10 sh I L n 0 0 78 [(0, .ref this), (1, .int v1), (2, .int v2), (3, .long v3), (5, .int v5), (6, .int v6), (7, .long v7), (9, .int v9)] []
  | 0 => by
    intros
    rename_i h
    exact absurd (show none = some _ from h) (by intro z; cases z)
  | fuel + 1 => by
    intro v1 v2 v3 v5 v6 v7 v9 I h
    rw [fX7_mean_b78] at h
    refine j_iload (pc := 78) (k0 := 9) F 7 rfl dX7_mean_78 ?_
    refine j_bipush (pc := 80) F 48 dX7_mean_80 (by decide) ?_
    refine j_icmp_ge (pc := 82) F 118 dX7_mean_82 rfl (fun c => ?_) (fun c => ?_)
    · have h := iz_t c h
      refine j_sub [0, 1, 2, 3, 4, 5, 6] rfl ?_
      exact hk118 h
    · have h := iz_f c h
      refine j_aload_n (pc := 85) (k0 := 0) F 0 rfl dX7_mean_85 ?_
      obtain ⟨x1, hx1, h⟩ := ob h
      refine j_getR (pc := 86) F flX7_93 hx1 dX7_mean_86 ?_
      refine j_iload (pc := 89) (k0 := 9) F 7 rfl dX7_mean_89 ?_
      refine j_aload_n (pc := 91) (k0 := 0) F 0 rfl dX7_mean_91 ?_
      refine j_iload (pc := 92) (k0 := 9) F 7 rfl dX7_mean_92 ?_
      refine j_iload (pc := 94) (k0 := 9) F 7 rfl dX7_mean_94 ?_
      refine j_bipush (pc := 96) F 24 dX7_mean_96 (by decide) ?_
      refine j_icmp_ge (pc := 98) F 106 dX7_mean_98 rfl (fun c => ?_) (fun c => ?_)
      · have h := iz_t c h
        refine j_iload (pc := 106) (k0 := 6) F 5 rfl dX7_mean_106 ?_
        exact jbX7_mean_108 G F hth (fun h => jbX7_mean_78 G F hth hk118 fuel _ _ _ _ _ _ _ _ h) h
      · have h := iz_f c h
        refine j_iload (pc := 101) (k0 := 5) F 4 rfl dX7_mean_101 ?_
        refine j_goto (pc := 103) F 108 dX7_mean_103 rfl ?_
        exact jbX7_mean_108 G F hth (fun h => jbX7_mean_78 G F hth hk118 fuel _ _ _ _ _ _ _ _ h) h
set_option maxHeartbeats 4000000 in
set_option maxRecDepth 20000 in
theorem jbX7_mean_118 (G : GT) {X : XT} {sh : SH} {L : LH} {n : Nat} {r : Int64} {I' : IH}  {this : Nat} {k42 : (Int32 → Int32 → Int64 → Int32 → Int32 → IH → Option (Int64 × IH))} {v1 : Int32} {v2 : Int32} {v3 : Int64} {v5 : Int32} {v6 : Int32} {v7 : Int64} {I : IH} (F : MF G X RX7 cX7_mean 10 4 (some .long) "mean") (hth : isO sh 7 this)
    (hk42 : ∀ {v1 : Int32} {v2 : Int32} {v3 : Int64} {v5 : Int32} {v6 : Int32} {I : IH}, k42 v1 v2 v3 v5 v6 I = some (r, I') → J G X (QE G X (some (.long r)) sh I' L n) 10 sh I L n 0 0 42 [(0, .ref this), (1, .int v1), (2, .int v2), (3, .long v3), (5, .int v5), (6, .int v6)] []) (h : fX7_mean_b118 sh this k42 v1 v2 v3 v5 v6 v7 I = some (r, I')) : J G X (QE G X (some (.long r)) sh I' L n) 10 sh I L n 0 0 118 [(0, .ref this), (1, .int v1), (2, .int v2), (3, .long v3), (5, .int v5), (6, .int v6), (7, .long v7)] [] := by
  unfold fX7_mean_b118 at h
  refine j_aload_n (pc := 118) (k0 := 0) F 0 rfl dX7_mean_118 ?_
  obtain ⟨x1, i2, hx1, h⟩ := b2_obt h
  refine j_callV1 (pc := 119) (ci := 7) (As := []) (st := []) (e1 := 0) (es1 := 0) F clX7_329 cwX7_worthNow rfl hth (ctX7_worthNow G hth hx1) rfl rfl rfl rfl rfl rfl dX7_mean_119 ?_
  refine j_istore (pc := 122) (k1 := 9) (ls' := [(9, .int x1), (0, .ref this), (1, .int v1), (2, .int v2), (3, .long v3), (5, .int v5), (6, .int v6), (7, .long v7)]) F rfl rfl dX7_mean_122 ?_
  refine j_lload_n (pc := 124) (k0 := 3) F 4 rfl dX7_mean_124 ?_
  refine j_iload_n (pc := 125) (k0 := 1) F 2 rfl dX7_mean_125 ?_
  refine j_if_ne (pc := 126) F 138 dX7_mean_126 rfl (fun c => ?_) (fun c => ?_)
  · have h := iz_f c h
    refine j_aload_n (pc := 138) (k0 := 0) F 1 rfl dX7_mean_138 ?_
    obtain ⟨x3, hx3, h⟩ := ob h
    refine j_callV1 (pc := 139) (ci := 7) (As := []) (st := [.long v3]) (e1 := 0) (es1 := 0) F clX7_323 cwX7_floods rfl hth (ctX7_floods G hx3) rfl rfl rfl rfl rfl rfl dX7_mean_139 ?_
    refine j_if_ne (pc := 142) F 150 dX7_mean_142 rfl (fun c => ?_) (fun c => ?_)
    · have h := iz_f c h
      refine j_lconst (pc := 150) F 0 dX7_mean_150 (by decide) ?_
      refine j_ladd (pc := 151) F dX7_mean_151 ?_
      refine j_lstore_n (pc := 152) (k1 := 3) (ls' := [(3, .long (v3 + 0)), (9, .int x1), (0, .ref this), (1, .int v1), (2, .int v2), (5, .int v5), (6, .int v6), (7, .long v7)]) F rfl rfl rfl dX7_mean_152 ?_
      refine j_iinc (pc := 153) (k1 := 6) (ls' := [(6, .int (v6 + 1)), (3, .long (v3 + 0)), (9, .int x1), (0, .ref this), (1, .int v1), (2, .int v2), (5, .int v5), (7, .long v7)]) F (v6 + 1) 6 rfl rfl rfl rfl dX7_mean_153 ?_
      refine j_goto (pc := 156) F 42 dX7_mean_156 rfl ?_
      refine j_sub [3, 4, 5, 1, 6, 0] rfl ?_
      exact hk42 h
    · have h := iz_t c h
      refine j_lload (pc := 145) (k0 := 7) F 7 rfl dX7_mean_145 ?_
      refine j_goto (pc := 147) F 151 dX7_mean_147 rfl ?_
      refine j_ladd (pc := 151) F dX7_mean_151 ?_
      refine j_lstore_n (pc := 152) (k1 := 3) (ls' := [(3, .long (v3 + v7)), (9, .int x1), (0, .ref this), (1, .int v1), (2, .int v2), (5, .int v5), (6, .int v6), (7, .long v7)]) F rfl rfl rfl dX7_mean_152 ?_
      refine j_iinc (pc := 153) (k1 := 6) (ls' := [(6, .int (v6 + 1)), (3, .long (v3 + v7)), (9, .int x1), (0, .ref this), (1, .int v1), (2, .int v2), (5, .int v5), (7, .long v7)]) F (v6 + 1) 6 rfl rfl rfl rfl dX7_mean_153 ?_
      refine j_goto (pc := 156) F 42 dX7_mean_156 rfl ?_
      refine j_sub [3, 4, 5, 1, 6, 0] rfl ?_
      exact hk42 h
  · have h := iz_t c h
    refine j_lload (pc := 129) (k0 := 7) F 7 rfl dX7_mean_129 ?_
    refine j_iload (pc := 131) (k0 := 9) F 0 rfl dX7_mean_131 ?_
    refine j_i2l (pc := 133) F dX7_mean_133 ?_
    refine j_lmul (pc := 134) F dX7_mean_134 ?_
    refine j_goto (pc := 135) F 151 dX7_mean_135 rfl ?_
    refine j_ladd (pc := 151) F dX7_mean_151 ?_
    refine j_lstore_n (pc := 152) (k1 := 3) (ls' := [(3, .long (v3 + (v7 * x1.toInt64))), (9, .int x1), (0, .ref this), (1, .int v1), (2, .int v2), (5, .int v5), (6, .int v6), (7, .long v7)]) F rfl rfl rfl dX7_mean_152 ?_
    refine j_iinc (pc := 153) (k1 := 6) (ls' := [(6, .int (v6 + 1)), (3, .long (v3 + (v7 * x1.toInt64))), (9, .int x1), (0, .ref this), (1, .int v1), (2, .int v2), (5, .int v5), (7, .long v7)]) F (v6 + 1) 6 rfl rfl rfl rfl dX7_mean_153 ?_
    refine j_goto (pc := 156) F 42 dX7_mean_156 rfl ?_
    refine j_sub [3, 4, 5, 1, 6, 0] rfl ?_
    exact hk42 h
set_option maxHeartbeats 4000000 in
set_option maxRecDepth 20000 in
theorem jbX7_mean_42 (G : GT) {X : XT} {sh : SH} {L : LH} {n : Nat} {r : Int64} {I' : IH}  {this : Nat} {k33 : (Int32 → Int32 → Int64 → Int32 → IH → Option (Int64 × IH))} (F : MF G X RX7 cX7_mean 10 4 (some .long) "mean") (hth : isO sh 7 this)
    (hk33 : ∀ {v1 : Int32} {v2 : Int32} {v3 : Int64} {v5 : Int32} {I : IH}, k33 v1 v2 v3 v5 I = some (r, I') → J G X (QE G X (some (.long r)) sh I' L n) 10 sh I L n 0 0 33 [(0, .ref this), (1, .int v1), (2, .int v2), (3, .long v3), (5, .int v5)] []) : ∀ (fuel : Nat) (v1 : Int32) (v2 : Int32) (v3 : Int64) (v5 : Int32) (v6 : Int32) (I : IH), fX7_mean_b42 sh this k33 fuel v1 v2 v3 v5 v6 I = some (r, I') → J G X (QE G X (some (.long r)) sh I' L n) 10 sh I L n 0 0 42 [(0, .ref this), (1, .int v1), (2, .int v2), (3, .long v3), (5, .int v5), (6, .int v6)] []
  | 0 => by
    intros
    rename_i h
    exact absurd (show none = some _ from h) (by intro z; cases z)
  | fuel + 1 => by
    intro v1 v2 v3 v5 v6 I h
    rw [fX7_mean_b42] at h
    refine j_iload (pc := 42) (k0 := 6) F 5 rfl dX7_mean_42 ?_
    refine j_iconst (pc := 44) F 3 dX7_mean_44 (by decide) ?_
    refine j_icmp_ge (pc := 45) F 159 dX7_mean_45 rfl (fun c => ?_) (fun c => ?_)
    · have h := iz_t c h
      refine j_iinc (pc := 159) (k1 := 5) (ls' := [(5, .int (v5 + 1)), (0, .ref this), (1, .int v1), (2, .int v2), (3, .long v3), (6, .int v6)]) F (v5 + 1) 4 rfl rfl rfl rfl dX7_mean_159 ?_
      refine j_goto (pc := 162) F 33 dX7_mean_162 rfl ?_
      refine j_sub [1, 2, 3, 4, 0] rfl ?_
      exact hk33 h
    · have h := iz_f c h
      refine j_aload_n (pc := 48) (k0 := 0) F 0 rfl dX7_mean_48 ?_
      refine j_iload (pc := 49) (k0 := 5) F 4 rfl dX7_mean_49 ?_
      obtain ⟨x1, hx1, h⟩ := ob h
      refine j_callV1 (pc := 51) (ci := 7) (As := [.int v5]) (st := []) (e1 := 0) (es1 := 0) F clX7_334 cwX7_oddsOf rfl hth (ctX7_oddsOf G hx1) rfl rfl rfl rfl rfl rfl dX7_mean_51 ?_
      refine j_i2l (pc := 54) F dX7_mean_54 ?_
      refine j_aload_n (pc := 55) (k0 := 0) F 0 rfl dX7_mean_55 ?_
      refine j_iload (pc := 56) (k0 := 6) F 5 rfl dX7_mean_56 ?_
      obtain ⟨x2, hx2, h⟩ := ob h
      refine j_callV1 (pc := 58) (ci := 7) (As := [.int v6]) (st := [.long x1.toInt64]) (e1 := 0) (es1 := 0) F clX7_334 cwX7_oddsOf rfl hth (ctX7_oddsOf G hx2) rfl rfl rfl rfl rfl rfl dX7_mean_58 ?_
      refine j_i2l (pc := 61) F dX7_mean_61 ?_
      refine j_lmul (pc := 62) F dX7_mean_62 ?_
      refine j_lstore (pc := 63) (k1 := 7) (ls' := [(7, .long (x1.toInt64 * x2.toInt64)), (0, .ref this), (1, .int v1), (2, .int v2), (3, .long v3), (5, .int v5), (6, .int v6)]) F rfl rfl dX7_mean_63 ?_
      refine j_lload (pc := 65) (k0 := 7) F 0 rfl dX7_mean_65 ?_
      refine j_lconst (pc := 67) F 0 dX7_mean_67 (by decide) ?_
      refine j_lcmp (pc := 68) F dX7_mean_68 ?_
      refine j_if_ne (pc := 69) F 75 dX7_mean_69 rfl (fun c => ?_) (fun c => ?_)
      · have h := iz_f c h
        refine j_iconst (pc := 75) F 0 dX7_mean_75 (by decide) ?_
        refine j_istore (pc := 76) (k1 := 9) (ls' := [(9, .int 0), (7, .long (x1.toInt64 * x2.toInt64)), (0, .ref this), (1, .int v1), (2, .int v2), (3, .long v3), (5, .int v5), (6, .int v6)]) F rfl rfl dX7_mean_76 ?_
        refine j_sub [2, 3, 4, 5, 6, 7, 1, 0] rfl ?_
        exact jbX7_mean_78 G F hth (fun h => jbX7_mean_118 G F hth (fun h => jbX7_mean_42 G F hth hk33 fuel _ _ _ _ _ _ h) h) 1000 _ _ _ _ _ _ _ _ h
      · have h := iz_t c h
        refine j_goto (pc := 72) F 153 dX7_mean_72 rfl ?_
        refine j_iinc (pc := 153) (k1 := 6) (ls' := [(6, .int (v6 + 1)), (7, .long (x1.toInt64 * x2.toInt64)), (0, .ref this), (1, .int v1), (2, .int v2), (3, .long v3), (5, .int v5)]) F (v6 + 1) 6 rfl rfl rfl rfl dX7_mean_153 ?_
        refine j_goto (pc := 156) F 42 dX7_mean_156 rfl ?_
        refine j_sub [2, 3, 4, 5, 6, 0] rfl ?_
        exact jbX7_mean_42 G F hth hk33 fuel _ _ _ _ _ _ h
set_option maxHeartbeats 4000000 in
set_option maxRecDepth 20000 in
theorem jbX7_mean_33 (G : GT) {X : XT} {sh : SH} {L : LH} {n : Nat} {r : Int64} {I' : IH}  {this : Nat} {k165 : (Int32 → Int64 → IH → Option (Int64 × IH))} (F : MF G X RX7 cX7_mean 10 4 (some .long) "mean") (hth : isO sh 7 this)
    (hk165 : ∀ {v2 : Int32} {v3 : Int64} {I : IH}, k165 v2 v3 I = some (r, I') → J G X (QE G X (some (.long r)) sh I' L n) 10 sh I L n 0 0 165 [(0, .ref this), (2, .int v2), (3, .long v3)] []) : ∀ (fuel : Nat) (v1 : Int32) (v2 : Int32) (v3 : Int64) (v5 : Int32) (I : IH), fX7_mean_b33 sh this k165 fuel v1 v2 v3 v5 I = some (r, I') → J G X (QE G X (some (.long r)) sh I' L n) 10 sh I L n 0 0 33 [(0, .ref this), (1, .int v1), (2, .int v2), (3, .long v3), (5, .int v5)] []
  | 0 => by
    intros
    rename_i h
    exact absurd (show none = some _ from h) (by intro z; cases z)
  | fuel + 1 => by
    intro v1 v2 v3 v5 I h
    rw [fX7_mean_b33] at h
    refine j_iload (pc := 33) (k0 := 5) F 4 rfl dX7_mean_33 ?_
    refine j_iconst (pc := 35) F 3 dX7_mean_35 (by decide) ?_
    refine j_icmp_ge (pc := 36) F 165 dX7_mean_36 rfl (fun c => ?_) (fun c => ?_)
    · have h := iz_t c h
      refine j_sub [0, 2, 3] rfl ?_
      exact hk165 h
    · have h := iz_f c h
      refine j_iconst (pc := 39) F 0 dX7_mean_39 (by decide) ?_
      refine j_istore (pc := 40) (k1 := 6) (ls' := [(6, .int 0), (0, .ref this), (1, .int v1), (2, .int v2), (3, .long v3), (5, .int v5)]) F rfl rfl dX7_mean_40 ?_
      refine j_sub [1, 2, 3, 4, 5, 0] rfl ?_
      exact jbX7_mean_42 G F hth (fun h => jbX7_mean_33 G F hth hk165 fuel _ _ _ _ _ h) 1000 _ _ _ _ _ _ h
set_option maxHeartbeats 4000000 in
set_option maxRecDepth 20000 in
theorem jbX7_mean_165 (G : GT) {X : XT} {sh : SH} {L : LH} {n : Nat} {r : Int64} {I' : IH}  {this : Nat}  {v2 : Int32} {v3 : Int64} {I : IH} (F : MF G X RX7 cX7_mean 10 4 (some .long) "mean") (hth : isO sh 7 this) (h : fX7_mean_b165 sh this v2 v3 I = some (r, I')) : J G X (QE G X (some (.long r)) sh I' L n) 10 sh I L n 0 0 165 [(0, .ref this), (2, .int v2), (3, .long v3)] [] := by
  unfold fX7_mean_b165 at h
  refine j_aload_n (pc := 165) (k0 := 0) F 0 rfl dX7_mean_165 ?_
  refine j_lload_n (pc := 166) (k0 := 3) F 2 rfl dX7_mean_166 ?_
  refine j_ldc2 (pc := 167) (v := 100) F (good_of 1174 (by decide +kernel) (by decide +kernel)) dX7_mean_167 ?_
  obtain ⟨x1, hx1, h⟩ := ob h
  refine j_callV1 (pc := 170) (ci := 7) (As := [.long v3, .long 100]) (st := []) (e1 := 0) (es1 := 0) F clX7_340 cwX7_divisor rfl hth (ctX7_divisor G hx1) rfl rfl rfl rfl rfl rfl dX7_mean_170 ?_
  refine j_lstore (pc := 173) (k1 := 5) (ls' := [(5, .long x1), (0, .ref this), (2, .int v2), (3, .long v3)]) F rfl rfl dX7_mean_173 ?_
  refine j_iload_n (pc := 175) (k0 := 2) F 2 rfl dX7_mean_175 ?_
  refine j_if_ne (pc := 176) F 186 dX7_mean_176 rfl (fun c => ?_) (fun c => ?_)
  · have h := iz_f c h
    refine j_ldc2 (pc := 186) (v := 100) F (good_of 1174 (by decide +kernel) (by decide +kernel)) dX7_mean_186 ?_
    refine j_lload (pc := 189) (k0 := 5) F 0 rfl dX7_mean_189 ?_
    obtain ⟨x2, hx2, h⟩ := ob h
    obtain ⟨hx2n, hx2e⟩ := dvL_obt hx2
    refine j_ldiv (pc := 191) F hx2n dX7_mean_191 ?_
    rw [← hx2e]
    have g1 := Option.some.inj h
    obtain ⟨q3, g2⟩ := Prod.mk.inj g1
    subst q3
    subst g2
    exact j_lret (pc := 192) F dX7_mean_192
  · have h := iz_t c h
    refine j_lload_n (pc := 179) (k0 := 3) F 3 rfl dX7_mean_179 ?_
    refine j_lload (pc := 180) (k0 := 5) F 0 rfl dX7_mean_180 ?_
    obtain ⟨x3, hx3, h⟩ := ob h
    obtain ⟨hx3n, hx3e⟩ := dvL_obt hx3
    refine j_ldiv (pc := 182) F hx3n dX7_mean_182 ?_
    rw [← hx3e]
    refine j_goto (pc := 183) F 192 dX7_mean_183 rfl ?_
    have g1 := Option.some.inj h
    obtain ⟨q3, g2⟩ := Prod.mk.inj g1
    subst q3
    subst g2
    exact j_lret (pc := 192) F dX7_mean_192
set_option maxHeartbeats 4000000 in
set_option maxRecDepth 20000 in
theorem jbX7_mean_0 (G : GT) {X : XT} {sh : SH} {L : LH} {n : Nat} {r : Int64} {I' : IH}  {this : Nat}  {v1 : Int32} {v2 : Int32} {I : IH} (F : MF G X RX7 cX7_mean 10 4 (some .long) "mean") (hth : isO sh 7 this) (h : fX7_mean sh this v1 v2 I = some (r, I')) : J G X (QE G X (some (.long r)) sh I' L n) 10 sh I L n 0 0 0 [(0, .ref this), (1, .int v1), (2, .int v2)] [] := by
  unfold fX7_mean at h
  refine j_aload_n (pc := 0) (k0 := 0) F 0 rfl dX7_mean_0 ?_
  refine j_iload_n (pc := 1) (k0 := 1) F 1 rfl dX7_mean_1 ?_
  refine j_iconst (pc := 2) F 0 dX7_mean_2 (by decide) ?_
  refine j_iconst (pc := 3) F 1 dX7_mean_3 (by decide) ?_
  refine j_callV1 (pc := 4) (ci := 7) (As := [.int v1, .int 0, .int 1]) (st := []) (e1 := 0) (es1 := 0) F clX7_215 cwX7_in rfl hth (ctX7_in G) rfl rfl rfl rfl rfl rfl dX7_mean_4 ?_
  refine j_if_eq (pc := 7) F 20 dX7_mean_7 rfl (fun c => ?_) (fun c => ?_)
  · have h := iz_t c h
    refine j_ldc2 (pc := 20) (v := (-9223372036854775808)) F (good_of 1169 (by decide +kernel) (by decide +kernel)) dX7_mean_20 ?_
    have g1 := Option.some.inj h
    obtain ⟨q3, g2⟩ := Prod.mk.inj g1
    subst q3
    subst g2
    exact j_lret (pc := 23) F dX7_mean_23
  · have h := iz_f c h
    refine j_aload_n (pc := 10) (k0 := 0) F 0 rfl dX7_mean_10 ?_
    refine j_iload_n (pc := 11) (k0 := 2) F 2 rfl dX7_mean_11 ?_
    refine j_iconst (pc := 12) F 0 dX7_mean_12 (by decide) ?_
    refine j_iconst (pc := 13) F 1 dX7_mean_13 (by decide) ?_
    refine j_callV1 (pc := 14) (ci := 7) (As := [.int v2, .int 0, .int 1]) (st := []) (e1 := 0) (es1 := 0) F clX7_215 cwX7_in rfl hth (ctX7_in G) rfl rfl rfl rfl rfl rfl dX7_mean_14 ?_
    refine j_if_ne (pc := 17) F 24 dX7_mean_17 rfl (fun c => ?_) (fun c => ?_)
    · have h := iz_f c h
      refine j_aload_n (pc := 24) (k0 := 0) F 0 rfl dX7_mean_24 ?_
      obtain ⟨i1, hi1, h⟩ := ob h
      refine j_callV0 (pc := 25) (ci := 7) (As := []) (st := []) (e1 := 0) (es1 := 0) F clX7_317 cwX7_asIs rfl hth (ctX7_asIs G hth hi1) rfl rfl rfl rfl rfl rfl dX7_mean_25 ?_
      refine j_lconst (pc := 28) F 0 dX7_mean_28 (by decide) ?_
      refine j_lstore_n (pc := 29) (k1 := 3) (ls' := [(3, .long 0), (0, .ref this), (1, .int v1), (2, .int v2)]) F rfl rfl rfl dX7_mean_29 ?_
      refine j_iconst (pc := 30) F 0 dX7_mean_30 (by decide) ?_
      refine j_istore (pc := 31) (k1 := 5) (ls' := [(5, .int 0), (3, .long 0), (0, .ref this), (1, .int v1), (2, .int v2)]) F rfl rfl dX7_mean_31 ?_
      refine j_sub [2, 3, 4, 1, 0] rfl ?_
      exact jbX7_mean_33 G F hth (fun h => jbX7_mean_165 G F hth h) 1000 _ _ _ _ _ h
    · have h := iz_t c h
      refine j_ldc2 (pc := 20) (v := (-9223372036854775808)) F (good_of 1169 (by decide +kernel) (by decide +kernel)) dX7_mean_20 ?_
      have g1 := Option.some.inj h
      obtain ⟨q3, g2⟩ := Prod.mk.inj g1
      subst q3
      subst g2
      exact j_lret (pc := 23) F dX7_mean_23
theorem ctX7_mean (G : GT) {sh : SH} {I : IH} {L : LH} {n : Nat} {this : Nat} {v1 : Int32} {v2 : Int32} {r : Int64} {I' : IH}  (hth : isO sh 7 this) (h : fX7_mean sh this v1 v2 I = some (r, I')) : Ct G yX7_mean cX7_mean 10 (some .long) 4 [.ref this, .int v1, .int v2] sh I L n (some (.long r)) sh I' L n 0 0 := by
  refine ct_of (y := yX7_mean) (by decide +kernel) rfl (fun X F => ?_)
  exact jbX7_mean_0 G F hth h
theorem dX7_pond_0 : decode cX7_pond 0 = .ok (.aload_n 0, 1) := by decide +kernel
theorem dX7_pond_1 : decode cX7_pond 1 = .ok (.iload_n 1, 1) := by decide +kernel
theorem dX7_pond_2 : decode cX7_pond 2 = .ok (.iconst 1, 1) := by decide +kernel
theorem dX7_pond_3 : decode cX7_pond 3 = .ok (.bipush 50, 2) := by decide +kernel
theorem dX7_pond_5 : decode cX7_pond 5 = .ok (.invokevirtual 215, 3) := by decide +kernel
theorem dX7_pond_8 : decode cX7_pond 8 = .ok (.ifCond .ne 6, 3) := by decide +kernel
theorem dX7_pond_11 : decode cX7_pond 11 = .ok (.bipush (-2), 2) := by decide +kernel
theorem dX7_pond_13 : decode cX7_pond 13 = .ok (.ireturn, 1) := by decide +kernel
theorem dX7_pond_14 : decode cX7_pond 14 = .ok (.aload_n 0, 1) := by decide +kernel
theorem dX7_pond_15 : decode cX7_pond 15 = .ok (.invokevirtual 317, 3) := by decide +kernel
theorem dX7_pond_18 : decode cX7_pond 18 = .ok (.iconst 0, 1) := by decide +kernel
theorem dX7_pond_19 : decode cX7_pond 19 = .ok (.istore_n 2, 1) := by decide +kernel
theorem dX7_pond_20 : decode cX7_pond 20 = .ok (.iconst (-1), 1) := by decide +kernel
theorem dX7_pond_21 : decode cX7_pond 21 = .ok (.istore_n 3, 1) := by decide +kernel
theorem dX7_pond_22 : decode cX7_pond 22 = .ok (.iconst 0, 1) := by decide +kernel
theorem dX7_pond_23 : decode cX7_pond 23 = .ok (.istore 4, 2) := by decide +kernel
theorem dX7_pond_25 : decode cX7_pond 25 = .ok (.iload 4, 2) := by decide +kernel
theorem dX7_pond_27 : decode cX7_pond 27 = .ok (.aload_n 0, 1) := by decide +kernel
theorem dX7_pond_28 : decode cX7_pond 28 = .ok (.getfield 7, 3) := by decide +kernel
theorem dX7_pond_31 : decode cX7_pond 31 = .ok (.if_icmp .ge 52, 3) := by decide +kernel
theorem dX7_pond_34 : decode cX7_pond 34 = .ok (.aload_n 0, 1) := by decide +kernel
theorem dX7_pond_35 : decode cX7_pond 35 = .ok (.getfield 105, 3) := by decide +kernel
theorem dX7_pond_38 : decode cX7_pond 38 = .ok (.iload 4, 2) := by decide +kernel
theorem dX7_pond_40 : decode cX7_pond 40 = .ok (.dup2, 1) := by decide +kernel
theorem dX7_pond_41 : decode cX7_pond 41 = .ok (.iaload, 1) := by decide +kernel
theorem dX7_pond_42 : decode cX7_pond 42 = .ok (.iload_n 1, 1) := by decide +kernel
theorem dX7_pond_43 : decode cX7_pond 43 = .ok (.iadd, 1) := by decide +kernel
theorem dX7_pond_44 : decode cX7_pond 44 = .ok (.iastore, 1) := by decide +kernel
theorem dX7_pond_45 : decode cX7_pond 45 = .ok (.aload_n 0, 1) := by decide +kernel
theorem dX7_pond_46 : decode cX7_pond 46 = .ok (.invokevirtual 329, 3) := by decide +kernel
theorem dX7_pond_49 : decode cX7_pond 49 = .ok (.istore 5, 2) := by decide +kernel
theorem dX7_pond_51 : decode cX7_pond 51 = .ok (.aload_n 0, 1) := by decide +kernel
theorem dX7_pond_52 : decode cX7_pond 52 = .ok (.getfield 105, 3) := by decide +kernel
theorem dX7_pond_55 : decode cX7_pond 55 = .ok (.iload 4, 2) := by decide +kernel
theorem dX7_pond_57 : decode cX7_pond 57 = .ok (.dup2, 1) := by decide +kernel
theorem dX7_pond_58 : decode cX7_pond 58 = .ok (.iaload, 1) := by decide +kernel
theorem dX7_pond_59 : decode cX7_pond 59 = .ok (.iload_n 1, 1) := by decide +kernel
theorem dX7_pond_60 : decode cX7_pond 60 = .ok (.isub, 1) := by decide +kernel
theorem dX7_pond_61 : decode cX7_pond 61 = .ok (.iastore, 1) := by decide +kernel
theorem dX7_pond_62 : decode cX7_pond 62 = .ok (.iload 5, 2) := by decide +kernel
theorem dX7_pond_64 : decode cX7_pond 64 = .ok (.iload_n 3, 1) := by decide +kernel
theorem dX7_pond_65 : decode cX7_pond 65 = .ok (.if_icmp .gt 6, 3) := by decide +kernel
theorem dX7_pond_68 : decode cX7_pond 68 = .ok (.goto 9, 3) := by decide +kernel
theorem dX7_pond_71 : decode cX7_pond 71 = .ok (.iload 4, 2) := by decide +kernel
theorem dX7_pond_73 : decode cX7_pond 73 = .ok (.istore_n 2, 1) := by decide +kernel
theorem dX7_pond_74 : decode cX7_pond 74 = .ok (.iload 5, 2) := by decide +kernel
theorem dX7_pond_76 : decode cX7_pond 76 = .ok (.istore_n 3, 1) := by decide +kernel
theorem dX7_pond_77 : decode cX7_pond 77 = .ok (.iinc 4 1, 3) := by decide +kernel
theorem dX7_pond_80 : decode cX7_pond 80 = .ok (.goto (-55), 3) := by decide +kernel
theorem dX7_pond_83 : decode cX7_pond 83 = .ok (.iload_n 2, 1) := by decide +kernel
theorem dX7_pond_84 : decode cX7_pond 84 = .ok (.ireturn, 1) := by decide +kernel
def fX7_pond_b25 (sh : SH) (this : Nat) : Nat → Int32 → Int32 → Int32 → Int32 → IH → Option (Int32 × IH)
  | 0, _, _, _, _, _ => none
  | fuel + 1, v1, v2, v3, v4, I =>
    (gI sh I 7 this 0).bind fun x1 =>
    if x1 ≤ v4 then (
      some (v2, I)) else
    (gR sh 7 this 31).bind fun x2 =>
    (aI sh I 0 x2 v4).bind fun x3 =>
    (sI sh I x2 v4 (x3 + v1)).bind fun i4 =>
    b2 (fX7_worthNow sh this i4) fun x5 i6 =>
    (gR sh 7 this 31).bind fun x7 =>
    (aI sh i6 0 x7 v4).bind fun x8 =>
    (sI sh i6 x7 v4 (x8 - v1)).bind fun i9 =>
    if v3 < x5 then (
      fX7_pond_b25 sh this fuel v1 v4 x5 (v4 + 1) i9) else
    fX7_pond_b25 sh this fuel v1 v2 v3 (v4 + 1) i9
def fX7_pond (sh : SH) (this : Nat) (v1 : Int32) (I : IH) : Option (Int32 × IH) :=
  if (fX7_in v1 1 50) = 0 then (
    some ((-2), I)) else
  (fX7_asIs sh this I).bind fun i1 =>
  fX7_pond_b25 sh this 1000 v1 0 (-1) 0 i1
set_option maxHeartbeats 4000000 in
set_option maxRecDepth 20000 in
theorem jbX7_pond_25 (G : GT) {X : XT} {sh : SH} {L : LH} {n : Nat} {r : Int32} {I' : IH}  {this : Nat}  (F : MF G X RX7 cX7_pond 6 4 (some .int) "pond") (hth : isO sh 7 this) : ∀ (fuel : Nat) (v1 : Int32) (v2 : Int32) (v3 : Int32) (v4 : Int32) (I : IH), fX7_pond_b25 sh this fuel v1 v2 v3 v4 I = some (r, I') → J G X (QE G X (some (.int r)) sh I' L n) 6 sh I L n 0 0 25 [(0, .ref this), (1, .int v1), (2, .int v2), (3, .int v3), (4, .int v4)] []
  | 0 => by
    intros
    rename_i h
    exact absurd (show none = some _ from h) (by intro z; cases z)
  | fuel + 1 => by
    intro v1 v2 v3 v4 I h
    rw [fX7_pond_b25] at h
    refine j_iload (pc := 25) (k0 := 4) F 4 rfl dX7_pond_25 ?_
    refine j_aload_n (pc := 27) (k0 := 0) F 0 rfl dX7_pond_27 ?_
    obtain ⟨x1, hx1, h⟩ := ob h
    refine j_getI (pc := 28) F flX7_7 hx1 dX7_pond_28 ?_
    refine j_icmp_ge (pc := 31) F 83 dX7_pond_31 rfl (fun c => ?_) (fun c => ?_)
    · have h := iz_t c h
      refine j_iload_n (pc := 83) (k0 := 2) F 2 rfl dX7_pond_83 ?_
      have g1 := Option.some.inj h
      obtain ⟨q3, g2⟩ := Prod.mk.inj g1
      subst q3
      subst g2
      exact j_iret (pc := 84) F dX7_pond_84
    · have h := iz_f c h
      refine j_aload_n (pc := 34) (k0 := 0) F 0 rfl dX7_pond_34 ?_
      obtain ⟨x2, hx2, h⟩ := ob h
      refine j_getR (pc := 35) F flX7_105 hx2 dX7_pond_35 ?_
      refine j_iload (pc := 38) (k0 := 4) F 4 rfl dX7_pond_38 ?_
      refine j_dup2 (pc := 40) F dX7_pond_40 rfl rfl ?_
      obtain ⟨x3, hx3, h⟩ := ob h
      refine j_iald (pc := 41) F hx3 dX7_pond_41 ?_
      refine j_iload_n (pc := 42) (k0 := 1) F 1 rfl dX7_pond_42 ?_
      refine j_iadd (pc := 43) F dX7_pond_43 ?_
      obtain ⟨i4, hi4, h⟩ := ob h
      refine j_iast (pc := 44) F hi4 dX7_pond_44 ?_
      refine j_aload_n (pc := 45) (k0 := 0) F 0 rfl dX7_pond_45 ?_
      obtain ⟨x5, i6, hx5, h⟩ := b2_obt h
      refine j_callV1 (pc := 46) (ci := 7) (As := []) (st := []) (e1 := 0) (es1 := 0) F clX7_329 cwX7_worthNow rfl hth (ctX7_worthNow G hth hx5) rfl rfl rfl rfl rfl rfl dX7_pond_46 ?_
      refine j_istore (pc := 49) (k1 := 5) (ls' := [(5, .int x5), (0, .ref this), (1, .int v1), (2, .int v2), (3, .int v3), (4, .int v4)]) F rfl rfl dX7_pond_49 ?_
      refine j_aload_n (pc := 51) (k0 := 0) F 1 rfl dX7_pond_51 ?_
      obtain ⟨x7, hx7, h⟩ := ob h
      refine j_getR (pc := 52) F flX7_105 hx7 dX7_pond_52 ?_
      refine j_iload (pc := 55) (k0 := 4) F 5 rfl dX7_pond_55 ?_
      refine j_dup2 (pc := 57) F dX7_pond_57 rfl rfl ?_
      obtain ⟨x8, hx8, h⟩ := ob h
      refine j_iald (pc := 58) F hx8 dX7_pond_58 ?_
      refine j_iload_n (pc := 59) (k0 := 1) F 2 rfl dX7_pond_59 ?_
      refine j_isub (pc := 60) F dX7_pond_60 ?_
      obtain ⟨i9, hi9, h⟩ := ob h
      refine j_iast (pc := 61) F hi9 dX7_pond_61 ?_
      refine j_iload (pc := 62) (k0 := 5) F 0 rfl dX7_pond_62 ?_
      refine j_iload_n (pc := 64) (k0 := 3) F 4 rfl dX7_pond_64 ?_
      refine j_icmp_gt (pc := 65) F 71 dX7_pond_65 rfl (fun c => ?_) (fun c => ?_)
      · have h := iz_t c h
        refine j_iload (pc := 71) (k0 := 4) F 5 rfl dX7_pond_71 ?_
        refine j_istore_n (pc := 73) (k1 := 2) (ls' := [(2, .int v4), (5, .int x5), (0, .ref this), (1, .int v1), (3, .int v3), (4, .int v4)]) F rfl rfl rfl dX7_pond_73 ?_
        refine j_iload (pc := 74) (k0 := 5) F 1 rfl dX7_pond_74 ?_
        refine j_istore_n (pc := 76) (k1 := 3) (ls' := [(3, .int x5), (2, .int v4), (5, .int x5), (0, .ref this), (1, .int v1), (4, .int v4)]) F rfl rfl rfl dX7_pond_76 ?_
        refine j_iinc (pc := 77) (k1 := 4) (ls' := [(4, .int (v4 + 1)), (3, .int x5), (2, .int v4), (5, .int x5), (0, .ref this), (1, .int v1)]) F (v4 + 1) 5 rfl rfl rfl rfl dX7_pond_77 ?_
        refine j_goto (pc := 80) F 25 dX7_pond_80 rfl ?_
        refine j_sub [4, 5, 2, 1, 0] rfl ?_
        exact jbX7_pond_25 G F hth fuel _ _ _ _ _ h
      · have h := iz_f c h
        refine j_goto (pc := 68) F 77 dX7_pond_68 rfl ?_
        refine j_iinc (pc := 77) (k1 := 4) (ls' := [(4, .int (v4 + 1)), (5, .int x5), (0, .ref this), (1, .int v1), (2, .int v2), (3, .int v3)]) F (v4 + 1) 5 rfl rfl rfl rfl dX7_pond_77 ?_
        refine j_goto (pc := 80) F 25 dX7_pond_80 rfl ?_
        refine j_sub [2, 3, 4, 5, 0] rfl ?_
        exact jbX7_pond_25 G F hth fuel _ _ _ _ _ h
set_option maxHeartbeats 4000000 in
set_option maxRecDepth 20000 in
theorem jbX7_pond_0 (G : GT) {X : XT} {sh : SH} {L : LH} {n : Nat} {r : Int32} {I' : IH}  {this : Nat}  {v1 : Int32} {I : IH} (F : MF G X RX7 cX7_pond 6 4 (some .int) "pond") (hth : isO sh 7 this) (h : fX7_pond sh this v1 I = some (r, I')) : J G X (QE G X (some (.int r)) sh I' L n) 6 sh I L n 0 0 0 [(0, .ref this), (1, .int v1)] [] := by
  unfold fX7_pond at h
  refine j_aload_n (pc := 0) (k0 := 0) F 0 rfl dX7_pond_0 ?_
  refine j_iload_n (pc := 1) (k0 := 1) F 1 rfl dX7_pond_1 ?_
  refine j_iconst (pc := 2) F 1 dX7_pond_2 (by decide) ?_
  refine j_bipush (pc := 3) F 50 dX7_pond_3 (by decide) ?_
  refine j_callV1 (pc := 5) (ci := 7) (As := [.int v1, .int 1, .int 50]) (st := []) (e1 := 0) (es1 := 0) F clX7_215 cwX7_in rfl hth (ctX7_in G) rfl rfl rfl rfl rfl rfl dX7_pond_5 ?_
  refine j_if_ne (pc := 8) F 14 dX7_pond_8 rfl (fun c => ?_) (fun c => ?_)
  · have h := iz_f c h
    refine j_aload_n (pc := 14) (k0 := 0) F 0 rfl dX7_pond_14 ?_
    obtain ⟨i1, hi1, h⟩ := ob h
    refine j_callV0 (pc := 15) (ci := 7) (As := []) (st := []) (e1 := 0) (es1 := 0) F clX7_317 cwX7_asIs rfl hth (ctX7_asIs G hth hi1) rfl rfl rfl rfl rfl rfl dX7_pond_15 ?_
    refine j_iconst (pc := 18) F 0 dX7_pond_18 (by decide) ?_
    refine j_istore_n (pc := 19) (k1 := 2) (ls' := [(2, .int 0), (0, .ref this), (1, .int v1)]) F rfl rfl rfl dX7_pond_19 ?_
    refine j_iconst (pc := 20) F (-1) dX7_pond_20 (by decide) ?_
    refine j_istore_n (pc := 21) (k1 := 3) (ls' := [(3, .int (-1)), (2, .int 0), (0, .ref this), (1, .int v1)]) F rfl rfl rfl dX7_pond_21 ?_
    refine j_iconst (pc := 22) F 0 dX7_pond_22 (by decide) ?_
    refine j_istore (pc := 23) (k1 := 4) (ls' := [(4, .int 0), (3, .int (-1)), (2, .int 0), (0, .ref this), (1, .int v1)]) F rfl rfl dX7_pond_23 ?_
    refine j_sub [3, 4, 2, 1, 0] rfl ?_
    exact jbX7_pond_25 G F hth 1000 _ _ _ _ _ h
  · have h := iz_t c h
    refine j_bipush (pc := 11) F (-2) dX7_pond_11 (by decide) ?_
    have g1 := Option.some.inj h
    obtain ⟨q3, g2⟩ := Prod.mk.inj g1
    subst q3
    subst g2
    exact j_iret (pc := 13) F dX7_pond_13
theorem ctX7_pond (G : GT) {sh : SH} {I : IH} {L : LH} {n : Nat} {this : Nat} {v1 : Int32} {r : Int32} {I' : IH}  (hth : isO sh 7 this) (h : fX7_pond sh this v1 I = some (r, I')) : Ct G yX7_pond cX7_pond 6 (some .int) 4 [.ref this, .int v1] sh I L n (some (.int r)) sh I' L n 0 0 := by
  refine ct_of (y := yX7_pond) (by decide +kernel) rfl (fun X F => ?_)
  exact jbX7_pond_0 G F hth h
theorem dX7_wrong_0 : decode cX7_wrong 0 = .ok (.aload_n 0, 1) := by decide +kernel
theorem dX7_wrong_1 : decode cX7_wrong 1 = .ok (.invokevirtual 317, 3) := by decide +kernel
theorem dX7_wrong_4 : decode cX7_wrong 4 = .ok (.aload_n 0, 1) := by decide +kernel
theorem dX7_wrong_5 : decode cX7_wrong 5 = .ok (.invokevirtual 329, 3) := by decide +kernel
theorem dX7_wrong_8 : decode cX7_wrong 8 = .ok (.istore_n 1, 1) := by decide +kernel
theorem dX7_wrong_9 : decode cX7_wrong 9 = .ok (.iconst 0, 1) := by decide +kernel
theorem dX7_wrong_10 : decode cX7_wrong 10 = .ok (.istore_n 2, 1) := by decide +kernel
theorem dX7_wrong_11 : decode cX7_wrong 11 = .ok (.iload_n 2, 1) := by decide +kernel
theorem dX7_wrong_12 : decode cX7_wrong 12 = .ok (.iconst 5, 1) := by decide +kernel
theorem dX7_wrong_13 : decode cX7_wrong 13 = .ok (.if_icmp .ge 19, 3) := by decide +kernel
theorem dX7_wrong_16 : decode cX7_wrong 16 = .ok (.aload_n 0, 1) := by decide +kernel
theorem dX7_wrong_17 : decode cX7_wrong 17 = .ok (.getfield 96, 3) := by decide +kernel
theorem dX7_wrong_20 : decode cX7_wrong 20 = .ok (.iload_n 2, 1) := by decide +kernel
theorem dX7_wrong_21 : decode cX7_wrong 21 = .ok (.dup2, 1) := by decide +kernel
theorem dX7_wrong_22 : decode cX7_wrong 22 = .ok (.iaload, 1) := by decide +kernel
theorem dX7_wrong_23 : decode cX7_wrong 23 = .ok (.iconst 1, 1) := by decide +kernel
theorem dX7_wrong_24 : decode cX7_wrong 24 = .ok (.iadd, 1) := by decide +kernel
theorem dX7_wrong_25 : decode cX7_wrong 25 = .ok (.iastore, 1) := by decide +kernel
theorem dX7_wrong_26 : decode cX7_wrong 26 = .ok (.iinc 2 1, 3) := by decide +kernel
theorem dX7_wrong_29 : decode cX7_wrong 29 = .ok (.goto (-18), 3) := by decide +kernel
theorem dX7_wrong_32 : decode cX7_wrong 32 = .ok (.iload_n 1, 1) := by decide +kernel
theorem dX7_wrong_33 : decode cX7_wrong 33 = .ok (.aload_n 0, 1) := by decide +kernel
theorem dX7_wrong_34 : decode cX7_wrong 34 = .ok (.invokevirtual 329, 3) := by decide +kernel
theorem dX7_wrong_37 : decode cX7_wrong 37 = .ok (.isub, 1) := by decide +kernel
theorem dX7_wrong_38 : decode cX7_wrong 38 = .ok (.ireturn, 1) := by decide +kernel
def fX7_wrong_b11 (sh : SH) (this : Nat) (k32 : (Int32 → IH → Option (Int32 × IH))) : Nat → Int32 → Int32 → IH → Option (Int32 × IH)
  | 0, _, _, _ => none
  | fuel + 1, v1, v2, I =>
    if 5 ≤ v2 then (
      k32 v1 I) else
    (gR sh 7 this 28).bind fun x1 =>
    (aI sh I 0 x1 v2).bind fun x2 =>
    (sI sh I x1 v2 (x2 + 1)).bind fun i3 =>
    fX7_wrong_b11 sh this k32 fuel v1 (v2 + 1) i3
def fX7_wrong_b32 (sh : SH) (this : Nat) (v1 : Int32) (I : IH) : Option (Int32 × IH) :=
  b2 (fX7_worthNow sh this I) fun x1 i2 =>
  some ((v1 - x1), i2)
def fX7_wrong (sh : SH) (this : Nat) (I : IH) : Option (Int32 × IH) :=
  (fX7_asIs sh this I).bind fun i1 =>
  b2 (fX7_worthNow sh this i1) fun x2 i3 =>
  fX7_wrong_b11 sh this (fX7_wrong_b32 sh this) 1000 x2 0 i3
set_option maxHeartbeats 4000000 in
set_option maxRecDepth 20000 in
theorem jbX7_wrong_11 (G : GT) {X : XT} {sh : SH} {L : LH} {n : Nat} {r : Int32} {I' : IH}  {this : Nat} {k32 : (Int32 → IH → Option (Int32 × IH))} (F : MF G X RX7 cX7_wrong 3 4 (some .int) "wrong") (hth : isO sh 7 this)
    (hk32 : ∀ {v1 : Int32} {I : IH}, k32 v1 I = some (r, I') → J G X (QE G X (some (.int r)) sh I' L n) 3 sh I L n 0 0 32 [(0, .ref this), (1, .int v1)] []) : ∀ (fuel : Nat) (v1 : Int32) (v2 : Int32) (I : IH), fX7_wrong_b11 sh this k32 fuel v1 v2 I = some (r, I') → J G X (QE G X (some (.int r)) sh I' L n) 3 sh I L n 0 0 11 [(0, .ref this), (1, .int v1), (2, .int v2)] []
  | 0 => by
    intros
    rename_i h
    exact absurd (show none = some _ from h) (by intro z; cases z)
  | fuel + 1 => by
    intro v1 v2 I h
    rw [fX7_wrong_b11] at h
    refine j_iload_n (pc := 11) (k0 := 2) F 2 rfl dX7_wrong_11 ?_
    refine j_iconst (pc := 12) F 5 dX7_wrong_12 (by decide) ?_
    refine j_icmp_ge (pc := 13) F 32 dX7_wrong_13 rfl (fun c => ?_) (fun c => ?_)
    · have h := iz_t c h
      refine j_sub [0, 1] rfl ?_
      exact hk32 h
    · have h := iz_f c h
      refine j_aload_n (pc := 16) (k0 := 0) F 0 rfl dX7_wrong_16 ?_
      obtain ⟨x1, hx1, h⟩ := ob h
      refine j_getR (pc := 17) F flX7_96 hx1 dX7_wrong_17 ?_
      refine j_iload_n (pc := 20) (k0 := 2) F 2 rfl dX7_wrong_20 ?_
      refine j_dup2 (pc := 21) F dX7_wrong_21 rfl rfl ?_
      obtain ⟨x2, hx2, h⟩ := ob h
      refine j_iald (pc := 22) F hx2 dX7_wrong_22 ?_
      refine j_iconst (pc := 23) F 1 dX7_wrong_23 (by decide) ?_
      refine j_iadd (pc := 24) F dX7_wrong_24 ?_
      obtain ⟨i3, hi3, h⟩ := ob h
      refine j_iast (pc := 25) F hi3 dX7_wrong_25 ?_
      refine j_iinc (pc := 26) (k1 := 2) (ls' := [(2, .int (v2 + 1)), (0, .ref this), (1, .int v1)]) F (v2 + 1) 2 rfl rfl rfl rfl dX7_wrong_26 ?_
      refine j_goto (pc := 29) F 11 dX7_wrong_29 rfl ?_
      refine j_sub [1, 2, 0] rfl ?_
      exact jbX7_wrong_11 G F hth hk32 fuel _ _ _ h
set_option maxHeartbeats 4000000 in
set_option maxRecDepth 20000 in
theorem jbX7_wrong_32 (G : GT) {X : XT} {sh : SH} {L : LH} {n : Nat} {r : Int32} {I' : IH}  {this : Nat}  {v1 : Int32} {I : IH} (F : MF G X RX7 cX7_wrong 3 4 (some .int) "wrong") (hth : isO sh 7 this) (h : fX7_wrong_b32 sh this v1 I = some (r, I')) : J G X (QE G X (some (.int r)) sh I' L n) 3 sh I L n 0 0 32 [(0, .ref this), (1, .int v1)] [] := by
  unfold fX7_wrong_b32 at h
  refine j_iload_n (pc := 32) (k0 := 1) F 1 rfl dX7_wrong_32 ?_
  refine j_aload_n (pc := 33) (k0 := 0) F 0 rfl dX7_wrong_33 ?_
  obtain ⟨x1, i2, hx1, h⟩ := b2_obt h
  refine j_callV1 (pc := 34) (ci := 7) (As := []) (st := [.int v1]) (e1 := 0) (es1 := 0) F clX7_329 cwX7_worthNow rfl hth (ctX7_worthNow G hth hx1) rfl rfl rfl rfl rfl rfl dX7_wrong_34 ?_
  refine j_isub (pc := 37) F dX7_wrong_37 ?_
  have g1 := Option.some.inj h
  obtain ⟨q3, g2⟩ := Prod.mk.inj g1
  subst q3
  subst g2
  exact j_iret (pc := 38) F dX7_wrong_38
set_option maxHeartbeats 4000000 in
set_option maxRecDepth 20000 in
theorem jbX7_wrong_0 (G : GT) {X : XT} {sh : SH} {L : LH} {n : Nat} {r : Int32} {I' : IH}  {this : Nat}  {I : IH} (F : MF G X RX7 cX7_wrong 3 4 (some .int) "wrong") (hth : isO sh 7 this) (h : fX7_wrong sh this I = some (r, I')) : J G X (QE G X (some (.int r)) sh I' L n) 3 sh I L n 0 0 0 [(0, .ref this)] [] := by
  unfold fX7_wrong at h
  refine j_aload_n (pc := 0) (k0 := 0) F 0 rfl dX7_wrong_0 ?_
  obtain ⟨i1, hi1, h⟩ := ob h
  refine j_callV0 (pc := 1) (ci := 7) (As := []) (st := []) (e1 := 0) (es1 := 0) F clX7_317 cwX7_asIs rfl hth (ctX7_asIs G hth hi1) rfl rfl rfl rfl rfl rfl dX7_wrong_1 ?_
  refine j_aload_n (pc := 4) (k0 := 0) F 0 rfl dX7_wrong_4 ?_
  obtain ⟨x2, i3, hx2, h⟩ := b2_obt h
  refine j_callV1 (pc := 5) (ci := 7) (As := []) (st := []) (e1 := 0) (es1 := 0) F clX7_329 cwX7_worthNow rfl hth (ctX7_worthNow G hth hx2) rfl rfl rfl rfl rfl rfl dX7_wrong_5 ?_
  refine j_istore_n (pc := 8) (k1 := 1) (ls' := [(1, .int x2), (0, .ref this)]) F rfl rfl rfl dX7_wrong_8 ?_
  refine j_iconst (pc := 9) F 0 dX7_wrong_9 (by decide) ?_
  refine j_istore_n (pc := 10) (k1 := 2) (ls' := [(2, .int 0), (1, .int x2), (0, .ref this)]) F rfl rfl rfl dX7_wrong_10 ?_
  refine j_sub [2, 1, 0] rfl ?_
  exact jbX7_wrong_11 G F hth (fun h => jbX7_wrong_32 G F hth h) 1000 _ _ _ h
theorem ctX7_wrong (G : GT) {sh : SH} {I : IH} {L : LH} {n : Nat} {this : Nat} {r : Int32} {I' : IH}  (hth : isO sh 7 this) (h : fX7_wrong sh this I = some (r, I')) : Ct G yX7_wrong cX7_wrong 3 (some .int) 4 [.ref this] sh I L n (some (.int r)) sh I' L n 0 0 := by
  refine ct_of (y := yX7_wrong) (by decide +kernel) rfl (fun X F => ?_)
  exact jbX7_wrong_0 G F hth h
theorem dX7_ones_0 : decode cX7_ones 0 = .ok (.iconst 0, 1) := by decide +kernel
theorem dX7_ones_1 : decode cX7_ones 1 = .ok (.istore_n 2, 1) := by decide +kernel
theorem dX7_ones_2 : decode cX7_ones 2 = .ok (.iload_n 1, 1) := by decide +kernel
theorem dX7_ones_3 : decode cX7_ones 3 = .ok (.istore_n 3, 1) := by decide +kernel
theorem dX7_ones_4 : decode cX7_ones 4 = .ok (.iload_n 3, 1) := by decide +kernel
theorem dX7_ones_5 : decode cX7_ones 5 = .ok (.ifCond .eq 15, 3) := by decide +kernel
theorem dX7_ones_8 : decode cX7_ones 8 = .ok (.iinc 2 1, 3) := by decide +kernel
theorem dX7_ones_11 : decode cX7_ones 11 = .ok (.iload_n 3, 1) := by decide +kernel
theorem dX7_ones_12 : decode cX7_ones 12 = .ok (.iload_n 3, 1) := by decide +kernel
theorem dX7_ones_13 : decode cX7_ones 13 = .ok (.iconst 1, 1) := by decide +kernel
theorem dX7_ones_14 : decode cX7_ones 14 = .ok (.isub, 1) := by decide +kernel
theorem dX7_ones_15 : decode cX7_ones 15 = .ok (.iand, 1) := by decide +kernel
theorem dX7_ones_16 : decode cX7_ones 16 = .ok (.istore_n 3, 1) := by decide +kernel
theorem dX7_ones_17 : decode cX7_ones 17 = .ok (.goto (-13), 3) := by decide +kernel
theorem dX7_ones_20 : decode cX7_ones 20 = .ok (.iload_n 2, 1) := by decide +kernel
theorem dX7_ones_21 : decode cX7_ones 21 = .ok (.ireturn, 1) := by decide +kernel
def fX7_ones_b4 (this : Nat) : Nat → Int32 → Int32 → Option (Int32)
  | 0, _, _ => none
  | fuel + 1, v2, v3 =>
    if v3 = 0 then (
      some v2) else
    fX7_ones_b4 this fuel (v2 + 1) (v3 &&& (v3 - 1))
def fX7_ones (this : Nat) (v1 : Int32) : Option (Int32) :=
  fX7_ones_b4 this 1000 0 v1
set_option maxHeartbeats 4000000 in
set_option maxRecDepth 20000 in
theorem jbX7_ones_4 (G : GT) {X : XT} {sh : SH} {I : IH} {L : LH} {n : Nat} {r : Int32}  {this : Nat}  (F : MF G X RX7 cX7_ones 4 0 (some .int) "ones") : ∀ (fuel : Nat) (v2 : Int32) (v3 : Int32), fX7_ones_b4 this fuel v2 v3 = some r → J G X (QE G X (some (.int r)) sh I L n) 4 sh I L n 0 0 4 [(0, .ref this), (2, .int v2), (3, .int v3)] []
  | 0 => by
    intros
    rename_i h
    exact absurd (show none = some _ from h) (by intro z; cases z)
  | fuel + 1 => by
    intro v2 v3 h
    rw [fX7_ones_b4] at h
    refine j_iload_n (pc := 4) (k0 := 3) F 2 rfl dX7_ones_4 ?_
    refine j_if_eq (pc := 5) F 20 dX7_ones_5 rfl (fun c => ?_) (fun c => ?_)
    · have h := iz_t c h
      refine j_iload_n (pc := 20) (k0 := 2) F 1 rfl dX7_ones_20 ?_
      have g1 := Option.some.inj h
      subst g1
      exact j_iret (pc := 21) F dX7_ones_21
    · have h := iz_f c h
      refine j_iinc (pc := 8) (k1 := 2) (ls' := [(2, .int (v2 + 1)), (0, .ref this), (3, .int v3)]) F (v2 + 1) 1 rfl rfl rfl rfl dX7_ones_8 ?_
      refine j_iload_n (pc := 11) (k0 := 3) F 2 rfl dX7_ones_11 ?_
      refine j_iload_n (pc := 12) (k0 := 3) F 2 rfl dX7_ones_12 ?_
      refine j_iconst (pc := 13) F 1 dX7_ones_13 (by decide) ?_
      refine j_isub (pc := 14) F dX7_ones_14 ?_
      refine j_iand (pc := 15) F dX7_ones_15 ?_
      refine j_istore_n (pc := 16) (k1 := 3) (ls' := [(3, .int (v3 &&& (v3 - 1))), (2, .int (v2 + 1)), (0, .ref this)]) F rfl rfl rfl dX7_ones_16 ?_
      refine j_goto (pc := 17) F 4 dX7_ones_17 rfl ?_
      refine j_sub [2, 1, 0] rfl ?_
      exact jbX7_ones_4 G F fuel _ _ h
set_option maxHeartbeats 4000000 in
set_option maxRecDepth 20000 in
theorem jbX7_ones_0 (G : GT) {X : XT} {sh : SH} {I : IH} {L : LH} {n : Nat} {r : Int32}  {this : Nat}  {v1 : Int32} (F : MF G X RX7 cX7_ones 4 0 (some .int) "ones") (h : fX7_ones this v1 = some r) : J G X (QE G X (some (.int r)) sh I L n) 4 sh I L n 0 0 0 [(0, .ref this), (1, .int v1)] [] := by
  unfold fX7_ones at h
  refine j_iconst (pc := 0) F 0 dX7_ones_0 (by decide) ?_
  refine j_istore_n (pc := 1) (k1 := 2) (ls' := [(2, .int 0), (0, .ref this), (1, .int v1)]) F rfl rfl rfl dX7_ones_1 ?_
  refine j_iload_n (pc := 2) (k0 := 1) F 2 rfl dX7_ones_2 ?_
  refine j_istore_n (pc := 3) (k1 := 3) (ls' := [(3, .int v1), (2, .int 0), (0, .ref this), (1, .int v1)]) F rfl rfl rfl dX7_ones_3 ?_
  refine j_sub [2, 1, 0] rfl ?_
  exact jbX7_ones_4 G F 1000 _ _ h
theorem ctX7_ones (G : GT) {sh : SH} {I : IH} {L : LH} {n : Nat} {this : Nat} {v1 : Int32} {r : Int32}  (h : fX7_ones this v1 = some r) : Ct G yX7_ones cX7_ones 4 (some .int) 0 [.ref this, .int v1] sh I L n (some (.int r)) sh I L n 0 0 := by
  refine ct_of (y := yX7_ones) (by decide +kernel) rfl (fun X F => ?_)
  exact jbX7_ones_0 G F h
theorem dX7_spare_0 : decode cX7_spare 0 = .ok (.aload_n 0, 1) := by decide +kernel
theorem dX7_spare_1 : decode cX7_spare 1 = .ok (.invokevirtual 317, 3) := by decide +kernel
theorem dX7_spare_4 : decode cX7_spare 4 = .ok (.aload_n 0, 1) := by decide +kernel
theorem dX7_spare_5 : decode cX7_spare 5 = .ok (.invokevirtual 329, 3) := by decide +kernel
theorem dX7_spare_8 : decode cX7_spare 8 = .ok (.istore_n 1, 1) := by decide +kernel
theorem dX7_spare_9 : decode cX7_spare 9 = .ok (.iconst 0, 1) := by decide +kernel
theorem dX7_spare_10 : decode cX7_spare 10 = .ok (.istore_n 2, 1) := by decide +kernel
theorem dX7_spare_11 : decode cX7_spare 11 = .ok (.iconst 1, 1) := by decide +kernel
theorem dX7_spare_12 : decode cX7_spare 12 = .ok (.istore_n 3, 1) := by decide +kernel
theorem dX7_spare_13 : decode cX7_spare 13 = .ok (.iload_n 3, 1) := by decide +kernel
theorem dX7_spare_14 : decode cX7_spare 14 = .ok (.iconst 1, 1) := by decide +kernel
theorem dX7_spare_15 : decode cX7_spare 15 = .ok (.aload_n 0, 1) := by decide +kernel
theorem dX7_spare_16 : decode cX7_spare 16 = .ok (.getfield 7, 3) := by decide +kernel
theorem dX7_spare_19 : decode cX7_spare 19 = .ok (.ishl, 1) := by decide +kernel
theorem dX7_spare_20 : decode cX7_spare 20 = .ok (.if_icmp .ge 85, 3) := by decide +kernel
theorem dX7_spare_23 : decode cX7_spare 23 = .ok (.aload_n 0, 1) := by decide +kernel
theorem dX7_spare_24 : decode cX7_spare 24 = .ok (.iload_n 3, 1) := by decide +kernel
theorem dX7_spare_25 : decode cX7_spare 25 = .ok (.invokevirtual 344, 3) := by decide +kernel
theorem dX7_spare_28 : decode cX7_spare 28 = .ok (.aload_n 0, 1) := by decide +kernel
theorem dX7_spare_29 : decode cX7_spare 29 = .ok (.iload_n 2, 1) := by decide +kernel
theorem dX7_spare_30 : decode cX7_spare 30 = .ok (.invokevirtual 344, 3) := by decide +kernel
theorem dX7_spare_33 : decode cX7_spare 33 = .ok (.if_icmp .gt 6, 3) := by decide +kernel
theorem dX7_spare_36 : decode cX7_spare 36 = .ok (.goto 63, 3) := by decide +kernel
theorem dX7_spare_39 : decode cX7_spare 39 = .ok (.iconst 0, 1) := by decide +kernel
theorem dX7_spare_40 : decode cX7_spare 40 = .ok (.istore 4, 2) := by decide +kernel
theorem dX7_spare_42 : decode cX7_spare 42 = .ok (.iload 4, 2) := by decide +kernel
theorem dX7_spare_44 : decode cX7_spare 44 = .ok (.aload_n 0, 1) := by decide +kernel
theorem dX7_spare_45 : decode cX7_spare 45 = .ok (.getfield 7, 3) := by decide +kernel
theorem dX7_spare_48 : decode cX7_spare 48 = .ok (.if_icmp .ge 37, 3) := by decide +kernel
theorem dX7_spare_51 : decode cX7_spare 51 = .ok (.aload_n 0, 1) := by decide +kernel
theorem dX7_spare_52 : decode cX7_spare 52 = .ok (.getfield 108, 3) := by decide +kernel
theorem dX7_spare_55 : decode cX7_spare 55 = .ok (.iload 4, 2) := by decide +kernel
theorem dX7_spare_57 : decode cX7_spare 57 = .ok (.aload_n 0, 1) := by decide +kernel
theorem dX7_spare_58 : decode cX7_spare 58 = .ok (.iload_n 3, 1) := by decide +kernel
theorem dX7_spare_59 : decode cX7_spare 59 = .ok (.iload 4, 2) := by decide +kernel
theorem dX7_spare_61 : decode cX7_spare 61 = .ok (.invokevirtual 303, 3) := by decide +kernel
theorem dX7_spare_64 : decode cX7_spare 64 = .ok (.ifCond .eq 7, 3) := by decide +kernel
theorem dX7_spare_67 : decode cX7_spare 67 = .ok (.iconst 0, 1) := by decide +kernel
theorem dX7_spare_68 : decode cX7_spare 68 = .ok (.goto 10, 3) := by decide +kernel
theorem dX7_spare_71 : decode cX7_spare 71 = .ok (.aload_n 0, 1) := by decide +kernel
theorem dX7_spare_72 : decode cX7_spare 72 = .ok (.getfield 23, 3) := by decide +kernel
theorem dX7_spare_75 : decode cX7_spare 75 = .ok (.iload 4, 2) := by decide +kernel
theorem dX7_spare_77 : decode cX7_spare 77 = .ok (.iaload, 1) := by decide +kernel
theorem dX7_spare_78 : decode cX7_spare 78 = .ok (.iastore, 1) := by decide +kernel
theorem dX7_spare_79 : decode cX7_spare 79 = .ok (.iinc 4 1, 3) := by decide +kernel
theorem dX7_spare_82 : decode cX7_spare 82 = .ok (.goto (-40), 3) := by decide +kernel
theorem dX7_spare_85 : decode cX7_spare 85 = .ok (.aload_n 0, 1) := by decide +kernel
theorem dX7_spare_86 : decode cX7_spare 86 = .ok (.invokevirtual 329, 3) := by decide +kernel
theorem dX7_spare_89 : decode cX7_spare 89 = .ok (.iload_n 1, 1) := by decide +kernel
theorem dX7_spare_90 : decode cX7_spare 90 = .ok (.if_icmp .lt 7, 3) := by decide +kernel
theorem dX7_spare_93 : decode cX7_spare 93 = .ok (.iload_n 3, 1) := by decide +kernel
theorem dX7_spare_94 : decode cX7_spare 94 = .ok (.goto 4, 3) := by decide +kernel
theorem dX7_spare_97 : decode cX7_spare 97 = .ok (.iload_n 2, 1) := by decide +kernel
theorem dX7_spare_98 : decode cX7_spare 98 = .ok (.istore_n 2, 1) := by decide +kernel
theorem dX7_spare_99 : decode cX7_spare 99 = .ok (.iinc 3 1, 3) := by decide +kernel
theorem dX7_spare_102 : decode cX7_spare 102 = .ok (.goto (-89), 3) := by decide +kernel
theorem dX7_spare_105 : decode cX7_spare 105 = .ok (.iload_n 2, 1) := by decide +kernel
theorem dX7_spare_106 : decode cX7_spare 106 = .ok (.ireturn, 1) := by decide +kernel
def fX7_spare_b42 (sh : SH) (this : Nat) (k85 : (Int32 → Int32 → Int32 → IH → Option (Int32 × IH))) : Nat → Int32 → Int32 → Int32 → Int32 → IH → Option (Int32 × IH)
  | 0, _, _, _, _, _ => none
  | fuel + 1, v1, v2, v3, v4, I =>
    (gI sh I 7 this 0).bind fun x1 =>
    if x1 ≤ v4 then (
      k85 v1 v2 v3 I) else
    (gR sh 7 this 32).bind fun x2 =>
    if (fX7_has v3 v4) = 0 then (
      (gR sh 7 this 4).bind fun x3 =>
      (aI sh I 0 x3 v4).bind fun x4 =>
      (sI sh I x2 v4 x4).bind fun i5 =>
      fX7_spare_b42 sh this k85 fuel v1 v2 v3 (v4 + 1) i5) else
    (sI sh I x2 v4 0).bind fun i6 =>
    fX7_spare_b42 sh this k85 fuel v1 v2 v3 (v4 + 1) i6
def fX7_spare_b85 (sh : SH) (this : Nat) (k13 : (Int32 → Int32 → Int32 → IH → Option (Int32 × IH))) (v1 : Int32) (v2 : Int32) (v3 : Int32) (I : IH) : Option (Int32 × IH) :=
  b2 (fX7_worthNow sh this I) fun x1 i2 =>
  if x1 < v1 then (
    k13 v1 v2 (v3 + 1) i2) else
  k13 v1 v3 (v3 + 1) i2
def fX7_spare_b13 (sh : SH) (this : Nat) : Nat → Int32 → Int32 → Int32 → IH → Option (Int32 × IH)
  | 0, _, _, _, _ => none
  | fuel + 1, v1, v2, v3, I =>
    (gI sh I 7 this 0).bind fun x1 =>
    if (1 <<< (x1 &&& 31)) ≤ v3 then (
      some (v2, I)) else
    (fX7_ones this v3).bind fun x2 =>
    (fX7_ones this v2).bind fun x3 =>
    if x3 < x2 then (
      fX7_spare_b42 sh this (fX7_spare_b85 sh this (fX7_spare_b13 sh this fuel)) 1000 v1 v2 v3 0 I) else
    fX7_spare_b13 sh this fuel v1 v2 (v3 + 1) I
def fX7_spare (sh : SH) (this : Nat) (I : IH) : Option (Int32 × IH) :=
  (fX7_asIs sh this I).bind fun i1 =>
  b2 (fX7_worthNow sh this i1) fun x2 i3 =>
  fX7_spare_b13 sh this 1000 x2 0 1 i3
set_option maxHeartbeats 4000000 in
set_option maxRecDepth 20000 in
theorem jbX7_spare_42 (G : GT) {X : XT} {sh : SH} {L : LH} {n : Nat} {r : Int32} {I' : IH}  {this : Nat} {k85 : (Int32 → Int32 → Int32 → IH → Option (Int32 × IH))} (F : MF G X RX7 cX7_spare 5 4 (some .int) "spare") (hth : isO sh 7 this)
    (hk85 : ∀ {v1 : Int32} {v2 : Int32} {v3 : Int32} {I : IH}, k85 v1 v2 v3 I = some (r, I') → J G X (QE G X (some (.int r)) sh I' L n) 5 sh I L n 0 0 85 [(0, .ref this), (1, .int v1), (2, .int v2), (3, .int v3)] []) : ∀ (fuel : Nat) (v1 : Int32) (v2 : Int32) (v3 : Int32) (v4 : Int32) (I : IH), fX7_spare_b42 sh this k85 fuel v1 v2 v3 v4 I = some (r, I') → J G X (QE G X (some (.int r)) sh I' L n) 5 sh I L n 0 0 42 [(0, .ref this), (1, .int v1), (2, .int v2), (3, .int v3), (4, .int v4)] []
  | 0 => by
    intros
    rename_i h
    exact absurd (show none = some _ from h) (by intro z; cases z)
  | fuel + 1 => by
    intro v1 v2 v3 v4 I h
    rw [fX7_spare_b42] at h
    refine j_iload (pc := 42) (k0 := 4) F 4 rfl dX7_spare_42 ?_
    refine j_aload_n (pc := 44) (k0 := 0) F 0 rfl dX7_spare_44 ?_
    obtain ⟨x1, hx1, h⟩ := ob h
    refine j_getI (pc := 45) F flX7_7 hx1 dX7_spare_45 ?_
    refine j_icmp_ge (pc := 48) F 85 dX7_spare_48 rfl (fun c => ?_) (fun c => ?_)
    · have h := iz_t c h
      refine j_sub [0, 1, 2, 3] rfl ?_
      exact hk85 h
    · have h := iz_f c h
      refine j_aload_n (pc := 51) (k0 := 0) F 0 rfl dX7_spare_51 ?_
      obtain ⟨x2, hx2, h⟩ := ob h
      refine j_getR (pc := 52) F flX7_108 hx2 dX7_spare_52 ?_
      refine j_iload (pc := 55) (k0 := 4) F 4 rfl dX7_spare_55 ?_
      refine j_aload_n (pc := 57) (k0 := 0) F 0 rfl dX7_spare_57 ?_
      refine j_iload_n (pc := 58) (k0 := 3) F 3 rfl dX7_spare_58 ?_
      refine j_iload (pc := 59) (k0 := 4) F 4 rfl dX7_spare_59 ?_
      refine j_callV1 (pc := 61) (ci := 7) (As := [.int v3, .int v4]) (st := [.int v4, .ref x2]) (e1 := 0) (es1 := 0) F clX7_303 cwX7_has rfl hth (ctX7_has G) rfl rfl rfl rfl rfl rfl dX7_spare_61 ?_
      refine j_if_eq (pc := 64) F 71 dX7_spare_64 rfl (fun c => ?_) (fun c => ?_)
      · have h := iz_t c h
        refine j_aload_n (pc := 71) (k0 := 0) F 0 rfl dX7_spare_71 ?_
        obtain ⟨x3, hx3, h⟩ := ob h
        refine j_getR (pc := 72) F flX7_23 hx3 dX7_spare_72 ?_
        refine j_iload (pc := 75) (k0 := 4) F 4 rfl dX7_spare_75 ?_
        obtain ⟨x4, hx4, h⟩ := ob h
        refine j_iald (pc := 77) F hx4 dX7_spare_77 ?_
        obtain ⟨i5, hi5, h⟩ := ob h
        refine j_iast (pc := 78) F hi5 dX7_spare_78 ?_
        refine j_iinc (pc := 79) (k1 := 4) (ls' := [(4, .int (v4 + 1)), (0, .ref this), (1, .int v1), (2, .int v2), (3, .int v3)]) F (v4 + 1) 4 rfl rfl rfl rfl dX7_spare_79 ?_
        refine j_goto (pc := 82) F 42 dX7_spare_82 rfl ?_
        refine j_sub [1, 2, 3, 4, 0] rfl ?_
        exact jbX7_spare_42 G F hth hk85 fuel _ _ _ _ _ h
      · have h := iz_f c h
        refine j_iconst (pc := 67) F 0 dX7_spare_67 (by decide) ?_
        refine j_goto (pc := 68) F 78 dX7_spare_68 rfl ?_
        obtain ⟨i6, hi6, h⟩ := ob h
        refine j_iast (pc := 78) F hi6 dX7_spare_78 ?_
        refine j_iinc (pc := 79) (k1 := 4) (ls' := [(4, .int (v4 + 1)), (0, .ref this), (1, .int v1), (2, .int v2), (3, .int v3)]) F (v4 + 1) 4 rfl rfl rfl rfl dX7_spare_79 ?_
        refine j_goto (pc := 82) F 42 dX7_spare_82 rfl ?_
        refine j_sub [1, 2, 3, 4, 0] rfl ?_
        exact jbX7_spare_42 G F hth hk85 fuel _ _ _ _ _ h
set_option maxHeartbeats 4000000 in
set_option maxRecDepth 20000 in
theorem jbX7_spare_85 (G : GT) {X : XT} {sh : SH} {L : LH} {n : Nat} {r : Int32} {I' : IH}  {this : Nat} {k13 : (Int32 → Int32 → Int32 → IH → Option (Int32 × IH))} {v1 : Int32} {v2 : Int32} {v3 : Int32} {I : IH} (F : MF G X RX7 cX7_spare 5 4 (some .int) "spare") (hth : isO sh 7 this)
    (hk13 : ∀ {v1 : Int32} {v2 : Int32} {v3 : Int32} {I : IH}, k13 v1 v2 v3 I = some (r, I') → J G X (QE G X (some (.int r)) sh I' L n) 5 sh I L n 0 0 13 [(0, .ref this), (1, .int v1), (2, .int v2), (3, .int v3)] []) (h : fX7_spare_b85 sh this k13 v1 v2 v3 I = some (r, I')) : J G X (QE G X (some (.int r)) sh I' L n) 5 sh I L n 0 0 85 [(0, .ref this), (1, .int v1), (2, .int v2), (3, .int v3)] [] := by
  unfold fX7_spare_b85 at h
  refine j_aload_n (pc := 85) (k0 := 0) F 0 rfl dX7_spare_85 ?_
  obtain ⟨x1, i2, hx1, h⟩ := b2_obt h
  refine j_callV1 (pc := 86) (ci := 7) (As := []) (st := []) (e1 := 0) (es1 := 0) F clX7_329 cwX7_worthNow rfl hth (ctX7_worthNow G hth hx1) rfl rfl rfl rfl rfl rfl dX7_spare_86 ?_
  refine j_iload_n (pc := 89) (k0 := 1) F 1 rfl dX7_spare_89 ?_
  refine j_icmp_lt (pc := 90) F 97 dX7_spare_90 rfl (fun c => ?_) (fun c => ?_)
  · have h := iz_t c h
    refine j_iload_n (pc := 97) (k0 := 2) F 2 rfl dX7_spare_97 ?_
    refine j_istore_n (pc := 98) (k1 := 2) (ls' := [(2, .int v2), (0, .ref this), (1, .int v1), (3, .int v3)]) F rfl rfl rfl dX7_spare_98 ?_
    refine j_iinc (pc := 99) (k1 := 3) (ls' := [(3, .int (v3 + 1)), (2, .int v2), (0, .ref this), (1, .int v1)]) F (v3 + 1) 3 rfl rfl rfl rfl dX7_spare_99 ?_
    refine j_goto (pc := 102) F 13 dX7_spare_102 rfl ?_
    refine j_sub [2, 3, 1, 0] rfl ?_
    exact hk13 h
  · have h := iz_f c h
    refine j_iload_n (pc := 93) (k0 := 3) F 3 rfl dX7_spare_93 ?_
    refine j_goto (pc := 94) F 98 dX7_spare_94 rfl ?_
    refine j_istore_n (pc := 98) (k1 := 2) (ls' := [(2, .int v3), (0, .ref this), (1, .int v1), (3, .int v3)]) F rfl rfl rfl dX7_spare_98 ?_
    refine j_iinc (pc := 99) (k1 := 3) (ls' := [(3, .int (v3 + 1)), (2, .int v3), (0, .ref this), (1, .int v1)]) F (v3 + 1) 3 rfl rfl rfl rfl dX7_spare_99 ?_
    refine j_goto (pc := 102) F 13 dX7_spare_102 rfl ?_
    refine j_sub [2, 3, 1, 0] rfl ?_
    exact hk13 h
set_option maxHeartbeats 4000000 in
set_option maxRecDepth 20000 in
theorem jbX7_spare_13 (G : GT) {X : XT} {sh : SH} {L : LH} {n : Nat} {r : Int32} {I' : IH}  {this : Nat}  (F : MF G X RX7 cX7_spare 5 4 (some .int) "spare") (hth : isO sh 7 this) : ∀ (fuel : Nat) (v1 : Int32) (v2 : Int32) (v3 : Int32) (I : IH), fX7_spare_b13 sh this fuel v1 v2 v3 I = some (r, I') → J G X (QE G X (some (.int r)) sh I' L n) 5 sh I L n 0 0 13 [(0, .ref this), (1, .int v1), (2, .int v2), (3, .int v3)] []
  | 0 => by
    intros
    rename_i h
    exact absurd (show none = some _ from h) (by intro z; cases z)
  | fuel + 1 => by
    intro v1 v2 v3 I h
    rw [fX7_spare_b13] at h
    refine j_iload_n (pc := 13) (k0 := 3) F 3 rfl dX7_spare_13 ?_
    refine j_iconst (pc := 14) F 1 dX7_spare_14 (by decide) ?_
    refine j_aload_n (pc := 15) (k0 := 0) F 0 rfl dX7_spare_15 ?_
    obtain ⟨x1, hx1, h⟩ := ob h
    refine j_getI (pc := 16) F flX7_7 hx1 dX7_spare_16 ?_
    refine j_ishl (pc := 19) F dX7_spare_19 ?_
    refine j_icmp_ge (pc := 20) F 105 dX7_spare_20 rfl (fun c => ?_) (fun c => ?_)
    · have h := iz_t c h
      refine j_iload_n (pc := 105) (k0 := 2) F 2 rfl dX7_spare_105 ?_
      have g1 := Option.some.inj h
      obtain ⟨q3, g2⟩ := Prod.mk.inj g1
      subst q3
      subst g2
      exact j_iret (pc := 106) F dX7_spare_106
    · have h := iz_f c h
      refine j_aload_n (pc := 23) (k0 := 0) F 0 rfl dX7_spare_23 ?_
      refine j_iload_n (pc := 24) (k0 := 3) F 3 rfl dX7_spare_24 ?_
      obtain ⟨x2, hx2, h⟩ := ob h
      refine j_callV1 (pc := 25) (ci := 7) (As := [.int v3]) (st := []) (e1 := 0) (es1 := 0) F clX7_344 cwX7_ones rfl hth (ctX7_ones G hx2) rfl rfl rfl rfl rfl rfl dX7_spare_25 ?_
      refine j_aload_n (pc := 28) (k0 := 0) F 0 rfl dX7_spare_28 ?_
      refine j_iload_n (pc := 29) (k0 := 2) F 2 rfl dX7_spare_29 ?_
      obtain ⟨x3, hx3, h⟩ := ob h
      refine j_callV1 (pc := 30) (ci := 7) (As := [.int v2]) (st := [.int x2]) (e1 := 0) (es1 := 0) F clX7_344 cwX7_ones rfl hth (ctX7_ones G hx3) rfl rfl rfl rfl rfl rfl dX7_spare_30 ?_
      refine j_icmp_gt (pc := 33) F 39 dX7_spare_33 rfl (fun c => ?_) (fun c => ?_)
      · have h := iz_t c h
        refine j_iconst (pc := 39) F 0 dX7_spare_39 (by decide) ?_
        refine j_istore (pc := 40) (k1 := 4) (ls' := [(4, .int 0), (0, .ref this), (1, .int v1), (2, .int v2), (3, .int v3)]) F rfl rfl dX7_spare_40 ?_
        refine j_sub [1, 2, 3, 4, 0] rfl ?_
        exact jbX7_spare_42 G F hth (fun h => jbX7_spare_85 G F hth (fun h => jbX7_spare_13 G F hth fuel _ _ _ _ h) h) 1000 _ _ _ _ _ h
      · have h := iz_f c h
        refine j_goto (pc := 36) F 99 dX7_spare_36 rfl ?_
        refine j_iinc (pc := 99) (k1 := 3) (ls' := [(3, .int (v3 + 1)), (0, .ref this), (1, .int v1), (2, .int v2)]) F (v3 + 1) 3 rfl rfl rfl rfl dX7_spare_99 ?_
        refine j_goto (pc := 102) F 13 dX7_spare_102 rfl ?_
        refine j_sub [1, 2, 3, 0] rfl ?_
        exact jbX7_spare_13 G F hth fuel _ _ _ _ h
set_option maxHeartbeats 4000000 in
set_option maxRecDepth 20000 in
theorem jbX7_spare_0 (G : GT) {X : XT} {sh : SH} {L : LH} {n : Nat} {r : Int32} {I' : IH}  {this : Nat}  {I : IH} (F : MF G X RX7 cX7_spare 5 4 (some .int) "spare") (hth : isO sh 7 this) (h : fX7_spare sh this I = some (r, I')) : J G X (QE G X (some (.int r)) sh I' L n) 5 sh I L n 0 0 0 [(0, .ref this)] [] := by
  unfold fX7_spare at h
  refine j_aload_n (pc := 0) (k0 := 0) F 0 rfl dX7_spare_0 ?_
  obtain ⟨i1, hi1, h⟩ := ob h
  refine j_callV0 (pc := 1) (ci := 7) (As := []) (st := []) (e1 := 0) (es1 := 0) F clX7_317 cwX7_asIs rfl hth (ctX7_asIs G hth hi1) rfl rfl rfl rfl rfl rfl dX7_spare_1 ?_
  refine j_aload_n (pc := 4) (k0 := 0) F 0 rfl dX7_spare_4 ?_
  obtain ⟨x2, i3, hx2, h⟩ := b2_obt h
  refine j_callV1 (pc := 5) (ci := 7) (As := []) (st := []) (e1 := 0) (es1 := 0) F clX7_329 cwX7_worthNow rfl hth (ctX7_worthNow G hth hx2) rfl rfl rfl rfl rfl rfl dX7_spare_5 ?_
  refine j_istore_n (pc := 8) (k1 := 1) (ls' := [(1, .int x2), (0, .ref this)]) F rfl rfl rfl dX7_spare_8 ?_
  refine j_iconst (pc := 9) F 0 dX7_spare_9 (by decide) ?_
  refine j_istore_n (pc := 10) (k1 := 2) (ls' := [(2, .int 0), (1, .int x2), (0, .ref this)]) F rfl rfl rfl dX7_spare_10 ?_
  refine j_iconst (pc := 11) F 1 dX7_spare_11 (by decide) ?_
  refine j_istore_n (pc := 12) (k1 := 3) (ls' := [(3, .int 1), (2, .int 0), (1, .int x2), (0, .ref this)]) F rfl rfl rfl dX7_spare_12 ?_
  refine j_sub [3, 2, 1, 0] rfl ?_
  exact jbX7_spare_13 G F hth 1000 _ _ _ _ h
theorem ctX7_spare (G : GT) {sh : SH} {I : IH} {L : LH} {n : Nat} {this : Nat} {r : Int32} {I' : IH}  (hth : isO sh 7 this) (h : fX7_spare sh this I = some (r, I')) : Ct G yX7_spare cX7_spare 5 (some .int) 4 [.ref this] sh I L n (some (.int r)) sh I' L n 0 0 := by
  refine ct_of (y := yX7_spare) (by decide +kernel) rfl (fun X F => ?_)
  exact jbX7_spare_0 G F hth h
theorem dX7_isTape_0 : decode cX7_isTape 0 = .ok (.aload_n 0, 1) := by decide +kernel
theorem dX7_isTape_1 : decode cX7_isTape 1 = .ok (.iload_n 1, 1) := by decide +kernel
theorem dX7_isTape_2 : decode cX7_isTape 2 = .ok (.iconst 0, 1) := by decide +kernel
theorem dX7_isTape_3 : decode cX7_isTape 3 = .ok (.iconst 5, 1) := by decide +kernel
theorem dX7_isTape_4 : decode cX7_isTape 4 = .ok (.invokevirtual 215, 3) := by decide +kernel
theorem dX7_isTape_7 : decode cX7_isTape 7 = .ok (.ireturn, 1) := by decide +kernel
def fX7_isTape (v1 : Int32) : Int32 :=
  (fX7_in v1 0 5)
set_option maxHeartbeats 4000000 in
set_option maxRecDepth 20000 in
theorem jbX7_isTape_0 (G : GT) {X : XT} {sh : SH} {I : IH} {L : LH} {n : Nat} {r : Int32}  {this : Nat}  {v1 : Int32} (F : MF G X RX7 cX7_isTape 2 1 (some .boolean) "isTape") (hth : isO sh 7 this) (h : fX7_isTape v1 = r) : J G X (QE G X (some (.int r)) sh I L n) 2 sh I L n 0 0 0 [(0, .ref this), (1, .int v1)] [] := by
  unfold fX7_isTape at h
  refine j_aload_n (pc := 0) (k0 := 0) F 0 rfl dX7_isTape_0 ?_
  refine j_iload_n (pc := 1) (k0 := 1) F 1 rfl dX7_isTape_1 ?_
  refine j_iconst (pc := 2) F 0 dX7_isTape_2 (by decide) ?_
  refine j_iconst (pc := 3) F 5 dX7_isTape_3 (by decide) ?_
  refine j_callV1 (pc := 4) (ci := 7) (As := [.int v1, .int 0, .int 5]) (st := []) (e1 := 0) (es1 := 0) F clX7_215 cwX7_in rfl hth (ctX7_in G) rfl rfl rfl rfl rfl rfl dX7_isTape_4 ?_
  subst h
  exact j_zret (pc := 7) F (zbX7_in) dX7_isTape_7
theorem ctX7_isTape (G : GT) {sh : SH} {I : IH} {L : LH} {n : Nat} {this : Nat} {v1 : Int32} (hth : isO sh 7 this) : Ct G yX7_isTape cX7_isTape 2 (some .boolean) 1 [.ref this, .int v1] sh I L n (some (.int (fX7_isTape v1))) sh I L n 0 0 := by
  refine ct_of (y := yX7_isTape) (by decide +kernel) rfl (fun X F => ?_)
  exact jbX7_isTape_0 G F hth rfl
theorem zbX7_isTape {v1 : Int32} : fX7_isTape v1 = 0 ∨ fX7_isTape v1 = 1 := by
  unfold fX7_isTape
  repeat' split
  all_goals first | exact Or.inl rfl | exact Or.inr rfl | exact zbX7_in
theorem dX7_judge_0 : decode cX7_judge 0 = .ok (.aload_n 0, 1) := by decide +kernel
theorem dX7_judge_1 : decode cX7_judge 1 = .ok (.iload_n 1, 1) := by decide +kernel
theorem dX7_judge_2 : decode cX7_judge 2 = .ok (.invokevirtual 347, 3) := by decide +kernel
theorem dX7_judge_5 : decode cX7_judge 5 = .ok (.ifCond .eq 11, 3) := by decide +kernel
theorem dX7_judge_8 : decode cX7_judge 8 = .ok (.aload_n 0, 1) := by decide +kernel
theorem dX7_judge_9 : decode cX7_judge 9 = .ok (.iload_n 3, 1) := by decide +kernel
theorem dX7_judge_10 : decode cX7_judge 10 = .ok (.invokevirtual 314, 3) := by decide +kernel
theorem dX7_judge_13 : decode cX7_judge 13 = .ok (.ifCond .ne 5, 3) := by decide +kernel
theorem dX7_judge_16 : decode cX7_judge 16 = .ok (.iconst (-1), 1) := by decide +kernel
theorem dX7_judge_17 : decode cX7_judge 17 = .ok (.ireturn, 1) := by decide +kernel
theorem dX7_judge_18 : decode cX7_judge 18 = .ok (.aload_n 0, 1) := by decide +kernel
theorem dX7_judge_19 : decode cX7_judge 19 = .ok (.getfield 202, 3) := by decide +kernel
theorem dX7_judge_22 : decode cX7_judge 22 = .ok (.iload_n 1, 1) := by decide +kernel
theorem dX7_judge_23 : decode cX7_judge 23 = .ok (.iaload, 1) := by decide +kernel
theorem dX7_judge_24 : decode cX7_judge 24 = .ok (.ifCond .lt 16, 3) := by decide +kernel
theorem dX7_judge_27 : decode cX7_judge 27 = .ok (.aload_n 0, 1) := by decide +kernel
theorem dX7_judge_28 : decode cX7_judge 28 = .ok (.getfield 202, 3) := by decide +kernel
theorem dX7_judge_31 : decode cX7_judge 31 = .ok (.iload_n 1, 1) := by decide +kernel
theorem dX7_judge_32 : decode cX7_judge 32 = .ok (.iaload, 1) := by decide +kernel
theorem dX7_judge_33 : decode cX7_judge 33 = .ok (.iconst 1, 1) := by decide +kernel
theorem dX7_judge_34 : decode cX7_judge 34 = .ok (.if_icmp .eq 6, 3) := by decide +kernel
theorem dX7_judge_37 : decode cX7_judge 37 = .ok (.bipush (-12), 2) := by decide +kernel
theorem dX7_judge_39 : decode cX7_judge 39 = .ok (.ireturn, 1) := by decide +kernel
theorem dX7_judge_40 : decode cX7_judge 40 = .ok (.aload_n 0, 1) := by decide +kernel
theorem dX7_judge_41 : decode cX7_judge 41 = .ok (.invokevirtual 317, 3) := by decide +kernel
theorem dX7_judge_44 : decode cX7_judge 44 = .ok (.aload_n 0, 1) := by decide +kernel
theorem dX7_judge_45 : decode cX7_judge 45 = .ok (.invokevirtual 320, 3) := by decide +kernel
theorem dX7_judge_48 : decode cX7_judge 48 = .ok (.iconst 0, 1) := by decide +kernel
theorem dX7_judge_49 : decode cX7_judge 49 = .ok (.istore 4, 2) := by decide +kernel
theorem dX7_judge_51 : decode cX7_judge 51 = .ok (.iload 4, 2) := by decide +kernel
theorem dX7_judge_53 : decode cX7_judge 53 = .ok (.bipush 48, 2) := by decide +kernel
theorem dX7_judge_55 : decode cX7_judge 55 = .ok (.if_icmp .ge 77, 3) := by decide +kernel
theorem dX7_judge_58 : decode cX7_judge 58 = .ok (.aload_n 0, 1) := by decide +kernel
theorem dX7_judge_59 : decode cX7_judge 59 = .ok (.getfield 202, 3) := by decide +kernel
theorem dX7_judge_62 : decode cX7_judge 62 = .ok (.iload_n 1, 1) := by decide +kernel
theorem dX7_judge_63 : decode cX7_judge 63 = .ok (.iaload, 1) := by decide +kernel
theorem dX7_judge_64 : decode cX7_judge 64 = .ok (.ifCond .lt 22, 3) := by decide +kernel
theorem dX7_judge_67 : decode cX7_judge 67 = .ok (.iload_n 2, 1) := by decide +kernel
theorem dX7_judge_68 : decode cX7_judge 68 = .ok (.ifCond .lt 18, 3) := by decide +kernel
theorem dX7_judge_71 : decode cX7_judge 71 = .ok (.iload_n 2, 1) := by decide +kernel
theorem dX7_judge_72 : decode cX7_judge 72 = .ok (.aload_n 0, 1) := by decide +kernel
theorem dX7_judge_73 : decode cX7_judge 73 = .ok (.getfield 205, 3) := by decide +kernel
theorem dX7_judge_76 : decode cX7_judge 76 = .ok (.iload_n 1, 1) := by decide +kernel
theorem dX7_judge_77 : decode cX7_judge 77 = .ok (.iaload, 1) := by decide +kernel
theorem dX7_judge_78 : decode cX7_judge 78 = .ok (.iload 4, 2) := by decide +kernel
theorem dX7_judge_80 : decode cX7_judge 80 = .ok (.isub, 1) := by decide +kernel
theorem dX7_judge_81 : decode cX7_judge 81 = .ok (.iconst 1, 1) := by decide +kernel
theorem dX7_judge_82 : decode cX7_judge 82 = .ok (.isub, 1) := by decide +kernel
theorem dX7_judge_83 : decode cX7_judge 83 = .ok (.if_icmp .le 9, 3) := by decide +kernel
theorem dX7_judge_86 : decode cX7_judge 86 = .ok (.bipush 100, 2) := by decide +kernel
theorem dX7_judge_88 : decode cX7_judge 88 = .ok (.iload 4, 2) := by decide +kernel
theorem dX7_judge_90 : decode cX7_judge 90 = .ok (.iadd, 1) := by decide +kernel
theorem dX7_judge_91 : decode cX7_judge 91 = .ok (.ireturn, 1) := by decide +kernel
theorem dX7_judge_92 : decode cX7_judge 92 = .ok (.aload_n 0, 1) := by decide +kernel
theorem dX7_judge_93 : decode cX7_judge 93 = .ok (.getfield 208, 3) := by decide +kernel
theorem dX7_judge_96 : decode cX7_judge 96 = .ok (.bipush 60, 2) := by decide +kernel
theorem dX7_judge_98 : decode cX7_judge 98 = .ok (.iload_n 1, 1) := by decide +kernel
theorem dX7_judge_99 : decode cX7_judge 99 = .ok (.imul, 1) := by decide +kernel
theorem dX7_judge_100 : decode cX7_judge 100 = .ok (.iload_n 2, 1) := by decide +kernel
theorem dX7_judge_101 : decode cX7_judge 101 = .ok (.iadd, 1) := by decide +kernel
theorem dX7_judge_102 : decode cX7_judge 102 = .ok (.iload 4, 2) := by decide +kernel
theorem dX7_judge_104 : decode cX7_judge 104 = .ok (.iadd, 1) := by decide +kernel
theorem dX7_judge_105 : decode cX7_judge 105 = .ok (.laload, 1) := by decide +kernel
theorem dX7_judge_106 : decode cX7_judge 106 = .ok (.aload_n 0, 1) := by decide +kernel
theorem dX7_judge_107 : decode cX7_judge 107 = .ok (.getfield 114, 3) := by decide +kernel
theorem dX7_judge_110 : decode cX7_judge 110 = .ok (.bipush 48, 2) := by decide +kernel
theorem dX7_judge_112 : decode cX7_judge 112 = .ok (.iload_n 3, 1) := by decide +kernel
theorem dX7_judge_113 : decode cX7_judge 113 = .ok (.imul, 1) := by decide +kernel
theorem dX7_judge_114 : decode cX7_judge 114 = .ok (.iload 4, 2) := by decide +kernel
theorem dX7_judge_116 : decode cX7_judge 116 = .ok (.iadd, 1) := by decide +kernel
theorem dX7_judge_117 : decode cX7_judge 117 = .ok (.iaload, 1) := by decide +kernel
theorem dX7_judge_118 : decode cX7_judge 118 = .ok (.i2l, 1) := by decide +kernel
theorem dX7_judge_119 : decode cX7_judge 119 = .ok (.lcmp, 1) := by decide +kernel
theorem dX7_judge_120 : decode cX7_judge 120 = .ok (.ifCond .eq 6, 3) := by decide +kernel
theorem dX7_judge_123 : decode cX7_judge 123 = .ok (.iload 4, 2) := by decide +kernel
theorem dX7_judge_125 : decode cX7_judge 125 = .ok (.ireturn, 1) := by decide +kernel
theorem dX7_judge_126 : decode cX7_judge 126 = .ok (.iinc 4 1, 3) := by decide +kernel
theorem dX7_judge_129 : decode cX7_judge 129 = .ok (.goto (-78), 3) := by decide +kernel
theorem dX7_judge_132 : decode cX7_judge 132 = .ok (.bipush 48, 2) := by decide +kernel
theorem dX7_judge_134 : decode cX7_judge 134 = .ok (.ireturn, 1) := by decide +kernel
def fX7_judge_b51 (sh : SH) (L : LH) (this : Nat) : Nat → Int32 → Int32 → Int32 → Int32 → IH → Option (Int32 × IH)
  | 0, _, _, _, _, _ => none
  | fuel + 1, v1, v2, v3, v4, I =>
    if 48 ≤ v4 then (
      some (48, I)) else
    (gR sh 7 this 63).bind fun x1 =>
    (aI sh I 0 x1 v1).bind fun x2 =>
    if x2 < 0 then (
      some ((100 + v4), I)) else
    if v2 < 0 then (
      some ((100 + v4), I)) else
    (gR sh 7 this 64).bind fun x3 =>
    (aI sh I 0 x3 v1).bind fun x4 =>
    if v2 ≤ ((x4 - v4) - 1) then (
      (gR sh 7 this 65).bind fun x5 =>
      (aJ sh L x5 (((60 * v1) + v2) + v4)).bind fun x6 =>
      (gR sh 7 this 34).bind fun x7 =>
      (aI sh I 0 x7 ((48 * v3) + v4)).bind fun x8 =>
      if (lg_cmp x6 x8.toInt64) = 0 then (
        fX7_judge_b51 sh L this fuel v1 v2 v3 (v4 + 1) I) else
      some (v4, I)) else
    some ((100 + v4), I)
def fX7_judge_b40 (sh : SH) (L : LH) (this : Nat) (v1 : Int32) (v2 : Int32) (v3 : Int32) (I : IH) : Option (Int32 × IH) :=
  (fX7_asIs sh this I).bind fun i1 =>
  (fX7_go sh this i1).bind fun i2 =>
  fX7_judge_b51 sh L this 1000 v1 v2 v3 0 i2
def fX7_judge (sh : SH) (L : LH) (this : Nat) (v1 : Int32) (v2 : Int32) (v3 : Int32) (I : IH) : Option (Int32 × IH) :=
  if (fX7_isTape v1) = 0 then (
    some ((-1), I)) else
  (fX7_isPlace sh I this v3).bind fun x1 =>
  if x1 = 0 then (
    some ((-1), I)) else
  (gR sh 7 this 63).bind fun x2 =>
  (aI sh I 0 x2 v1).bind fun x3 =>
  if x3 < 0 then (
    fX7_judge_b40 sh L this v1 v2 v3 I) else
  (gR sh 7 this 63).bind fun x4 =>
  (aI sh I 0 x4 v1).bind fun x5 =>
  if x5 = 1 then (
    fX7_judge_b40 sh L this v1 v2 v3 I) else
  some ((-12), I)
set_option maxHeartbeats 4000000 in
set_option maxRecDepth 20000 in
theorem jbX7_judge_51 (G : GT) {X : XT} {sh : SH} {L : LH} {n : Nat} {r : Int32} {I' : IH}  {this : Nat}  (F : MF G X RX7 cX7_judge 5 4 (some .int) "judge") (hth : isO sh 7 this) : ∀ (fuel : Nat) (v1 : Int32) (v2 : Int32) (v3 : Int32) (v4 : Int32) (I : IH), fX7_judge_b51 sh L this fuel v1 v2 v3 v4 I = some (r, I') → J G X (QE G X (some (.int r)) sh I' L n) 5 sh I L n 0 0 51 [(0, .ref this), (1, .int v1), (2, .int v2), (3, .int v3), (4, .int v4)] []
  | 0 => by
    intros
    rename_i h
    exact absurd (show none = some _ from h) (by intro z; cases z)
  | fuel + 1 => by
    intro v1 v2 v3 v4 I h
    rw [fX7_judge_b51] at h
    refine j_iload (pc := 51) (k0 := 4) F 4 rfl dX7_judge_51 ?_
    refine j_bipush (pc := 53) F 48 dX7_judge_53 (by decide) ?_
    refine j_icmp_ge (pc := 55) F 132 dX7_judge_55 rfl (fun c => ?_) (fun c => ?_)
    · have h := iz_t c h
      refine j_bipush (pc := 132) F 48 dX7_judge_132 (by decide) ?_
      have g1 := Option.some.inj h
      obtain ⟨q3, g2⟩ := Prod.mk.inj g1
      subst q3
      subst g2
      exact j_iret (pc := 134) F dX7_judge_134
    · have h := iz_f c h
      refine j_aload_n (pc := 58) (k0 := 0) F 0 rfl dX7_judge_58 ?_
      obtain ⟨x1, hx1, h⟩ := ob h
      refine j_getR (pc := 59) F flX7_202 hx1 dX7_judge_59 ?_
      refine j_iload_n (pc := 62) (k0 := 1) F 1 rfl dX7_judge_62 ?_
      obtain ⟨x2, hx2, h⟩ := ob h
      refine j_iald (pc := 63) F hx2 dX7_judge_63 ?_
      refine j_if_lt (pc := 64) F 86 dX7_judge_64 rfl (fun c => ?_) (fun c => ?_)
      · have h := iz_t c h
        refine j_bipush (pc := 86) F 100 dX7_judge_86 (by decide) ?_
        refine j_iload (pc := 88) (k0 := 4) F 4 rfl dX7_judge_88 ?_
        refine j_iadd (pc := 90) F dX7_judge_90 ?_
        have g1 := Option.some.inj h
        obtain ⟨q3, g2⟩ := Prod.mk.inj g1
        subst q3
        subst g2
        exact j_iret (pc := 91) F dX7_judge_91
      · have h := iz_f c h
        refine j_iload_n (pc := 67) (k0 := 2) F 2 rfl dX7_judge_67 ?_
        refine j_if_lt (pc := 68) F 86 dX7_judge_68 rfl (fun c => ?_) (fun c => ?_)
        · have h := iz_t c h
          refine j_bipush (pc := 86) F 100 dX7_judge_86 (by decide) ?_
          refine j_iload (pc := 88) (k0 := 4) F 4 rfl dX7_judge_88 ?_
          refine j_iadd (pc := 90) F dX7_judge_90 ?_
          have g1 := Option.some.inj h
          obtain ⟨q3, g2⟩ := Prod.mk.inj g1
          subst q3
          subst g2
          exact j_iret (pc := 91) F dX7_judge_91
        · have h := iz_f c h
          refine j_iload_n (pc := 71) (k0 := 2) F 2 rfl dX7_judge_71 ?_
          refine j_aload_n (pc := 72) (k0 := 0) F 0 rfl dX7_judge_72 ?_
          obtain ⟨x3, hx3, h⟩ := ob h
          refine j_getR (pc := 73) F flX7_205 hx3 dX7_judge_73 ?_
          refine j_iload_n (pc := 76) (k0 := 1) F 1 rfl dX7_judge_76 ?_
          obtain ⟨x4, hx4, h⟩ := ob h
          refine j_iald (pc := 77) F hx4 dX7_judge_77 ?_
          refine j_iload (pc := 78) (k0 := 4) F 4 rfl dX7_judge_78 ?_
          refine j_isub (pc := 80) F dX7_judge_80 ?_
          refine j_iconst (pc := 81) F 1 dX7_judge_81 (by decide) ?_
          refine j_isub (pc := 82) F dX7_judge_82 ?_
          refine j_icmp_le (pc := 83) F 92 dX7_judge_83 rfl (fun c => ?_) (fun c => ?_)
          · have h := iz_t c h
            refine j_aload_n (pc := 92) (k0 := 0) F 0 rfl dX7_judge_92 ?_
            obtain ⟨x5, hx5, h⟩ := ob h
            refine j_getR (pc := 93) F flX7_208 hx5 dX7_judge_93 ?_
            refine j_bipush (pc := 96) F 60 dX7_judge_96 (by decide) ?_
            refine j_iload_n (pc := 98) (k0 := 1) F 1 rfl dX7_judge_98 ?_
            refine j_imul (pc := 99) F dX7_judge_99 ?_
            refine j_iload_n (pc := 100) (k0 := 2) F 2 rfl dX7_judge_100 ?_
            refine j_iadd (pc := 101) F dX7_judge_101 ?_
            refine j_iload (pc := 102) (k0 := 4) F 4 rfl dX7_judge_102 ?_
            refine j_iadd (pc := 104) F dX7_judge_104 ?_
            obtain ⟨x6, hx6, h⟩ := ob h
            refine j_lald (pc := 105) F hx6 dX7_judge_105 ?_
            refine j_aload_n (pc := 106) (k0 := 0) F 0 rfl dX7_judge_106 ?_
            obtain ⟨x7, hx7, h⟩ := ob h
            refine j_getR (pc := 107) F flX7_114 hx7 dX7_judge_107 ?_
            refine j_bipush (pc := 110) F 48 dX7_judge_110 (by decide) ?_
            refine j_iload_n (pc := 112) (k0 := 3) F 3 rfl dX7_judge_112 ?_
            refine j_imul (pc := 113) F dX7_judge_113 ?_
            refine j_iload (pc := 114) (k0 := 4) F 4 rfl dX7_judge_114 ?_
            refine j_iadd (pc := 116) F dX7_judge_116 ?_
            obtain ⟨x8, hx8, h⟩ := ob h
            refine j_iald (pc := 117) F hx8 dX7_judge_117 ?_
            refine j_i2l (pc := 118) F dX7_judge_118 ?_
            refine j_lcmp (pc := 119) F dX7_judge_119 ?_
            refine j_if_eq (pc := 120) F 126 dX7_judge_120 rfl (fun c => ?_) (fun c => ?_)
            · have h := iz_t c h
              refine j_iinc (pc := 126) (k1 := 4) (ls' := [(4, .int (v4 + 1)), (0, .ref this), (1, .int v1), (2, .int v2), (3, .int v3)]) F (v4 + 1) 4 rfl rfl rfl rfl dX7_judge_126 ?_
              refine j_goto (pc := 129) F 51 dX7_judge_129 rfl ?_
              refine j_sub [1, 2, 3, 4, 0] rfl ?_
              exact jbX7_judge_51 G F hth fuel _ _ _ _ _ h
            · have h := iz_f c h
              refine j_iload (pc := 123) (k0 := 4) F 4 rfl dX7_judge_123 ?_
              have g1 := Option.some.inj h
              obtain ⟨q3, g2⟩ := Prod.mk.inj g1
              subst q3
              subst g2
              exact j_iret (pc := 125) F dX7_judge_125
          · have h := iz_f c h
            refine j_bipush (pc := 86) F 100 dX7_judge_86 (by decide) ?_
            refine j_iload (pc := 88) (k0 := 4) F 4 rfl dX7_judge_88 ?_
            refine j_iadd (pc := 90) F dX7_judge_90 ?_
            have g1 := Option.some.inj h
            obtain ⟨q3, g2⟩ := Prod.mk.inj g1
            subst q3
            subst g2
            exact j_iret (pc := 91) F dX7_judge_91
set_option maxHeartbeats 4000000 in
set_option maxRecDepth 20000 in
theorem jbX7_judge_40 (G : GT) {X : XT} {sh : SH} {L : LH} {n : Nat} {r : Int32} {I' : IH}  {this : Nat}  {v1 : Int32} {v2 : Int32} {v3 : Int32} {I : IH} (F : MF G X RX7 cX7_judge 5 4 (some .int) "judge") (hth : isO sh 7 this) (h : fX7_judge_b40 sh L this v1 v2 v3 I = some (r, I')) : J G X (QE G X (some (.int r)) sh I' L n) 5 sh I L n 0 0 40 [(0, .ref this), (1, .int v1), (2, .int v2), (3, .int v3)] [] := by
  unfold fX7_judge_b40 at h
  refine j_aload_n (pc := 40) (k0 := 0) F 0 rfl dX7_judge_40 ?_
  obtain ⟨i1, hi1, h⟩ := ob h
  refine j_callV0 (pc := 41) (ci := 7) (As := []) (st := []) (e1 := 0) (es1 := 0) F clX7_317 cwX7_asIs rfl hth (ctX7_asIs G hth hi1) rfl rfl rfl rfl rfl rfl dX7_judge_41 ?_
  refine j_aload_n (pc := 44) (k0 := 0) F 0 rfl dX7_judge_44 ?_
  obtain ⟨i2, hi2, h⟩ := ob h
  refine j_callV0 (pc := 45) (ci := 7) (As := []) (st := []) (e1 := 0) (es1 := 0) F clX7_320 cwX7_go rfl hth (ctX7_go G hth hi2) rfl rfl rfl rfl rfl rfl dX7_judge_45 ?_
  refine j_iconst (pc := 48) F 0 dX7_judge_48 (by decide) ?_
  refine j_istore (pc := 49) (k1 := 4) (ls' := [(4, .int 0), (0, .ref this), (1, .int v1), (2, .int v2), (3, .int v3)]) F rfl rfl dX7_judge_49 ?_
  refine j_sub [1, 2, 3, 4, 0] rfl ?_
  exact jbX7_judge_51 G F hth 1000 _ _ _ _ _ h
set_option maxHeartbeats 4000000 in
set_option maxRecDepth 20000 in
theorem jbX7_judge_0 (G : GT) {X : XT} {sh : SH} {L : LH} {n : Nat} {r : Int32} {I' : IH}  {this : Nat}  {v1 : Int32} {v2 : Int32} {v3 : Int32} {I : IH} (F : MF G X RX7 cX7_judge 5 4 (some .int) "judge") (hth : isO sh 7 this) (h : fX7_judge sh L this v1 v2 v3 I = some (r, I')) : J G X (QE G X (some (.int r)) sh I' L n) 5 sh I L n 0 0 0 [(0, .ref this), (1, .int v1), (2, .int v2), (3, .int v3)] [] := by
  unfold fX7_judge at h
  refine j_aload_n (pc := 0) (k0 := 0) F 0 rfl dX7_judge_0 ?_
  refine j_iload_n (pc := 1) (k0 := 1) F 1 rfl dX7_judge_1 ?_
  refine j_callV1 (pc := 2) (ci := 7) (As := [.int v1]) (st := []) (e1 := 0) (es1 := 0) F clX7_347 cwX7_isTape rfl hth (ctX7_isTape G hth) rfl rfl rfl rfl rfl rfl dX7_judge_2 ?_
  refine j_if_eq (pc := 5) F 16 dX7_judge_5 rfl (fun c => ?_) (fun c => ?_)
  · have h := iz_t c h
    refine j_iconst (pc := 16) F (-1) dX7_judge_16 (by decide) ?_
    have g1 := Option.some.inj h
    obtain ⟨q3, g2⟩ := Prod.mk.inj g1
    subst q3
    subst g2
    exact j_iret (pc := 17) F dX7_judge_17
  · have h := iz_f c h
    refine j_aload_n (pc := 8) (k0 := 0) F 0 rfl dX7_judge_8 ?_
    refine j_iload_n (pc := 9) (k0 := 3) F 3 rfl dX7_judge_9 ?_
    obtain ⟨x1, hx1, h⟩ := ob h
    refine j_callV1 (pc := 10) (ci := 7) (As := [.int v3]) (st := []) (e1 := 0) (es1 := 0) F clX7_314 cwX7_isPlace rfl hth (ctX7_isPlace G hth hx1) rfl rfl rfl rfl rfl rfl dX7_judge_10 ?_
    refine j_if_ne (pc := 13) F 18 dX7_judge_13 rfl (fun c => ?_) (fun c => ?_)
    · have h := iz_f c h
      refine j_aload_n (pc := 18) (k0 := 0) F 0 rfl dX7_judge_18 ?_
      obtain ⟨x2, hx2, h⟩ := ob h
      refine j_getR (pc := 19) F flX7_202 hx2 dX7_judge_19 ?_
      refine j_iload_n (pc := 22) (k0 := 1) F 1 rfl dX7_judge_22 ?_
      obtain ⟨x3, hx3, h⟩ := ob h
      refine j_iald (pc := 23) F hx3 dX7_judge_23 ?_
      refine j_if_lt (pc := 24) F 40 dX7_judge_24 rfl (fun c => ?_) (fun c => ?_)
      · have h := iz_t c h
        exact jbX7_judge_40 G F hth h
      · have h := iz_f c h
        refine j_aload_n (pc := 27) (k0 := 0) F 0 rfl dX7_judge_27 ?_
        obtain ⟨x4, hx4, h⟩ := ob h
        refine j_getR (pc := 28) F flX7_202 hx4 dX7_judge_28 ?_
        refine j_iload_n (pc := 31) (k0 := 1) F 1 rfl dX7_judge_31 ?_
        obtain ⟨x5, hx5, h⟩ := ob h
        refine j_iald (pc := 32) F hx5 dX7_judge_32 ?_
        refine j_iconst (pc := 33) F 1 dX7_judge_33 (by decide) ?_
        refine j_icmp_eq (pc := 34) F 40 dX7_judge_34 rfl (fun c => ?_) (fun c => ?_)
        · have h := iz_t c h
          exact jbX7_judge_40 G F hth h
        · have h := iz_f c h
          refine j_bipush (pc := 37) F (-12) dX7_judge_37 (by decide) ?_
          have g1 := Option.some.inj h
          obtain ⟨q3, g2⟩ := Prod.mk.inj g1
          subst q3
          subst g2
          exact j_iret (pc := 39) F dX7_judge_39
    · have h := iz_t c h
      refine j_iconst (pc := 16) F (-1) dX7_judge_16 (by decide) ?_
      have g1 := Option.some.inj h
      obtain ⟨q3, g2⟩ := Prod.mk.inj g1
      subst q3
      subst g2
      exact j_iret (pc := 17) F dX7_judge_17
theorem ctX7_judge (G : GT) {sh : SH} {I : IH} {L : LH} {n : Nat} {this : Nat} {v1 : Int32} {v2 : Int32} {v3 : Int32} {r : Int32} {I' : IH}  (hth : isO sh 7 this) (h : fX7_judge sh L this v1 v2 v3 I = some (r, I')) : Ct G yX7_judge cX7_judge 5 (some .int) 4 [.ref this, .int v1, .int v2, .int v3] sh I L n (some (.int r)) sh I' L n 0 0 := by
  refine ct_of (y := yX7_judge) (by decide +kernel) rfl (fun X F => ?_)
  exact jbX7_judge_0 G F hth h
theorem dX7_copy_0 : decode cX7_copy 0 = .ok (.iconst 0, 1) := by decide +kernel
theorem dX7_copy_1 : decode cX7_copy 1 = .ok (.istore_n 3, 1) := by decide +kernel
theorem dX7_copy_2 : decode cX7_copy 2 = .ok (.iload_n 3, 1) := by decide +kernel
theorem dX7_copy_3 : decode cX7_copy 3 = .ok (.aload_n 2, 1) := by decide +kernel
theorem dX7_copy_4 : decode cX7_copy 4 = .ok (.arraylength, 1) := by decide +kernel
theorem dX7_copy_5 : decode cX7_copy 5 = .ok (.if_icmp .ge 15, 3) := by decide +kernel
theorem dX7_copy_8 : decode cX7_copy 8 = .ok (.aload_n 2, 1) := by decide +kernel
theorem dX7_copy_9 : decode cX7_copy 9 = .ok (.iload_n 3, 1) := by decide +kernel
theorem dX7_copy_10 : decode cX7_copy 10 = .ok (.aload_n 1, 1) := by decide +kernel
theorem dX7_copy_11 : decode cX7_copy 11 = .ok (.iload_n 3, 1) := by decide +kernel
theorem dX7_copy_12 : decode cX7_copy 12 = .ok (.iaload, 1) := by decide +kernel
theorem dX7_copy_13 : decode cX7_copy 13 = .ok (.iastore, 1) := by decide +kernel
theorem dX7_copy_14 : decode cX7_copy 14 = .ok (.iinc 3 1, 3) := by decide +kernel
theorem dX7_copy_17 : decode cX7_copy 17 = .ok (.goto (-15), 3) := by decide +kernel
theorem dX7_copy_20 : decode cX7_copy 20 = .ok (.return_, 1) := by decide +kernel
def fX7_copy_b2 (sh : SH) (this : Nat) : Nat → Nat → Nat → Int32 → IH → Option (IH)
  | 0, _, _, _, _ => none
  | fuel + 1, v1, v2, v3, I =>
    (aL sh v2).bind fun x1 =>
    if x1 ≤ v3 then (
      some I) else
    (aI sh I 0 v1 v3).bind fun x2 =>
    (sI sh I v2 v3 x2).bind fun i3 =>
    fX7_copy_b2 sh this fuel v1 v2 (v3 + 1) i3
def fX7_copy (sh : SH) (this : Nat) (v1 : Nat) (v2 : Nat) (I : IH) : Option (IH) :=
  fX7_copy_b2 sh this 1000 v1 v2 0 I
set_option maxHeartbeats 4000000 in
set_option maxRecDepth 20000 in
theorem jbX7_copy_2 (G : GT) {X : XT} {sh : SH} {L : LH} {n : Nat} {I' : IH}  {this : Nat}  (F : MF G X RX7 cX7_copy 4 0 none "copy") : ∀ (fuel : Nat) (v1 : Nat) (v2 : Nat) (v3 : Int32) (I : IH), fX7_copy_b2 sh this fuel v1 v2 v3 I = some I' → J G X (QE G X (none) sh I' L n) 4 sh I L n 0 0 2 [(0, .ref this), (1, .ref v1), (2, .ref v2), (3, .int v3)] []
  | 0 => by
    intros
    rename_i h
    exact absurd (show none = some _ from h) (by intro z; cases z)
  | fuel + 1 => by
    intro v1 v2 v3 I h
    rw [fX7_copy_b2] at h
    refine j_iload_n (pc := 2) (k0 := 3) F 3 rfl dX7_copy_2 ?_
    refine j_aload_n (pc := 3) (k0 := 2) F 2 rfl dX7_copy_3 ?_
    obtain ⟨x1, hx1, h⟩ := ob h
    refine j_alen (pc := 4) F hx1 dX7_copy_4 ?_
    refine j_icmp_ge (pc := 5) F 20 dX7_copy_5 rfl (fun c => ?_) (fun c => ?_)
    · have h := iz_t c h
      have g1 := Option.some.inj h
      subst g1
      exact j_vret (pc := 20) F dX7_copy_20
    · have h := iz_f c h
      refine j_aload_n (pc := 8) (k0 := 2) F 2 rfl dX7_copy_8 ?_
      refine j_iload_n (pc := 9) (k0 := 3) F 3 rfl dX7_copy_9 ?_
      refine j_aload_n (pc := 10) (k0 := 1) F 1 rfl dX7_copy_10 ?_
      refine j_iload_n (pc := 11) (k0 := 3) F 3 rfl dX7_copy_11 ?_
      obtain ⟨x2, hx2, h⟩ := ob h
      refine j_iald (pc := 12) F hx2 dX7_copy_12 ?_
      obtain ⟨i3, hi3, h⟩ := ob h
      refine j_iast (pc := 13) F hi3 dX7_copy_13 ?_
      refine j_iinc (pc := 14) (k1 := 3) (ls' := [(3, .int (v3 + 1)), (0, .ref this), (1, .ref v1), (2, .ref v2)]) F (v3 + 1) 3 rfl rfl rfl rfl dX7_copy_14 ?_
      refine j_goto (pc := 17) F 2 dX7_copy_17 rfl ?_
      refine j_sub [1, 2, 3, 0] rfl ?_
      exact jbX7_copy_2 G F fuel _ _ _ _ h
set_option maxHeartbeats 4000000 in
set_option maxRecDepth 20000 in
theorem jbX7_copy_0 (G : GT) {X : XT} {sh : SH} {L : LH} {n : Nat} {I' : IH}  {this : Nat}  {v1 : Nat} {v2 : Nat} {I : IH} (F : MF G X RX7 cX7_copy 4 0 none "copy") (h : fX7_copy sh this v1 v2 I = some I') : J G X (QE G X (none) sh I' L n) 4 sh I L n 0 0 0 [(0, .ref this), (1, .ref v1), (2, .ref v2)] [] := by
  unfold fX7_copy at h
  refine j_iconst (pc := 0) F 0 dX7_copy_0 (by decide) ?_
  refine j_istore_n (pc := 1) (k1 := 3) (ls' := [(3, .int 0), (0, .ref this), (1, .ref v1), (2, .ref v2)]) F rfl rfl rfl dX7_copy_1 ?_
  refine j_sub [1, 2, 3, 0] rfl ?_
  exact jbX7_copy_2 G F 1000 _ _ _ _ h
theorem ctX7_copy (G : GT) {sh : SH} {I : IH} {L : LH} {n : Nat} {this : Nat} {v1 : Nat} {v2 : Nat} {I' : IH}  (h : fX7_copy sh this v1 v2 I = some I') : Ct G yX7_copy cX7_copy 4 none 0 [.ref this, .ref v1, .ref v2] sh I L n (none) sh I' L n 0 0 := by
  refine ct_of (y := yX7_copy) (by decide +kernel) rfl (fun X F => ?_)
  exact jbX7_copy_0 G F h
theorem dX7_image_0 : decode cX7_image 0 = .ok (.aload_n 0, 1) := by decide +kernel
theorem dX7_image_1 : decode cX7_image 1 = .ok (.iconst 1, 1) := by decide +kernel
theorem dX7_image_2 : decode cX7_image 2 = .ok (.putfield 147, 3) := by decide +kernel
theorem dX7_image_5 : decode cX7_image 5 = .ok (.aload_n 0, 1) := by decide +kernel
theorem dX7_image_6 : decode cX7_image 6 = .ok (.aload_n 0, 1) := by decide +kernel
theorem dX7_image_7 : decode cX7_image 7 = .ok (.getfield 7, 3) := by decide +kernel
theorem dX7_image_10 : decode cX7_image 10 = .ok (.putfield 151, 3) := by decide +kernel
theorem dX7_image_13 : decode cX7_image 13 = .ok (.aload_n 0, 1) := by decide +kernel
theorem dX7_image_14 : decode cX7_image 14 = .ok (.aload_n 0, 1) := by decide +kernel
theorem dX7_image_15 : decode cX7_image 15 = .ok (.getfield 13, 3) := by decide +kernel
theorem dX7_image_18 : decode cX7_image 18 = .ok (.putfield 154, 3) := by decide +kernel
theorem dX7_image_21 : decode cX7_image 21 = .ok (.aload_n 0, 1) := by decide +kernel
theorem dX7_image_22 : decode cX7_image 22 = .ok (.aload_n 0, 1) := by decide +kernel
theorem dX7_image_23 : decode cX7_image 23 = .ok (.getfield 16, 3) := by decide +kernel
theorem dX7_image_26 : decode cX7_image 26 = .ok (.putfield 157, 3) := by decide +kernel
theorem dX7_image_29 : decode cX7_image 29 = .ok (.aload_n 0, 1) := by decide +kernel
theorem dX7_image_30 : decode cX7_image 30 = .ok (.aload_n 0, 1) := by decide +kernel
theorem dX7_image_31 : decode cX7_image 31 = .ok (.getfield 35, 3) := by decide +kernel
theorem dX7_image_34 : decode cX7_image 34 = .ok (.putfield 160, 3) := by decide +kernel
theorem dX7_image_37 : decode cX7_image 37 = .ok (.aload_n 0, 1) := by decide +kernel
theorem dX7_image_38 : decode cX7_image 38 = .ok (.aload_n 0, 1) := by decide +kernel
theorem dX7_image_39 : decode cX7_image 39 = .ok (.getfield 87, 3) := by decide +kernel
theorem dX7_image_42 : decode cX7_image 42 = .ok (.putfield 163, 3) := by decide +kernel
theorem dX7_image_45 : decode cX7_image 45 = .ok (.aload_n 0, 1) := by decide +kernel
theorem dX7_image_46 : decode cX7_image 46 = .ok (.aload_n 0, 1) := by decide +kernel
theorem dX7_image_47 : decode cX7_image 47 = .ok (.getfield 129, 3) := by decide +kernel
theorem dX7_image_50 : decode cX7_image 50 = .ok (.putfield 166, 3) := by decide +kernel
theorem dX7_image_53 : decode cX7_image 53 = .ok (.aload_n 0, 1) := by decide +kernel
theorem dX7_image_54 : decode cX7_image 54 = .ok (.aload_n 0, 1) := by decide +kernel
theorem dX7_image_55 : decode cX7_image 55 = .ok (.getfield 19, 3) := by decide +kernel
theorem dX7_image_58 : decode cX7_image 58 = .ok (.aload_n 0, 1) := by decide +kernel
theorem dX7_image_59 : decode cX7_image 59 = .ok (.getfield 169, 3) := by decide +kernel
theorem dX7_image_62 : decode cX7_image 62 = .ok (.invokevirtual 350, 3) := by decide +kernel
theorem dX7_image_65 : decode cX7_image 65 = .ok (.aload_n 0, 1) := by decide +kernel
theorem dX7_image_66 : decode cX7_image 66 = .ok (.aload_n 0, 1) := by decide +kernel
theorem dX7_image_67 : decode cX7_image 67 = .ok (.getfield 23, 3) := by decide +kernel
theorem dX7_image_70 : decode cX7_image 70 = .ok (.aload_n 0, 1) := by decide +kernel
theorem dX7_image_71 : decode cX7_image 71 = .ok (.getfield 172, 3) := by decide +kernel
theorem dX7_image_74 : decode cX7_image 74 = .ok (.invokevirtual 350, 3) := by decide +kernel
theorem dX7_image_77 : decode cX7_image 77 = .ok (.aload_n 0, 1) := by decide +kernel
theorem dX7_image_78 : decode cX7_image 78 = .ok (.aload_n 0, 1) := by decide +kernel
theorem dX7_image_79 : decode cX7_image 79 = .ok (.getfield 26, 3) := by decide +kernel
theorem dX7_image_82 : decode cX7_image 82 = .ok (.aload_n 0, 1) := by decide +kernel
theorem dX7_image_83 : decode cX7_image 83 = .ok (.getfield 175, 3) := by decide +kernel
theorem dX7_image_86 : decode cX7_image 86 = .ok (.invokevirtual 350, 3) := by decide +kernel
theorem dX7_image_89 : decode cX7_image 89 = .ok (.aload_n 0, 1) := by decide +kernel
theorem dX7_image_90 : decode cX7_image 90 = .ok (.aload_n 0, 1) := by decide +kernel
theorem dX7_image_91 : decode cX7_image 91 = .ok (.getfield 29, 3) := by decide +kernel
theorem dX7_image_94 : decode cX7_image 94 = .ok (.aload_n 0, 1) := by decide +kernel
theorem dX7_image_95 : decode cX7_image 95 = .ok (.getfield 178, 3) := by decide +kernel
theorem dX7_image_98 : decode cX7_image 98 = .ok (.invokevirtual 350, 3) := by decide +kernel
theorem dX7_image_101 : decode cX7_image 101 = .ok (.aload_n 0, 1) := by decide +kernel
theorem dX7_image_102 : decode cX7_image 102 = .ok (.aload_n 0, 1) := by decide +kernel
theorem dX7_image_103 : decode cX7_image 103 = .ok (.getfield 90, 3) := by decide +kernel
theorem dX7_image_106 : decode cX7_image 106 = .ok (.aload_n 0, 1) := by decide +kernel
theorem dX7_image_107 : decode cX7_image 107 = .ok (.getfield 181, 3) := by decide +kernel
theorem dX7_image_110 : decode cX7_image 110 = .ok (.invokevirtual 350, 3) := by decide +kernel
theorem dX7_image_113 : decode cX7_image 113 = .ok (.aload_n 0, 1) := by decide +kernel
theorem dX7_image_114 : decode cX7_image 114 = .ok (.aload_n 0, 1) := by decide +kernel
theorem dX7_image_115 : decode cX7_image 115 = .ok (.getfield 132, 3) := by decide +kernel
theorem dX7_image_118 : decode cX7_image 118 = .ok (.aload_n 0, 1) := by decide +kernel
theorem dX7_image_119 : decode cX7_image 119 = .ok (.getfield 184, 3) := by decide +kernel
theorem dX7_image_122 : decode cX7_image 122 = .ok (.invokevirtual 350, 3) := by decide +kernel
theorem dX7_image_125 : decode cX7_image 125 = .ok (.aload_n 0, 1) := by decide +kernel
theorem dX7_image_126 : decode cX7_image 126 = .ok (.aload_n 0, 1) := by decide +kernel
theorem dX7_image_127 : decode cX7_image 127 = .ok (.getfield 135, 3) := by decide +kernel
theorem dX7_image_130 : decode cX7_image 130 = .ok (.aload_n 0, 1) := by decide +kernel
theorem dX7_image_131 : decode cX7_image 131 = .ok (.getfield 187, 3) := by decide +kernel
theorem dX7_image_134 : decode cX7_image 134 = .ok (.invokevirtual 350, 3) := by decide +kernel
theorem dX7_image_137 : decode cX7_image 137 = .ok (.aload_n 0, 1) := by decide +kernel
theorem dX7_image_138 : decode cX7_image 138 = .ok (.aload_n 0, 1) := by decide +kernel
theorem dX7_image_139 : decode cX7_image 139 = .ok (.getfield 138, 3) := by decide +kernel
theorem dX7_image_142 : decode cX7_image 142 = .ok (.aload_n 0, 1) := by decide +kernel
theorem dX7_image_143 : decode cX7_image 143 = .ok (.getfield 190, 3) := by decide +kernel
theorem dX7_image_146 : decode cX7_image 146 = .ok (.invokevirtual 350, 3) := by decide +kernel
theorem dX7_image_149 : decode cX7_image 149 = .ok (.aload_n 0, 1) := by decide +kernel
theorem dX7_image_150 : decode cX7_image 150 = .ok (.aload_n 0, 1) := by decide +kernel
theorem dX7_image_151 : decode cX7_image 151 = .ok (.getfield 141, 3) := by decide +kernel
theorem dX7_image_154 : decode cX7_image 154 = .ok (.aload_n 0, 1) := by decide +kernel
theorem dX7_image_155 : decode cX7_image 155 = .ok (.getfield 193, 3) := by decide +kernel
theorem dX7_image_158 : decode cX7_image 158 = .ok (.invokevirtual 350, 3) := by decide +kernel
theorem dX7_image_161 : decode cX7_image 161 = .ok (.aload_n 0, 1) := by decide +kernel
theorem dX7_image_162 : decode cX7_image 162 = .ok (.getfield 129, 3) := by decide +kernel
theorem dX7_image_165 : decode cX7_image 165 = .ok (.ireturn, 1) := by decide +kernel
def fX7_image (sh : SH) (this : Nat) (I : IH) : Option (Int32 × IH) :=
  (pI sh I 7 this 45 1).bind fun i1 =>
  (gI sh i1 7 this 0).bind fun x2 =>
  (pI sh i1 7 this 46 x2).bind fun i3 =>
  (gI sh i3 7 this 1).bind fun x4 =>
  (pI sh i3 7 this 47 x4).bind fun i5 =>
  (gI sh i5 7 this 2).bind fun x6 =>
  (pI sh i5 7 this 48 x6).bind fun i7 =>
  (gI sh i7 7 this 8).bind fun x8 =>
  (pI sh i7 7 this 49 x8).bind fun i9 =>
  (gI sh i9 7 this 25).bind fun x10 =>
  (pI sh i9 7 this 50 x10).bind fun i11 =>
  (gI sh i11 7 this 39).bind fun x12 =>
  (pI sh i11 7 this 51 x12).bind fun i13 =>
  (gR sh 7 this 3).bind fun x14 =>
  (gR sh 7 this 52).bind fun x15 =>
  (fX7_copy sh this x14 x15 i13).bind fun i16 =>
  (gR sh 7 this 4).bind fun x17 =>
  (gR sh 7 this 53).bind fun x18 =>
  (fX7_copy sh this x17 x18 i16).bind fun i19 =>
  (gR sh 7 this 5).bind fun x20 =>
  (gR sh 7 this 54).bind fun x21 =>
  (fX7_copy sh this x20 x21 i19).bind fun i22 =>
  (gR sh 7 this 6).bind fun x23 =>
  (gR sh 7 this 55).bind fun x24 =>
  (fX7_copy sh this x23 x24 i22).bind fun i25 =>
  (gR sh 7 this 26).bind fun x26 =>
  (gR sh 7 this 56).bind fun x27 =>
  (fX7_copy sh this x26 x27 i25).bind fun i28 =>
  (gR sh 7 this 40).bind fun x29 =>
  (gR sh 7 this 57).bind fun x30 =>
  (fX7_copy sh this x29 x30 i28).bind fun i31 =>
  (gR sh 7 this 41).bind fun x32 =>
  (gR sh 7 this 58).bind fun x33 =>
  (fX7_copy sh this x32 x33 i31).bind fun i34 =>
  (gR sh 7 this 42).bind fun x35 =>
  (gR sh 7 this 59).bind fun x36 =>
  (fX7_copy sh this x35 x36 i34).bind fun i37 =>
  (gR sh 7 this 43).bind fun x38 =>
  (gR sh 7 this 60).bind fun x39 =>
  (fX7_copy sh this x38 x39 i37).bind fun i40 =>
  (gI sh i40 7 this 39).bind fun x41 =>
  some (x41, i40)
set_option maxHeartbeats 4000000 in
set_option maxRecDepth 20000 in
theorem jbX7_image_0 (G : GT) {X : XT} {sh : SH} {L : LH} {n : Nat} {r : Int32} {I' : IH}  {this : Nat}  {I : IH} (F : MF G X RX7 cX7_image 1 1 (some .int) "image") (hth : isO sh 7 this) (h : fX7_image sh this I = some (r, I')) : J G X (QE G X (some (.int r)) sh I' L n) 1 sh I L n 0 0 0 [(0, .ref this)] [] := by
  unfold fX7_image at h
  refine j_aload_n (pc := 0) (k0 := 0) F 0 rfl dX7_image_0 ?_
  refine j_iconst (pc := 1) F 1 dX7_image_1 (by decide) ?_
  obtain ⟨i1, hi1, h⟩ := ob h
  refine j_putZ (pc := 2) F (Or.inr rfl) flX7_147 fp7_45 (fun z => by cases z) hi1 dX7_image_2 ?_
  refine j_aload_n (pc := 5) (k0 := 0) F 0 rfl dX7_image_5 ?_
  refine j_aload_n (pc := 6) (k0 := 0) F 0 rfl dX7_image_6 ?_
  obtain ⟨x2, hx2, h⟩ := ob h
  refine j_getI (pc := 7) F flX7_7 hx2 dX7_image_7 ?_
  obtain ⟨i3, hi3, h⟩ := ob h
  refine j_putI (pc := 10) F flX7_151 fp7_46 (fun z => by cases z) hi3 dX7_image_10 ?_
  refine j_aload_n (pc := 13) (k0 := 0) F 0 rfl dX7_image_13 ?_
  refine j_aload_n (pc := 14) (k0 := 0) F 0 rfl dX7_image_14 ?_
  obtain ⟨x4, hx4, h⟩ := ob h
  refine j_getI (pc := 15) F flX7_13 hx4 dX7_image_15 ?_
  obtain ⟨i5, hi5, h⟩ := ob h
  refine j_putI (pc := 18) F flX7_154 fp7_47 (fun z => by cases z) hi5 dX7_image_18 ?_
  refine j_aload_n (pc := 21) (k0 := 0) F 0 rfl dX7_image_21 ?_
  refine j_aload_n (pc := 22) (k0 := 0) F 0 rfl dX7_image_22 ?_
  obtain ⟨x6, hx6, h⟩ := ob h
  refine j_getI (pc := 23) F flX7_16 hx6 dX7_image_23 ?_
  obtain ⟨i7, hi7, h⟩ := ob h
  refine j_putI (pc := 26) F flX7_157 fp7_48 (fun z => by cases z) hi7 dX7_image_26 ?_
  refine j_aload_n (pc := 29) (k0 := 0) F 0 rfl dX7_image_29 ?_
  refine j_aload_n (pc := 30) (k0 := 0) F 0 rfl dX7_image_30 ?_
  obtain ⟨x8, hx8, h⟩ := ob h
  refine j_getI (pc := 31) F flX7_35 hx8 dX7_image_31 ?_
  obtain ⟨i9, hi9, h⟩ := ob h
  refine j_putI (pc := 34) F flX7_160 fp7_49 (fun z => by cases z) hi9 dX7_image_34 ?_
  refine j_aload_n (pc := 37) (k0 := 0) F 0 rfl dX7_image_37 ?_
  refine j_aload_n (pc := 38) (k0 := 0) F 0 rfl dX7_image_38 ?_
  obtain ⟨x10, hx10, h⟩ := ob h
  refine j_getI (pc := 39) F flX7_87 hx10 dX7_image_39 ?_
  obtain ⟨i11, hi11, h⟩ := ob h
  refine j_putI (pc := 42) F flX7_163 fp7_50 (fun z => by cases z) hi11 dX7_image_42 ?_
  refine j_aload_n (pc := 45) (k0 := 0) F 0 rfl dX7_image_45 ?_
  refine j_aload_n (pc := 46) (k0 := 0) F 0 rfl dX7_image_46 ?_
  obtain ⟨x12, hx12, h⟩ := ob h
  refine j_getI (pc := 47) F flX7_129 hx12 dX7_image_47 ?_
  obtain ⟨i13, hi13, h⟩ := ob h
  refine j_putI (pc := 50) F flX7_166 fp7_51 (fun z => by cases z) hi13 dX7_image_50 ?_
  refine j_aload_n (pc := 53) (k0 := 0) F 0 rfl dX7_image_53 ?_
  refine j_aload_n (pc := 54) (k0 := 0) F 0 rfl dX7_image_54 ?_
  obtain ⟨x14, hx14, h⟩ := ob h
  refine j_getR (pc := 55) F flX7_19 hx14 dX7_image_55 ?_
  refine j_aload_n (pc := 58) (k0 := 0) F 0 rfl dX7_image_58 ?_
  obtain ⟨x15, hx15, h⟩ := ob h
  refine j_getR (pc := 59) F flX7_169 hx15 dX7_image_59 ?_
  obtain ⟨i16, hi16, h⟩ := ob h
  refine j_callV0 (pc := 62) (ci := 7) (As := [.ref x14, .ref x15]) (st := []) (e1 := 0) (es1 := 0) F clX7_350 cwX7_copy rfl hth (ctX7_copy G hi16) rfl rfl rfl rfl rfl rfl dX7_image_62 ?_
  refine j_aload_n (pc := 65) (k0 := 0) F 0 rfl dX7_image_65 ?_
  refine j_aload_n (pc := 66) (k0 := 0) F 0 rfl dX7_image_66 ?_
  obtain ⟨x17, hx17, h⟩ := ob h
  refine j_getR (pc := 67) F flX7_23 hx17 dX7_image_67 ?_
  refine j_aload_n (pc := 70) (k0 := 0) F 0 rfl dX7_image_70 ?_
  obtain ⟨x18, hx18, h⟩ := ob h
  refine j_getR (pc := 71) F flX7_172 hx18 dX7_image_71 ?_
  obtain ⟨i19, hi19, h⟩ := ob h
  refine j_callV0 (pc := 74) (ci := 7) (As := [.ref x17, .ref x18]) (st := []) (e1 := 0) (es1 := 0) F clX7_350 cwX7_copy rfl hth (ctX7_copy G hi19) rfl rfl rfl rfl rfl rfl dX7_image_74 ?_
  refine j_aload_n (pc := 77) (k0 := 0) F 0 rfl dX7_image_77 ?_
  refine j_aload_n (pc := 78) (k0 := 0) F 0 rfl dX7_image_78 ?_
  obtain ⟨x20, hx20, h⟩ := ob h
  refine j_getR (pc := 79) F flX7_26 hx20 dX7_image_79 ?_
  refine j_aload_n (pc := 82) (k0 := 0) F 0 rfl dX7_image_82 ?_
  obtain ⟨x21, hx21, h⟩ := ob h
  refine j_getR (pc := 83) F flX7_175 hx21 dX7_image_83 ?_
  obtain ⟨i22, hi22, h⟩ := ob h
  refine j_callV0 (pc := 86) (ci := 7) (As := [.ref x20, .ref x21]) (st := []) (e1 := 0) (es1 := 0) F clX7_350 cwX7_copy rfl hth (ctX7_copy G hi22) rfl rfl rfl rfl rfl rfl dX7_image_86 ?_
  refine j_aload_n (pc := 89) (k0 := 0) F 0 rfl dX7_image_89 ?_
  refine j_aload_n (pc := 90) (k0 := 0) F 0 rfl dX7_image_90 ?_
  obtain ⟨x23, hx23, h⟩ := ob h
  refine j_getR (pc := 91) F flX7_29 hx23 dX7_image_91 ?_
  refine j_aload_n (pc := 94) (k0 := 0) F 0 rfl dX7_image_94 ?_
  obtain ⟨x24, hx24, h⟩ := ob h
  refine j_getR (pc := 95) F flX7_178 hx24 dX7_image_95 ?_
  obtain ⟨i25, hi25, h⟩ := ob h
  refine j_callV0 (pc := 98) (ci := 7) (As := [.ref x23, .ref x24]) (st := []) (e1 := 0) (es1 := 0) F clX7_350 cwX7_copy rfl hth (ctX7_copy G hi25) rfl rfl rfl rfl rfl rfl dX7_image_98 ?_
  refine j_aload_n (pc := 101) (k0 := 0) F 0 rfl dX7_image_101 ?_
  refine j_aload_n (pc := 102) (k0 := 0) F 0 rfl dX7_image_102 ?_
  obtain ⟨x26, hx26, h⟩ := ob h
  refine j_getR (pc := 103) F flX7_90 hx26 dX7_image_103 ?_
  refine j_aload_n (pc := 106) (k0 := 0) F 0 rfl dX7_image_106 ?_
  obtain ⟨x27, hx27, h⟩ := ob h
  refine j_getR (pc := 107) F flX7_181 hx27 dX7_image_107 ?_
  obtain ⟨i28, hi28, h⟩ := ob h
  refine j_callV0 (pc := 110) (ci := 7) (As := [.ref x26, .ref x27]) (st := []) (e1 := 0) (es1 := 0) F clX7_350 cwX7_copy rfl hth (ctX7_copy G hi28) rfl rfl rfl rfl rfl rfl dX7_image_110 ?_
  refine j_aload_n (pc := 113) (k0 := 0) F 0 rfl dX7_image_113 ?_
  refine j_aload_n (pc := 114) (k0 := 0) F 0 rfl dX7_image_114 ?_
  obtain ⟨x29, hx29, h⟩ := ob h
  refine j_getR (pc := 115) F flX7_132 hx29 dX7_image_115 ?_
  refine j_aload_n (pc := 118) (k0 := 0) F 0 rfl dX7_image_118 ?_
  obtain ⟨x30, hx30, h⟩ := ob h
  refine j_getR (pc := 119) F flX7_184 hx30 dX7_image_119 ?_
  obtain ⟨i31, hi31, h⟩ := ob h
  refine j_callV0 (pc := 122) (ci := 7) (As := [.ref x29, .ref x30]) (st := []) (e1 := 0) (es1 := 0) F clX7_350 cwX7_copy rfl hth (ctX7_copy G hi31) rfl rfl rfl rfl rfl rfl dX7_image_122 ?_
  refine j_aload_n (pc := 125) (k0 := 0) F 0 rfl dX7_image_125 ?_
  refine j_aload_n (pc := 126) (k0 := 0) F 0 rfl dX7_image_126 ?_
  obtain ⟨x32, hx32, h⟩ := ob h
  refine j_getR (pc := 127) F flX7_135 hx32 dX7_image_127 ?_
  refine j_aload_n (pc := 130) (k0 := 0) F 0 rfl dX7_image_130 ?_
  obtain ⟨x33, hx33, h⟩ := ob h
  refine j_getR (pc := 131) F flX7_187 hx33 dX7_image_131 ?_
  obtain ⟨i34, hi34, h⟩ := ob h
  refine j_callV0 (pc := 134) (ci := 7) (As := [.ref x32, .ref x33]) (st := []) (e1 := 0) (es1 := 0) F clX7_350 cwX7_copy rfl hth (ctX7_copy G hi34) rfl rfl rfl rfl rfl rfl dX7_image_134 ?_
  refine j_aload_n (pc := 137) (k0 := 0) F 0 rfl dX7_image_137 ?_
  refine j_aload_n (pc := 138) (k0 := 0) F 0 rfl dX7_image_138 ?_
  obtain ⟨x35, hx35, h⟩ := ob h
  refine j_getR (pc := 139) F flX7_138 hx35 dX7_image_139 ?_
  refine j_aload_n (pc := 142) (k0 := 0) F 0 rfl dX7_image_142 ?_
  obtain ⟨x36, hx36, h⟩ := ob h
  refine j_getR (pc := 143) F flX7_190 hx36 dX7_image_143 ?_
  obtain ⟨i37, hi37, h⟩ := ob h
  refine j_callV0 (pc := 146) (ci := 7) (As := [.ref x35, .ref x36]) (st := []) (e1 := 0) (es1 := 0) F clX7_350 cwX7_copy rfl hth (ctX7_copy G hi37) rfl rfl rfl rfl rfl rfl dX7_image_146 ?_
  refine j_aload_n (pc := 149) (k0 := 0) F 0 rfl dX7_image_149 ?_
  refine j_aload_n (pc := 150) (k0 := 0) F 0 rfl dX7_image_150 ?_
  obtain ⟨x38, hx38, h⟩ := ob h
  refine j_getR (pc := 151) F flX7_141 hx38 dX7_image_151 ?_
  refine j_aload_n (pc := 154) (k0 := 0) F 0 rfl dX7_image_154 ?_
  obtain ⟨x39, hx39, h⟩ := ob h
  refine j_getR (pc := 155) F flX7_193 hx39 dX7_image_155 ?_
  obtain ⟨i40, hi40, h⟩ := ob h
  refine j_callV0 (pc := 158) (ci := 7) (As := [.ref x38, .ref x39]) (st := []) (e1 := 0) (es1 := 0) F clX7_350 cwX7_copy rfl hth (ctX7_copy G hi40) rfl rfl rfl rfl rfl rfl dX7_image_158 ?_
  refine j_aload_n (pc := 161) (k0 := 0) F 0 rfl dX7_image_161 ?_
  obtain ⟨x41, hx41, h⟩ := ob h
  refine j_getI (pc := 162) F flX7_129 hx41 dX7_image_162 ?_
  have g1 := Option.some.inj h
  obtain ⟨q3, g2⟩ := Prod.mk.inj g1
  subst q3
  subst g2
  exact j_iret (pc := 165) F dX7_image_165
theorem ctX7_image (G : GT) {sh : SH} {I : IH} {L : LH} {n : Nat} {this : Nat} {r : Int32} {I' : IH}  (hth : isO sh 7 this) (h : fX7_image sh this I = some (r, I')) : Ct G yX7_image cX7_image 1 (some .int) 1 [.ref this] sh I L n (some (.int r)) sh I' L n 0 0 := by
  refine ct_of (y := yX7_image) (by decide +kernel) rfl (fun X F => ?_)
  exact jbX7_image_0 G F hth h
theorem dX7_undo_0 : decode cX7_undo 0 = .ok (.aload_n 0, 1) := by decide +kernel
theorem dX7_undo_1 : decode cX7_undo 1 = .ok (.getfield 147, 3) := by decide +kernel
theorem dX7_undo_4 : decode cX7_undo 4 = .ok (.ifCond .ne 6, 3) := by decide +kernel
theorem dX7_undo_7 : decode cX7_undo 7 = .ok (.bipush (-3), 2) := by decide +kernel
theorem dX7_undo_9 : decode cX7_undo 9 = .ok (.ireturn, 1) := by decide +kernel
theorem dX7_undo_10 : decode cX7_undo 10 = .ok (.aload_n 0, 1) := by decide +kernel
theorem dX7_undo_11 : decode cX7_undo 11 = .ok (.aload_n 0, 1) := by decide +kernel
theorem dX7_undo_12 : decode cX7_undo 12 = .ok (.getfield 151, 3) := by decide +kernel
theorem dX7_undo_15 : decode cX7_undo 15 = .ok (.putfield 7, 3) := by decide +kernel
theorem dX7_undo_18 : decode cX7_undo 18 = .ok (.aload_n 0, 1) := by decide +kernel
theorem dX7_undo_19 : decode cX7_undo 19 = .ok (.aload_n 0, 1) := by decide +kernel
theorem dX7_undo_20 : decode cX7_undo 20 = .ok (.getfield 154, 3) := by decide +kernel
theorem dX7_undo_23 : decode cX7_undo 23 = .ok (.putfield 13, 3) := by decide +kernel
theorem dX7_undo_26 : decode cX7_undo 26 = .ok (.aload_n 0, 1) := by decide +kernel
theorem dX7_undo_27 : decode cX7_undo 27 = .ok (.aload_n 0, 1) := by decide +kernel
theorem dX7_undo_28 : decode cX7_undo 28 = .ok (.getfield 157, 3) := by decide +kernel
theorem dX7_undo_31 : decode cX7_undo 31 = .ok (.putfield 16, 3) := by decide +kernel
theorem dX7_undo_34 : decode cX7_undo 34 = .ok (.aload_n 0, 1) := by decide +kernel
theorem dX7_undo_35 : decode cX7_undo 35 = .ok (.aload_n 0, 1) := by decide +kernel
theorem dX7_undo_36 : decode cX7_undo 36 = .ok (.getfield 160, 3) := by decide +kernel
theorem dX7_undo_39 : decode cX7_undo 39 = .ok (.putfield 35, 3) := by decide +kernel
theorem dX7_undo_42 : decode cX7_undo 42 = .ok (.aload_n 0, 1) := by decide +kernel
theorem dX7_undo_43 : decode cX7_undo 43 = .ok (.aload_n 0, 1) := by decide +kernel
theorem dX7_undo_44 : decode cX7_undo 44 = .ok (.getfield 163, 3) := by decide +kernel
theorem dX7_undo_47 : decode cX7_undo 47 = .ok (.putfield 87, 3) := by decide +kernel
theorem dX7_undo_50 : decode cX7_undo 50 = .ok (.aload_n 0, 1) := by decide +kernel
theorem dX7_undo_51 : decode cX7_undo 51 = .ok (.aload_n 0, 1) := by decide +kernel
theorem dX7_undo_52 : decode cX7_undo 52 = .ok (.getfield 166, 3) := by decide +kernel
theorem dX7_undo_55 : decode cX7_undo 55 = .ok (.putfield 129, 3) := by decide +kernel
theorem dX7_undo_58 : decode cX7_undo 58 = .ok (.aload_n 0, 1) := by decide +kernel
theorem dX7_undo_59 : decode cX7_undo 59 = .ok (.aload_n 0, 1) := by decide +kernel
theorem dX7_undo_60 : decode cX7_undo 60 = .ok (.getfield 169, 3) := by decide +kernel
theorem dX7_undo_63 : decode cX7_undo 63 = .ok (.aload_n 0, 1) := by decide +kernel
theorem dX7_undo_64 : decode cX7_undo 64 = .ok (.getfield 19, 3) := by decide +kernel
theorem dX7_undo_67 : decode cX7_undo 67 = .ok (.invokevirtual 350, 3) := by decide +kernel
theorem dX7_undo_70 : decode cX7_undo 70 = .ok (.aload_n 0, 1) := by decide +kernel
theorem dX7_undo_71 : decode cX7_undo 71 = .ok (.aload_n 0, 1) := by decide +kernel
theorem dX7_undo_72 : decode cX7_undo 72 = .ok (.getfield 172, 3) := by decide +kernel
theorem dX7_undo_75 : decode cX7_undo 75 = .ok (.aload_n 0, 1) := by decide +kernel
theorem dX7_undo_76 : decode cX7_undo 76 = .ok (.getfield 23, 3) := by decide +kernel
theorem dX7_undo_79 : decode cX7_undo 79 = .ok (.invokevirtual 350, 3) := by decide +kernel
theorem dX7_undo_82 : decode cX7_undo 82 = .ok (.aload_n 0, 1) := by decide +kernel
theorem dX7_undo_83 : decode cX7_undo 83 = .ok (.aload_n 0, 1) := by decide +kernel
theorem dX7_undo_84 : decode cX7_undo 84 = .ok (.getfield 175, 3) := by decide +kernel
theorem dX7_undo_87 : decode cX7_undo 87 = .ok (.aload_n 0, 1) := by decide +kernel
theorem dX7_undo_88 : decode cX7_undo 88 = .ok (.getfield 26, 3) := by decide +kernel
theorem dX7_undo_91 : decode cX7_undo 91 = .ok (.invokevirtual 350, 3) := by decide +kernel
theorem dX7_undo_94 : decode cX7_undo 94 = .ok (.aload_n 0, 1) := by decide +kernel
theorem dX7_undo_95 : decode cX7_undo 95 = .ok (.aload_n 0, 1) := by decide +kernel
theorem dX7_undo_96 : decode cX7_undo 96 = .ok (.getfield 178, 3) := by decide +kernel
theorem dX7_undo_99 : decode cX7_undo 99 = .ok (.aload_n 0, 1) := by decide +kernel
theorem dX7_undo_100 : decode cX7_undo 100 = .ok (.getfield 29, 3) := by decide +kernel
theorem dX7_undo_103 : decode cX7_undo 103 = .ok (.invokevirtual 350, 3) := by decide +kernel
theorem dX7_undo_106 : decode cX7_undo 106 = .ok (.aload_n 0, 1) := by decide +kernel
theorem dX7_undo_107 : decode cX7_undo 107 = .ok (.aload_n 0, 1) := by decide +kernel
theorem dX7_undo_108 : decode cX7_undo 108 = .ok (.getfield 181, 3) := by decide +kernel
theorem dX7_undo_111 : decode cX7_undo 111 = .ok (.aload_n 0, 1) := by decide +kernel
theorem dX7_undo_112 : decode cX7_undo 112 = .ok (.getfield 90, 3) := by decide +kernel
theorem dX7_undo_115 : decode cX7_undo 115 = .ok (.invokevirtual 350, 3) := by decide +kernel
theorem dX7_undo_118 : decode cX7_undo 118 = .ok (.aload_n 0, 1) := by decide +kernel
theorem dX7_undo_119 : decode cX7_undo 119 = .ok (.aload_n 0, 1) := by decide +kernel
theorem dX7_undo_120 : decode cX7_undo 120 = .ok (.getfield 184, 3) := by decide +kernel
theorem dX7_undo_123 : decode cX7_undo 123 = .ok (.aload_n 0, 1) := by decide +kernel
theorem dX7_undo_124 : decode cX7_undo 124 = .ok (.getfield 132, 3) := by decide +kernel
theorem dX7_undo_127 : decode cX7_undo 127 = .ok (.invokevirtual 350, 3) := by decide +kernel
theorem dX7_undo_130 : decode cX7_undo 130 = .ok (.aload_n 0, 1) := by decide +kernel
theorem dX7_undo_131 : decode cX7_undo 131 = .ok (.aload_n 0, 1) := by decide +kernel
theorem dX7_undo_132 : decode cX7_undo 132 = .ok (.getfield 187, 3) := by decide +kernel
theorem dX7_undo_135 : decode cX7_undo 135 = .ok (.aload_n 0, 1) := by decide +kernel
theorem dX7_undo_136 : decode cX7_undo 136 = .ok (.getfield 135, 3) := by decide +kernel
theorem dX7_undo_139 : decode cX7_undo 139 = .ok (.invokevirtual 350, 3) := by decide +kernel
theorem dX7_undo_142 : decode cX7_undo 142 = .ok (.aload_n 0, 1) := by decide +kernel
theorem dX7_undo_143 : decode cX7_undo 143 = .ok (.aload_n 0, 1) := by decide +kernel
theorem dX7_undo_144 : decode cX7_undo 144 = .ok (.getfield 190, 3) := by decide +kernel
theorem dX7_undo_147 : decode cX7_undo 147 = .ok (.aload_n 0, 1) := by decide +kernel
theorem dX7_undo_148 : decode cX7_undo 148 = .ok (.getfield 138, 3) := by decide +kernel
theorem dX7_undo_151 : decode cX7_undo 151 = .ok (.invokevirtual 350, 3) := by decide +kernel
theorem dX7_undo_154 : decode cX7_undo 154 = .ok (.aload_n 0, 1) := by decide +kernel
theorem dX7_undo_155 : decode cX7_undo 155 = .ok (.aload_n 0, 1) := by decide +kernel
theorem dX7_undo_156 : decode cX7_undo 156 = .ok (.getfield 193, 3) := by decide +kernel
theorem dX7_undo_159 : decode cX7_undo 159 = .ok (.aload_n 0, 1) := by decide +kernel
theorem dX7_undo_160 : decode cX7_undo 160 = .ok (.getfield 141, 3) := by decide +kernel
theorem dX7_undo_163 : decode cX7_undo 163 = .ok (.invokevirtual 350, 3) := by decide +kernel
theorem dX7_undo_166 : decode cX7_undo 166 = .ok (.aload_n 0, 1) := by decide +kernel
theorem dX7_undo_167 : decode cX7_undo 167 = .ok (.getfield 129, 3) := by decide +kernel
theorem dX7_undo_170 : decode cX7_undo 170 = .ok (.ireturn, 1) := by decide +kernel
def fX7_undo (sh : SH) (this : Nat) (I : IH) : Option (Int32 × IH) :=
  (gI sh I 7 this 45).bind fun x1 =>
  if x1 = 0 then (
    some ((-3), I)) else
  (gI sh I 7 this 46).bind fun x2 =>
  (pI sh I 7 this 0 x2).bind fun i3 =>
  (gI sh i3 7 this 47).bind fun x4 =>
  (pI sh i3 7 this 1 x4).bind fun i5 =>
  (gI sh i5 7 this 48).bind fun x6 =>
  (pI sh i5 7 this 2 x6).bind fun i7 =>
  (gI sh i7 7 this 49).bind fun x8 =>
  (pI sh i7 7 this 8 x8).bind fun i9 =>
  (gI sh i9 7 this 50).bind fun x10 =>
  (pI sh i9 7 this 25 x10).bind fun i11 =>
  (gI sh i11 7 this 51).bind fun x12 =>
  (pI sh i11 7 this 39 x12).bind fun i13 =>
  (gR sh 7 this 52).bind fun x14 =>
  (gR sh 7 this 3).bind fun x15 =>
  (fX7_copy sh this x14 x15 i13).bind fun i16 =>
  (gR sh 7 this 53).bind fun x17 =>
  (gR sh 7 this 4).bind fun x18 =>
  (fX7_copy sh this x17 x18 i16).bind fun i19 =>
  (gR sh 7 this 54).bind fun x20 =>
  (gR sh 7 this 5).bind fun x21 =>
  (fX7_copy sh this x20 x21 i19).bind fun i22 =>
  (gR sh 7 this 55).bind fun x23 =>
  (gR sh 7 this 6).bind fun x24 =>
  (fX7_copy sh this x23 x24 i22).bind fun i25 =>
  (gR sh 7 this 56).bind fun x26 =>
  (gR sh 7 this 26).bind fun x27 =>
  (fX7_copy sh this x26 x27 i25).bind fun i28 =>
  (gR sh 7 this 57).bind fun x29 =>
  (gR sh 7 this 40).bind fun x30 =>
  (fX7_copy sh this x29 x30 i28).bind fun i31 =>
  (gR sh 7 this 58).bind fun x32 =>
  (gR sh 7 this 41).bind fun x33 =>
  (fX7_copy sh this x32 x33 i31).bind fun i34 =>
  (gR sh 7 this 59).bind fun x35 =>
  (gR sh 7 this 42).bind fun x36 =>
  (fX7_copy sh this x35 x36 i34).bind fun i37 =>
  (gR sh 7 this 60).bind fun x38 =>
  (gR sh 7 this 43).bind fun x39 =>
  (fX7_copy sh this x38 x39 i37).bind fun i40 =>
  (gI sh i40 7 this 39).bind fun x41 =>
  some (x41, i40)
set_option maxHeartbeats 4000000 in
set_option maxRecDepth 20000 in
theorem jbX7_undo_0 (G : GT) {X : XT} {sh : SH} {L : LH} {n : Nat} {r : Int32} {I' : IH}  {this : Nat}  {I : IH} (F : MF G X RX7 cX7_undo 1 1 (some .int) "undo") (hth : isO sh 7 this) (h : fX7_undo sh this I = some (r, I')) : J G X (QE G X (some (.int r)) sh I' L n) 1 sh I L n 0 0 0 [(0, .ref this)] [] := by
  unfold fX7_undo at h
  refine j_aload_n (pc := 0) (k0 := 0) F 0 rfl dX7_undo_0 ?_
  obtain ⟨x1, hx1, h⟩ := ob h
  refine j_getI (pc := 1) F flX7_147 hx1 dX7_undo_1 ?_
  refine j_if_ne (pc := 4) F 10 dX7_undo_4 rfl (fun c => ?_) (fun c => ?_)
  · have h := iz_f c h
    refine j_aload_n (pc := 10) (k0 := 0) F 0 rfl dX7_undo_10 ?_
    refine j_aload_n (pc := 11) (k0 := 0) F 0 rfl dX7_undo_11 ?_
    obtain ⟨x2, hx2, h⟩ := ob h
    refine j_getI (pc := 12) F flX7_151 hx2 dX7_undo_12 ?_
    obtain ⟨i3, hi3, h⟩ := ob h
    refine j_putI (pc := 15) F flX7_7 fp7_0 (fun z => by cases z) hi3 dX7_undo_15 ?_
    refine j_aload_n (pc := 18) (k0 := 0) F 0 rfl dX7_undo_18 ?_
    refine j_aload_n (pc := 19) (k0 := 0) F 0 rfl dX7_undo_19 ?_
    obtain ⟨x4, hx4, h⟩ := ob h
    refine j_getI (pc := 20) F flX7_154 hx4 dX7_undo_20 ?_
    obtain ⟨i5, hi5, h⟩ := ob h
    refine j_putI (pc := 23) F flX7_13 fp7_1 (fun z => by cases z) hi5 dX7_undo_23 ?_
    refine j_aload_n (pc := 26) (k0 := 0) F 0 rfl dX7_undo_26 ?_
    refine j_aload_n (pc := 27) (k0 := 0) F 0 rfl dX7_undo_27 ?_
    obtain ⟨x6, hx6, h⟩ := ob h
    refine j_getI (pc := 28) F flX7_157 hx6 dX7_undo_28 ?_
    obtain ⟨i7, hi7, h⟩ := ob h
    refine j_putI (pc := 31) F flX7_16 fp7_2 (fun z => by cases z) hi7 dX7_undo_31 ?_
    refine j_aload_n (pc := 34) (k0 := 0) F 0 rfl dX7_undo_34 ?_
    refine j_aload_n (pc := 35) (k0 := 0) F 0 rfl dX7_undo_35 ?_
    obtain ⟨x8, hx8, h⟩ := ob h
    refine j_getI (pc := 36) F flX7_160 hx8 dX7_undo_36 ?_
    obtain ⟨i9, hi9, h⟩ := ob h
    refine j_putI (pc := 39) F flX7_35 fp7_8 (fun z => by cases z) hi9 dX7_undo_39 ?_
    refine j_aload_n (pc := 42) (k0 := 0) F 0 rfl dX7_undo_42 ?_
    refine j_aload_n (pc := 43) (k0 := 0) F 0 rfl dX7_undo_43 ?_
    obtain ⟨x10, hx10, h⟩ := ob h
    refine j_getI (pc := 44) F flX7_163 hx10 dX7_undo_44 ?_
    obtain ⟨i11, hi11, h⟩ := ob h
    refine j_putI (pc := 47) F flX7_87 fp7_25 (fun z => by cases z) hi11 dX7_undo_47 ?_
    refine j_aload_n (pc := 50) (k0 := 0) F 0 rfl dX7_undo_50 ?_
    refine j_aload_n (pc := 51) (k0 := 0) F 0 rfl dX7_undo_51 ?_
    obtain ⟨x12, hx12, h⟩ := ob h
    refine j_getI (pc := 52) F flX7_166 hx12 dX7_undo_52 ?_
    obtain ⟨i13, hi13, h⟩ := ob h
    refine j_putI (pc := 55) F flX7_129 fp7_39 (fun z => by cases z) hi13 dX7_undo_55 ?_
    refine j_aload_n (pc := 58) (k0 := 0) F 0 rfl dX7_undo_58 ?_
    refine j_aload_n (pc := 59) (k0 := 0) F 0 rfl dX7_undo_59 ?_
    obtain ⟨x14, hx14, h⟩ := ob h
    refine j_getR (pc := 60) F flX7_169 hx14 dX7_undo_60 ?_
    refine j_aload_n (pc := 63) (k0 := 0) F 0 rfl dX7_undo_63 ?_
    obtain ⟨x15, hx15, h⟩ := ob h
    refine j_getR (pc := 64) F flX7_19 hx15 dX7_undo_64 ?_
    obtain ⟨i16, hi16, h⟩ := ob h
    refine j_callV0 (pc := 67) (ci := 7) (As := [.ref x14, .ref x15]) (st := []) (e1 := 0) (es1 := 0) F clX7_350 cwX7_copy rfl hth (ctX7_copy G hi16) rfl rfl rfl rfl rfl rfl dX7_undo_67 ?_
    refine j_aload_n (pc := 70) (k0 := 0) F 0 rfl dX7_undo_70 ?_
    refine j_aload_n (pc := 71) (k0 := 0) F 0 rfl dX7_undo_71 ?_
    obtain ⟨x17, hx17, h⟩ := ob h
    refine j_getR (pc := 72) F flX7_172 hx17 dX7_undo_72 ?_
    refine j_aload_n (pc := 75) (k0 := 0) F 0 rfl dX7_undo_75 ?_
    obtain ⟨x18, hx18, h⟩ := ob h
    refine j_getR (pc := 76) F flX7_23 hx18 dX7_undo_76 ?_
    obtain ⟨i19, hi19, h⟩ := ob h
    refine j_callV0 (pc := 79) (ci := 7) (As := [.ref x17, .ref x18]) (st := []) (e1 := 0) (es1 := 0) F clX7_350 cwX7_copy rfl hth (ctX7_copy G hi19) rfl rfl rfl rfl rfl rfl dX7_undo_79 ?_
    refine j_aload_n (pc := 82) (k0 := 0) F 0 rfl dX7_undo_82 ?_
    refine j_aload_n (pc := 83) (k0 := 0) F 0 rfl dX7_undo_83 ?_
    obtain ⟨x20, hx20, h⟩ := ob h
    refine j_getR (pc := 84) F flX7_175 hx20 dX7_undo_84 ?_
    refine j_aload_n (pc := 87) (k0 := 0) F 0 rfl dX7_undo_87 ?_
    obtain ⟨x21, hx21, h⟩ := ob h
    refine j_getR (pc := 88) F flX7_26 hx21 dX7_undo_88 ?_
    obtain ⟨i22, hi22, h⟩ := ob h
    refine j_callV0 (pc := 91) (ci := 7) (As := [.ref x20, .ref x21]) (st := []) (e1 := 0) (es1 := 0) F clX7_350 cwX7_copy rfl hth (ctX7_copy G hi22) rfl rfl rfl rfl rfl rfl dX7_undo_91 ?_
    refine j_aload_n (pc := 94) (k0 := 0) F 0 rfl dX7_undo_94 ?_
    refine j_aload_n (pc := 95) (k0 := 0) F 0 rfl dX7_undo_95 ?_
    obtain ⟨x23, hx23, h⟩ := ob h
    refine j_getR (pc := 96) F flX7_178 hx23 dX7_undo_96 ?_
    refine j_aload_n (pc := 99) (k0 := 0) F 0 rfl dX7_undo_99 ?_
    obtain ⟨x24, hx24, h⟩ := ob h
    refine j_getR (pc := 100) F flX7_29 hx24 dX7_undo_100 ?_
    obtain ⟨i25, hi25, h⟩ := ob h
    refine j_callV0 (pc := 103) (ci := 7) (As := [.ref x23, .ref x24]) (st := []) (e1 := 0) (es1 := 0) F clX7_350 cwX7_copy rfl hth (ctX7_copy G hi25) rfl rfl rfl rfl rfl rfl dX7_undo_103 ?_
    refine j_aload_n (pc := 106) (k0 := 0) F 0 rfl dX7_undo_106 ?_
    refine j_aload_n (pc := 107) (k0 := 0) F 0 rfl dX7_undo_107 ?_
    obtain ⟨x26, hx26, h⟩ := ob h
    refine j_getR (pc := 108) F flX7_181 hx26 dX7_undo_108 ?_
    refine j_aload_n (pc := 111) (k0 := 0) F 0 rfl dX7_undo_111 ?_
    obtain ⟨x27, hx27, h⟩ := ob h
    refine j_getR (pc := 112) F flX7_90 hx27 dX7_undo_112 ?_
    obtain ⟨i28, hi28, h⟩ := ob h
    refine j_callV0 (pc := 115) (ci := 7) (As := [.ref x26, .ref x27]) (st := []) (e1 := 0) (es1 := 0) F clX7_350 cwX7_copy rfl hth (ctX7_copy G hi28) rfl rfl rfl rfl rfl rfl dX7_undo_115 ?_
    refine j_aload_n (pc := 118) (k0 := 0) F 0 rfl dX7_undo_118 ?_
    refine j_aload_n (pc := 119) (k0 := 0) F 0 rfl dX7_undo_119 ?_
    obtain ⟨x29, hx29, h⟩ := ob h
    refine j_getR (pc := 120) F flX7_184 hx29 dX7_undo_120 ?_
    refine j_aload_n (pc := 123) (k0 := 0) F 0 rfl dX7_undo_123 ?_
    obtain ⟨x30, hx30, h⟩ := ob h
    refine j_getR (pc := 124) F flX7_132 hx30 dX7_undo_124 ?_
    obtain ⟨i31, hi31, h⟩ := ob h
    refine j_callV0 (pc := 127) (ci := 7) (As := [.ref x29, .ref x30]) (st := []) (e1 := 0) (es1 := 0) F clX7_350 cwX7_copy rfl hth (ctX7_copy G hi31) rfl rfl rfl rfl rfl rfl dX7_undo_127 ?_
    refine j_aload_n (pc := 130) (k0 := 0) F 0 rfl dX7_undo_130 ?_
    refine j_aload_n (pc := 131) (k0 := 0) F 0 rfl dX7_undo_131 ?_
    obtain ⟨x32, hx32, h⟩ := ob h
    refine j_getR (pc := 132) F flX7_187 hx32 dX7_undo_132 ?_
    refine j_aload_n (pc := 135) (k0 := 0) F 0 rfl dX7_undo_135 ?_
    obtain ⟨x33, hx33, h⟩ := ob h
    refine j_getR (pc := 136) F flX7_135 hx33 dX7_undo_136 ?_
    obtain ⟨i34, hi34, h⟩ := ob h
    refine j_callV0 (pc := 139) (ci := 7) (As := [.ref x32, .ref x33]) (st := []) (e1 := 0) (es1 := 0) F clX7_350 cwX7_copy rfl hth (ctX7_copy G hi34) rfl rfl rfl rfl rfl rfl dX7_undo_139 ?_
    refine j_aload_n (pc := 142) (k0 := 0) F 0 rfl dX7_undo_142 ?_
    refine j_aload_n (pc := 143) (k0 := 0) F 0 rfl dX7_undo_143 ?_
    obtain ⟨x35, hx35, h⟩ := ob h
    refine j_getR (pc := 144) F flX7_190 hx35 dX7_undo_144 ?_
    refine j_aload_n (pc := 147) (k0 := 0) F 0 rfl dX7_undo_147 ?_
    obtain ⟨x36, hx36, h⟩ := ob h
    refine j_getR (pc := 148) F flX7_138 hx36 dX7_undo_148 ?_
    obtain ⟨i37, hi37, h⟩ := ob h
    refine j_callV0 (pc := 151) (ci := 7) (As := [.ref x35, .ref x36]) (st := []) (e1 := 0) (es1 := 0) F clX7_350 cwX7_copy rfl hth (ctX7_copy G hi37) rfl rfl rfl rfl rfl rfl dX7_undo_151 ?_
    refine j_aload_n (pc := 154) (k0 := 0) F 0 rfl dX7_undo_154 ?_
    refine j_aload_n (pc := 155) (k0 := 0) F 0 rfl dX7_undo_155 ?_
    obtain ⟨x38, hx38, h⟩ := ob h
    refine j_getR (pc := 156) F flX7_193 hx38 dX7_undo_156 ?_
    refine j_aload_n (pc := 159) (k0 := 0) F 0 rfl dX7_undo_159 ?_
    obtain ⟨x39, hx39, h⟩ := ob h
    refine j_getR (pc := 160) F flX7_141 hx39 dX7_undo_160 ?_
    obtain ⟨i40, hi40, h⟩ := ob h
    refine j_callV0 (pc := 163) (ci := 7) (As := [.ref x38, .ref x39]) (st := []) (e1 := 0) (es1 := 0) F clX7_350 cwX7_copy rfl hth (ctX7_copy G hi40) rfl rfl rfl rfl rfl rfl dX7_undo_163 ?_
    refine j_aload_n (pc := 166) (k0 := 0) F 0 rfl dX7_undo_166 ?_
    obtain ⟨x41, hx41, h⟩ := ob h
    refine j_getI (pc := 167) F flX7_129 hx41 dX7_undo_167 ?_
    have g1 := Option.some.inj h
    obtain ⟨q3, g2⟩ := Prod.mk.inj g1
    subst q3
    subst g2
    exact j_iret (pc := 170) F dX7_undo_170
  · have h := iz_t c h
    refine j_bipush (pc := 7) F (-3) dX7_undo_7 (by decide) ?_
    have g1 := Option.some.inj h
    obtain ⟨q3, g2⟩ := Prod.mk.inj g1
    subst q3
    subst g2
    exact j_iret (pc := 9) F dX7_undo_9
theorem ctX7_undo (G : GT) {sh : SH} {I : IH} {L : LH} {n : Nat} {this : Nat} {r : Int32} {I' : IH}  (hth : isO sh 7 this) (h : fX7_undo sh this I = some (r, I')) : Ct G yX7_undo cX7_undo 1 (some .int) 1 [.ref this] sh I L n (some (.int r)) sh I' L n 0 0 := by
  refine ct_of (y := yX7_undo) (by decide +kernel) rfl (fun X F => ?_)
  exact jbX7_undo_0 G F hth h
theorem dX7_body_0 : decode cX7_body 0 = .ok (.aload_n 0, 1) := by decide +kernel
theorem dX7_body_1 : decode cX7_body 1 = .ok (.getfield 196, 3) := by decide +kernel
theorem dX7_body_4 : decode cX7_body 4 = .ok (.bipush 20, 2) := by decide +kernel
theorem dX7_body_6 : decode cX7_body 6 = .ok (.if_icmp .ge 13, 3) := by decide +kernel
theorem dX7_body_9 : decode cX7_body 9 = .ok (.aload_n 0, 1) := by decide +kernel
theorem dX7_body_10 : decode cX7_body 10 = .ok (.getfield 199, 3) := by decide +kernel
theorem dX7_body_13 : decode cX7_body 13 = .ok (.aload_n 0, 1) := by decide +kernel
theorem dX7_body_14 : decode cX7_body 14 = .ok (.getfield 196, 3) := by decide +kernel
theorem dX7_body_17 : decode cX7_body 17 = .ok (.iload_n 1, 1) := by decide +kernel
theorem dX7_body_18 : decode cX7_body 18 = .ok (.iastore, 1) := by decide +kernel
theorem dX7_body_19 : decode cX7_body 19 = .ok (.aload_n 0, 1) := by decide +kernel
theorem dX7_body_20 : decode cX7_body 20 = .ok (.dup, 1) := by decide +kernel
theorem dX7_body_21 : decode cX7_body 21 = .ok (.getfield 196, 3) := by decide +kernel
theorem dX7_body_24 : decode cX7_body 24 = .ok (.iconst 1, 1) := by decide +kernel
theorem dX7_body_25 : decode cX7_body 25 = .ok (.iadd, 1) := by decide +kernel
theorem dX7_body_26 : decode cX7_body 26 = .ok (.putfield 196, 3) := by decide +kernel
theorem dX7_body_29 : decode cX7_body 29 = .ok (.return_, 1) := by decide +kernel
def fX7_body_b19 (sh : SH) (this : Nat) (I : IH) : Option (IH) :=
  (gI sh I 7 this 61).bind fun x1 =>
  (pI sh I 7 this 61 (x1 + 1)).bind fun i2 =>
  some i2
def fX7_body (sh : SH) (this : Nat) (v1 : Int32) (I : IH) : Option (IH) :=
  (gI sh I 7 this 61).bind fun x1 =>
  if 20 ≤ x1 then (
    fX7_body_b19 sh this I) else
  (gR sh 7 this 62).bind fun x2 =>
  (gI sh I 7 this 61).bind fun x3 =>
  (sI sh I x2 x3 v1).bind fun i4 =>
  fX7_body_b19 sh this i4
set_option maxHeartbeats 4000000 in
set_option maxRecDepth 20000 in
theorem jbX7_body_19 (G : GT) {X : XT} {sh : SH} {L : LH} {n : Nat} {I' : IH}  {this : Nat}  {I : IH} (F : MF G X RX7 cX7_body 2 0 none "body") (h : fX7_body_b19 sh this I = some I') : J G X (QE G X (none) sh I' L n) 2 sh I L n 0 0 19 [(0, .ref this)] [] := by
  unfold fX7_body_b19 at h
  refine j_aload_n (pc := 19) (k0 := 0) F 0 rfl dX7_body_19 ?_
  refine j_dup (pc := 20) F dX7_body_20 rfl ?_
  obtain ⟨x1, hx1, h⟩ := ob h
  refine j_getI (pc := 21) F flX7_196 hx1 dX7_body_21 ?_
  refine j_iconst (pc := 24) F 1 dX7_body_24 (by decide) ?_
  refine j_iadd (pc := 25) F dX7_body_25 ?_
  obtain ⟨i2, hi2, h⟩ := ob h
  refine j_putI (pc := 26) F flX7_196 fp7_61 (fun z => by cases z) hi2 dX7_body_26 ?_
  have g1 := Option.some.inj h
  subst g1
  exact j_vret (pc := 29) F dX7_body_29
set_option maxHeartbeats 4000000 in
set_option maxRecDepth 20000 in
theorem jbX7_body_0 (G : GT) {X : XT} {sh : SH} {L : LH} {n : Nat} {I' : IH}  {this : Nat}  {v1 : Int32} {I : IH} (F : MF G X RX7 cX7_body 2 0 none "body") (h : fX7_body sh this v1 I = some I') : J G X (QE G X (none) sh I' L n) 2 sh I L n 0 0 0 [(0, .ref this), (1, .int v1)] [] := by
  unfold fX7_body at h
  refine j_aload_n (pc := 0) (k0 := 0) F 0 rfl dX7_body_0 ?_
  obtain ⟨x1, hx1, h⟩ := ob h
  refine j_getI (pc := 1) F flX7_196 hx1 dX7_body_1 ?_
  refine j_bipush (pc := 4) F 20 dX7_body_4 (by decide) ?_
  refine j_icmp_ge (pc := 6) F 19 dX7_body_6 rfl (fun c => ?_) (fun c => ?_)
  · have h := iz_t c h
    refine j_sub [0] rfl ?_
    exact jbX7_body_19 G F h
  · have h := iz_f c h
    refine j_aload_n (pc := 9) (k0 := 0) F 0 rfl dX7_body_9 ?_
    obtain ⟨x2, hx2, h⟩ := ob h
    refine j_getR (pc := 10) F flX7_199 hx2 dX7_body_10 ?_
    refine j_aload_n (pc := 13) (k0 := 0) F 0 rfl dX7_body_13 ?_
    obtain ⟨x3, hx3, h⟩ := ob h
    refine j_getI (pc := 14) F flX7_196 hx3 dX7_body_14 ?_
    refine j_iload_n (pc := 17) (k0 := 1) F 1 rfl dX7_body_17 ?_
    obtain ⟨i4, hi4, h⟩ := ob h
    refine j_iast (pc := 18) F hi4 dX7_body_18 ?_
    refine j_sub [0] rfl ?_
    exact jbX7_body_19 G F h
theorem ctX7_body (G : GT) {sh : SH} {I : IH} {L : LH} {n : Nat} {this : Nat} {v1 : Int32} {I' : IH}  (h : fX7_body sh this v1 I = some I') : Ct G yX7_body cX7_body 2 none 0 [.ref this, .int v1] sh I L n (none) sh I' L n 0 0 := by
  refine ct_of (y := yX7_body) (by decide +kernel) rfl (fun X F => ?_)
  exact jbX7_body_0 G F h
theorem dX7_plainLets_0 : decode cX7_plainLets 0 = .ok (.aload_n 0, 1) := by decide +kernel
theorem dX7_plainLets_1 : decode cX7_plainLets 1 = .ok (.bipush 10, 2) := by decide +kernel
theorem dX7_plainLets_3 : decode cX7_plainLets 3 = .ok (.invokevirtual 354, 3) := by decide +kernel
theorem dX7_plainLets_6 : decode cX7_plainLets 6 = .ok (.iload_n 2, 1) := by decide +kernel
theorem dX7_plainLets_7 : decode cX7_plainLets 7 = .ok (.iload_n 1, 1) := by decide +kernel
theorem dX7_plainLets_8 : decode cX7_plainLets 8 = .ok (.iadd, 1) := by decide +kernel
theorem dX7_plainLets_9 : decode cX7_plainLets 9 = .ok (.ireturn, 1) := by decide +kernel
def fX7_plainLets (sh : SH) (this : Nat) (v1 : Int32) (v2 : Int32) (I : IH) : Option (Int32 × IH) :=
  (fX7_body sh this 10 I).bind fun i1 =>
  some ((v2 + v1), i1)
set_option maxHeartbeats 4000000 in
set_option maxRecDepth 20000 in
theorem jbX7_plainLets_0 (G : GT) {X : XT} {sh : SH} {L : LH} {n : Nat} {r : Int32} {I' : IH}  {this : Nat}  {v1 : Int32} {v2 : Int32} {I : IH} (F : MF G X RX7 cX7_plainLets 3 1 (some .int) "plainLets") (hth : isO sh 7 this) (h : fX7_plainLets sh this v1 v2 I = some (r, I')) : J G X (QE G X (some (.int r)) sh I' L n) 3 sh I L n 0 0 0 [(0, .ref this), (1, .int v1), (2, .int v2)] [] := by
  unfold fX7_plainLets at h
  refine j_aload_n (pc := 0) (k0 := 0) F 0 rfl dX7_plainLets_0 ?_
  refine j_bipush (pc := 1) F 10 dX7_plainLets_1 (by decide) ?_
  obtain ⟨i1, hi1, h⟩ := ob h
  refine j_callV0 (pc := 3) (ci := 7) (As := [.int 10]) (st := []) (e1 := 0) (es1 := 0) F clX7_354 cwX7_body rfl hth (ctX7_body G hi1) rfl rfl rfl rfl rfl rfl dX7_plainLets_3 ?_
  refine j_iload_n (pc := 6) (k0 := 2) F 2 rfl dX7_plainLets_6 ?_
  refine j_iload_n (pc := 7) (k0 := 1) F 1 rfl dX7_plainLets_7 ?_
  refine j_iadd (pc := 8) F dX7_plainLets_8 ?_
  have g1 := Option.some.inj h
  obtain ⟨q3, g2⟩ := Prod.mk.inj g1
  subst q3
  subst g2
  exact j_iret (pc := 9) F dX7_plainLets_9
theorem ctX7_plainLets (G : GT) {sh : SH} {I : IH} {L : LH} {n : Nat} {this : Nat} {v1 : Int32} {v2 : Int32} {r : Int32} {I' : IH}  (hth : isO sh 7 this) (h : fX7_plainLets sh this v1 v2 I = some (r, I')) : Ct G yX7_plainLets cX7_plainLets 3 (some .int) 1 [.ref this, .int v1, .int v2] sh I L n (some (.int r)) sh I' L n 0 0 := by
  refine ct_of (y := yX7_plainLets) (by decide +kernel) rfl (fun X F => ?_)
  exact jbX7_plainLets_0 G F hth h
theorem dX7_letsAct_0 : decode cX7_letsAct 0 = .ok (.aload_n 0, 1) := by decide +kernel
theorem dX7_letsAct_1 : decode cX7_letsAct 1 = .ok (.getfield 23, 3) := by decide +kernel
theorem dX7_letsAct_4 : decode cX7_letsAct 4 = .ok (.iload_n 1, 1) := by decide +kernel
theorem dX7_letsAct_5 : decode cX7_letsAct 5 = .ok (.iaload, 1) := by decide +kernel
theorem dX7_letsAct_6 : decode cX7_letsAct 6 = .ok (.tableswitch 83 2 6 #[34, 83, 49, 34, 63], 34) := by decide +kernel
theorem dX7_letsAct_40 : decode cX7_letsAct 40 = .ok (.aload_n 0, 1) := by decide +kernel
theorem dX7_letsAct_41 : decode cX7_letsAct 41 = .ok (.bipush 30, 2) := by decide +kernel
theorem dX7_letsAct_43 : decode cX7_letsAct 43 = .ok (.invokevirtual 354, 3) := by decide +kernel
theorem dX7_letsAct_46 : decode cX7_letsAct 46 = .ok (.aload_n 0, 1) := by decide +kernel
theorem dX7_letsAct_47 : decode cX7_letsAct 47 = .ok (.iload_n 1, 1) := by decide +kernel
theorem dX7_letsAct_48 : decode cX7_letsAct 48 = .ok (.iload_n 2, 1) := by decide +kernel
theorem dX7_letsAct_49 : decode cX7_letsAct 49 = .ok (.iconst 3, 1) := by decide +kernel
theorem dX7_letsAct_50 : decode cX7_letsAct 50 = .ok (.imul, 1) := by decide +kernel
theorem dX7_letsAct_51 : decode cX7_letsAct 51 = .ok (.invokevirtual 357, 3) := by decide +kernel
theorem dX7_letsAct_54 : decode cX7_letsAct 54 = .ok (.ireturn, 1) := by decide +kernel
theorem dX7_letsAct_55 : decode cX7_letsAct 55 = .ok (.aload_n 0, 1) := by decide +kernel
theorem dX7_letsAct_56 : decode cX7_letsAct 56 = .ok (.bipush 50, 2) := by decide +kernel
theorem dX7_letsAct_58 : decode cX7_letsAct 58 = .ok (.invokevirtual 354, 3) := by decide +kernel
theorem dX7_letsAct_61 : decode cX7_letsAct 61 = .ok (.aload_n 0, 1) := by decide +kernel
theorem dX7_letsAct_62 : decode cX7_letsAct 62 = .ok (.iload_n 1, 1) := by decide +kernel
theorem dX7_letsAct_63 : decode cX7_letsAct 63 = .ok (.iload_n 2, 1) := by decide +kernel
theorem dX7_letsAct_64 : decode cX7_letsAct 64 = .ok (.invokevirtual 357, 3) := by decide +kernel
theorem dX7_letsAct_67 : decode cX7_letsAct 67 = .ok (.ineg, 1) := by decide +kernel
theorem dX7_letsAct_68 : decode cX7_letsAct 68 = .ok (.ireturn, 1) := by decide +kernel
theorem dX7_letsAct_69 : decode cX7_letsAct 69 = .ok (.aload_n 0, 1) := by decide +kernel
theorem dX7_letsAct_70 : decode cX7_letsAct 70 = .ok (.bipush 71, 2) := by decide +kernel
theorem dX7_letsAct_72 : decode cX7_letsAct 72 = .ok (.invokevirtual 354, 3) := by decide +kernel
theorem dX7_letsAct_75 : decode cX7_letsAct 75 = .ok (.aload_n 0, 1) := by decide +kernel
theorem dX7_letsAct_76 : decode cX7_letsAct 76 = .ok (.iload_n 1, 1) := by decide +kernel
theorem dX7_letsAct_77 : decode cX7_letsAct 77 = .ok (.iload_n 2, 1) := by decide +kernel
theorem dX7_letsAct_78 : decode cX7_letsAct 78 = .ok (.invokevirtual 357, 3) := by decide +kernel
theorem dX7_letsAct_81 : decode cX7_letsAct 81 = .ok (.aload_n 0, 1) := by decide +kernel
theorem dX7_letsAct_82 : decode cX7_letsAct 82 = .ok (.getfield 26, 3) := by decide +kernel
theorem dX7_letsAct_85 : decode cX7_letsAct 85 = .ok (.iload_n 1, 1) := by decide +kernel
theorem dX7_letsAct_86 : decode cX7_letsAct 86 = .ok (.iaload, 1) := by decide +kernel
theorem dX7_letsAct_87 : decode cX7_letsAct 87 = .ok (.ixor, 1) := by decide +kernel
theorem dX7_letsAct_88 : decode cX7_letsAct 88 = .ok (.ireturn, 1) := by decide +kernel
theorem dX7_letsAct_89 : decode cX7_letsAct 89 = .ok (.aload_n 0, 1) := by decide +kernel
theorem dX7_letsAct_90 : decode cX7_letsAct 90 = .ok (.iload_n 1, 1) := by decide +kernel
theorem dX7_letsAct_91 : decode cX7_letsAct 91 = .ok (.iload_n 2, 1) := by decide +kernel
theorem dX7_letsAct_92 : decode cX7_letsAct 92 = .ok (.invokevirtual 357, 3) := by decide +kernel
theorem dX7_letsAct_95 : decode cX7_letsAct 95 = .ok (.ireturn, 1) := by decide +kernel
def fX7_letsAct (sh : SH) (this : Nat) (v1 : Int32) (v2 : Int32) (I : IH) : Option (Int32 × IH) :=
  (gR sh 7 this 4).bind fun x1 =>
  (aI sh I 0 x1 v1).bind fun x2 =>
  if x2 = 2 then (
    (fX7_body sh this 30 I).bind fun i3 =>
    b2 (fX7_plainLets sh this v1 (v2 * 3) i3) fun x4 i5 =>
    some (x4, i5)) else
  if x2 = 4 then (
    (fX7_body sh this 50 I).bind fun i6 =>
    b2 (fX7_plainLets sh this v1 v2 i6) fun x7 i8 =>
    some ((-x7), i8)) else
  if x2 = 5 then (
    (fX7_body sh this 30 I).bind fun i9 =>
    b2 (fX7_plainLets sh this v1 (v2 * 3) i9) fun x10 i11 =>
    some (x10, i11)) else
  if x2 = 6 then (
    (fX7_body sh this 71 I).bind fun i12 =>
    b2 (fX7_plainLets sh this v1 v2 i12) fun x13 i14 =>
    (gR sh 7 this 5).bind fun x15 =>
    (aI sh i14 0 x15 v1).bind fun x16 =>
    some ((x13 ^^^ x16), i14)) else
  b2 (fX7_plainLets sh this v1 v2 I) fun x17 i18 =>
  some (x17, i18)
set_option maxHeartbeats 4000000 in
set_option maxRecDepth 20000 in
theorem jbX7_letsAct_0 (G : GT) {X : XT} {sh : SH} {L : LH} {n : Nat} {r : Int32} {I' : IH}  {this : Nat}  {v1 : Int32} {v2 : Int32} {I : IH} (F : MF G X RX7 cX7_letsAct 3 2 (some .int) "letsAct") (hth : isO sh 7 this) (h : fX7_letsAct sh this v1 v2 I = some (r, I')) : J G X (QE G X (some (.int r)) sh I' L n) 3 sh I L n 0 0 0 [(0, .ref this), (1, .int v1), (2, .int v2)] [] := by
  unfold fX7_letsAct at h
  refine j_aload_n (pc := 0) (k0 := 0) F 0 rfl dX7_letsAct_0 ?_
  obtain ⟨x1, hx1, h⟩ := ob h
  refine j_getR (pc := 1) F flX7_23 hx1 dX7_letsAct_1 ?_
  refine j_iload_n (pc := 4) (k0 := 1) F 1 rfl dX7_letsAct_4 ?_
  obtain ⟨x2, hx2, h⟩ := ob h
  refine j_iald (pc := 5) F hx2 dX7_letsAct_5 ?_
  by_cases c1 : x2 = 2
  · have h := iz_t c1 h
    refine j_tabIn (pc := 6) (k0 := 2) F 40 c1 dX7_letsAct_6 (by decide) rfl rfl ?_
    refine j_aload_n (pc := 40) (k0 := 0) F 0 rfl dX7_letsAct_40 ?_
    refine j_bipush (pc := 41) F 30 dX7_letsAct_41 (by decide) ?_
    obtain ⟨i3, hi3, h⟩ := ob h
    refine j_callV0 (pc := 43) (ci := 7) (As := [.int 30]) (st := []) (e1 := 0) (es1 := 0) F clX7_354 cwX7_body rfl hth (ctX7_body G hi3) rfl rfl rfl rfl rfl rfl dX7_letsAct_43 ?_
    refine j_aload_n (pc := 46) (k0 := 0) F 0 rfl dX7_letsAct_46 ?_
    refine j_iload_n (pc := 47) (k0 := 1) F 1 rfl dX7_letsAct_47 ?_
    refine j_iload_n (pc := 48) (k0 := 2) F 2 rfl dX7_letsAct_48 ?_
    refine j_iconst (pc := 49) F 3 dX7_letsAct_49 (by decide) ?_
    refine j_imul (pc := 50) F dX7_letsAct_50 ?_
    obtain ⟨x4, i5, hx4, h⟩ := b2_obt h
    refine j_callV1 (pc := 51) (ci := 7) (As := [.int v1, .int (v2 * 3)]) (st := []) (e1 := 0) (es1 := 0) F clX7_357 cwX7_plainLets rfl hth (ctX7_plainLets G hth hx4) rfl rfl rfl rfl rfl rfl dX7_letsAct_51 ?_
    have g1 := Option.some.inj h
    obtain ⟨q3, g2⟩ := Prod.mk.inj g1
    subst q3
    subst g2
    exact j_iret (pc := 54) F dX7_letsAct_54
  have h := iz_f c1 h
  by_cases c2 : x2 = 4
  · have h := iz_t c2 h
    refine j_tabIn (pc := 6) (k0 := 4) F 55 c2 dX7_letsAct_6 (by decide) rfl rfl ?_
    refine j_aload_n (pc := 55) (k0 := 0) F 0 rfl dX7_letsAct_55 ?_
    refine j_bipush (pc := 56) F 50 dX7_letsAct_56 (by decide) ?_
    obtain ⟨i6, hi6, h⟩ := ob h
    refine j_callV0 (pc := 58) (ci := 7) (As := [.int 50]) (st := []) (e1 := 0) (es1 := 0) F clX7_354 cwX7_body rfl hth (ctX7_body G hi6) rfl rfl rfl rfl rfl rfl dX7_letsAct_58 ?_
    refine j_aload_n (pc := 61) (k0 := 0) F 0 rfl dX7_letsAct_61 ?_
    refine j_iload_n (pc := 62) (k0 := 1) F 1 rfl dX7_letsAct_62 ?_
    refine j_iload_n (pc := 63) (k0 := 2) F 2 rfl dX7_letsAct_63 ?_
    obtain ⟨x7, i8, hx7, h⟩ := b2_obt h
    refine j_callV1 (pc := 64) (ci := 7) (As := [.int v1, .int v2]) (st := []) (e1 := 0) (es1 := 0) F clX7_357 cwX7_plainLets rfl hth (ctX7_plainLets G hth hx7) rfl rfl rfl rfl rfl rfl dX7_letsAct_64 ?_
    refine j_ineg (pc := 67) F dX7_letsAct_67 ?_
    have g1 := Option.some.inj h
    obtain ⟨q3, g2⟩ := Prod.mk.inj g1
    subst q3
    subst g2
    exact j_iret (pc := 68) F dX7_letsAct_68
  have h := iz_f c2 h
  by_cases c3 : x2 = 5
  · have h := iz_t c3 h
    refine j_tabIn (pc := 6) (k0 := 5) F 40 c3 dX7_letsAct_6 (by decide) rfl rfl ?_
    refine j_aload_n (pc := 40) (k0 := 0) F 0 rfl dX7_letsAct_40 ?_
    refine j_bipush (pc := 41) F 30 dX7_letsAct_41 (by decide) ?_
    obtain ⟨i9, hi9, h⟩ := ob h
    refine j_callV0 (pc := 43) (ci := 7) (As := [.int 30]) (st := []) (e1 := 0) (es1 := 0) F clX7_354 cwX7_body rfl hth (ctX7_body G hi9) rfl rfl rfl rfl rfl rfl dX7_letsAct_43 ?_
    refine j_aload_n (pc := 46) (k0 := 0) F 0 rfl dX7_letsAct_46 ?_
    refine j_iload_n (pc := 47) (k0 := 1) F 1 rfl dX7_letsAct_47 ?_
    refine j_iload_n (pc := 48) (k0 := 2) F 2 rfl dX7_letsAct_48 ?_
    refine j_iconst (pc := 49) F 3 dX7_letsAct_49 (by decide) ?_
    refine j_imul (pc := 50) F dX7_letsAct_50 ?_
    obtain ⟨x10, i11, hx10, h⟩ := b2_obt h
    refine j_callV1 (pc := 51) (ci := 7) (As := [.int v1, .int (v2 * 3)]) (st := []) (e1 := 0) (es1 := 0) F clX7_357 cwX7_plainLets rfl hth (ctX7_plainLets G hth hx10) rfl rfl rfl rfl rfl rfl dX7_letsAct_51 ?_
    have g1 := Option.some.inj h
    obtain ⟨q3, g2⟩ := Prod.mk.inj g1
    subst q3
    subst g2
    exact j_iret (pc := 54) F dX7_letsAct_54
  have h := iz_f c3 h
  by_cases c4 : x2 = 6
  · have h := iz_t c4 h
    refine j_tabIn (pc := 6) (k0 := 6) F 69 c4 dX7_letsAct_6 (by decide) rfl rfl ?_
    refine j_aload_n (pc := 69) (k0 := 0) F 0 rfl dX7_letsAct_69 ?_
    refine j_bipush (pc := 70) F 71 dX7_letsAct_70 (by decide) ?_
    obtain ⟨i12, hi12, h⟩ := ob h
    refine j_callV0 (pc := 72) (ci := 7) (As := [.int 71]) (st := []) (e1 := 0) (es1 := 0) F clX7_354 cwX7_body rfl hth (ctX7_body G hi12) rfl rfl rfl rfl rfl rfl dX7_letsAct_72 ?_
    refine j_aload_n (pc := 75) (k0 := 0) F 0 rfl dX7_letsAct_75 ?_
    refine j_iload_n (pc := 76) (k0 := 1) F 1 rfl dX7_letsAct_76 ?_
    refine j_iload_n (pc := 77) (k0 := 2) F 2 rfl dX7_letsAct_77 ?_
    obtain ⟨x13, i14, hx13, h⟩ := b2_obt h
    refine j_callV1 (pc := 78) (ci := 7) (As := [.int v1, .int v2]) (st := []) (e1 := 0) (es1 := 0) F clX7_357 cwX7_plainLets rfl hth (ctX7_plainLets G hth hx13) rfl rfl rfl rfl rfl rfl dX7_letsAct_78 ?_
    refine j_aload_n (pc := 81) (k0 := 0) F 0 rfl dX7_letsAct_81 ?_
    obtain ⟨x15, hx15, h⟩ := ob h
    refine j_getR (pc := 82) F flX7_26 hx15 dX7_letsAct_82 ?_
    refine j_iload_n (pc := 85) (k0 := 1) F 1 rfl dX7_letsAct_85 ?_
    obtain ⟨x16, hx16, h⟩ := ob h
    refine j_iald (pc := 86) F hx16 dX7_letsAct_86 ?_
    refine j_ixor (pc := 87) F dX7_letsAct_87 ?_
    have g1 := Option.some.inj h
    obtain ⟨q3, g2⟩ := Prod.mk.inj g1
    subst q3
    subst g2
    exact j_iret (pc := 88) F dX7_letsAct_88
  have h := iz_f c4 h
  by_cases d1 : x2 = 3
  · refine j_tabIn (pc := 6) (k0 := 3) F 89 d1 dX7_letsAct_6 (by decide) rfl rfl ?_
    refine j_aload_n (pc := 89) (k0 := 0) F 0 rfl dX7_letsAct_89 ?_
    refine j_iload_n (pc := 90) (k0 := 1) F 1 rfl dX7_letsAct_90 ?_
    refine j_iload_n (pc := 91) (k0 := 2) F 2 rfl dX7_letsAct_91 ?_
    obtain ⟨x17, i18, hx17, h⟩ := b2_obt h
    refine j_callV1 (pc := 92) (ci := 7) (As := [.int v1, .int v2]) (st := []) (e1 := 0) (es1 := 0) F clX7_357 cwX7_plainLets rfl hth (ctX7_plainLets G hth hx17) rfl rfl rfl rfl rfl rfl dX7_letsAct_92 ?_
    have g1 := Option.some.inj h
    obtain ⟨q3, g2⟩ := Prod.mk.inj g1
    subst q3
    subst g2
    exact j_iret (pc := 95) F dX7_letsAct_95
  have tc1 := lv_neT (a := 2) c1 (by decide)
  have tc2 := lv_neT (a := 4) c2 (by decide)
  have tc3 := lv_neT (a := 5) c3 (by decide)
  have tc4 := lv_neT (a := 6) c4 (by decide)
  have td1 := lv_neT (a := 3) d1 (by decide)
  refine j_tabOut (pc := 6) F 89 dX7_letsAct_6 (by omega) rfl ?_
  refine j_aload_n (pc := 89) (k0 := 0) F 0 rfl dX7_letsAct_89 ?_
  refine j_iload_n (pc := 90) (k0 := 1) F 1 rfl dX7_letsAct_90 ?_
  refine j_iload_n (pc := 91) (k0 := 2) F 2 rfl dX7_letsAct_91 ?_
  obtain ⟨x17, i18, hx17, h⟩ := b2_obt h
  refine j_callV1 (pc := 92) (ci := 7) (As := [.int v1, .int v2]) (st := []) (e1 := 0) (es1 := 0) F clX7_357 cwX7_plainLets rfl hth (ctX7_plainLets G hth hx17) rfl rfl rfl rfl rfl rfl dX7_letsAct_92 ?_
  have g1 := Option.some.inj h
  obtain ⟨q3, g2⟩ := Prod.mk.inj g1
  subst q3
  subst g2
  exact j_iret (pc := 95) F dX7_letsAct_95
theorem ctX7_letsAct (G : GT) {sh : SH} {I : IH} {L : LH} {n : Nat} {this : Nat} {v1 : Int32} {v2 : Int32} {r : Int32} {I' : IH}  (hth : isO sh 7 this) (h : fX7_letsAct sh this v1 v2 I = some (r, I')) : Ct G yX7_letsAct cX7_letsAct 3 (some .int) 2 [.ref this, .int v1, .int v2] sh I L n (some (.int r)) sh I' L n 0 0 := by
  refine ct_of (y := yX7_letsAct) (by decide +kernel) rfl (fun X F => ?_)
  exact jbX7_letsAct_0 G F hth h
theorem dX7_plainTakes_0 : decode cX7_plainTakes 0 = .ok (.aload_n 0, 1) := by decide +kernel
theorem dX7_plainTakes_1 : decode cX7_plainTakes 1 = .ok (.bipush 11, 2) := by decide +kernel
theorem dX7_plainTakes_3 : decode cX7_plainTakes 3 = .ok (.invokevirtual 354, 3) := by decide +kernel
theorem dX7_plainTakes_6 : decode cX7_plainTakes 6 = .ok (.aload_n 0, 1) := by decide +kernel
theorem dX7_plainTakes_7 : decode cX7_plainTakes 7 = .ok (.iload_n 1, 1) := by decide +kernel
theorem dX7_plainTakes_8 : decode cX7_plainTakes 8 = .ok (.iload_n 2, 1) := by decide +kernel
theorem dX7_plainTakes_9 : decode cX7_plainTakes 9 = .ok (.invokevirtual 360, 3) := by decide +kernel
theorem dX7_plainTakes_12 : decode cX7_plainTakes 12 = .ok (.aload_n 0, 1) := by decide +kernel
theorem dX7_plainTakes_13 : decode cX7_plainTakes 13 = .ok (.getfield 26, 3) := by decide +kernel
theorem dX7_plainTakes_16 : decode cX7_plainTakes 16 = .ok (.iload_n 1, 1) := by decide +kernel
theorem dX7_plainTakes_17 : decode cX7_plainTakes 17 = .ok (.iaload, 1) := by decide +kernel
theorem dX7_plainTakes_18 : decode cX7_plainTakes 18 = .ok (.isub, 1) := by decide +kernel
theorem dX7_plainTakes_19 : decode cX7_plainTakes 19 = .ok (.ireturn, 1) := by decide +kernel
def fX7_plainTakes (sh : SH) (this : Nat) (v1 : Int32) (v2 : Int32) (I : IH) : Option (Int32 × IH) :=
  (fX7_body sh this 11 I).bind fun i1 =>
  b2 (fX7_letsAct sh this v1 v2 i1) fun x2 i3 =>
  (gR sh 7 this 5).bind fun x4 =>
  (aI sh i3 0 x4 v1).bind fun x5 =>
  some ((x2 - x5), i3)
set_option maxHeartbeats 4000000 in
set_option maxRecDepth 20000 in
theorem jbX7_plainTakes_0 (G : GT) {X : XT} {sh : SH} {L : LH} {n : Nat} {r : Int32} {I' : IH}  {this : Nat}  {v1 : Int32} {v2 : Int32} {I : IH} (F : MF G X RX7 cX7_plainTakes 3 3 (some .int) "plainTakes") (hth : isO sh 7 this) (h : fX7_plainTakes sh this v1 v2 I = some (r, I')) : J G X (QE G X (some (.int r)) sh I' L n) 3 sh I L n 0 0 0 [(0, .ref this), (1, .int v1), (2, .int v2)] [] := by
  unfold fX7_plainTakes at h
  refine j_aload_n (pc := 0) (k0 := 0) F 0 rfl dX7_plainTakes_0 ?_
  refine j_bipush (pc := 1) F 11 dX7_plainTakes_1 (by decide) ?_
  obtain ⟨i1, hi1, h⟩ := ob h
  refine j_callV0 (pc := 3) (ci := 7) (As := [.int 11]) (st := []) (e1 := 0) (es1 := 0) F clX7_354 cwX7_body rfl hth (ctX7_body G hi1) rfl rfl rfl rfl rfl rfl dX7_plainTakes_3 ?_
  refine j_aload_n (pc := 6) (k0 := 0) F 0 rfl dX7_plainTakes_6 ?_
  refine j_iload_n (pc := 7) (k0 := 1) F 1 rfl dX7_plainTakes_7 ?_
  refine j_iload_n (pc := 8) (k0 := 2) F 2 rfl dX7_plainTakes_8 ?_
  obtain ⟨x2, i3, hx2, h⟩ := b2_obt h
  refine j_callV1 (pc := 9) (ci := 7) (As := [.int v1, .int v2]) (st := []) (e1 := 0) (es1 := 0) F clX7_360 cwX7_letsAct rfl hth (ctX7_letsAct G hth hx2) rfl rfl rfl rfl rfl rfl dX7_plainTakes_9 ?_
  refine j_aload_n (pc := 12) (k0 := 0) F 0 rfl dX7_plainTakes_12 ?_
  obtain ⟨x4, hx4, h⟩ := ob h
  refine j_getR (pc := 13) F flX7_26 hx4 dX7_plainTakes_13 ?_
  refine j_iload_n (pc := 16) (k0 := 1) F 1 rfl dX7_plainTakes_16 ?_
  obtain ⟨x5, hx5, h⟩ := ob h
  refine j_iald (pc := 17) F hx5 dX7_plainTakes_17 ?_
  refine j_isub (pc := 18) F dX7_plainTakes_18 ?_
  have g1 := Option.some.inj h
  obtain ⟨q3, g2⟩ := Prod.mk.inj g1
  subst q3
  subst g2
  exact j_iret (pc := 19) F dX7_plainTakes_19
theorem ctX7_plainTakes (G : GT) {sh : SH} {I : IH} {L : LH} {n : Nat} {this : Nat} {v1 : Int32} {v2 : Int32} {r : Int32} {I' : IH}  (hth : isO sh 7 this) (h : fX7_plainTakes sh this v1 v2 I = some (r, I')) : Ct G yX7_plainTakes cX7_plainTakes 3 (some .int) 3 [.ref this, .int v1, .int v2] sh I L n (some (.int r)) sh I' L n 0 0 := by
  refine ct_of (y := yX7_plainTakes) (by decide +kernel) rfl (fun X F => ?_)
  exact jbX7_plainTakes_0 G F hth h
theorem dX7_clockTakes_0 : decode cX7_clockTakes 0 = .ok (.aload_n 0, 1) := by decide +kernel
theorem dX7_clockTakes_1 : decode cX7_clockTakes 1 = .ok (.bipush 20, 2) := by decide +kernel
theorem dX7_clockTakes_3 : decode cX7_clockTakes 3 = .ok (.invokevirtual 354, 3) := by decide +kernel
theorem dX7_clockTakes_6 : decode cX7_clockTakes 6 = .ok (.aload_n 0, 1) := by decide +kernel
theorem dX7_clockTakes_7 : decode cX7_clockTakes 7 = .ok (.iload_n 1, 1) := by decide +kernel
theorem dX7_clockTakes_8 : decode cX7_clockTakes 8 = .ok (.iload_n 2, 1) := by decide +kernel
theorem dX7_clockTakes_9 : decode cX7_clockTakes 9 = .ok (.invokevirtual 363, 3) := by decide +kernel
theorem dX7_clockTakes_12 : decode cX7_clockTakes 12 = .ok (.bipush 6, 2) := by decide +kernel
theorem dX7_clockTakes_14 : decode cX7_clockTakes 14 = .ok (.ixor, 1) := by decide +kernel
theorem dX7_clockTakes_15 : decode cX7_clockTakes 15 = .ok (.ireturn, 1) := by decide +kernel
def fX7_clockTakes (sh : SH) (this : Nat) (v1 : Int32) (v2 : Int32) (I : IH) : Option (Int32 × IH) :=
  (fX7_body sh this 20 I).bind fun i1 =>
  b2 (fX7_plainTakes sh this v1 v2 i1) fun x2 i3 =>
  some ((x2 ^^^ 6), i3)
set_option maxHeartbeats 4000000 in
set_option maxRecDepth 20000 in
theorem jbX7_clockTakes_0 (G : GT) {X : XT} {sh : SH} {L : LH} {n : Nat} {r : Int32} {I' : IH}  {this : Nat}  {v1 : Int32} {v2 : Int32} {I : IH} (F : MF G X RX7 cX7_clockTakes 3 4 (some .int) "clockTakes") (hth : isO sh 7 this) (h : fX7_clockTakes sh this v1 v2 I = some (r, I')) : J G X (QE G X (some (.int r)) sh I' L n) 3 sh I L n 0 0 0 [(0, .ref this), (1, .int v1), (2, .int v2)] [] := by
  unfold fX7_clockTakes at h
  refine j_aload_n (pc := 0) (k0 := 0) F 0 rfl dX7_clockTakes_0 ?_
  refine j_bipush (pc := 1) F 20 dX7_clockTakes_1 (by decide) ?_
  obtain ⟨i1, hi1, h⟩ := ob h
  refine j_callV0 (pc := 3) (ci := 7) (As := [.int 20]) (st := []) (e1 := 0) (es1 := 0) F clX7_354 cwX7_body rfl hth (ctX7_body G hi1) rfl rfl rfl rfl rfl rfl dX7_clockTakes_3 ?_
  refine j_aload_n (pc := 6) (k0 := 0) F 0 rfl dX7_clockTakes_6 ?_
  refine j_iload_n (pc := 7) (k0 := 1) F 1 rfl dX7_clockTakes_7 ?_
  refine j_iload_n (pc := 8) (k0 := 2) F 2 rfl dX7_clockTakes_8 ?_
  obtain ⟨x2, i3, hx2, h⟩ := b2_obt h
  refine j_callV1 (pc := 9) (ci := 7) (As := [.int v1, .int v2]) (st := []) (e1 := 0) (es1 := 0) F clX7_363 cwX7_plainTakes rfl hth (ctX7_plainTakes G hth hx2) rfl rfl rfl rfl rfl rfl dX7_clockTakes_9 ?_
  refine j_bipush (pc := 12) F 6 dX7_clockTakes_12 (by decide) ?_
  refine j_ixor (pc := 14) F dX7_clockTakes_14 ?_
  have g1 := Option.some.inj h
  obtain ⟨q3, g2⟩ := Prod.mk.inj g1
  subst q3
  subst g2
  exact j_iret (pc := 15) F dX7_clockTakes_15
theorem ctX7_clockTakes (G : GT) {sh : SH} {I : IH} {L : LH} {n : Nat} {this : Nat} {v1 : Int32} {v2 : Int32} {r : Int32} {I' : IH}  (hth : isO sh 7 this) (h : fX7_clockTakes sh this v1 v2 I = some (r, I')) : Ct G yX7_clockTakes cX7_clockTakes 3 (some .int) 4 [.ref this, .int v1, .int v2] sh I L n (some (.int r)) sh I' L n 0 0 := by
  refine ct_of (y := yX7_clockTakes) (by decide +kernel) rfl (fun X F => ?_)
  exact jbX7_clockTakes_0 G F hth h
