/-! decompiled: X7_holds, X7_day, X7_meltOf, X7_melts, X7_asIs, X7_less, X7_sets, X7_takes, X7_go -/
theorem dX7_holds_0 : decode cX7_holds 0 = .ok (.iconst 0, 1) := by decide +kernel
theorem dX7_holds_1 : decode cX7_holds 1 = .ok (.istore 4, 2) := by decide +kernel
theorem dX7_holds_3 : decode cX7_holds 3 = .ok (.aload_n 0, 1) := by decide +kernel
theorem dX7_holds_4 : decode cX7_holds 4 = .ok (.getfield 62, 3) := by decide +kernel
theorem dX7_holds_7 : decode cX7_holds 7 = .ok (.iload_n 1, 1) := by decide +kernel
theorem dX7_holds_8 : decode cX7_holds 8 = .ok (.iaload, 1) := by decide +kernel
theorem dX7_holds_9 : decode cX7_holds 9 = .ok (.istore 5, 2) := by decide +kernel
theorem dX7_holds_11 : decode cX7_holds 11 = .ok (.iload 5, 2) := by decide +kernel
theorem dX7_holds_13 : decode cX7_holds 13 = .ok (.aload_n 0, 1) := by decide +kernel
theorem dX7_holds_14 : decode cX7_holds 14 = .ok (.getfield 65, 3) := by decide +kernel
theorem dX7_holds_17 : decode cX7_holds 17 = .ok (.iload_n 1, 1) := by decide +kernel
theorem dX7_holds_18 : decode cX7_holds 18 = .ok (.iaload, 1) := by decide +kernel
theorem dX7_holds_19 : decode cX7_holds 19 = .ok (.if_icmp .ge 253, 3) := by decide +kernel
theorem dX7_holds_22 : decode cX7_holds 22 = .ok (.aload_n 0, 1) := by decide +kernel
theorem dX7_holds_23 : decode cX7_holds 23 = .ok (.getfield 68, 3) := by decide +kernel
theorem dX7_holds_26 : decode cX7_holds 26 = .ok (.iload 5, 2) := by decide +kernel
theorem dX7_holds_28 : decode cX7_holds 28 = .ok (.iaload, 1) := by decide +kernel
theorem dX7_holds_29 : decode cX7_holds 29 = .ok (.istore 6, 2) := by decide +kernel
theorem dX7_holds_31 : decode cX7_holds 31 = .ok (.iload 6, 2) := by decide +kernel
theorem dX7_holds_33 : decode cX7_holds 33 = .ok (.bipush (-33), 2) := by decide +kernel
theorem dX7_holds_35 : decode cX7_holds 35 = .ok (.if_icmp .ne 32, 3) := by decide +kernel
theorem dX7_holds_38 : decode cX7_holds 38 = .ok (.aload_n 0, 1) := by decide +kernel
theorem dX7_holds_39 : decode cX7_holds 39 = .ok (.getfield 83, 3) := by decide +kernel
theorem dX7_holds_42 : decode cX7_holds 42 = .ok (.iload 4, 2) := by decide +kernel
theorem dX7_holds_44 : decode cX7_holds 44 = .ok (.iconst 1, 1) := by decide +kernel
theorem dX7_holds_45 : decode cX7_holds 45 = .ok (.isub, 1) := by decide +kernel
theorem dX7_holds_46 : decode cX7_holds 46 = .ok (.aload_n 0, 1) := by decide +kernel
theorem dX7_holds_47 : decode cX7_holds 47 = .ok (.getfield 83, 3) := by decide +kernel
theorem dX7_holds_50 : decode cX7_holds 50 = .ok (.iload 4, 2) := by decide +kernel
theorem dX7_holds_52 : decode cX7_holds 52 = .ok (.iconst 1, 1) := by decide +kernel
theorem dX7_holds_53 : decode cX7_holds 53 = .ok (.isub, 1) := by decide +kernel
theorem dX7_holds_54 : decode cX7_holds 54 = .ok (.baload, 1) := by decide +kernel
theorem dX7_holds_55 : decode cX7_holds 55 = .ok (.ifCond .ne 7, 3) := by decide +kernel
theorem dX7_holds_58 : decode cX7_holds 58 = .ok (.iconst 1, 1) := by decide +kernel
theorem dX7_holds_59 : decode cX7_holds 59 = .ok (.goto 4, 3) := by decide +kernel
theorem dX7_holds_62 : decode cX7_holds 62 = .ok (.iconst 0, 1) := by decide +kernel
theorem dX7_holds_63 : decode cX7_holds 63 = .ok (.bastore, 1) := by decide +kernel
theorem dX7_holds_64 : decode cX7_holds 64 = .ok (.goto 202, 3) := by decide +kernel
theorem dX7_holds_67 : decode cX7_holds 67 = .ok (.iload 6, 2) := by decide +kernel
theorem dX7_holds_69 : decode cX7_holds 69 = .ok (.ifCond .ge 82, 3) := by decide +kernel
theorem dX7_holds_72 : decode cX7_holds 72 = .ok (.iinc 4 (-1), 3) := by decide +kernel
theorem dX7_holds_75 : decode cX7_holds 75 = .ok (.aload_n 0, 1) := by decide +kernel
theorem dX7_holds_76 : decode cX7_holds 76 = .ok (.getfield 83, 3) := by decide +kernel
theorem dX7_holds_79 : decode cX7_holds 79 = .ok (.iload 4, 2) := by decide +kernel
theorem dX7_holds_81 : decode cX7_holds 81 = .ok (.iconst 1, 1) := by decide +kernel
theorem dX7_holds_82 : decode cX7_holds 82 = .ok (.isub, 1) := by decide +kernel
theorem dX7_holds_83 : decode cX7_holds 83 = .ok (.iload 6, 2) := by decide +kernel
theorem dX7_holds_85 : decode cX7_holds 85 = .ok (.bipush (-38), 2) := by decide +kernel
theorem dX7_holds_87 : decode cX7_holds 87 = .ok (.if_icmp .ne 33, 3) := by decide +kernel
theorem dX7_holds_90 : decode cX7_holds 90 = .ok (.aload_n 0, 1) := by decide +kernel
theorem dX7_holds_91 : decode cX7_holds 91 = .ok (.getfield 83, 3) := by decide +kernel
theorem dX7_holds_94 : decode cX7_holds 94 = .ok (.iload 4, 2) := by decide +kernel
theorem dX7_holds_96 : decode cX7_holds 96 = .ok (.iconst 1, 1) := by decide +kernel
theorem dX7_holds_97 : decode cX7_holds 97 = .ok (.isub, 1) := by decide +kernel
theorem dX7_holds_98 : decode cX7_holds 98 = .ok (.baload, 1) := by decide +kernel
theorem dX7_holds_99 : decode cX7_holds 99 = .ok (.ifCond .eq 17, 3) := by decide +kernel
theorem dX7_holds_102 : decode cX7_holds 102 = .ok (.aload_n 0, 1) := by decide +kernel
theorem dX7_holds_103 : decode cX7_holds 103 = .ok (.getfield 83, 3) := by decide +kernel
theorem dX7_holds_106 : decode cX7_holds 106 = .ok (.iload 4, 2) := by decide +kernel
theorem dX7_holds_108 : decode cX7_holds 108 = .ok (.baload, 1) := by decide +kernel
theorem dX7_holds_109 : decode cX7_holds 109 = .ok (.ifCond .eq 7, 3) := by decide +kernel
theorem dX7_holds_112 : decode cX7_holds 112 = .ok (.iconst 1, 1) := by decide +kernel
theorem dX7_holds_113 : decode cX7_holds 113 = .ok (.goto 34, 3) := by decide +kernel
theorem dX7_holds_116 : decode cX7_holds 116 = .ok (.iconst 0, 1) := by decide +kernel
theorem dX7_holds_117 : decode cX7_holds 117 = .ok (.goto 30, 3) := by decide +kernel
theorem dX7_holds_120 : decode cX7_holds 120 = .ok (.aload_n 0, 1) := by decide +kernel
theorem dX7_holds_121 : decode cX7_holds 121 = .ok (.getfield 83, 3) := by decide +kernel
theorem dX7_holds_124 : decode cX7_holds 124 = .ok (.iload 4, 2) := by decide +kernel
theorem dX7_holds_126 : decode cX7_holds 126 = .ok (.iconst 1, 1) := by decide +kernel
theorem dX7_holds_127 : decode cX7_holds 127 = .ok (.isub, 1) := by decide +kernel
theorem dX7_holds_128 : decode cX7_holds 128 = .ok (.baload, 1) := by decide +kernel
theorem dX7_holds_129 : decode cX7_holds 129 = .ok (.ifCond .ne 13, 3) := by decide +kernel
theorem dX7_holds_132 : decode cX7_holds 132 = .ok (.aload_n 0, 1) := by decide +kernel
theorem dX7_holds_133 : decode cX7_holds 133 = .ok (.getfield 83, 3) := by decide +kernel
theorem dX7_holds_136 : decode cX7_holds 136 = .ok (.iload 4, 2) := by decide +kernel
theorem dX7_holds_138 : decode cX7_holds 138 = .ok (.baload, 1) := by decide +kernel
theorem dX7_holds_139 : decode cX7_holds 139 = .ok (.ifCond .eq 7, 3) := by decide +kernel
theorem dX7_holds_142 : decode cX7_holds 142 = .ok (.iconst 1, 1) := by decide +kernel
theorem dX7_holds_143 : decode cX7_holds 143 = .ok (.goto 4, 3) := by decide +kernel
theorem dX7_holds_146 : decode cX7_holds 146 = .ok (.iconst 0, 1) := by decide +kernel
theorem dX7_holds_147 : decode cX7_holds 147 = .ok (.bastore, 1) := by decide +kernel
theorem dX7_holds_148 : decode cX7_holds 148 = .ok (.goto 118, 3) := by decide +kernel
theorem dX7_holds_151 : decode cX7_holds 151 = .ok (.iload 6, 2) := by decide +kernel
theorem dX7_holds_153 : decode cX7_holds 153 = .ok (.sipush 1000, 3) := by decide +kernel
theorem dX7_holds_156 : decode cX7_holds 156 = .ok (.if_icmp .ge 10, 3) := by decide +kernel
theorem dX7_holds_159 : decode cX7_holds 159 = .ok (.iload_n 2, 1) := by decide +kernel
theorem dX7_holds_160 : decode cX7_holds 160 = .ok (.bipush 24, 2) := by decide +kernel
theorem dX7_holds_162 : decode cX7_holds 162 = .ok (.irem, 1) := by decide +kernel
theorem dX7_holds_163 : decode cX7_holds 163 = .ok (.goto 19, 3) := by decide +kernel
theorem dX7_holds_166 : decode cX7_holds 166 = .ok (.iload 6, 2) := by decide +kernel
theorem dX7_holds_168 : decode cX7_holds 168 = .ok (.sipush 2000, 3) := by decide +kernel
theorem dX7_holds_171 : decode cX7_holds 171 = .ok (.if_icmp .ge 10, 3) := by decide +kernel
theorem dX7_holds_174 : decode cX7_holds 174 = .ok (.iload_n 2, 1) := by decide +kernel
theorem dX7_holds_175 : decode cX7_holds 175 = .ok (.bipush 24, 2) := by decide +kernel
theorem dX7_holds_177 : decode cX7_holds 177 = .ok (.idiv, 1) := by decide +kernel
theorem dX7_holds_178 : decode cX7_holds 178 = .ok (.goto 4, 3) := by decide +kernel
theorem dX7_holds_181 : decode cX7_holds 181 = .ok (.iload_n 3, 1) := by decide +kernel
theorem dX7_holds_182 : decode cX7_holds 182 = .ok (.istore 7, 2) := by decide +kernel
theorem dX7_holds_184 : decode cX7_holds 184 = .ok (.iload 6, 2) := by decide +kernel
theorem dX7_holds_186 : decode cX7_holds 186 = .ok (.bipush 100, 2) := by decide +kernel
theorem dX7_holds_188 : decode cX7_holds 188 = .ok (.idiv, 1) := by decide +kernel
theorem dX7_holds_189 : decode cX7_holds 189 = .ok (.bipush 10, 2) := by decide +kernel
theorem dX7_holds_191 : decode cX7_holds 191 = .ok (.irem, 1) := by decide +kernel
theorem dX7_holds_192 : decode cX7_holds 192 = .ok (.istore 8, 2) := by decide +kernel
theorem dX7_holds_194 : decode cX7_holds 194 = .ok (.aload_n 0, 1) := by decide +kernel
theorem dX7_holds_195 : decode cX7_holds 195 = .ok (.getfield 83, 3) := by decide +kernel
theorem dX7_holds_198 : decode cX7_holds 198 = .ok (.iload 4, 2) := by decide +kernel
theorem dX7_holds_200 : decode cX7_holds 200 = .ok (.iload 8, 2) := by decide +kernel
theorem dX7_holds_202 : decode cX7_holds 202 = .ok (.ifCond .ne 21, 3) := by decide +kernel
theorem dX7_holds_205 : decode cX7_holds 205 = .ok (.iload 7, 2) := by decide +kernel
theorem dX7_holds_207 : decode cX7_holds 207 = .ok (.iload 6, 2) := by decide +kernel
theorem dX7_holds_209 : decode cX7_holds 209 = .ok (.bipush 100, 2) := by decide +kernel
theorem dX7_holds_211 : decode cX7_holds 211 = .ok (.irem, 1) := by decide +kernel
theorem dX7_holds_212 : decode cX7_holds 212 = .ok (.if_icmp .ge 7, 3) := by decide +kernel
theorem dX7_holds_215 : decode cX7_holds 215 = .ok (.iconst 1, 1) := by decide +kernel
theorem dX7_holds_216 : decode cX7_holds 216 = .ok (.goto 46, 3) := by decide +kernel
theorem dX7_holds_219 : decode cX7_holds 219 = .ok (.iconst 0, 1) := by decide +kernel
theorem dX7_holds_220 : decode cX7_holds 220 = .ok (.goto 42, 3) := by decide +kernel
theorem dX7_holds_223 : decode cX7_holds 223 = .ok (.iload 8, 2) := by decide +kernel
theorem dX7_holds_225 : decode cX7_holds 225 = .ok (.iconst 1, 1) := by decide +kernel
theorem dX7_holds_226 : decode cX7_holds 226 = .ok (.if_icmp .ne 21, 3) := by decide +kernel
theorem dX7_holds_229 : decode cX7_holds 229 = .ok (.iload 7, 2) := by decide +kernel
theorem dX7_holds_231 : decode cX7_holds 231 = .ok (.iload 6, 2) := by decide +kernel
theorem dX7_holds_233 : decode cX7_holds 233 = .ok (.bipush 100, 2) := by decide +kernel
theorem dX7_holds_235 : decode cX7_holds 235 = .ok (.irem, 1) := by decide +kernel
theorem dX7_holds_236 : decode cX7_holds 236 = .ok (.if_icmp .ne 7, 3) := by decide +kernel
theorem dX7_holds_239 : decode cX7_holds 239 = .ok (.iconst 1, 1) := by decide +kernel
theorem dX7_holds_240 : decode cX7_holds 240 = .ok (.goto 22, 3) := by decide +kernel
theorem dX7_holds_243 : decode cX7_holds 243 = .ok (.iconst 0, 1) := by decide +kernel
theorem dX7_holds_244 : decode cX7_holds 244 = .ok (.goto 18, 3) := by decide +kernel
theorem dX7_holds_247 : decode cX7_holds 247 = .ok (.iload 7, 2) := by decide +kernel
theorem dX7_holds_249 : decode cX7_holds 249 = .ok (.iload 6, 2) := by decide +kernel
theorem dX7_holds_251 : decode cX7_holds 251 = .ok (.bipush 100, 2) := by decide +kernel
theorem dX7_holds_253 : decode cX7_holds 253 = .ok (.irem, 1) := by decide +kernel
theorem dX7_holds_254 : decode cX7_holds 254 = .ok (.if_icmp .le 7, 3) := by decide +kernel
theorem dX7_holds_257 : decode cX7_holds 257 = .ok (.iconst 1, 1) := by decide +kernel
theorem dX7_holds_258 : decode cX7_holds 258 = .ok (.goto 4, 3) := by decide +kernel
theorem dX7_holds_261 : decode cX7_holds 261 = .ok (.iconst 0, 1) := by decide +kernel
theorem dX7_holds_262 : decode cX7_holds 262 = .ok (.bastore, 1) := by decide +kernel
theorem dX7_holds_263 : decode cX7_holds 263 = .ok (.iinc 4 1, 3) := by decide +kernel
theorem dX7_holds_266 : decode cX7_holds 266 = .ok (.iinc 5 1, 3) := by decide +kernel
theorem dX7_holds_269 : decode cX7_holds 269 = .ok (.goto (-258), 3) := by decide +kernel
theorem dX7_holds_272 : decode cX7_holds 272 = .ok (.aload_n 0, 1) := by decide +kernel
theorem dX7_holds_273 : decode cX7_holds 273 = .ok (.getfield 83, 3) := by decide +kernel
theorem dX7_holds_276 : decode cX7_holds 276 = .ok (.iconst 0, 1) := by decide +kernel
theorem dX7_holds_277 : decode cX7_holds 277 = .ok (.baload, 1) := by decide +kernel
theorem dX7_holds_278 : decode cX7_holds 278 = .ok (.ireturn, 1) := by decide +kernel
def fX7_holds_b182 (sh : SH) (this : Nat) (k11 : (Int32 → Int32 → Int32 → Int32 → Int32 → IH → Option (Int32 × IH))) (v1 : Int32) (v2 : Int32) (v3 : Int32) (v4 : Int32) (v5 : Int32) (v6 : Int32) (s0 : Int32) (I : IH) : Option (Int32 × IH) :=
  (gR sh 7 this 24).bind fun x1 =>
  if ((v6 / 100) - (v6 / 100) / 10 * 10) = 0 then (
    if (v6 - v6 / 100 * 100) ≤ s0 then (
      (sZ sh I x1 v4 0).bind fun i6 =>
      k11 v1 v2 v3 (v4 + 1) (v5 + 1) i6) else
    (sZ sh I x1 v4 1).bind fun i7 =>
    k11 v1 v2 v3 (v4 + 1) (v5 + 1) i7) else
  if ((v6 / 100) - (v6 / 100) / 10 * 10) = 1 then (
    if s0 = (v6 - v6 / 100 * 100) then (
      (sZ sh I x1 v4 1).bind fun i5 =>
      k11 v1 v2 v3 (v4 + 1) (v5 + 1) i5) else
    (sZ sh I x1 v4 0).bind fun i4 =>
    k11 v1 v2 v3 (v4 + 1) (v5 + 1) i4) else
  if s0 ≤ (v6 - v6 / 100 * 100) then (
    (sZ sh I x1 v4 0).bind fun i2 =>
    k11 v1 v2 v3 (v4 + 1) (v5 + 1) i2) else
  (sZ sh I x1 v4 1).bind fun i3 =>
  k11 v1 v2 v3 (v4 + 1) (v5 + 1) i3
def fX7_holds_b11 (sh : SH) (this : Nat) : Nat → Int32 → Int32 → Int32 → Int32 → Int32 → IH → Option (Int32 × IH)
  | 0, _, _, _, _, _, _ => none
  | fuel + 1, v1, v2, v3, v4, v5, I =>
    (gR sh 7 this 18).bind fun x1 =>
    (aI sh I 0 x1 v1).bind fun x2 =>
    if x2 ≤ v5 then (
      (gR sh 7 this 24).bind fun x3 =>
      (aI sh I 1 x3 0).bind fun x4 =>
      (bz x4).bind fun x5 =>
      some (x5, I)) else
    (gR sh 7 this 19).bind fun x6 =>
    (aI sh I 0 x6 v5).bind fun x7 =>
    if x7 = (-33) then (
      (gR sh 7 this 24).bind fun x23 =>
      (gR sh 7 this 24).bind fun x24 =>
      (aI sh I 1 x24 (v4 - 1)).bind fun x25 =>
      if x25 = 0 then (
        (sZ sh I x23 (v4 - 1) 1).bind fun i27 =>
        fX7_holds_b11 sh this fuel v1 v2 v3 v4 (v5 + 1) i27) else
      (sZ sh I x23 (v4 - 1) 0).bind fun i26 =>
      fX7_holds_b11 sh this fuel v1 v2 v3 v4 (v5 + 1) i26) else
    if 0 ≤ x7 then (
      if 1000 ≤ x7 then (
        if 2000 ≤ x7 then (
          fX7_holds_b182 sh this (fX7_holds_b11 sh this fuel) v1 v2 v3 v4 v5 x7 v3 I) else
        fX7_holds_b182 sh this (fX7_holds_b11 sh this fuel) v1 v2 v3 v4 v5 x7 (v2 / 24) I) else
      fX7_holds_b182 sh this (fX7_holds_b11 sh this fuel) v1 v2 v3 v4 v5 x7 (v2 - v2 / 24 * 24) I) else
    (gR sh 7 this 24).bind fun x8 =>
    if x7 = (-38) then (
      (gR sh 7 this 24).bind fun x16 =>
      (aI sh I 1 x16 ((v4 + (-1)) - 1)).bind fun x17 =>
      if x17 = 0 then (
        (sZ sh I x8 ((v4 + (-1)) - 1) 0).bind fun i18 =>
        fX7_holds_b11 sh this fuel v1 v2 v3 (v4 + (-1)) (v5 + 1) i18) else
      (gR sh 7 this 24).bind fun x19 =>
      (aI sh I 1 x19 (v4 + (-1))).bind fun x20 =>
      if x20 = 0 then (
        (sZ sh I x8 ((v4 + (-1)) - 1) 0).bind fun i21 =>
        fX7_holds_b11 sh this fuel v1 v2 v3 (v4 + (-1)) (v5 + 1) i21) else
      (sZ sh I x8 ((v4 + (-1)) - 1) 1).bind fun i22 =>
      fX7_holds_b11 sh this fuel v1 v2 v3 (v4 + (-1)) (v5 + 1) i22) else
    (gR sh 7 this 24).bind fun x9 =>
    (aI sh I 1 x9 ((v4 + (-1)) - 1)).bind fun x10 =>
    if x10 = 0 then (
      (gR sh 7 this 24).bind fun x12 =>
      (aI sh I 1 x12 (v4 + (-1))).bind fun x13 =>
      if x13 = 0 then (
        (sZ sh I x8 ((v4 + (-1)) - 1) 0).bind fun i14 =>
        fX7_holds_b11 sh this fuel v1 v2 v3 (v4 + (-1)) (v5 + 1) i14) else
      (sZ sh I x8 ((v4 + (-1)) - 1) 1).bind fun i15 =>
      fX7_holds_b11 sh this fuel v1 v2 v3 (v4 + (-1)) (v5 + 1) i15) else
    (sZ sh I x8 ((v4 + (-1)) - 1) 1).bind fun i11 =>
    fX7_holds_b11 sh this fuel v1 v2 v3 (v4 + (-1)) (v5 + 1) i11
def fX7_holds (sh : SH) (this : Nat) (v1 : Int32) (v2 : Int32) (v3 : Int32) (I : IH) : Option (Int32 × IH) :=
  (gR sh 7 this 17).bind fun x1 =>
  (aI sh I 0 x1 v1).bind fun x2 =>
  fX7_holds_b11 sh this 1000 v1 v2 v3 0 x2 I
set_option maxHeartbeats 4000000 in
set_option maxRecDepth 20000 in
theorem jbX7_holds_182 (G : GT) {X : XT} {sh : SH} {L : LH} {n : Nat} {r : Int32} {I' : IH}  {this : Nat} {k11 : (Int32 → Int32 → Int32 → Int32 → Int32 → IH → Option (Int32 × IH))} {v1 : Int32} {v2 : Int32} {v3 : Int32} {v4 : Int32} {v5 : Int32} {v6 : Int32} {s0 : Int32} {I : IH} (F : MF G X RX7 cX7_holds 9 0 (some .boolean) "holds")
    (hk11 : ∀ {v1 : Int32} {v2 : Int32} {v3 : Int32} {v4 : Int32} {v5 : Int32} {I : IH}, k11 v1 v2 v3 v4 v5 I = some (r, I') → J G X (QE G X (some (.int r)) sh I' L n) 9 sh I L n 0 0 11 [(0, .ref this), (1, .int v1), (2, .int v2), (3, .int v3), (4, .int v4), (5, .int v5)] []) (h : fX7_holds_b182 sh this k11 v1 v2 v3 v4 v5 v6 s0 I = some (r, I')) : J G X (QE G X (some (.int r)) sh I' L n) 9 sh I L n 0 0 182 [(0, .ref this), (1, .int v1), (2, .int v2), (3, .int v3), (4, .int v4), (5, .int v5), (6, .int v6)] [.int s0] := by
  unfold fX7_holds_b182 at h
  refine j_istore (pc := 182) (k1 := 7) (ls' := [(7, .int s0), (0, .ref this), (1, .int v1), (2, .int v2), (3, .int v3), (4, .int v4), (5, .int v5), (6, .int v6)]) F rfl rfl dX7_holds_182 ?_
  refine j_iload (pc := 184) (k0 := 6) F 7 rfl dX7_holds_184 ?_
  refine j_bipush (pc := 186) F 100 dX7_holds_186 (by decide) ?_
  refine j_idiv (pc := 188) F (by decide) dX7_holds_188 ?_
  refine j_bipush (pc := 189) F 10 dX7_holds_189 (by decide) ?_
  refine j_irem (pc := 191) F (by decide) dX7_holds_191 ?_
  refine j_istore (pc := 192) (k1 := 8) (ls' := [(8, .int ((v6 / 100) - (v6 / 100) / 10 * 10)), (7, .int s0), (0, .ref this), (1, .int v1), (2, .int v2), (3, .int v3), (4, .int v4), (5, .int v5), (6, .int v6)]) F rfl rfl dX7_holds_192 ?_
  refine j_aload_n (pc := 194) (k0 := 0) F 2 rfl dX7_holds_194 ?_
  obtain ⟨x1, hx1, h⟩ := ob h
  refine j_getR (pc := 195) F flX7_83 hx1 dX7_holds_195 ?_
  refine j_iload (pc := 198) (k0 := 4) F 6 rfl dX7_holds_198 ?_
  refine j_iload (pc := 200) (k0 := 8) F 0 rfl dX7_holds_200 ?_
  refine j_if_ne (pc := 202) F 223 dX7_holds_202 rfl (fun c => ?_) (fun c => ?_)
  · have h := iz_f c h
    refine j_iload (pc := 223) (k0 := 8) F 0 rfl dX7_holds_223 ?_
    refine j_iconst (pc := 225) F 1 dX7_holds_225 (by decide) ?_
    refine j_icmp_ne (pc := 226) F 247 dX7_holds_226 rfl (fun c => ?_) (fun c => ?_)
    · have h := iz_f c h
      refine j_iload (pc := 247) (k0 := 7) F 1 rfl dX7_holds_247 ?_
      refine j_iload (pc := 249) (k0 := 6) F 8 rfl dX7_holds_249 ?_
      refine j_bipush (pc := 251) F 100 dX7_holds_251 (by decide) ?_
      refine j_irem (pc := 253) F (by decide) dX7_holds_253 ?_
      refine j_icmp_le (pc := 254) F 261 dX7_holds_254 rfl (fun c => ?_) (fun c => ?_)
      · have h := iz_t c h
        refine j_iconst (pc := 261) F 0 dX7_holds_261 (by decide) ?_
        obtain ⟨i2, hi2, h⟩ := ob h
        refine j_zast (pc := 262) F hi2 dX7_holds_262 ?_
        refine j_iinc (pc := 263) (k1 := 4) (ls' := [(4, .int (v4 + 1)), (8, .int ((v6 / 100) - (v6 / 100) / 10 * 10)), (7, .int s0), (0, .ref this), (1, .int v1), (2, .int v2), (3, .int v3), (5, .int v5), (6, .int v6)]) F (v4 + 1) 6 rfl rfl rfl rfl dX7_holds_263 ?_
        refine j_iinc (pc := 266) (k1 := 5) (ls' := [(5, .int (v5 + 1)), (4, .int (v4 + 1)), (8, .int ((v6 / 100) - (v6 / 100) / 10 * 10)), (7, .int s0), (0, .ref this), (1, .int v1), (2, .int v2), (3, .int v3), (6, .int v6)]) F (v5 + 1) 7 rfl rfl rfl rfl dX7_holds_266 ?_
        refine j_goto (pc := 269) F 11 dX7_holds_269 rfl ?_
        refine j_sub [4, 5, 6, 7, 1, 0] rfl ?_
        exact hk11 h
      · have h := iz_f c h
        refine j_iconst (pc := 257) F 1 dX7_holds_257 (by decide) ?_
        refine j_goto (pc := 258) F 262 dX7_holds_258 rfl ?_
        obtain ⟨i3, hi3, h⟩ := ob h
        refine j_zast (pc := 262) F hi3 dX7_holds_262 ?_
        refine j_iinc (pc := 263) (k1 := 4) (ls' := [(4, .int (v4 + 1)), (8, .int ((v6 / 100) - (v6 / 100) / 10 * 10)), (7, .int s0), (0, .ref this), (1, .int v1), (2, .int v2), (3, .int v3), (5, .int v5), (6, .int v6)]) F (v4 + 1) 6 rfl rfl rfl rfl dX7_holds_263 ?_
        refine j_iinc (pc := 266) (k1 := 5) (ls' := [(5, .int (v5 + 1)), (4, .int (v4 + 1)), (8, .int ((v6 / 100) - (v6 / 100) / 10 * 10)), (7, .int s0), (0, .ref this), (1, .int v1), (2, .int v2), (3, .int v3), (6, .int v6)]) F (v5 + 1) 7 rfl rfl rfl rfl dX7_holds_266 ?_
        refine j_goto (pc := 269) F 11 dX7_holds_269 rfl ?_
        refine j_sub [4, 5, 6, 7, 1, 0] rfl ?_
        exact hk11 h
    · have h := iz_t c h
      refine j_iload (pc := 229) (k0 := 7) F 1 rfl dX7_holds_229 ?_
      refine j_iload (pc := 231) (k0 := 6) F 8 rfl dX7_holds_231 ?_
      refine j_bipush (pc := 233) F 100 dX7_holds_233 (by decide) ?_
      refine j_irem (pc := 235) F (by decide) dX7_holds_235 ?_
      refine j_icmp_ne (pc := 236) F 243 dX7_holds_236 rfl (fun c => ?_) (fun c => ?_)
      · have h := iz_f c h
        refine j_iconst (pc := 243) F 0 dX7_holds_243 (by decide) ?_
        refine j_goto (pc := 244) F 262 dX7_holds_244 rfl ?_
        obtain ⟨i4, hi4, h⟩ := ob h
        refine j_zast (pc := 262) F hi4 dX7_holds_262 ?_
        refine j_iinc (pc := 263) (k1 := 4) (ls' := [(4, .int (v4 + 1)), (8, .int ((v6 / 100) - (v6 / 100) / 10 * 10)), (7, .int s0), (0, .ref this), (1, .int v1), (2, .int v2), (3, .int v3), (5, .int v5), (6, .int v6)]) F (v4 + 1) 6 rfl rfl rfl rfl dX7_holds_263 ?_
        refine j_iinc (pc := 266) (k1 := 5) (ls' := [(5, .int (v5 + 1)), (4, .int (v4 + 1)), (8, .int ((v6 / 100) - (v6 / 100) / 10 * 10)), (7, .int s0), (0, .ref this), (1, .int v1), (2, .int v2), (3, .int v3), (6, .int v6)]) F (v5 + 1) 7 rfl rfl rfl rfl dX7_holds_266 ?_
        refine j_goto (pc := 269) F 11 dX7_holds_269 rfl ?_
        refine j_sub [4, 5, 6, 7, 1, 0] rfl ?_
        exact hk11 h
      · have h := iz_t c h
        refine j_iconst (pc := 239) F 1 dX7_holds_239 (by decide) ?_
        refine j_goto (pc := 240) F 262 dX7_holds_240 rfl ?_
        obtain ⟨i5, hi5, h⟩ := ob h
        refine j_zast (pc := 262) F hi5 dX7_holds_262 ?_
        refine j_iinc (pc := 263) (k1 := 4) (ls' := [(4, .int (v4 + 1)), (8, .int ((v6 / 100) - (v6 / 100) / 10 * 10)), (7, .int s0), (0, .ref this), (1, .int v1), (2, .int v2), (3, .int v3), (5, .int v5), (6, .int v6)]) F (v4 + 1) 6 rfl rfl rfl rfl dX7_holds_263 ?_
        refine j_iinc (pc := 266) (k1 := 5) (ls' := [(5, .int (v5 + 1)), (4, .int (v4 + 1)), (8, .int ((v6 / 100) - (v6 / 100) / 10 * 10)), (7, .int s0), (0, .ref this), (1, .int v1), (2, .int v2), (3, .int v3), (6, .int v6)]) F (v5 + 1) 7 rfl rfl rfl rfl dX7_holds_266 ?_
        refine j_goto (pc := 269) F 11 dX7_holds_269 rfl ?_
        refine j_sub [4, 5, 6, 7, 1, 0] rfl ?_
        exact hk11 h
  · have h := iz_t c h
    refine j_iload (pc := 205) (k0 := 7) F 1 rfl dX7_holds_205 ?_
    refine j_iload (pc := 207) (k0 := 6) F 8 rfl dX7_holds_207 ?_
    refine j_bipush (pc := 209) F 100 dX7_holds_209 (by decide) ?_
    refine j_irem (pc := 211) F (by decide) dX7_holds_211 ?_
    refine j_icmp_ge (pc := 212) F 219 dX7_holds_212 rfl (fun c => ?_) (fun c => ?_)
    · have h := iz_t c h
      refine j_iconst (pc := 219) F 0 dX7_holds_219 (by decide) ?_
      refine j_goto (pc := 220) F 262 dX7_holds_220 rfl ?_
      obtain ⟨i6, hi6, h⟩ := ob h
      refine j_zast (pc := 262) F hi6 dX7_holds_262 ?_
      refine j_iinc (pc := 263) (k1 := 4) (ls' := [(4, .int (v4 + 1)), (8, .int ((v6 / 100) - (v6 / 100) / 10 * 10)), (7, .int s0), (0, .ref this), (1, .int v1), (2, .int v2), (3, .int v3), (5, .int v5), (6, .int v6)]) F (v4 + 1) 6 rfl rfl rfl rfl dX7_holds_263 ?_
      refine j_iinc (pc := 266) (k1 := 5) (ls' := [(5, .int (v5 + 1)), (4, .int (v4 + 1)), (8, .int ((v6 / 100) - (v6 / 100) / 10 * 10)), (7, .int s0), (0, .ref this), (1, .int v1), (2, .int v2), (3, .int v3), (6, .int v6)]) F (v5 + 1) 7 rfl rfl rfl rfl dX7_holds_266 ?_
      refine j_goto (pc := 269) F 11 dX7_holds_269 rfl ?_
      refine j_sub [4, 5, 6, 7, 1, 0] rfl ?_
      exact hk11 h
    · have h := iz_f c h
      refine j_iconst (pc := 215) F 1 dX7_holds_215 (by decide) ?_
      refine j_goto (pc := 216) F 262 dX7_holds_216 rfl ?_
      obtain ⟨i7, hi7, h⟩ := ob h
      refine j_zast (pc := 262) F hi7 dX7_holds_262 ?_
      refine j_iinc (pc := 263) (k1 := 4) (ls' := [(4, .int (v4 + 1)), (8, .int ((v6 / 100) - (v6 / 100) / 10 * 10)), (7, .int s0), (0, .ref this), (1, .int v1), (2, .int v2), (3, .int v3), (5, .int v5), (6, .int v6)]) F (v4 + 1) 6 rfl rfl rfl rfl dX7_holds_263 ?_
      refine j_iinc (pc := 266) (k1 := 5) (ls' := [(5, .int (v5 + 1)), (4, .int (v4 + 1)), (8, .int ((v6 / 100) - (v6 / 100) / 10 * 10)), (7, .int s0), (0, .ref this), (1, .int v1), (2, .int v2), (3, .int v3), (6, .int v6)]) F (v5 + 1) 7 rfl rfl rfl rfl dX7_holds_266 ?_
      refine j_goto (pc := 269) F 11 dX7_holds_269 rfl ?_
      refine j_sub [4, 5, 6, 7, 1, 0] rfl ?_
      exact hk11 h
set_option maxHeartbeats 4000000 in
set_option maxRecDepth 20000 in
theorem jbX7_holds_11 (G : GT) {X : XT} {sh : SH} {L : LH} {n : Nat} {r : Int32} {I' : IH}  {this : Nat}  (F : MF G X RX7 cX7_holds 9 0 (some .boolean) "holds") : ∀ (fuel : Nat) (v1 : Int32) (v2 : Int32) (v3 : Int32) (v4 : Int32) (v5 : Int32) (I : IH), fX7_holds_b11 sh this fuel v1 v2 v3 v4 v5 I = some (r, I') → J G X (QE G X (some (.int r)) sh I' L n) 9 sh I L n 0 0 11 [(0, .ref this), (1, .int v1), (2, .int v2), (3, .int v3), (4, .int v4), (5, .int v5)] []
  | 0 => by
    intros
    rename_i h
    exact absurd (show none = some _ from h) (by intro z; cases z)
  | fuel + 1 => by
    intro v1 v2 v3 v4 v5 I h
    rw [fX7_holds_b11] at h
    refine j_iload (pc := 11) (k0 := 5) F 5 rfl dX7_holds_11 ?_
    refine j_aload_n (pc := 13) (k0 := 0) F 0 rfl dX7_holds_13 ?_
    obtain ⟨x1, hx1, h⟩ := ob h
    refine j_getR (pc := 14) F flX7_65 hx1 dX7_holds_14 ?_
    refine j_iload_n (pc := 17) (k0 := 1) F 1 rfl dX7_holds_17 ?_
    obtain ⟨x2, hx2, h⟩ := ob h
    refine j_iald (pc := 18) F hx2 dX7_holds_18 ?_
    refine j_icmp_ge (pc := 19) F 272 dX7_holds_19 rfl (fun c => ?_) (fun c => ?_)
    · have h := iz_t c h
      refine j_aload_n (pc := 272) (k0 := 0) F 0 rfl dX7_holds_272 ?_
      obtain ⟨x3, hx3, h⟩ := ob h
      refine j_getR (pc := 273) F flX7_83 hx3 dX7_holds_273 ?_
      refine j_iconst (pc := 276) F 0 dX7_holds_276 (by decide) ?_
      obtain ⟨x4, hx4, h⟩ := ob h
      refine j_zald (pc := 277) F hx4 dX7_holds_277 ?_
      obtain ⟨x5, hx5, h⟩ := ob h
      obtain ⟨hzz, hz⟩ := bz_obt hx5
      rw [← hzz] at hz ⊢
      have g1 := Option.some.inj h
      obtain ⟨q3, g2⟩ := Prod.mk.inj g1
      subst q3
      subst g2
      exact j_zret (pc := 278) F (hz) dX7_holds_278
    · have h := iz_f c h
      refine j_aload_n (pc := 22) (k0 := 0) F 0 rfl dX7_holds_22 ?_
      obtain ⟨x6, hx6, h⟩ := ob h
      refine j_getR (pc := 23) F flX7_68 hx6 dX7_holds_23 ?_
      refine j_iload (pc := 26) (k0 := 5) F 5 rfl dX7_holds_26 ?_
      obtain ⟨x7, hx7, h⟩ := ob h
      refine j_iald (pc := 28) F hx7 dX7_holds_28 ?_
      refine j_istore (pc := 29) (k1 := 6) (ls' := [(6, .int x7), (0, .ref this), (1, .int v1), (2, .int v2), (3, .int v3), (4, .int v4), (5, .int v5)]) F rfl rfl dX7_holds_29 ?_
      refine j_iload (pc := 31) (k0 := 6) F 0 rfl dX7_holds_31 ?_
      refine j_bipush (pc := 33) F (-33) dX7_holds_33 (by decide) ?_
      refine j_icmp_ne (pc := 35) F 67 dX7_holds_35 rfl (fun c => ?_) (fun c => ?_)
      · have h := iz_f c h
        refine j_iload (pc := 67) (k0 := 6) F 0 rfl dX7_holds_67 ?_
        refine j_if_ge (pc := 69) F 151 dX7_holds_69 rfl (fun c => ?_) (fun c => ?_)
        · have h := iz_t c h
          refine j_iload (pc := 151) (k0 := 6) F 0 rfl dX7_holds_151 ?_
          refine j_sipush (pc := 153) F 1000 dX7_holds_153 (by decide) ?_
          refine j_icmp_ge (pc := 156) F 166 dX7_holds_156 rfl (fun c => ?_) (fun c => ?_)
          · have h := iz_t c h
            refine j_iload (pc := 166) (k0 := 6) F 0 rfl dX7_holds_166 ?_
            refine j_sipush (pc := 168) F 2000 dX7_holds_168 (by decide) ?_
            refine j_icmp_ge (pc := 171) F 181 dX7_holds_171 rfl (fun c => ?_) (fun c => ?_)
            · have h := iz_t c h
              refine j_iload_n (pc := 181) (k0 := 3) F 4 rfl dX7_holds_181 ?_
              refine j_sub [1, 2, 3, 4, 5, 6, 0] rfl ?_
              exact jbX7_holds_182 G F (fun h => jbX7_holds_11 G F fuel _ _ _ _ _ _ h) h
            · have h := iz_f c h
              refine j_iload_n (pc := 174) (k0 := 2) F 3 rfl dX7_holds_174 ?_
              refine j_bipush (pc := 175) F 24 dX7_holds_175 (by decide) ?_
              refine j_idiv (pc := 177) F (by decide) dX7_holds_177 ?_
              refine j_goto (pc := 178) F 182 dX7_holds_178 rfl ?_
              refine j_sub [1, 2, 3, 4, 5, 6, 0] rfl ?_
              exact jbX7_holds_182 G F (fun h => jbX7_holds_11 G F fuel _ _ _ _ _ _ h) h
          · have h := iz_f c h
            refine j_iload_n (pc := 159) (k0 := 2) F 3 rfl dX7_holds_159 ?_
            refine j_bipush (pc := 160) F 24 dX7_holds_160 (by decide) ?_
            refine j_irem (pc := 162) F (by decide) dX7_holds_162 ?_
            refine j_goto (pc := 163) F 182 dX7_holds_163 rfl ?_
            refine j_sub [1, 2, 3, 4, 5, 6, 0] rfl ?_
            exact jbX7_holds_182 G F (fun h => jbX7_holds_11 G F fuel _ _ _ _ _ _ h) h
        · have h := iz_f c h
          refine j_iinc (pc := 72) (k1 := 4) (ls' := [(4, .int (v4 + (-1))), (6, .int x7), (0, .ref this), (1, .int v1), (2, .int v2), (3, .int v3), (5, .int v5)]) F (v4 + (-1)) 5 rfl (congrArg (fun z => v4 + z) (by decide)) rfl rfl dX7_holds_72 ?_
          refine j_aload_n (pc := 75) (k0 := 0) F 2 rfl dX7_holds_75 ?_
          obtain ⟨x8, hx8, h⟩ := ob h
          refine j_getR (pc := 76) F flX7_83 hx8 dX7_holds_76 ?_
          refine j_iload (pc := 79) (k0 := 4) F 0 rfl dX7_holds_79 ?_
          refine j_iconst (pc := 81) F 1 dX7_holds_81 (by decide) ?_
          refine j_isub (pc := 82) F dX7_holds_82 ?_
          refine j_iload (pc := 83) (k0 := 6) F 1 rfl dX7_holds_83 ?_
          refine j_bipush (pc := 85) F (-38) dX7_holds_85 (by decide) ?_
          refine j_icmp_ne (pc := 87) F 120 dX7_holds_87 rfl (fun c => ?_) (fun c => ?_)
          · have h := iz_f c h
            refine j_aload_n (pc := 120) (k0 := 0) F 2 rfl dX7_holds_120 ?_
            obtain ⟨x9, hx9, h⟩ := ob h
            refine j_getR (pc := 121) F flX7_83 hx9 dX7_holds_121 ?_
            refine j_iload (pc := 124) (k0 := 4) F 0 rfl dX7_holds_124 ?_
            refine j_iconst (pc := 126) F 1 dX7_holds_126 (by decide) ?_
            refine j_isub (pc := 127) F dX7_holds_127 ?_
            obtain ⟨x10, hx10, h⟩ := ob h
            refine j_zald (pc := 128) F hx10 dX7_holds_128 ?_
            refine j_if_ne (pc := 129) F 142 dX7_holds_129 rfl (fun c => ?_) (fun c => ?_)
            · have h := iz_f c h
              refine j_iconst (pc := 142) F 1 dX7_holds_142 (by decide) ?_
              refine j_goto (pc := 143) F 147 dX7_holds_143 rfl ?_
              obtain ⟨i11, hi11, h⟩ := ob h
              refine j_zast (pc := 147) F hi11 dX7_holds_147 ?_
              refine j_goto (pc := 148) F 266 dX7_holds_148 rfl ?_
              refine j_iinc (pc := 266) (k1 := 5) (ls' := [(5, .int (v5 + 1)), (4, .int (v4 + (-1))), (6, .int x7), (0, .ref this), (1, .int v1), (2, .int v2), (3, .int v3)]) F (v5 + 1) 6 rfl rfl rfl rfl dX7_holds_266 ?_
              refine j_goto (pc := 269) F 11 dX7_holds_269 rfl ?_
              refine j_sub [3, 4, 5, 6, 1, 0] rfl ?_
              exact jbX7_holds_11 G F fuel _ _ _ _ _ _ h
            · have h := iz_t c h
              refine j_aload_n (pc := 132) (k0 := 0) F 2 rfl dX7_holds_132 ?_
              obtain ⟨x12, hx12, h⟩ := ob h
              refine j_getR (pc := 133) F flX7_83 hx12 dX7_holds_133 ?_
              refine j_iload (pc := 136) (k0 := 4) F 0 rfl dX7_holds_136 ?_
              obtain ⟨x13, hx13, h⟩ := ob h
              refine j_zald (pc := 138) F hx13 dX7_holds_138 ?_
              refine j_if_eq (pc := 139) F 146 dX7_holds_139 rfl (fun c => ?_) (fun c => ?_)
              · have h := iz_t c h
                refine j_iconst (pc := 146) F 0 dX7_holds_146 (by decide) ?_
                obtain ⟨i14, hi14, h⟩ := ob h
                refine j_zast (pc := 147) F hi14 dX7_holds_147 ?_
                refine j_goto (pc := 148) F 266 dX7_holds_148 rfl ?_
                refine j_iinc (pc := 266) (k1 := 5) (ls' := [(5, .int (v5 + 1)), (4, .int (v4 + (-1))), (6, .int x7), (0, .ref this), (1, .int v1), (2, .int v2), (3, .int v3)]) F (v5 + 1) 6 rfl rfl rfl rfl dX7_holds_266 ?_
                refine j_goto (pc := 269) F 11 dX7_holds_269 rfl ?_
                refine j_sub [3, 4, 5, 6, 1, 0] rfl ?_
                exact jbX7_holds_11 G F fuel _ _ _ _ _ _ h
              · have h := iz_f c h
                refine j_iconst (pc := 142) F 1 dX7_holds_142 (by decide) ?_
                refine j_goto (pc := 143) F 147 dX7_holds_143 rfl ?_
                obtain ⟨i15, hi15, h⟩ := ob h
                refine j_zast (pc := 147) F hi15 dX7_holds_147 ?_
                refine j_goto (pc := 148) F 266 dX7_holds_148 rfl ?_
                refine j_iinc (pc := 266) (k1 := 5) (ls' := [(5, .int (v5 + 1)), (4, .int (v4 + (-1))), (6, .int x7), (0, .ref this), (1, .int v1), (2, .int v2), (3, .int v3)]) F (v5 + 1) 6 rfl rfl rfl rfl dX7_holds_266 ?_
                refine j_goto (pc := 269) F 11 dX7_holds_269 rfl ?_
                refine j_sub [3, 4, 5, 6, 1, 0] rfl ?_
                exact jbX7_holds_11 G F fuel _ _ _ _ _ _ h
          · have h := iz_t c h
            refine j_aload_n (pc := 90) (k0 := 0) F 2 rfl dX7_holds_90 ?_
            obtain ⟨x16, hx16, h⟩ := ob h
            refine j_getR (pc := 91) F flX7_83 hx16 dX7_holds_91 ?_
            refine j_iload (pc := 94) (k0 := 4) F 0 rfl dX7_holds_94 ?_
            refine j_iconst (pc := 96) F 1 dX7_holds_96 (by decide) ?_
            refine j_isub (pc := 97) F dX7_holds_97 ?_
            obtain ⟨x17, hx17, h⟩ := ob h
            refine j_zald (pc := 98) F hx17 dX7_holds_98 ?_
            refine j_if_eq (pc := 99) F 116 dX7_holds_99 rfl (fun c => ?_) (fun c => ?_)
            · have h := iz_t c h
              refine j_iconst (pc := 116) F 0 dX7_holds_116 (by decide) ?_
              refine j_goto (pc := 117) F 147 dX7_holds_117 rfl ?_
              obtain ⟨i18, hi18, h⟩ := ob h
              refine j_zast (pc := 147) F hi18 dX7_holds_147 ?_
              refine j_goto (pc := 148) F 266 dX7_holds_148 rfl ?_
              refine j_iinc (pc := 266) (k1 := 5) (ls' := [(5, .int (v5 + 1)), (4, .int (v4 + (-1))), (6, .int x7), (0, .ref this), (1, .int v1), (2, .int v2), (3, .int v3)]) F (v5 + 1) 6 rfl rfl rfl rfl dX7_holds_266 ?_
              refine j_goto (pc := 269) F 11 dX7_holds_269 rfl ?_
              refine j_sub [3, 4, 5, 6, 1, 0] rfl ?_
              exact jbX7_holds_11 G F fuel _ _ _ _ _ _ h
            · have h := iz_f c h
              refine j_aload_n (pc := 102) (k0 := 0) F 2 rfl dX7_holds_102 ?_
              obtain ⟨x19, hx19, h⟩ := ob h
              refine j_getR (pc := 103) F flX7_83 hx19 dX7_holds_103 ?_
              refine j_iload (pc := 106) (k0 := 4) F 0 rfl dX7_holds_106 ?_
              obtain ⟨x20, hx20, h⟩ := ob h
              refine j_zald (pc := 108) F hx20 dX7_holds_108 ?_
              refine j_if_eq (pc := 109) F 116 dX7_holds_109 rfl (fun c => ?_) (fun c => ?_)
              · have h := iz_t c h
                refine j_iconst (pc := 116) F 0 dX7_holds_116 (by decide) ?_
                refine j_goto (pc := 117) F 147 dX7_holds_117 rfl ?_
                obtain ⟨i21, hi21, h⟩ := ob h
                refine j_zast (pc := 147) F hi21 dX7_holds_147 ?_
                refine j_goto (pc := 148) F 266 dX7_holds_148 rfl ?_
                refine j_iinc (pc := 266) (k1 := 5) (ls' := [(5, .int (v5 + 1)), (4, .int (v4 + (-1))), (6, .int x7), (0, .ref this), (1, .int v1), (2, .int v2), (3, .int v3)]) F (v5 + 1) 6 rfl rfl rfl rfl dX7_holds_266 ?_
                refine j_goto (pc := 269) F 11 dX7_holds_269 rfl ?_
                refine j_sub [3, 4, 5, 6, 1, 0] rfl ?_
                exact jbX7_holds_11 G F fuel _ _ _ _ _ _ h
              · have h := iz_f c h
                refine j_iconst (pc := 112) F 1 dX7_holds_112 (by decide) ?_
                refine j_goto (pc := 113) F 147 dX7_holds_113 rfl ?_
                obtain ⟨i22, hi22, h⟩ := ob h
                refine j_zast (pc := 147) F hi22 dX7_holds_147 ?_
                refine j_goto (pc := 148) F 266 dX7_holds_148 rfl ?_
                refine j_iinc (pc := 266) (k1 := 5) (ls' := [(5, .int (v5 + 1)), (4, .int (v4 + (-1))), (6, .int x7), (0, .ref this), (1, .int v1), (2, .int v2), (3, .int v3)]) F (v5 + 1) 6 rfl rfl rfl rfl dX7_holds_266 ?_
                refine j_goto (pc := 269) F 11 dX7_holds_269 rfl ?_
                refine j_sub [3, 4, 5, 6, 1, 0] rfl ?_
                exact jbX7_holds_11 G F fuel _ _ _ _ _ _ h
      · have h := iz_t c h
        refine j_aload_n (pc := 38) (k0 := 0) F 1 rfl dX7_holds_38 ?_
        obtain ⟨x23, hx23, h⟩ := ob h
        refine j_getR (pc := 39) F flX7_83 hx23 dX7_holds_39 ?_
        refine j_iload (pc := 42) (k0 := 4) F 5 rfl dX7_holds_42 ?_
        refine j_iconst (pc := 44) F 1 dX7_holds_44 (by decide) ?_
        refine j_isub (pc := 45) F dX7_holds_45 ?_
        refine j_aload_n (pc := 46) (k0 := 0) F 1 rfl dX7_holds_46 ?_
        obtain ⟨x24, hx24, h⟩ := ob h
        refine j_getR (pc := 47) F flX7_83 hx24 dX7_holds_47 ?_
        refine j_iload (pc := 50) (k0 := 4) F 5 rfl dX7_holds_50 ?_
        refine j_iconst (pc := 52) F 1 dX7_holds_52 (by decide) ?_
        refine j_isub (pc := 53) F dX7_holds_53 ?_
        obtain ⟨x25, hx25, h⟩ := ob h
        refine j_zald (pc := 54) F hx25 dX7_holds_54 ?_
        refine j_if_ne (pc := 55) F 62 dX7_holds_55 rfl (fun c => ?_) (fun c => ?_)
        · have h := iz_f c h
          refine j_iconst (pc := 62) F 0 dX7_holds_62 (by decide) ?_
          obtain ⟨i26, hi26, h⟩ := ob h
          refine j_zast (pc := 63) F hi26 dX7_holds_63 ?_
          refine j_goto (pc := 64) F 266 dX7_holds_64 rfl ?_
          refine j_iinc (pc := 266) (k1 := 5) (ls' := [(5, .int (v5 + 1)), (6, .int x7), (0, .ref this), (1, .int v1), (2, .int v2), (3, .int v3), (4, .int v4)]) F (v5 + 1) 6 rfl rfl rfl rfl dX7_holds_266 ?_
          refine j_goto (pc := 269) F 11 dX7_holds_269 rfl ?_
          refine j_sub [2, 3, 4, 5, 6, 0] rfl ?_
          exact jbX7_holds_11 G F fuel _ _ _ _ _ _ h
        · have h := iz_t c h
          refine j_iconst (pc := 58) F 1 dX7_holds_58 (by decide) ?_
          refine j_goto (pc := 59) F 63 dX7_holds_59 rfl ?_
          obtain ⟨i27, hi27, h⟩ := ob h
          refine j_zast (pc := 63) F hi27 dX7_holds_63 ?_
          refine j_goto (pc := 64) F 266 dX7_holds_64 rfl ?_
          refine j_iinc (pc := 266) (k1 := 5) (ls' := [(5, .int (v5 + 1)), (6, .int x7), (0, .ref this), (1, .int v1), (2, .int v2), (3, .int v3), (4, .int v4)]) F (v5 + 1) 6 rfl rfl rfl rfl dX7_holds_266 ?_
          refine j_goto (pc := 269) F 11 dX7_holds_269 rfl ?_
          refine j_sub [2, 3, 4, 5, 6, 0] rfl ?_
          exact jbX7_holds_11 G F fuel _ _ _ _ _ _ h
set_option maxHeartbeats 4000000 in
set_option maxRecDepth 20000 in
theorem jbX7_holds_0 (G : GT) {X : XT} {sh : SH} {L : LH} {n : Nat} {r : Int32} {I' : IH}  {this : Nat}  {v1 : Int32} {v2 : Int32} {v3 : Int32} {I : IH} (F : MF G X RX7 cX7_holds 9 0 (some .boolean) "holds") (h : fX7_holds sh this v1 v2 v3 I = some (r, I')) : J G X (QE G X (some (.int r)) sh I' L n) 9 sh I L n 0 0 0 [(0, .ref this), (1, .int v1), (2, .int v2), (3, .int v3)] [] := by
  unfold fX7_holds at h
  refine j_iconst (pc := 0) F 0 dX7_holds_0 (by decide) ?_
  refine j_istore (pc := 1) (k1 := 4) (ls' := [(4, .int 0), (0, .ref this), (1, .int v1), (2, .int v2), (3, .int v3)]) F rfl rfl dX7_holds_1 ?_
  refine j_aload_n (pc := 3) (k0 := 0) F 1 rfl dX7_holds_3 ?_
  obtain ⟨x1, hx1, h⟩ := ob h
  refine j_getR (pc := 4) F flX7_62 hx1 dX7_holds_4 ?_
  refine j_iload_n (pc := 7) (k0 := 1) F 2 rfl dX7_holds_7 ?_
  obtain ⟨x2, hx2, h⟩ := ob h
  refine j_iald (pc := 8) F hx2 dX7_holds_8 ?_
  refine j_istore (pc := 9) (k1 := 5) (ls' := [(5, .int x2), (4, .int 0), (0, .ref this), (1, .int v1), (2, .int v2), (3, .int v3)]) F rfl rfl dX7_holds_9 ?_
  refine j_sub [2, 3, 4, 5, 1, 0] rfl ?_
  exact jbX7_holds_11 G F 1000 _ _ _ _ _ _ h
theorem ctX7_holds (G : GT) {sh : SH} {I : IH} {L : LH} {n : Nat} {this : Nat} {v1 : Int32} {v2 : Int32} {v3 : Int32} {r : Int32} {I' : IH}  (h : fX7_holds sh this v1 v2 v3 I = some (r, I')) : Ct G yX7_holds cX7_holds 9 (some .boolean) 0 [.ref this, .int v1, .int v2, .int v3] sh I L n (some (.int r)) sh I' L n 0 0 := by
  refine ct_of (y := yX7_holds) (by decide +kernel) rfl (fun X F => ?_)
  exact jbX7_holds_0 G F h
theorem dX7_day_0 : decode cX7_day 0 = .ok (.iload_n 1, 1) := by decide +kernel
theorem dX7_day_1 : decode cX7_day 1 = .ok (.iconst (-1), 1) := by decide +kernel
theorem dX7_day_2 : decode cX7_day 2 = .ok (.if_icmp .ne 10, 3) := by decide +kernel
theorem dX7_day_5 : decode cX7_day 5 = .ok (.aload_n 0, 1) := by decide +kernel
theorem dX7_day_6 : decode cX7_day 6 = .ok (.iconst 0, 1) := by decide +kernel
theorem dX7_day_7 : decode cX7_day 7 = .ok (.putfield 87, 3) := by decide +kernel
theorem dX7_day_10 : decode cX7_day 10 = .ok (.iconst 0, 1) := by decide +kernel
theorem dX7_day_11 : decode cX7_day 11 = .ok (.ireturn, 1) := by decide +kernel
theorem dX7_day_12 : decode cX7_day 12 = .ok (.aload_n 0, 1) := by decide +kernel
theorem dX7_day_13 : decode cX7_day 13 = .ok (.iload_n 1, 1) := by decide +kernel
theorem dX7_day_14 : decode cX7_day 14 = .ok (.iconst 0, 1) := by decide +kernel
theorem dX7_day_15 : decode cX7_day 15 = .ok (.bipush 99, 2) := by decide +kernel
theorem dX7_day_17 : decode cX7_day 17 = .ok (.invokevirtual 215, 3) := by decide +kernel
theorem dX7_day_20 : decode cX7_day 20 = .ok (.ifCond .ne 6, 3) := by decide +kernel
theorem dX7_day_23 : decode cX7_day 23 = .ok (.bipush (-2), 2) := by decide +kernel
theorem dX7_day_25 : decode cX7_day 25 = .ok (.ireturn, 1) := by decide +kernel
theorem dX7_day_26 : decode cX7_day 26 = .ok (.aload_n 0, 1) := by decide +kernel
theorem dX7_day_27 : decode cX7_day 27 = .ok (.getfield 87, 3) := by decide +kernel
theorem dX7_day_30 : decode cX7_day 30 = .ok (.bipush 24, 2) := by decide +kernel
theorem dX7_day_32 : decode cX7_day 32 = .ok (.if_icmp .ne 6, 3) := by decide +kernel
theorem dX7_day_35 : decode cX7_day 35 = .ok (.bipush (-4), 2) := by decide +kernel
theorem dX7_day_37 : decode cX7_day 37 = .ok (.ireturn, 1) := by decide +kernel
theorem dX7_day_38 : decode cX7_day 38 = .ok (.aload_n 0, 1) := by decide +kernel
theorem dX7_day_39 : decode cX7_day 39 = .ok (.getfield 90, 3) := by decide +kernel
theorem dX7_day_42 : decode cX7_day 42 = .ok (.aload_n 0, 1) := by decide +kernel
theorem dX7_day_43 : decode cX7_day 43 = .ok (.getfield 87, 3) := by decide +kernel
theorem dX7_day_46 : decode cX7_day 46 = .ok (.iload_n 1, 1) := by decide +kernel
theorem dX7_day_47 : decode cX7_day 47 = .ok (.iastore, 1) := by decide +kernel
theorem dX7_day_48 : decode cX7_day 48 = .ok (.aload_n 0, 1) := by decide +kernel
theorem dX7_day_49 : decode cX7_day 49 = .ok (.dup, 1) := by decide +kernel
theorem dX7_day_50 : decode cX7_day 50 = .ok (.getfield 87, 3) := by decide +kernel
theorem dX7_day_53 : decode cX7_day 53 = .ok (.iconst 1, 1) := by decide +kernel
theorem dX7_day_54 : decode cX7_day 54 = .ok (.iadd, 1) := by decide +kernel
theorem dX7_day_55 : decode cX7_day 55 = .ok (.putfield 87, 3) := by decide +kernel
theorem dX7_day_58 : decode cX7_day 58 = .ok (.aload_n 0, 1) := by decide +kernel
theorem dX7_day_59 : decode cX7_day 59 = .ok (.getfield 87, 3) := by decide +kernel
theorem dX7_day_62 : decode cX7_day 62 = .ok (.ireturn, 1) := by decide +kernel
def fX7_day (sh : SH) (this : Nat) (v1 : Int32) (I : IH) : Option (Int32 × IH) :=
  if v1 = (-1) then (
    (pI sh I 7 this 25 0).bind fun i8 =>
    some (0, i8)) else
  if (fX7_in v1 0 99) = 0 then (
    some ((-2), I)) else
  (gI sh I 7 this 25).bind fun x1 =>
  if x1 = 24 then (
    some ((-4), I)) else
  (gR sh 7 this 26).bind fun x2 =>
  (gI sh I 7 this 25).bind fun x3 =>
  (sI sh I x2 x3 v1).bind fun i4 =>
  (gI sh i4 7 this 25).bind fun x5 =>
  (pI sh i4 7 this 25 (x5 + 1)).bind fun i6 =>
  (gI sh i6 7 this 25).bind fun x7 =>
  some (x7, i6)
set_option maxHeartbeats 4000000 in
set_option maxRecDepth 20000 in
theorem jbX7_day_0 (G : GT) {X : XT} {sh : SH} {L : LH} {n : Nat} {r : Int32} {I' : IH}  {this : Nat}  {v1 : Int32} {I : IH} (F : MF G X RX7 cX7_day 2 1 (some .int) "day") (hth : isO sh 7 this) (h : fX7_day sh this v1 I = some (r, I')) : J G X (QE G X (some (.int r)) sh I' L n) 2 sh I L n 0 0 0 [(0, .ref this), (1, .int v1)] [] := by
  unfold fX7_day at h
  refine j_iload_n (pc := 0) (k0 := 1) F 1 rfl dX7_day_0 ?_
  refine j_iconst (pc := 1) F (-1) dX7_day_1 (by decide) ?_
  refine j_icmp_ne (pc := 2) F 12 dX7_day_2 rfl (fun c => ?_) (fun c => ?_)
  · have h := iz_f c h
    refine j_aload_n (pc := 12) (k0 := 0) F 0 rfl dX7_day_12 ?_
    refine j_iload_n (pc := 13) (k0 := 1) F 1 rfl dX7_day_13 ?_
    refine j_iconst (pc := 14) F 0 dX7_day_14 (by decide) ?_
    refine j_bipush (pc := 15) F 99 dX7_day_15 (by decide) ?_
    refine j_callV1 (pc := 17) (ci := 7) (As := [.int v1, .int 0, .int 99]) (st := []) (e1 := 0) (es1 := 0) F clX7_215 cwX7_in rfl hth (ctX7_in G) rfl rfl rfl rfl rfl rfl dX7_day_17 ?_
    refine j_if_ne (pc := 20) F 26 dX7_day_20 rfl (fun c => ?_) (fun c => ?_)
    · have h := iz_f c h
      refine j_aload_n (pc := 26) (k0 := 0) F 0 rfl dX7_day_26 ?_
      obtain ⟨x1, hx1, h⟩ := ob h
      refine j_getI (pc := 27) F flX7_87 hx1 dX7_day_27 ?_
      refine j_bipush (pc := 30) F 24 dX7_day_30 (by decide) ?_
      refine j_icmp_ne (pc := 32) F 38 dX7_day_32 rfl (fun c => ?_) (fun c => ?_)
      · have h := iz_f c h
        refine j_aload_n (pc := 38) (k0 := 0) F 0 rfl dX7_day_38 ?_
        obtain ⟨x2, hx2, h⟩ := ob h
        refine j_getR (pc := 39) F flX7_90 hx2 dX7_day_39 ?_
        refine j_aload_n (pc := 42) (k0 := 0) F 0 rfl dX7_day_42 ?_
        obtain ⟨x3, hx3, h⟩ := ob h
        refine j_getI (pc := 43) F flX7_87 hx3 dX7_day_43 ?_
        refine j_iload_n (pc := 46) (k0 := 1) F 1 rfl dX7_day_46 ?_
        obtain ⟨i4, hi4, h⟩ := ob h
        refine j_iast (pc := 47) F hi4 dX7_day_47 ?_
        refine j_aload_n (pc := 48) (k0 := 0) F 0 rfl dX7_day_48 ?_
        refine j_dup (pc := 49) F dX7_day_49 rfl ?_
        obtain ⟨x5, hx5, h⟩ := ob h
        refine j_getI (pc := 50) F flX7_87 hx5 dX7_day_50 ?_
        refine j_iconst (pc := 53) F 1 dX7_day_53 (by decide) ?_
        refine j_iadd (pc := 54) F dX7_day_54 ?_
        obtain ⟨i6, hi6, h⟩ := ob h
        refine j_putI (pc := 55) F flX7_87 fp7_25 (fun z => by cases z) hi6 dX7_day_55 ?_
        refine j_aload_n (pc := 58) (k0 := 0) F 0 rfl dX7_day_58 ?_
        obtain ⟨x7, hx7, h⟩ := ob h
        refine j_getI (pc := 59) F flX7_87 hx7 dX7_day_59 ?_
        have g1 := Option.some.inj h
        obtain ⟨q3, g2⟩ := Prod.mk.inj g1
        subst q3
        subst g2
        exact j_iret (pc := 62) F dX7_day_62
      · have h := iz_t c h
        refine j_bipush (pc := 35) F (-4) dX7_day_35 (by decide) ?_
        have g1 := Option.some.inj h
        obtain ⟨q3, g2⟩ := Prod.mk.inj g1
        subst q3
        subst g2
        exact j_iret (pc := 37) F dX7_day_37
    · have h := iz_t c h
      refine j_bipush (pc := 23) F (-2) dX7_day_23 (by decide) ?_
      have g1 := Option.some.inj h
      obtain ⟨q3, g2⟩ := Prod.mk.inj g1
      subst q3
      subst g2
      exact j_iret (pc := 25) F dX7_day_25
  · have h := iz_t c h
    refine j_aload_n (pc := 5) (k0 := 0) F 0 rfl dX7_day_5 ?_
    refine j_iconst (pc := 6) F 0 dX7_day_6 (by decide) ?_
    obtain ⟨i8, hi8, h⟩ := ob h
    refine j_putI (pc := 7) F flX7_87 fp7_25 (fun z => by cases z) hi8 dX7_day_7 ?_
    refine j_iconst (pc := 10) F 0 dX7_day_10 (by decide) ?_
    have g1 := Option.some.inj h
    obtain ⟨q3, g2⟩ := Prod.mk.inj g1
    subst q3
    subst g2
    exact j_iret (pc := 11) F dX7_day_11
theorem ctX7_day (G : GT) {sh : SH} {I : IH} {L : LH} {n : Nat} {this : Nat} {v1 : Int32} {r : Int32} {I' : IH}  (hth : isO sh 7 this) (h : fX7_day sh this v1 I = some (r, I')) : Ct G yX7_day cX7_day 2 (some .int) 1 [.ref this, .int v1] sh I L n (some (.int r)) sh I' L n 0 0 := by
  refine ct_of (y := yX7_day) (by decide +kernel) rfl (fun X F => ?_)
  exact jbX7_day_0 G F hth h
theorem dX7_meltOf_0 : decode cX7_meltOf 0 = .ok (.iload_n 1, 1) := by decide +kernel
theorem dX7_meltOf_1 : decode cX7_meltOf 1 = .ok (.aload_n 0, 1) := by decide +kernel
theorem dX7_meltOf_2 : decode cX7_meltOf 2 = .ok (.getfield 87, 3) := by decide +kernel
theorem dX7_meltOf_5 : decode cX7_meltOf 5 = .ok (.if_icmp .ge 10, 3) := by decide +kernel
theorem dX7_meltOf_8 : decode cX7_meltOf 8 = .ok (.aload_n 0, 1) := by decide +kernel
theorem dX7_meltOf_9 : decode cX7_meltOf 9 = .ok (.getfield 90, 3) := by decide +kernel
theorem dX7_meltOf_12 : decode cX7_meltOf 12 = .ok (.iload_n 1, 1) := by decide +kernel
theorem dX7_meltOf_13 : decode cX7_meltOf 13 = .ok (.iaload, 1) := by decide +kernel
theorem dX7_meltOf_14 : decode cX7_meltOf 14 = .ok (.ireturn, 1) := by decide +kernel
theorem dX7_meltOf_15 : decode cX7_meltOf 15 = .ok (.iconst 0, 1) := by decide +kernel
theorem dX7_meltOf_16 : decode cX7_meltOf 16 = .ok (.istore_n 3, 1) := by decide +kernel
theorem dX7_meltOf_17 : decode cX7_meltOf 17 = .ok (.aload_n 0, 1) := by decide +kernel
theorem dX7_meltOf_18 : decode cX7_meltOf 18 = .ok (.invokevirtual 274, 3) := by decide +kernel
theorem dX7_meltOf_21 : decode cX7_meltOf 21 = .ok (.istore 4, 2) := by decide +kernel
theorem dX7_meltOf_23 : decode cX7_meltOf 23 = .ok (.iload 4, 2) := by decide +kernel
theorem dX7_meltOf_25 : decode cX7_meltOf 25 = .ok (.aload_n 0, 1) := by decide +kernel
theorem dX7_meltOf_26 : decode cX7_meltOf 26 = .ok (.invokevirtual 277, 3) := by decide +kernel
theorem dX7_meltOf_29 : decode cX7_meltOf 29 = .ok (.if_icmp .ge 44, 3) := by decide +kernel
theorem dX7_meltOf_32 : decode cX7_meltOf 32 = .ok (.iload_n 3, 1) := by decide +kernel
theorem dX7_meltOf_33 : decode cX7_meltOf 33 = .ok (.aload_n 0, 1) := by decide +kernel
theorem dX7_meltOf_34 : decode cX7_meltOf 34 = .ok (.getfield 53, 3) := by decide +kernel
theorem dX7_meltOf_37 : decode cX7_meltOf 37 = .ok (.iload 4, 2) := by decide +kernel
theorem dX7_meltOf_39 : decode cX7_meltOf 39 = .ok (.iaload, 1) := by decide +kernel
theorem dX7_meltOf_40 : decode cX7_meltOf 40 = .ok (.ifCond .ne 24, 3) := by decide +kernel
theorem dX7_meltOf_43 : decode cX7_meltOf 43 = .ok (.aload_n 0, 1) := by decide +kernel
theorem dX7_meltOf_44 : decode cX7_meltOf 44 = .ok (.iload 4, 2) := by decide +kernel
theorem dX7_meltOf_46 : decode cX7_meltOf 46 = .ok (.iload_n 1, 1) := by decide +kernel
theorem dX7_meltOf_47 : decode cX7_meltOf 47 = .ok (.iload_n 2, 1) := by decide +kernel
theorem dX7_meltOf_48 : decode cX7_meltOf 48 = .ok (.invokevirtual 288, 3) := by decide +kernel
theorem dX7_meltOf_51 : decode cX7_meltOf 51 = .ok (.ifCond .eq 13, 3) := by decide +kernel
theorem dX7_meltOf_54 : decode cX7_meltOf 54 = .ok (.aload_n 0, 1) := by decide +kernel
theorem dX7_meltOf_55 : decode cX7_meltOf 55 = .ok (.getfield 59, 3) := by decide +kernel
theorem dX7_meltOf_58 : decode cX7_meltOf 58 = .ok (.iload 4, 2) := by decide +kernel
theorem dX7_meltOf_60 : decode cX7_meltOf 60 = .ok (.iaload, 1) := by decide +kernel
theorem dX7_meltOf_61 : decode cX7_meltOf 61 = .ok (.goto 4, 3) := by decide +kernel
theorem dX7_meltOf_64 : decode cX7_meltOf 64 = .ok (.iconst 0, 1) := by decide +kernel
theorem dX7_meltOf_65 : decode cX7_meltOf 65 = .ok (.iadd, 1) := by decide +kernel
theorem dX7_meltOf_66 : decode cX7_meltOf 66 = .ok (.istore_n 3, 1) := by decide +kernel
theorem dX7_meltOf_67 : decode cX7_meltOf 67 = .ok (.iinc 4 1, 3) := by decide +kernel
theorem dX7_meltOf_70 : decode cX7_meltOf 70 = .ok (.goto (-47), 3) := by decide +kernel
theorem dX7_meltOf_73 : decode cX7_meltOf 73 = .ok (.iload_n 3, 1) := by decide +kernel
theorem dX7_meltOf_74 : decode cX7_meltOf 74 = .ok (.ireturn, 1) := by decide +kernel
def fX7_meltOf_b23 (sh : SH) (this : Nat) : Nat → Int32 → Int32 → Int32 → Int32 → IH → Option (Int32 × IH)
  | 0, _, _, _, _, _ => none
  | fuel + 1, v1, v2, v3, v4, I =>
    (fX7_behind sh I this).bind fun x1 =>
    if x1 ≤ v4 then (
      some (v3, I)) else
    (gR sh 7 this 14).bind fun x2 =>
    (aI sh I 0 x2 v4).bind fun x3 =>
    if x3 = 0 then (
      b2 (fX7_holds sh this v4 v1 v2 I) fun x4 i5 =>
      if x4 = 0 then (
        fX7_meltOf_b23 sh this fuel v1 v2 (v3 + 0) (v4 + 1) i5) else
      (gR sh 7 this 16).bind fun x6 =>
      (aI sh i5 0 x6 v4).bind fun x7 =>
      fX7_meltOf_b23 sh this fuel v1 v2 (v3 + x7) (v4 + 1) i5) else
    fX7_meltOf_b23 sh this fuel v1 v2 (v3 + 0) (v4 + 1) I
def fX7_meltOf (sh : SH) (this : Nat) (v1 : Int32) (v2 : Int32) (I : IH) : Option (Int32 × IH) :=
  (gI sh I 7 this 25).bind fun x1 =>
  if x1 ≤ v1 then (
    (fX7_first sh I this).bind fun x2 =>
    fX7_meltOf_b23 sh this 1000 v1 v2 0 x2 I) else
  (gR sh 7 this 26).bind fun x3 =>
  (aI sh I 0 x3 v1).bind fun x4 =>
  some (x4, I)
set_option maxHeartbeats 4000000 in
set_option maxRecDepth 20000 in
theorem jbX7_meltOf_23 (G : GT) {X : XT} {sh : SH} {L : LH} {n : Nat} {r : Int32} {I' : IH}  {this : Nat}  (F : MF G X RX7 cX7_meltOf 5 1 (some .int) "meltOf") (hth : isO sh 7 this) : ∀ (fuel : Nat) (v1 : Int32) (v2 : Int32) (v3 : Int32) (v4 : Int32) (I : IH), fX7_meltOf_b23 sh this fuel v1 v2 v3 v4 I = some (r, I') → J G X (QE G X (some (.int r)) sh I' L n) 5 sh I L n 0 0 23 [(0, .ref this), (1, .int v1), (2, .int v2), (3, .int v3), (4, .int v4)] []
  | 0 => by
    intros
    rename_i h
    exact absurd (show none = some _ from h) (by intro z; cases z)
  | fuel + 1 => by
    intro v1 v2 v3 v4 I h
    rw [fX7_meltOf_b23] at h
    refine j_iload (pc := 23) (k0 := 4) F 4 rfl dX7_meltOf_23 ?_
    refine j_aload_n (pc := 25) (k0 := 0) F 0 rfl dX7_meltOf_25 ?_
    obtain ⟨x1, hx1, h⟩ := ob h
    refine j_callV1 (pc := 26) (ci := 7) (As := []) (st := [.int v4]) (e1 := 0) (es1 := 0) F clX7_277 cwX7_behind rfl hth (ctX7_behind G hx1) rfl rfl rfl rfl rfl rfl dX7_meltOf_26 ?_
    refine j_icmp_ge (pc := 29) F 73 dX7_meltOf_29 rfl (fun c => ?_) (fun c => ?_)
    · have h := iz_t c h
      refine j_iload_n (pc := 73) (k0 := 3) F 3 rfl dX7_meltOf_73 ?_
      have g1 := Option.some.inj h
      obtain ⟨q3, g2⟩ := Prod.mk.inj g1
      subst q3
      subst g2
      exact j_iret (pc := 74) F dX7_meltOf_74
    · have h := iz_f c h
      refine j_iload_n (pc := 32) (k0 := 3) F 3 rfl dX7_meltOf_32 ?_
      refine j_aload_n (pc := 33) (k0 := 0) F 0 rfl dX7_meltOf_33 ?_
      obtain ⟨x2, hx2, h⟩ := ob h
      refine j_getR (pc := 34) F flX7_53 hx2 dX7_meltOf_34 ?_
      refine j_iload (pc := 37) (k0 := 4) F 4 rfl dX7_meltOf_37 ?_
      obtain ⟨x3, hx3, h⟩ := ob h
      refine j_iald (pc := 39) F hx3 dX7_meltOf_39 ?_
      refine j_if_ne (pc := 40) F 64 dX7_meltOf_40 rfl (fun c => ?_) (fun c => ?_)
      · have h := iz_f c h
        refine j_iconst (pc := 64) F 0 dX7_meltOf_64 (by decide) ?_
        refine j_iadd (pc := 65) F dX7_meltOf_65 ?_
        refine j_istore_n (pc := 66) (k1 := 3) (ls' := [(3, .int (v3 + 0)), (0, .ref this), (1, .int v1), (2, .int v2), (4, .int v4)]) F rfl rfl rfl dX7_meltOf_66 ?_
        refine j_iinc (pc := 67) (k1 := 4) (ls' := [(4, .int (v4 + 1)), (3, .int (v3 + 0)), (0, .ref this), (1, .int v1), (2, .int v2)]) F (v4 + 1) 4 rfl rfl rfl rfl dX7_meltOf_67 ?_
        refine j_goto (pc := 70) F 23 dX7_meltOf_70 rfl ?_
        refine j_sub [2, 3, 4, 1, 0] rfl ?_
        exact jbX7_meltOf_23 G F hth fuel _ _ _ _ _ h
      · have h := iz_t c h
        refine j_aload_n (pc := 43) (k0 := 0) F 0 rfl dX7_meltOf_43 ?_
        refine j_iload (pc := 44) (k0 := 4) F 4 rfl dX7_meltOf_44 ?_
        refine j_iload_n (pc := 46) (k0 := 1) F 1 rfl dX7_meltOf_46 ?_
        refine j_iload_n (pc := 47) (k0 := 2) F 2 rfl dX7_meltOf_47 ?_
        obtain ⟨x4, i5, hx4, h⟩ := b2_obt h
        refine j_callV1 (pc := 48) (ci := 7) (As := [.int v4, .int v1, .int v2]) (st := [.int v3]) (e1 := 0) (es1 := 0) F clX7_288 cwX7_holds rfl hth (ctX7_holds G hx4) rfl rfl rfl rfl rfl rfl dX7_meltOf_48 ?_
        refine j_if_eq (pc := 51) F 64 dX7_meltOf_51 rfl (fun c => ?_) (fun c => ?_)
        · have h := iz_t c h
          refine j_iconst (pc := 64) F 0 dX7_meltOf_64 (by decide) ?_
          refine j_iadd (pc := 65) F dX7_meltOf_65 ?_
          refine j_istore_n (pc := 66) (k1 := 3) (ls' := [(3, .int (v3 + 0)), (0, .ref this), (1, .int v1), (2, .int v2), (4, .int v4)]) F rfl rfl rfl dX7_meltOf_66 ?_
          refine j_iinc (pc := 67) (k1 := 4) (ls' := [(4, .int (v4 + 1)), (3, .int (v3 + 0)), (0, .ref this), (1, .int v1), (2, .int v2)]) F (v4 + 1) 4 rfl rfl rfl rfl dX7_meltOf_67 ?_
          refine j_goto (pc := 70) F 23 dX7_meltOf_70 rfl ?_
          refine j_sub [2, 3, 4, 1, 0] rfl ?_
          exact jbX7_meltOf_23 G F hth fuel _ _ _ _ _ h
        · have h := iz_f c h
          refine j_aload_n (pc := 54) (k0 := 0) F 0 rfl dX7_meltOf_54 ?_
          obtain ⟨x6, hx6, h⟩ := ob h
          refine j_getR (pc := 55) F flX7_59 hx6 dX7_meltOf_55 ?_
          refine j_iload (pc := 58) (k0 := 4) F 4 rfl dX7_meltOf_58 ?_
          obtain ⟨x7, hx7, h⟩ := ob h
          refine j_iald (pc := 60) F hx7 dX7_meltOf_60 ?_
          refine j_goto (pc := 61) F 65 dX7_meltOf_61 rfl ?_
          refine j_iadd (pc := 65) F dX7_meltOf_65 ?_
          refine j_istore_n (pc := 66) (k1 := 3) (ls' := [(3, .int (v3 + x7)), (0, .ref this), (1, .int v1), (2, .int v2), (4, .int v4)]) F rfl rfl rfl dX7_meltOf_66 ?_
          refine j_iinc (pc := 67) (k1 := 4) (ls' := [(4, .int (v4 + 1)), (3, .int (v3 + x7)), (0, .ref this), (1, .int v1), (2, .int v2)]) F (v4 + 1) 4 rfl rfl rfl rfl dX7_meltOf_67 ?_
          refine j_goto (pc := 70) F 23 dX7_meltOf_70 rfl ?_
          refine j_sub [2, 3, 4, 1, 0] rfl ?_
          exact jbX7_meltOf_23 G F hth fuel _ _ _ _ _ h
set_option maxHeartbeats 4000000 in
set_option maxRecDepth 20000 in
theorem jbX7_meltOf_0 (G : GT) {X : XT} {sh : SH} {L : LH} {n : Nat} {r : Int32} {I' : IH}  {this : Nat}  {v1 : Int32} {v2 : Int32} {I : IH} (F : MF G X RX7 cX7_meltOf 5 1 (some .int) "meltOf") (hth : isO sh 7 this) (h : fX7_meltOf sh this v1 v2 I = some (r, I')) : J G X (QE G X (some (.int r)) sh I' L n) 5 sh I L n 0 0 0 [(0, .ref this), (1, .int v1), (2, .int v2)] [] := by
  unfold fX7_meltOf at h
  refine j_iload_n (pc := 0) (k0 := 1) F 1 rfl dX7_meltOf_0 ?_
  refine j_aload_n (pc := 1) (k0 := 0) F 0 rfl dX7_meltOf_1 ?_
  obtain ⟨x1, hx1, h⟩ := ob h
  refine j_getI (pc := 2) F flX7_87 hx1 dX7_meltOf_2 ?_
  refine j_icmp_ge (pc := 5) F 15 dX7_meltOf_5 rfl (fun c => ?_) (fun c => ?_)
  · have h := iz_t c h
    refine j_iconst (pc := 15) F 0 dX7_meltOf_15 (by decide) ?_
    refine j_istore_n (pc := 16) (k1 := 3) (ls' := [(3, .int 0), (0, .ref this), (1, .int v1), (2, .int v2)]) F rfl rfl rfl dX7_meltOf_16 ?_
    refine j_aload_n (pc := 17) (k0 := 0) F 1 rfl dX7_meltOf_17 ?_
    obtain ⟨x2, hx2, h⟩ := ob h
    refine j_callV1 (pc := 18) (ci := 7) (As := []) (st := []) (e1 := 0) (es1 := 0) F clX7_274 cwX7_first rfl hth (ctX7_first G hx2) rfl rfl rfl rfl rfl rfl dX7_meltOf_18 ?_
    refine j_istore (pc := 21) (k1 := 4) (ls' := [(4, .int x2), (3, .int 0), (0, .ref this), (1, .int v1), (2, .int v2)]) F rfl rfl dX7_meltOf_21 ?_
    refine j_sub [2, 3, 4, 1, 0] rfl ?_
    exact jbX7_meltOf_23 G F hth 1000 _ _ _ _ _ h
  · have h := iz_f c h
    refine j_aload_n (pc := 8) (k0 := 0) F 0 rfl dX7_meltOf_8 ?_
    obtain ⟨x3, hx3, h⟩ := ob h
    refine j_getR (pc := 9) F flX7_90 hx3 dX7_meltOf_9 ?_
    refine j_iload_n (pc := 12) (k0 := 1) F 1 rfl dX7_meltOf_12 ?_
    obtain ⟨x4, hx4, h⟩ := ob h
    refine j_iald (pc := 13) F hx4 dX7_meltOf_13 ?_
    have g1 := Option.some.inj h
    obtain ⟨q3, g2⟩ := Prod.mk.inj g1
    subst q3
    subst g2
    exact j_iret (pc := 14) F dX7_meltOf_14
theorem ctX7_meltOf (G : GT) {sh : SH} {I : IH} {L : LH} {n : Nat} {this : Nat} {v1 : Int32} {v2 : Int32} {r : Int32} {I' : IH}  (hth : isO sh 7 this) (h : fX7_meltOf sh this v1 v2 I = some (r, I')) : Ct G yX7_meltOf cX7_meltOf 5 (some .int) 1 [.ref this, .int v1, .int v2] sh I L n (some (.int r)) sh I' L n 0 0 := by
  refine ct_of (y := yX7_meltOf) (by decide +kernel) rfl (fun X F => ?_)
  exact jbX7_meltOf_0 G F hth h
theorem dX7_melts_0 : decode cX7_melts 0 = .ok (.aload_n 0, 1) := by decide +kernel
theorem dX7_melts_1 : decode cX7_melts 1 = .ok (.iload_n 1, 1) := by decide +kernel
theorem dX7_melts_2 : decode cX7_melts 2 = .ok (.invokevirtual 291, 3) := by decide +kernel
theorem dX7_melts_5 : decode cX7_melts 5 = .ok (.ifCond .eq 20, 3) := by decide +kernel
theorem dX7_melts_8 : decode cX7_melts 8 = .ok (.aload_n 0, 1) := by decide +kernel
theorem dX7_melts_9 : decode cX7_melts 9 = .ok (.iload_n 1, 1) := by decide +kernel
theorem dX7_melts_10 : decode cX7_melts 10 = .ok (.aload_n 0, 1) := by decide +kernel
theorem dX7_melts_11 : decode cX7_melts 11 = .ok (.getfield 19, 3) := by decide +kernel
theorem dX7_melts_14 : decode cX7_melts 14 = .ok (.iload_n 1, 1) := by decide +kernel
theorem dX7_melts_15 : decode cX7_melts 15 = .ok (.bipush 24, 2) := by decide +kernel
theorem dX7_melts_17 : decode cX7_melts 17 = .ok (.idiv, 1) := by decide +kernel
theorem dX7_melts_18 : decode cX7_melts 18 = .ok (.iaload, 1) := by decide +kernel
theorem dX7_melts_19 : decode cX7_melts 19 = .ok (.invokevirtual 294, 3) := by decide +kernel
theorem dX7_melts_22 : decode cX7_melts 22 = .ok (.goto 4, 3) := by decide +kernel
theorem dX7_melts_25 : decode cX7_melts 25 = .ok (.iconst (-1), 1) := by decide +kernel
theorem dX7_melts_26 : decode cX7_melts 26 = .ok (.ireturn, 1) := by decide +kernel
def fX7_melts (sh : SH) (this : Nat) (v1 : Int32) (I : IH) : Option (Int32 × IH) :=
  if (fX7_isHour v1) = 0 then (
    some ((-1), I)) else
  (gR sh 7 this 3).bind fun x1 =>
  (aI sh I 0 x1 (v1 / 24)).bind fun x2 =>
  b2 (fX7_meltOf sh this v1 x2 I) fun x3 i4 =>
  some (x3, i4)
set_option maxHeartbeats 4000000 in
set_option maxRecDepth 20000 in
theorem jbX7_melts_0 (G : GT) {X : XT} {sh : SH} {L : LH} {n : Nat} {r : Int32} {I' : IH}  {this : Nat}  {v1 : Int32} {I : IH} (F : MF G X RX7 cX7_melts 2 2 (some .int) "melts") (hth : isO sh 7 this) (h : fX7_melts sh this v1 I = some (r, I')) : J G X (QE G X (some (.int r)) sh I' L n) 2 sh I L n 0 0 0 [(0, .ref this), (1, .int v1)] [] := by
  unfold fX7_melts at h
  refine j_aload_n (pc := 0) (k0 := 0) F 0 rfl dX7_melts_0 ?_
  refine j_iload_n (pc := 1) (k0 := 1) F 1 rfl dX7_melts_1 ?_
  refine j_callV1 (pc := 2) (ci := 7) (As := [.int v1]) (st := []) (e1 := 0) (es1 := 0) F clX7_291 cwX7_isHour rfl hth (ctX7_isHour G hth) rfl rfl rfl rfl rfl rfl dX7_melts_2 ?_
  refine j_if_eq (pc := 5) F 25 dX7_melts_5 rfl (fun c => ?_) (fun c => ?_)
  · have h := iz_t c h
    refine j_iconst (pc := 25) F (-1) dX7_melts_25 (by decide) ?_
    have g1 := Option.some.inj h
    obtain ⟨q3, g2⟩ := Prod.mk.inj g1
    subst q3
    subst g2
    exact j_iret (pc := 26) F dX7_melts_26
  · have h := iz_f c h
    refine j_aload_n (pc := 8) (k0 := 0) F 0 rfl dX7_melts_8 ?_
    refine j_iload_n (pc := 9) (k0 := 1) F 1 rfl dX7_melts_9 ?_
    refine j_aload_n (pc := 10) (k0 := 0) F 0 rfl dX7_melts_10 ?_
    obtain ⟨x1, hx1, h⟩ := ob h
    refine j_getR (pc := 11) F flX7_19 hx1 dX7_melts_11 ?_
    refine j_iload_n (pc := 14) (k0 := 1) F 1 rfl dX7_melts_14 ?_
    refine j_bipush (pc := 15) F 24 dX7_melts_15 (by decide) ?_
    refine j_idiv (pc := 17) F (by decide) dX7_melts_17 ?_
    obtain ⟨x2, hx2, h⟩ := ob h
    refine j_iald (pc := 18) F hx2 dX7_melts_18 ?_
    obtain ⟨x3, i4, hx3, h⟩ := b2_obt h
    refine j_callV1 (pc := 19) (ci := 7) (As := [.int v1, .int x2]) (st := []) (e1 := 0) (es1 := 0) F clX7_294 cwX7_meltOf rfl hth (ctX7_meltOf G hth hx3) rfl rfl rfl rfl rfl rfl dX7_melts_19 ?_
    refine j_goto (pc := 22) F 26 dX7_melts_22 rfl ?_
    have g1 := Option.some.inj h
    obtain ⟨q3, g2⟩ := Prod.mk.inj g1
    subst q3
    subst g2
    exact j_iret (pc := 26) F dX7_melts_26
theorem ctX7_melts (G : GT) {sh : SH} {I : IH} {L : LH} {n : Nat} {this : Nat} {v1 : Int32} {r : Int32} {I' : IH}  (hth : isO sh 7 this) (h : fX7_melts sh this v1 I = some (r, I')) : Ct G yX7_melts cX7_melts 2 (some .int) 2 [.ref this, .int v1] sh I L n (some (.int r)) sh I' L n 0 0 := by
  refine ct_of (y := yX7_melts) (by decide +kernel) rfl (fun X F => ?_)
  exact jbX7_melts_0 G F hth h
theorem dX7_asIs_0 : decode cX7_asIs 0 = .ok (.iconst 0, 1) := by decide +kernel
theorem dX7_asIs_1 : decode cX7_asIs 1 = .ok (.istore_n 1, 1) := by decide +kernel
theorem dX7_asIs_2 : decode cX7_asIs 2 = .ok (.iload_n 1, 1) := by decide +kernel
theorem dX7_asIs_3 : decode cX7_asIs 3 = .ok (.bipush 48, 2) := by decide +kernel
theorem dX7_asIs_5 : decode cX7_asIs 5 = .ok (.if_icmp .ge 29, 3) := by decide +kernel
theorem dX7_asIs_8 : decode cX7_asIs 8 = .ok (.aload_n 0, 1) := by decide +kernel
theorem dX7_asIs_9 : decode cX7_asIs 9 = .ok (.getfield 93, 3) := by decide +kernel
theorem dX7_asIs_12 : decode cX7_asIs 12 = .ok (.iload_n 1, 1) := by decide +kernel
theorem dX7_asIs_13 : decode cX7_asIs 13 = .ok (.aload_n 0, 1) := by decide +kernel
theorem dX7_asIs_14 : decode cX7_asIs 14 = .ok (.iload_n 1, 1) := by decide +kernel
theorem dX7_asIs_15 : decode cX7_asIs 15 = .ok (.aload_n 0, 1) := by decide +kernel
theorem dX7_asIs_16 : decode cX7_asIs 16 = .ok (.getfield 19, 3) := by decide +kernel
theorem dX7_asIs_19 : decode cX7_asIs 19 = .ok (.iload_n 1, 1) := by decide +kernel
theorem dX7_asIs_20 : decode cX7_asIs 20 = .ok (.bipush 24, 2) := by decide +kernel
theorem dX7_asIs_22 : decode cX7_asIs 22 = .ok (.idiv, 1) := by decide +kernel
theorem dX7_asIs_23 : decode cX7_asIs 23 = .ok (.iaload, 1) := by decide +kernel
theorem dX7_asIs_24 : decode cX7_asIs 24 = .ok (.invokevirtual 294, 3) := by decide +kernel
theorem dX7_asIs_27 : decode cX7_asIs 27 = .ok (.iastore, 1) := by decide +kernel
theorem dX7_asIs_28 : decode cX7_asIs 28 = .ok (.iinc 1 1, 3) := by decide +kernel
theorem dX7_asIs_31 : decode cX7_asIs 31 = .ok (.goto (-29), 3) := by decide +kernel
theorem dX7_asIs_34 : decode cX7_asIs 34 = .ok (.iconst 0, 1) := by decide +kernel
theorem dX7_asIs_35 : decode cX7_asIs 35 = .ok (.istore_n 1, 1) := by decide +kernel
theorem dX7_asIs_36 : decode cX7_asIs 36 = .ok (.iload_n 1, 1) := by decide +kernel
theorem dX7_asIs_37 : decode cX7_asIs 37 = .ok (.iconst 5, 1) := by decide +kernel
theorem dX7_asIs_38 : decode cX7_asIs 38 = .ok (.if_icmp .ge 81, 3) := by decide +kernel
theorem dX7_asIs_41 : decode cX7_asIs 41 = .ok (.aload_n 0, 1) := by decide +kernel
theorem dX7_asIs_42 : decode cX7_asIs 42 = .ok (.getfield 96, 3) := by decide +kernel
theorem dX7_asIs_45 : decode cX7_asIs 45 = .ok (.iload_n 1, 1) := by decide +kernel
theorem dX7_asIs_46 : decode cX7_asIs 46 = .ok (.aload_n 0, 1) := by decide +kernel
theorem dX7_asIs_47 : decode cX7_asIs 47 = .ok (.iload_n 1, 1) := by decide +kernel
theorem dX7_asIs_48 : decode cX7_asIs 48 = .ok (.iconst 0, 1) := by decide +kernel
theorem dX7_asIs_49 : decode cX7_asIs 49 = .ok (.invokevirtual 297, 3) := by decide +kernel
theorem dX7_asIs_52 : decode cX7_asIs 52 = .ok (.iastore, 1) := by decide +kernel
theorem dX7_asIs_53 : decode cX7_asIs 53 = .ok (.aload_n 0, 1) := by decide +kernel
theorem dX7_asIs_54 : decode cX7_asIs 54 = .ok (.getfield 99, 3) := by decide +kernel
theorem dX7_asIs_57 : decode cX7_asIs 57 = .ok (.iload_n 1, 1) := by decide +kernel
theorem dX7_asIs_58 : decode cX7_asIs 58 = .ok (.aload_n 0, 1) := by decide +kernel
theorem dX7_asIs_59 : decode cX7_asIs 59 = .ok (.iload_n 1, 1) := by decide +kernel
theorem dX7_asIs_60 : decode cX7_asIs 60 = .ok (.iconst 1, 1) := by decide +kernel
theorem dX7_asIs_61 : decode cX7_asIs 61 = .ok (.invokevirtual 297, 3) := by decide +kernel
theorem dX7_asIs_64 : decode cX7_asIs 64 = .ok (.iastore, 1) := by decide +kernel
theorem dX7_asIs_65 : decode cX7_asIs 65 = .ok (.aload_n 0, 1) := by decide +kernel
theorem dX7_asIs_66 : decode cX7_asIs 66 = .ok (.getfield 102, 3) := by decide +kernel
theorem dX7_asIs_69 : decode cX7_asIs 69 = .ok (.iload_n 1, 1) := by decide +kernel
theorem dX7_asIs_70 : decode cX7_asIs 70 = .ok (.aload_n 0, 1) := by decide +kernel
theorem dX7_asIs_71 : decode cX7_asIs 71 = .ok (.iload_n 1, 1) := by decide +kernel
theorem dX7_asIs_72 : decode cX7_asIs 72 = .ok (.iconst 2, 1) := by decide +kernel
theorem dX7_asIs_73 : decode cX7_asIs 73 = .ok (.invokevirtual 297, 3) := by decide +kernel
theorem dX7_asIs_76 : decode cX7_asIs 76 = .ok (.iastore, 1) := by decide +kernel
theorem dX7_asIs_77 : decode cX7_asIs 77 = .ok (.aload_n 0, 1) := by decide +kernel
theorem dX7_asIs_78 : decode cX7_asIs 78 = .ok (.getfield 105, 3) := by decide +kernel
theorem dX7_asIs_81 : decode cX7_asIs 81 = .ok (.iload_n 1, 1) := by decide +kernel
theorem dX7_asIs_82 : decode cX7_asIs 82 = .ok (.aload_n 0, 1) := by decide +kernel
theorem dX7_asIs_83 : decode cX7_asIs 83 = .ok (.iload_n 1, 1) := by decide +kernel
theorem dX7_asIs_84 : decode cX7_asIs 84 = .ok (.iconst 3, 1) := by decide +kernel
theorem dX7_asIs_85 : decode cX7_asIs 85 = .ok (.invokevirtual 297, 3) := by decide +kernel
theorem dX7_asIs_88 : decode cX7_asIs 88 = .ok (.iastore, 1) := by decide +kernel
theorem dX7_asIs_89 : decode cX7_asIs 89 = .ok (.aload_n 0, 1) := by decide +kernel
theorem dX7_asIs_90 : decode cX7_asIs 90 = .ok (.getfield 108, 3) := by decide +kernel
theorem dX7_asIs_93 : decode cX7_asIs 93 = .ok (.iload_n 1, 1) := by decide +kernel
theorem dX7_asIs_94 : decode cX7_asIs 94 = .ok (.aload_n 0, 1) := by decide +kernel
theorem dX7_asIs_95 : decode cX7_asIs 95 = .ok (.getfield 23, 3) := by decide +kernel
theorem dX7_asIs_98 : decode cX7_asIs 98 = .ok (.iload_n 1, 1) := by decide +kernel
theorem dX7_asIs_99 : decode cX7_asIs 99 = .ok (.iaload, 1) := by decide +kernel
theorem dX7_asIs_100 : decode cX7_asIs 100 = .ok (.iastore, 1) := by decide +kernel
theorem dX7_asIs_101 : decode cX7_asIs 101 = .ok (.aload_n 0, 1) := by decide +kernel
theorem dX7_asIs_102 : decode cX7_asIs 102 = .ok (.getfield 111, 3) := by decide +kernel
theorem dX7_asIs_105 : decode cX7_asIs 105 = .ok (.iload_n 1, 1) := by decide +kernel
theorem dX7_asIs_106 : decode cX7_asIs 106 = .ok (.aload_n 0, 1) := by decide +kernel
theorem dX7_asIs_107 : decode cX7_asIs 107 = .ok (.getfield 29, 3) := by decide +kernel
theorem dX7_asIs_110 : decode cX7_asIs 110 = .ok (.iload_n 1, 1) := by decide +kernel
theorem dX7_asIs_111 : decode cX7_asIs 111 = .ok (.iaload, 1) := by decide +kernel
theorem dX7_asIs_112 : decode cX7_asIs 112 = .ok (.iastore, 1) := by decide +kernel
theorem dX7_asIs_113 : decode cX7_asIs 113 = .ok (.iinc 1 1, 3) := by decide +kernel
theorem dX7_asIs_116 : decode cX7_asIs 116 = .ok (.goto (-80), 3) := by decide +kernel
theorem dX7_asIs_119 : decode cX7_asIs 119 = .ok (.return_, 1) := by decide +kernel
def fX7_asIs_b2 (sh : SH) (this : Nat) (k36 : (Int32 → IH → Option (IH))) : Nat → Int32 → IH → Option (IH)
  | 0, _, _ => none
  | fuel + 1, v1, I =>
    if 48 ≤ v1 then (
      k36 0 I) else
    (gR sh 7 this 27).bind fun x1 =>
    (gR sh 7 this 3).bind fun x2 =>
    (aI sh I 0 x2 (v1 / 24)).bind fun x3 =>
    b2 (fX7_meltOf sh this v1 x3 I) fun x4 i5 =>
    (sI sh i5 x1 v1 x4).bind fun i6 =>
    fX7_asIs_b2 sh this k36 fuel (v1 + 1) i6
def fX7_asIs_b36 (sh : SH) (this : Nat) : Nat → Int32 → IH → Option (IH)
  | 0, _, _ => none
  | fuel + 1, v1, I =>
    if 5 ≤ v1 then (
      some I) else
    (gR sh 7 this 28).bind fun x1 =>
    (fX7_told sh I this v1 0).bind fun x2 =>
    (sI sh I x1 v1 x2).bind fun i3 =>
    (gR sh 7 this 29).bind fun x4 =>
    (fX7_told sh i3 this v1 1).bind fun x5 =>
    (sI sh i3 x4 v1 x5).bind fun i6 =>
    (gR sh 7 this 30).bind fun x7 =>
    (fX7_told sh i6 this v1 2).bind fun x8 =>
    (sI sh i6 x7 v1 x8).bind fun i9 =>
    (gR sh 7 this 31).bind fun x10 =>
    (fX7_told sh i9 this v1 3).bind fun x11 =>
    (sI sh i9 x10 v1 x11).bind fun i12 =>
    (gR sh 7 this 32).bind fun x13 =>
    (gR sh 7 this 4).bind fun x14 =>
    (aI sh i12 0 x14 v1).bind fun x15 =>
    (sI sh i12 x13 v1 x15).bind fun i16 =>
    (gR sh 7 this 33).bind fun x17 =>
    (gR sh 7 this 6).bind fun x18 =>
    (aI sh i16 0 x18 v1).bind fun x19 =>
    (sI sh i16 x17 v1 x19).bind fun i20 =>
    fX7_asIs_b36 sh this fuel (v1 + 1) i20
def fX7_asIs (sh : SH) (this : Nat) (I : IH) : Option (IH) :=
  fX7_asIs_b2 sh this (fX7_asIs_b36 sh this 1000) 1000 0 I
set_option maxHeartbeats 4000000 in
set_option maxRecDepth 20000 in
theorem jbX7_asIs_2 (G : GT) {X : XT} {sh : SH} {L : LH} {n : Nat} {I' : IH}  {this : Nat} {k36 : (Int32 → IH → Option (IH))} (F : MF G X RX7 cX7_asIs 2 3 none "asIs") (hth : isO sh 7 this)
    (hk36 : ∀ {v1 : Int32} {I : IH}, k36 v1 I = some I' → J G X (QE G X (none) sh I' L n) 2 sh I L n 0 0 36 [(0, .ref this), (1, .int v1)] []) : ∀ (fuel : Nat) (v1 : Int32) (I : IH), fX7_asIs_b2 sh this k36 fuel v1 I = some I' → J G X (QE G X (none) sh I' L n) 2 sh I L n 0 0 2 [(0, .ref this), (1, .int v1)] []
  | 0 => by
    intros
    rename_i h
    exact absurd (show none = some _ from h) (by intro z; cases z)
  | fuel + 1 => by
    intro v1 I h
    rw [fX7_asIs_b2] at h
    refine j_iload_n (pc := 2) (k0 := 1) F 1 rfl dX7_asIs_2 ?_
    refine j_bipush (pc := 3) F 48 dX7_asIs_3 (by decide) ?_
    refine j_icmp_ge (pc := 5) F 34 dX7_asIs_5 rfl (fun c => ?_) (fun c => ?_)
    · have h := iz_t c h
      refine j_iconst (pc := 34) F 0 dX7_asIs_34 (by decide) ?_
      refine j_istore_n (pc := 35) (k1 := 1) (ls' := [(1, .int 0), (0, .ref this)]) F rfl rfl rfl dX7_asIs_35 ?_
      refine j_sub [1, 0] rfl ?_
      exact hk36 h
    · have h := iz_f c h
      refine j_aload_n (pc := 8) (k0 := 0) F 0 rfl dX7_asIs_8 ?_
      obtain ⟨x1, hx1, h⟩ := ob h
      refine j_getR (pc := 9) F flX7_93 hx1 dX7_asIs_9 ?_
      refine j_iload_n (pc := 12) (k0 := 1) F 1 rfl dX7_asIs_12 ?_
      refine j_aload_n (pc := 13) (k0 := 0) F 0 rfl dX7_asIs_13 ?_
      refine j_iload_n (pc := 14) (k0 := 1) F 1 rfl dX7_asIs_14 ?_
      refine j_aload_n (pc := 15) (k0 := 0) F 0 rfl dX7_asIs_15 ?_
      obtain ⟨x2, hx2, h⟩ := ob h
      refine j_getR (pc := 16) F flX7_19 hx2 dX7_asIs_16 ?_
      refine j_iload_n (pc := 19) (k0 := 1) F 1 rfl dX7_asIs_19 ?_
      refine j_bipush (pc := 20) F 24 dX7_asIs_20 (by decide) ?_
      refine j_idiv (pc := 22) F (by decide) dX7_asIs_22 ?_
      obtain ⟨x3, hx3, h⟩ := ob h
      refine j_iald (pc := 23) F hx3 dX7_asIs_23 ?_
      obtain ⟨x4, i5, hx4, h⟩ := b2_obt h
      refine j_callV1 (pc := 24) (ci := 7) (As := [.int v1, .int x3]) (st := [.int v1, .ref x1]) (e1 := 0) (es1 := 0) F clX7_294 cwX7_meltOf rfl hth (ctX7_meltOf G hth hx4) rfl rfl rfl rfl rfl rfl dX7_asIs_24 ?_
      obtain ⟨i6, hi6, h⟩ := ob h
      refine j_iast (pc := 27) F hi6 dX7_asIs_27 ?_
      refine j_iinc (pc := 28) (k1 := 1) (ls' := [(1, .int (v1 + 1)), (0, .ref this)]) F (v1 + 1) 1 rfl rfl rfl rfl dX7_asIs_28 ?_
      refine j_goto (pc := 31) F 2 dX7_asIs_31 rfl ?_
      refine j_sub [1, 0] rfl ?_
      exact jbX7_asIs_2 G F hth hk36 fuel _ _ h
set_option maxHeartbeats 4000000 in
set_option maxRecDepth 20000 in
theorem jbX7_asIs_36 (G : GT) {X : XT} {sh : SH} {L : LH} {n : Nat} {I' : IH}  {this : Nat}  (F : MF G X RX7 cX7_asIs 2 3 none "asIs") (hth : isO sh 7 this) : ∀ (fuel : Nat) (v1 : Int32) (I : IH), fX7_asIs_b36 sh this fuel v1 I = some I' → J G X (QE G X (none) sh I' L n) 2 sh I L n 0 0 36 [(0, .ref this), (1, .int v1)] []
  | 0 => by
    intros
    rename_i h
    exact absurd (show none = some _ from h) (by intro z; cases z)
  | fuel + 1 => by
    intro v1 I h
    rw [fX7_asIs_b36] at h
    refine j_iload_n (pc := 36) (k0 := 1) F 1 rfl dX7_asIs_36 ?_
    refine j_iconst (pc := 37) F 5 dX7_asIs_37 (by decide) ?_
    refine j_icmp_ge (pc := 38) F 119 dX7_asIs_38 rfl (fun c => ?_) (fun c => ?_)
    · have h := iz_t c h
      have g1 := Option.some.inj h
      subst g1
      exact j_vret (pc := 119) F dX7_asIs_119
    · have h := iz_f c h
      refine j_aload_n (pc := 41) (k0 := 0) F 0 rfl dX7_asIs_41 ?_
      obtain ⟨x1, hx1, h⟩ := ob h
      refine j_getR (pc := 42) F flX7_96 hx1 dX7_asIs_42 ?_
      refine j_iload_n (pc := 45) (k0 := 1) F 1 rfl dX7_asIs_45 ?_
      refine j_aload_n (pc := 46) (k0 := 0) F 0 rfl dX7_asIs_46 ?_
      refine j_iload_n (pc := 47) (k0 := 1) F 1 rfl dX7_asIs_47 ?_
      refine j_iconst (pc := 48) F 0 dX7_asIs_48 (by decide) ?_
      obtain ⟨x2, hx2, h⟩ := ob h
      refine j_callV1 (pc := 49) (ci := 7) (As := [.int v1, .int 0]) (st := [.int v1, .ref x1]) (e1 := 0) (es1 := 0) F clX7_297 cwX7_told rfl hth (ctX7_told G hth hx2) rfl rfl rfl rfl rfl rfl dX7_asIs_49 ?_
      obtain ⟨i3, hi3, h⟩ := ob h
      refine j_iast (pc := 52) F hi3 dX7_asIs_52 ?_
      refine j_aload_n (pc := 53) (k0 := 0) F 0 rfl dX7_asIs_53 ?_
      obtain ⟨x4, hx4, h⟩ := ob h
      refine j_getR (pc := 54) F flX7_99 hx4 dX7_asIs_54 ?_
      refine j_iload_n (pc := 57) (k0 := 1) F 1 rfl dX7_asIs_57 ?_
      refine j_aload_n (pc := 58) (k0 := 0) F 0 rfl dX7_asIs_58 ?_
      refine j_iload_n (pc := 59) (k0 := 1) F 1 rfl dX7_asIs_59 ?_
      refine j_iconst (pc := 60) F 1 dX7_asIs_60 (by decide) ?_
      obtain ⟨x5, hx5, h⟩ := ob h
      refine j_callV1 (pc := 61) (ci := 7) (As := [.int v1, .int 1]) (st := [.int v1, .ref x4]) (e1 := 0) (es1 := 0) F clX7_297 cwX7_told rfl hth (ctX7_told G hth hx5) rfl rfl rfl rfl rfl rfl dX7_asIs_61 ?_
      obtain ⟨i6, hi6, h⟩ := ob h
      refine j_iast (pc := 64) F hi6 dX7_asIs_64 ?_
      refine j_aload_n (pc := 65) (k0 := 0) F 0 rfl dX7_asIs_65 ?_
      obtain ⟨x7, hx7, h⟩ := ob h
      refine j_getR (pc := 66) F flX7_102 hx7 dX7_asIs_66 ?_
      refine j_iload_n (pc := 69) (k0 := 1) F 1 rfl dX7_asIs_69 ?_
      refine j_aload_n (pc := 70) (k0 := 0) F 0 rfl dX7_asIs_70 ?_
      refine j_iload_n (pc := 71) (k0 := 1) F 1 rfl dX7_asIs_71 ?_
      refine j_iconst (pc := 72) F 2 dX7_asIs_72 (by decide) ?_
      obtain ⟨x8, hx8, h⟩ := ob h
      refine j_callV1 (pc := 73) (ci := 7) (As := [.int v1, .int 2]) (st := [.int v1, .ref x7]) (e1 := 0) (es1 := 0) F clX7_297 cwX7_told rfl hth (ctX7_told G hth hx8) rfl rfl rfl rfl rfl rfl dX7_asIs_73 ?_
      obtain ⟨i9, hi9, h⟩ := ob h
      refine j_iast (pc := 76) F hi9 dX7_asIs_76 ?_
      refine j_aload_n (pc := 77) (k0 := 0) F 0 rfl dX7_asIs_77 ?_
      obtain ⟨x10, hx10, h⟩ := ob h
      refine j_getR (pc := 78) F flX7_105 hx10 dX7_asIs_78 ?_
      refine j_iload_n (pc := 81) (k0 := 1) F 1 rfl dX7_asIs_81 ?_
      refine j_aload_n (pc := 82) (k0 := 0) F 0 rfl dX7_asIs_82 ?_
      refine j_iload_n (pc := 83) (k0 := 1) F 1 rfl dX7_asIs_83 ?_
      refine j_iconst (pc := 84) F 3 dX7_asIs_84 (by decide) ?_
      obtain ⟨x11, hx11, h⟩ := ob h
      refine j_callV1 (pc := 85) (ci := 7) (As := [.int v1, .int 3]) (st := [.int v1, .ref x10]) (e1 := 0) (es1 := 0) F clX7_297 cwX7_told rfl hth (ctX7_told G hth hx11) rfl rfl rfl rfl rfl rfl dX7_asIs_85 ?_
      obtain ⟨i12, hi12, h⟩ := ob h
      refine j_iast (pc := 88) F hi12 dX7_asIs_88 ?_
      refine j_aload_n (pc := 89) (k0 := 0) F 0 rfl dX7_asIs_89 ?_
      obtain ⟨x13, hx13, h⟩ := ob h
      refine j_getR (pc := 90) F flX7_108 hx13 dX7_asIs_90 ?_
      refine j_iload_n (pc := 93) (k0 := 1) F 1 rfl dX7_asIs_93 ?_
      refine j_aload_n (pc := 94) (k0 := 0) F 0 rfl dX7_asIs_94 ?_
      obtain ⟨x14, hx14, h⟩ := ob h
      refine j_getR (pc := 95) F flX7_23 hx14 dX7_asIs_95 ?_
      refine j_iload_n (pc := 98) (k0 := 1) F 1 rfl dX7_asIs_98 ?_
      obtain ⟨x15, hx15, h⟩ := ob h
      refine j_iald (pc := 99) F hx15 dX7_asIs_99 ?_
      obtain ⟨i16, hi16, h⟩ := ob h
      refine j_iast (pc := 100) F hi16 dX7_asIs_100 ?_
      refine j_aload_n (pc := 101) (k0 := 0) F 0 rfl dX7_asIs_101 ?_
      obtain ⟨x17, hx17, h⟩ := ob h
      refine j_getR (pc := 102) F flX7_111 hx17 dX7_asIs_102 ?_
      refine j_iload_n (pc := 105) (k0 := 1) F 1 rfl dX7_asIs_105 ?_
      refine j_aload_n (pc := 106) (k0 := 0) F 0 rfl dX7_asIs_106 ?_
      obtain ⟨x18, hx18, h⟩ := ob h
      refine j_getR (pc := 107) F flX7_29 hx18 dX7_asIs_107 ?_
      refine j_iload_n (pc := 110) (k0 := 1) F 1 rfl dX7_asIs_110 ?_
      obtain ⟨x19, hx19, h⟩ := ob h
      refine j_iald (pc := 111) F hx19 dX7_asIs_111 ?_
      obtain ⟨i20, hi20, h⟩ := ob h
      refine j_iast (pc := 112) F hi20 dX7_asIs_112 ?_
      refine j_iinc (pc := 113) (k1 := 1) (ls' := [(1, .int (v1 + 1)), (0, .ref this)]) F (v1 + 1) 1 rfl rfl rfl rfl dX7_asIs_113 ?_
      refine j_goto (pc := 116) F 36 dX7_asIs_116 rfl ?_
      refine j_sub [1, 0] rfl ?_
      exact jbX7_asIs_36 G F hth fuel _ _ h
set_option maxHeartbeats 4000000 in
set_option maxRecDepth 20000 in
theorem jbX7_asIs_0 (G : GT) {X : XT} {sh : SH} {L : LH} {n : Nat} {I' : IH}  {this : Nat}  {I : IH} (F : MF G X RX7 cX7_asIs 2 3 none "asIs") (hth : isO sh 7 this) (h : fX7_asIs sh this I = some I') : J G X (QE G X (none) sh I' L n) 2 sh I L n 0 0 0 [(0, .ref this)] [] := by
  unfold fX7_asIs at h
  refine j_iconst (pc := 0) F 0 dX7_asIs_0 (by decide) ?_
  refine j_istore_n (pc := 1) (k1 := 1) (ls' := [(1, .int 0), (0, .ref this)]) F rfl rfl rfl dX7_asIs_1 ?_
  refine j_sub [1, 0] rfl ?_
  exact jbX7_asIs_2 G F hth (fun h => jbX7_asIs_36 G F hth 1000 _ _ h) 1000 _ _ h
theorem ctX7_asIs (G : GT) {sh : SH} {I : IH} {L : LH} {n : Nat} {this : Nat} {I' : IH}  (hth : isO sh 7 this) (h : fX7_asIs sh this I = some I') : Ct G yX7_asIs cX7_asIs 2 none 3 [.ref this] sh I L n (none) sh I' L n 0 0 := by
  refine ct_of (y := yX7_asIs) (by decide +kernel) rfl (fun X F => ?_)
  exact jbX7_asIs_0 G F hth h
theorem dX7_less_0 : decode cX7_less 0 = .ok (.iload_n 1, 1) := by decide +kernel
theorem dX7_less_1 : decode cX7_less 1 = .ok (.iload_n 1, 1) := by decide +kernel
theorem dX7_less_2 : decode cX7_less 2 = .ok (.aload_n 0, 1) := by decide +kernel
theorem dX7_less_3 : decode cX7_less 3 = .ok (.getfield 99, 3) := by decide +kernel
theorem dX7_less_6 : decode cX7_less 6 = .ok (.iload_n 2, 1) := by decide +kernel
theorem dX7_less_7 : decode cX7_less 7 = .ok (.iaload, 1) := by decide +kernel
theorem dX7_less_8 : decode cX7_less 8 = .ok (.imul, 1) := by decide +kernel
theorem dX7_less_9 : decode cX7_less 9 = .ok (.bipush 100, 2) := by decide +kernel
theorem dX7_less_11 : decode cX7_less 11 = .ok (.idiv, 1) := by decide +kernel
theorem dX7_less_12 : decode cX7_less 12 = .ok (.isub, 1) := by decide +kernel
theorem dX7_less_13 : decode cX7_less 13 = .ok (.ireturn, 1) := by decide +kernel
def fX7_less (sh : SH) (I : IH) (this : Nat) (v1 : Int32) (v2 : Int32) : Option (Int32) :=
  (gR sh 7 this 29).bind fun x1 =>
  (aI sh I 0 x1 v2).bind fun x2 =>
  some (v1 - ((v1 * x2) / 100))
set_option maxHeartbeats 4000000 in
set_option maxRecDepth 20000 in
theorem jbX7_less_0 (G : GT) {X : XT} {sh : SH} {I : IH} {L : LH} {n : Nat} {r : Int32}  {this : Nat}  {v1 : Int32} {v2 : Int32} (F : MF G X RX7 cX7_less 3 0 (some .int) "less") (h : fX7_less sh I this v1 v2 = some r) : J G X (QE G X (some (.int r)) sh I L n) 3 sh I L n 0 0 0 [(0, .ref this), (1, .int v1), (2, .int v2)] [] := by
  unfold fX7_less at h
  refine j_iload_n (pc := 0) (k0 := 1) F 1 rfl dX7_less_0 ?_
  refine j_iload_n (pc := 1) (k0 := 1) F 1 rfl dX7_less_1 ?_
  refine j_aload_n (pc := 2) (k0 := 0) F 0 rfl dX7_less_2 ?_
  obtain ⟨x1, hx1, h⟩ := ob h
  refine j_getR (pc := 3) F flX7_99 hx1 dX7_less_3 ?_
  refine j_iload_n (pc := 6) (k0 := 2) F 2 rfl dX7_less_6 ?_
  obtain ⟨x2, hx2, h⟩ := ob h
  refine j_iald (pc := 7) F hx2 dX7_less_7 ?_
  refine j_imul (pc := 8) F dX7_less_8 ?_
  refine j_bipush (pc := 9) F 100 dX7_less_9 (by decide) ?_
  refine j_idiv (pc := 11) F (by decide) dX7_less_11 ?_
  refine j_isub (pc := 12) F dX7_less_12 ?_
  have g1 := Option.some.inj h
  subst g1
  exact j_iret (pc := 13) F dX7_less_13
theorem ctX7_less (G : GT) {sh : SH} {I : IH} {L : LH} {n : Nat} {this : Nat} {v1 : Int32} {v2 : Int32} {r : Int32}  (h : fX7_less sh I this v1 v2 = some r) : Ct G yX7_less cX7_less 3 (some .int) 0 [.ref this, .int v1, .int v2] sh I L n (some (.int r)) sh I L n 0 0 := by
  refine ct_of (y := yX7_less) (by decide +kernel) rfl (fun X F => ?_)
  exact jbX7_less_0 G F h
theorem dX7_sets_0 : decode cX7_sets 0 = .ok (.aload_n 0, 1) := by decide +kernel
theorem dX7_sets_1 : decode cX7_sets 1 = .ok (.iload_n 1, 1) := by decide +kernel
theorem dX7_sets_2 : decode cX7_sets 2 = .ok (.aload_n 0, 1) := by decide +kernel
theorem dX7_sets_3 : decode cX7_sets 3 = .ok (.getfield 102, 3) := by decide +kernel
theorem dX7_sets_6 : decode cX7_sets 6 = .ok (.iload_n 2, 1) := by decide +kernel
theorem dX7_sets_7 : decode cX7_sets 7 = .ok (.iaload, 1) := by decide +kernel
theorem dX7_sets_8 : decode cX7_sets 8 = .ok (.invokevirtual 284, 3) := by decide +kernel
theorem dX7_sets_11 : decode cX7_sets 11 = .ok (.istore 4, 2) := by decide +kernel
theorem dX7_sets_13 : decode cX7_sets 13 = .ok (.aload_n 0, 1) := by decide +kernel
theorem dX7_sets_14 : decode cX7_sets 14 = .ok (.getfield 126, 3) := by decide +kernel
theorem dX7_sets_17 : decode cX7_sets 17 = .ok (.bipush 48, 2) := by decide +kernel
theorem dX7_sets_19 : decode cX7_sets 19 = .ok (.iload_n 2, 1) := by decide +kernel
theorem dX7_sets_20 : decode cX7_sets 20 = .ok (.imul, 1) := by decide +kernel
theorem dX7_sets_21 : decode cX7_sets 21 = .ok (.iload_n 3, 1) := by decide +kernel
theorem dX7_sets_22 : decode cX7_sets 22 = .ok (.iadd, 1) := by decide +kernel
theorem dX7_sets_23 : decode cX7_sets 23 = .ok (.iload_n 1, 1) := by decide +kernel
theorem dX7_sets_24 : decode cX7_sets 24 = .ok (.iload 4, 2) := by decide +kernel
theorem dX7_sets_26 : decode cX7_sets 26 = .ok (.isub, 1) := by decide +kernel
theorem dX7_sets_27 : decode cX7_sets 27 = .ok (.iastore, 1) := by decide +kernel
theorem dX7_sets_28 : decode cX7_sets 28 = .ok (.iload_n 3, 1) := by decide +kernel
theorem dX7_sets_29 : decode cX7_sets 29 = .ok (.aload_n 0, 1) := by decide +kernel
theorem dX7_sets_30 : decode cX7_sets 30 = .ok (.getfield 96, 3) := by decide +kernel
theorem dX7_sets_33 : decode cX7_sets 33 = .ok (.iload_n 2, 1) := by decide +kernel
theorem dX7_sets_34 : decode cX7_sets 34 = .ok (.iaload, 1) := by decide +kernel
theorem dX7_sets_35 : decode cX7_sets 35 = .ok (.iadd, 1) := by decide +kernel
theorem dX7_sets_36 : decode cX7_sets 36 = .ok (.bipush 48, 2) := by decide +kernel
theorem dX7_sets_38 : decode cX7_sets 38 = .ok (.if_icmp .ge 31, 3) := by decide +kernel
theorem dX7_sets_41 : decode cX7_sets 41 = .ok (.aload_n 0, 1) := by decide +kernel
theorem dX7_sets_42 : decode cX7_sets 42 = .ok (.getfield 114, 3) := by decide +kernel
theorem dX7_sets_45 : decode cX7_sets 45 = .ok (.bipush 48, 2) := by decide +kernel
theorem dX7_sets_47 : decode cX7_sets 47 = .ok (.iload_n 2, 1) := by decide +kernel
theorem dX7_sets_48 : decode cX7_sets 48 = .ok (.imul, 1) := by decide +kernel
theorem dX7_sets_49 : decode cX7_sets 49 = .ok (.iload_n 3, 1) := by decide +kernel
theorem dX7_sets_50 : decode cX7_sets 50 = .ok (.iadd, 1) := by decide +kernel
theorem dX7_sets_51 : decode cX7_sets 51 = .ok (.aload_n 0, 1) := by decide +kernel
theorem dX7_sets_52 : decode cX7_sets 52 = .ok (.getfield 96, 3) := by decide +kernel
theorem dX7_sets_55 : decode cX7_sets 55 = .ok (.iload_n 2, 1) := by decide +kernel
theorem dX7_sets_56 : decode cX7_sets 56 = .ok (.iaload, 1) := by decide +kernel
theorem dX7_sets_57 : decode cX7_sets 57 = .ok (.iadd, 1) := by decide +kernel
theorem dX7_sets_58 : decode cX7_sets 58 = .ok (.dup2, 1) := by decide +kernel
theorem dX7_sets_59 : decode cX7_sets 59 = .ok (.iaload, 1) := by decide +kernel
theorem dX7_sets_60 : decode cX7_sets 60 = .ok (.aload_n 0, 1) := by decide +kernel
theorem dX7_sets_61 : decode cX7_sets 61 = .ok (.iload 4, 2) := by decide +kernel
theorem dX7_sets_63 : decode cX7_sets 63 = .ok (.iload_n 2, 1) := by decide +kernel
theorem dX7_sets_64 : decode cX7_sets 64 = .ok (.invokevirtual 300, 3) := by decide +kernel
theorem dX7_sets_67 : decode cX7_sets 67 = .ok (.iadd, 1) := by decide +kernel
theorem dX7_sets_68 : decode cX7_sets 68 = .ok (.iastore, 1) := by decide +kernel
theorem dX7_sets_69 : decode cX7_sets 69 = .ok (.return_, 1) := by decide +kernel
def fX7_sets (sh : SH) (this : Nat) (v1 : Int32) (v2 : Int32) (v3 : Int32) (I : IH) : Option (IH) :=
  (gR sh 7 this 30).bind fun x1 =>
  (aI sh I 0 x1 v2).bind fun x2 =>
  (gR sh 7 this 38).bind fun x3 =>
  (sI sh I x3 ((48 * v2) + v3) (v1 - (fX7_min v1 x2))).bind fun i4 =>
  (gR sh 7 this 28).bind fun x5 =>
  (aI sh i4 0 x5 v2).bind fun x6 =>
  if 48 ≤ (v3 + x6) then (
    some i4) else
  (gR sh 7 this 34).bind fun x7 =>
  (gR sh 7 this 28).bind fun x8 =>
  (aI sh i4 0 x8 v2).bind fun x9 =>
  (aI sh i4 0 x7 (((48 * v2) + v3) + x9)).bind fun x10 =>
  (fX7_less sh i4 this (fX7_min v1 x2) v2).bind fun x11 =>
  (sI sh i4 x7 (((48 * v2) + v3) + x9) (x10 + x11)).bind fun i12 =>
  some i12
set_option maxHeartbeats 4000000 in
set_option maxRecDepth 20000 in
theorem jbX7_sets_0 (G : GT) {X : XT} {sh : SH} {L : LH} {n : Nat} {I' : IH}  {this : Nat}  {v1 : Int32} {v2 : Int32} {v3 : Int32} {I : IH} (F : MF G X RX7 cX7_sets 5 1 none "sets") (hth : isO sh 7 this) (h : fX7_sets sh this v1 v2 v3 I = some I') : J G X (QE G X (none) sh I' L n) 5 sh I L n 0 0 0 [(0, .ref this), (1, .int v1), (2, .int v2), (3, .int v3)] [] := by
  unfold fX7_sets at h
  refine j_aload_n (pc := 0) (k0 := 0) F 0 rfl dX7_sets_0 ?_
  refine j_iload_n (pc := 1) (k0 := 1) F 1 rfl dX7_sets_1 ?_
  refine j_aload_n (pc := 2) (k0 := 0) F 0 rfl dX7_sets_2 ?_
  obtain ⟨x1, hx1, h⟩ := ob h
  refine j_getR (pc := 3) F flX7_102 hx1 dX7_sets_3 ?_
  refine j_iload_n (pc := 6) (k0 := 2) F 2 rfl dX7_sets_6 ?_
  obtain ⟨x2, hx2, h⟩ := ob h
  refine j_iald (pc := 7) F hx2 dX7_sets_7 ?_
  refine j_callV1 (pc := 8) (ci := 7) (As := [.int v1, .int x2]) (st := []) (e1 := 0) (es1 := 0) F clX7_284 cwX7_min rfl hth (ctX7_min G) rfl rfl rfl rfl rfl rfl dX7_sets_8 ?_
  refine j_istore (pc := 11) (k1 := 4) (ls' := [(4, .int (fX7_min v1 x2)), (0, .ref this), (1, .int v1), (2, .int v2), (3, .int v3)]) F rfl rfl dX7_sets_11 ?_
  refine j_aload_n (pc := 13) (k0 := 0) F 1 rfl dX7_sets_13 ?_
  obtain ⟨x3, hx3, h⟩ := ob h
  refine j_getR (pc := 14) F flX7_126 hx3 dX7_sets_14 ?_
  refine j_bipush (pc := 17) F 48 dX7_sets_17 (by decide) ?_
  refine j_iload_n (pc := 19) (k0 := 2) F 3 rfl dX7_sets_19 ?_
  refine j_imul (pc := 20) F dX7_sets_20 ?_
  refine j_iload_n (pc := 21) (k0 := 3) F 4 rfl dX7_sets_21 ?_
  refine j_iadd (pc := 22) F dX7_sets_22 ?_
  refine j_iload_n (pc := 23) (k0 := 1) F 2 rfl dX7_sets_23 ?_
  refine j_iload (pc := 24) (k0 := 4) F 0 rfl dX7_sets_24 ?_
  refine j_isub (pc := 26) F dX7_sets_26 ?_
  obtain ⟨i4, hi4, h⟩ := ob h
  refine j_iast (pc := 27) F hi4 dX7_sets_27 ?_
  refine j_iload_n (pc := 28) (k0 := 3) F 4 rfl dX7_sets_28 ?_
  refine j_aload_n (pc := 29) (k0 := 0) F 1 rfl dX7_sets_29 ?_
  obtain ⟨x5, hx5, h⟩ := ob h
  refine j_getR (pc := 30) F flX7_96 hx5 dX7_sets_30 ?_
  refine j_iload_n (pc := 33) (k0 := 2) F 3 rfl dX7_sets_33 ?_
  obtain ⟨x6, hx6, h⟩ := ob h
  refine j_iald (pc := 34) F hx6 dX7_sets_34 ?_
  refine j_iadd (pc := 35) F dX7_sets_35 ?_
  refine j_bipush (pc := 36) F 48 dX7_sets_36 (by decide) ?_
  refine j_icmp_ge (pc := 38) F 69 dX7_sets_38 rfl (fun c => ?_) (fun c => ?_)
  · have h := iz_t c h
    have g1 := Option.some.inj h
    subst g1
    exact j_vret (pc := 69) F dX7_sets_69
  · have h := iz_f c h
    refine j_aload_n (pc := 41) (k0 := 0) F 1 rfl dX7_sets_41 ?_
    obtain ⟨x7, hx7, h⟩ := ob h
    refine j_getR (pc := 42) F flX7_114 hx7 dX7_sets_42 ?_
    refine j_bipush (pc := 45) F 48 dX7_sets_45 (by decide) ?_
    refine j_iload_n (pc := 47) (k0 := 2) F 3 rfl dX7_sets_47 ?_
    refine j_imul (pc := 48) F dX7_sets_48 ?_
    refine j_iload_n (pc := 49) (k0 := 3) F 4 rfl dX7_sets_49 ?_
    refine j_iadd (pc := 50) F dX7_sets_50 ?_
    refine j_aload_n (pc := 51) (k0 := 0) F 1 rfl dX7_sets_51 ?_
    obtain ⟨x8, hx8, h⟩ := ob h
    refine j_getR (pc := 52) F flX7_96 hx8 dX7_sets_52 ?_
    refine j_iload_n (pc := 55) (k0 := 2) F 3 rfl dX7_sets_55 ?_
    obtain ⟨x9, hx9, h⟩ := ob h
    refine j_iald (pc := 56) F hx9 dX7_sets_56 ?_
    refine j_iadd (pc := 57) F dX7_sets_57 ?_
    refine j_dup2 (pc := 58) F dX7_sets_58 rfl rfl ?_
    obtain ⟨x10, hx10, h⟩ := ob h
    refine j_iald (pc := 59) F hx10 dX7_sets_59 ?_
    refine j_aload_n (pc := 60) (k0 := 0) F 1 rfl dX7_sets_60 ?_
    refine j_iload (pc := 61) (k0 := 4) F 0 rfl dX7_sets_61 ?_
    refine j_iload_n (pc := 63) (k0 := 2) F 3 rfl dX7_sets_63 ?_
    obtain ⟨x11, hx11, h⟩ := ob h
    refine j_callV1 (pc := 64) (ci := 7) (As := [.int (fX7_min v1 x2), .int v2]) (st := [.int x10, .int (((48 * v2) + v3) + x9), .ref x7]) (e1 := 0) (es1 := 0) F clX7_300 cwX7_less rfl hth (ctX7_less G hx11) rfl rfl rfl rfl rfl rfl dX7_sets_64 ?_
    refine j_iadd (pc := 67) F dX7_sets_67 ?_
    obtain ⟨i12, hi12, h⟩ := ob h
    refine j_iast (pc := 68) F hi12 dX7_sets_68 ?_
    have g1 := Option.some.inj h
    subst g1
    exact j_vret (pc := 69) F dX7_sets_69
theorem ctX7_sets (G : GT) {sh : SH} {I : IH} {L : LH} {n : Nat} {this : Nat} {v1 : Int32} {v2 : Int32} {v3 : Int32} {I' : IH}  (hth : isO sh 7 this) (h : fX7_sets sh this v1 v2 v3 I = some I') : Ct G yX7_sets cX7_sets 5 none 1 [.ref this, .int v1, .int v2, .int v3] sh I L n (none) sh I' L n 0 0 := by
  refine ct_of (y := yX7_sets) (by decide +kernel) rfl (fun X F => ?_)
  exact jbX7_sets_0 G F hth h
theorem dX7_takes_0 : decode cX7_takes 0 = .ok (.aload_n 0, 1) := by decide +kernel
theorem dX7_takes_1 : decode cX7_takes 1 = .ok (.aload_n 0, 1) := by decide +kernel
theorem dX7_takes_2 : decode cX7_takes 2 = .ok (.getfield 111, 3) := by decide +kernel
theorem dX7_takes_5 : decode cX7_takes 5 = .ok (.iload_n 1, 1) := by decide +kernel
theorem dX7_takes_6 : decode cX7_takes 6 = .ok (.iaload, 1) := by decide +kernel
theorem dX7_takes_7 : decode cX7_takes 7 = .ok (.iload_n 2, 1) := by decide +kernel
theorem dX7_takes_8 : decode cX7_takes 8 = .ok (.bipush 24, 2) := by decide +kernel
theorem dX7_takes_10 : decode cX7_takes 10 = .ok (.irem, 1) := by decide +kernel
theorem dX7_takes_11 : decode cX7_takes 11 = .ok (.invokevirtual 303, 3) := by decide +kernel
theorem dX7_takes_14 : decode cX7_takes 14 = .ok (.istore 5, 2) := by decide +kernel
theorem dX7_takes_16 : decode cX7_takes 16 = .ok (.iconst 5, 1) := by decide +kernel
theorem dX7_takes_17 : decode cX7_takes 17 = .ok (.aload_n 0, 1) := by decide +kernel
theorem dX7_takes_18 : decode cX7_takes 18 = .ok (.getfield 26, 3) := by decide +kernel
theorem dX7_takes_21 : decode cX7_takes 21 = .ok (.iload_n 1, 1) := by decide +kernel
theorem dX7_takes_22 : decode cX7_takes 22 = .ok (.iaload, 1) := by decide +kernel
theorem dX7_takes_23 : decode cX7_takes 23 = .ok (.imul, 1) := by decide +kernel
theorem dX7_takes_24 : decode cX7_takes 24 = .ok (.istore 6, 2) := by decide +kernel
theorem dX7_takes_26 : decode cX7_takes 26 = .ok (.aload_n 0, 1) := by decide +kernel
theorem dX7_takes_27 : decode cX7_takes 27 = .ok (.getfield 108, 3) := by decide +kernel
theorem dX7_takes_30 : decode cX7_takes 30 = .ok (.iload_n 1, 1) := by decide +kernel
theorem dX7_takes_31 : decode cX7_takes 31 = .ok (.iaload, 1) := by decide +kernel
theorem dX7_takes_32 : decode cX7_takes 32 = .ok (.tableswitch 169 1 6 #[40, 57, 125, 69, 99, 145], 40) := by decide +kernel
theorem dX7_takes_72 : decode cX7_takes 72 = .ok (.iload 5, 2) := by decide +kernel
theorem dX7_takes_74 : decode cX7_takes 74 = .ok (.ifCond .eq 13, 3) := by decide +kernel
theorem dX7_takes_77 : decode cX7_takes 77 = .ok (.aload_n 0, 1) := by decide +kernel
theorem dX7_takes_78 : decode cX7_takes 78 = .ok (.iload_n 3, 1) := by decide +kernel
theorem dX7_takes_79 : decode cX7_takes 79 = .ok (.iload 6, 2) := by decide +kernel
theorem dX7_takes_81 : decode cX7_takes 81 = .ok (.invokevirtual 284, 3) := by decide +kernel
theorem dX7_takes_84 : decode cX7_takes 84 = .ok (.goto 4, 3) := by decide +kernel
theorem dX7_takes_87 : decode cX7_takes 87 = .ok (.iconst 0, 1) := by decide +kernel
theorem dX7_takes_88 : decode cX7_takes 88 = .ok (.ireturn, 1) := by decide +kernel
theorem dX7_takes_89 : decode cX7_takes 89 = .ok (.iload_n 3, 1) := by decide +kernel
theorem dX7_takes_90 : decode cX7_takes 90 = .ok (.aload_n 0, 1) := by decide +kernel
theorem dX7_takes_91 : decode cX7_takes 91 = .ok (.getfield 26, 3) := by decide +kernel
theorem dX7_takes_94 : decode cX7_takes 94 = .ok (.iload_n 1, 1) := by decide +kernel
theorem dX7_takes_95 : decode cX7_takes 95 = .ok (.iaload, 1) := by decide +kernel
theorem dX7_takes_96 : decode cX7_takes 96 = .ok (.imul, 1) := by decide +kernel
theorem dX7_takes_97 : decode cX7_takes 97 = .ok (.bipush 10, 2) := by decide +kernel
theorem dX7_takes_99 : decode cX7_takes 99 = .ok (.idiv, 1) := by decide +kernel
theorem dX7_takes_100 : decode cX7_takes 100 = .ok (.ireturn, 1) := by decide +kernel
theorem dX7_takes_101 : decode cX7_takes 101 = .ok (.iload 5, 2) := by decide +kernel
theorem dX7_takes_103 : decode cX7_takes 103 = .ok (.ifCond .eq 13, 3) := by decide +kernel
theorem dX7_takes_106 : decode cX7_takes 106 = .ok (.aload_n 0, 1) := by decide +kernel
theorem dX7_takes_107 : decode cX7_takes 107 = .ok (.iload_n 3, 1) := by decide +kernel
theorem dX7_takes_108 : decode cX7_takes 108 = .ok (.iload 6, 2) := by decide +kernel
theorem dX7_takes_110 : decode cX7_takes 110 = .ok (.invokevirtual 284, 3) := by decide +kernel
theorem dX7_takes_113 : decode cX7_takes 113 = .ok (.goto 17, 3) := by decide +kernel
theorem dX7_takes_116 : decode cX7_takes 116 = .ok (.iload_n 3, 1) := by decide +kernel
theorem dX7_takes_117 : decode cX7_takes 117 = .ok (.iload 6, 2) := by decide +kernel
theorem dX7_takes_119 : decode cX7_takes 119 = .ok (.if_icmp .le 10, 3) := by decide +kernel
theorem dX7_takes_122 : decode cX7_takes 122 = .ok (.iload_n 3, 1) := by decide +kernel
theorem dX7_takes_123 : decode cX7_takes 123 = .ok (.iload 6, 2) := by decide +kernel
theorem dX7_takes_125 : decode cX7_takes 125 = .ok (.isub, 1) := by decide +kernel
theorem dX7_takes_126 : decode cX7_takes 126 = .ok (.goto 4, 3) := by decide +kernel
theorem dX7_takes_129 : decode cX7_takes 129 = .ok (.iconst 0, 1) := by decide +kernel
theorem dX7_takes_130 : decode cX7_takes 130 = .ok (.ireturn, 1) := by decide +kernel
theorem dX7_takes_131 : decode cX7_takes 131 = .ok (.iload_n 2, 1) := by decide +kernel
theorem dX7_takes_132 : decode cX7_takes 132 = .ok (.aload_n 0, 1) := by decide +kernel
theorem dX7_takes_133 : decode cX7_takes 133 = .ok (.getfield 7, 3) := by decide +kernel
theorem dX7_takes_136 : decode cX7_takes 136 = .ok (.irem, 1) := by decide +kernel
theorem dX7_takes_137 : decode cX7_takes 137 = .ok (.iload_n 1, 1) := by decide +kernel
theorem dX7_takes_138 : decode cX7_takes 138 = .ok (.if_icmp .ne 17, 3) := by decide +kernel
theorem dX7_takes_141 : decode cX7_takes 141 = .ok (.iload_n 3, 1) := by decide +kernel
theorem dX7_takes_142 : decode cX7_takes 142 = .ok (.aload_n 0, 1) := by decide +kernel
theorem dX7_takes_143 : decode cX7_takes 143 = .ok (.getfield 26, 3) := by decide +kernel
theorem dX7_takes_146 : decode cX7_takes 146 = .ok (.iload_n 1, 1) := by decide +kernel
theorem dX7_takes_147 : decode cX7_takes 147 = .ok (.iaload, 1) := by decide +kernel
theorem dX7_takes_148 : decode cX7_takes 148 = .ok (.imul, 1) := by decide +kernel
theorem dX7_takes_149 : decode cX7_takes 149 = .ok (.bipush 10, 2) := by decide +kernel
theorem dX7_takes_151 : decode cX7_takes 151 = .ok (.idiv, 1) := by decide +kernel
theorem dX7_takes_152 : decode cX7_takes 152 = .ok (.goto 4, 3) := by decide +kernel
theorem dX7_takes_155 : decode cX7_takes 155 = .ok (.iconst 0, 1) := by decide +kernel
theorem dX7_takes_156 : decode cX7_takes 156 = .ok (.ireturn, 1) := by decide +kernel
theorem dX7_takes_157 : decode cX7_takes 157 = .ok (.iload 5, 2) := by decide +kernel
theorem dX7_takes_159 : decode cX7_takes 159 = .ok (.ifCond .eq 16, 3) := by decide +kernel
theorem dX7_takes_162 : decode cX7_takes 162 = .ok (.aload_n 0, 1) := by decide +kernel
theorem dX7_takes_163 : decode cX7_takes 163 = .ok (.iload_n 3, 1) := by decide +kernel
theorem dX7_takes_164 : decode cX7_takes 164 = .ok (.iload 4, 2) := by decide +kernel
theorem dX7_takes_166 : decode cX7_takes 166 = .ok (.iadd, 1) := by decide +kernel
theorem dX7_takes_167 : decode cX7_takes 167 = .ok (.iload 6, 2) := by decide +kernel
theorem dX7_takes_169 : decode cX7_takes 169 = .ok (.invokevirtual 284, 3) := by decide +kernel
theorem dX7_takes_172 : decode cX7_takes 172 = .ok (.goto 4, 3) := by decide +kernel
theorem dX7_takes_175 : decode cX7_takes 175 = .ok (.iconst 0, 1) := by decide +kernel
theorem dX7_takes_176 : decode cX7_takes 176 = .ok (.ireturn, 1) := by decide +kernel
theorem dX7_takes_177 : decode cX7_takes 177 = .ok (.iload 5, 2) := by decide +kernel
theorem dX7_takes_179 : decode cX7_takes 179 = .ok (.ifCond .eq 20, 3) := by decide +kernel
theorem dX7_takes_182 : decode cX7_takes 182 = .ok (.aload_n 0, 1) := by decide +kernel
theorem dX7_takes_183 : decode cX7_takes 183 = .ok (.iload_n 3, 1) := by decide +kernel
theorem dX7_takes_184 : decode cX7_takes 184 = .ok (.iload 4, 2) := by decide +kernel
theorem dX7_takes_186 : decode cX7_takes 186 = .ok (.iadd, 1) := by decide +kernel
theorem dX7_takes_187 : decode cX7_takes 187 = .ok (.iconst 1, 1) := by decide +kernel
theorem dX7_takes_188 : decode cX7_takes 188 = .ok (.iadd, 1) := by decide +kernel
theorem dX7_takes_189 : decode cX7_takes 189 = .ok (.iconst 2, 1) := by decide +kernel
theorem dX7_takes_190 : decode cX7_takes 190 = .ok (.idiv, 1) := by decide +kernel
theorem dX7_takes_191 : decode cX7_takes 191 = .ok (.iload 6, 2) := by decide +kernel
theorem dX7_takes_193 : decode cX7_takes 193 = .ok (.invokevirtual 284, 3) := by decide +kernel
theorem dX7_takes_196 : decode cX7_takes 196 = .ok (.goto 4, 3) := by decide +kernel
theorem dX7_takes_199 : decode cX7_takes 199 = .ok (.iconst 0, 1) := by decide +kernel
theorem dX7_takes_200 : decode cX7_takes 200 = .ok (.ireturn, 1) := by decide +kernel
theorem dX7_takes_201 : decode cX7_takes 201 = .ok (.iconst 0, 1) := by decide +kernel
theorem dX7_takes_202 : decode cX7_takes 202 = .ok (.ireturn, 1) := by decide +kernel
def fX7_takes (sh : SH) (I : IH) (this : Nat) (v1 : Int32) (v2 : Int32) (v3 : Int32) (v4 : Int32) : Option (Int32) :=
  (gR sh 7 this 33).bind fun x1 =>
  (aI sh I 0 x1 v1).bind fun x2 =>
  (gR sh 7 this 5).bind fun x3 =>
  (aI sh I 0 x3 v1).bind fun x4 =>
  (gR sh 7 this 32).bind fun x5 =>
  (aI sh I 0 x5 v1).bind fun x6 =>
  if x6 = 1 then (
    if (fX7_has x2 (v2 - v2 / 24 * 24)) = 0 then (
      some 0) else
    some (fX7_min v3 (5 * x4))) else
  if x6 = 2 then (
    (gR sh 7 this 5).bind fun x7 =>
    (aI sh I 0 x7 v1).bind fun x8 =>
    some ((v3 * x8) / 10)) else
  if x6 = 3 then (
    if (fX7_has x2 (v2 - v2 / 24 * 24)) = 0 then (
      some 0) else
    some (fX7_min (v3 + v4) (5 * x4))) else
  if x6 = 4 then (
    if (fX7_has x2 (v2 - v2 / 24 * 24)) = 0 then (
      if v3 ≤ (5 * x4) then (
        some 0) else
      some (v3 - (5 * x4))) else
    some (fX7_min v3 (5 * x4))) else
  if x6 = 5 then (
    (gI sh I 7 this 0).bind fun x9 =>
    (rmI v2 x9).bind fun x10 =>
    if x10 = v1 then (
      (gR sh 7 this 5).bind fun x11 =>
      (aI sh I 0 x11 v1).bind fun x12 =>
      some ((v3 * x12) / 10)) else
    some 0) else
  if x6 = 6 then (
    if (fX7_has x2 (v2 - v2 / 24 * 24)) = 0 then (
      some 0) else
    some (fX7_min (((v3 + v4) + 1) / 2) (5 * x4))) else
  some 0
set_option maxHeartbeats 4000000 in
set_option maxRecDepth 20000 in
theorem jbX7_takes_0 (G : GT) {X : XT} {sh : SH} {I : IH} {L : LH} {n : Nat} {r : Int32}  {this : Nat}  {v1 : Int32} {v2 : Int32} {v3 : Int32} {v4 : Int32} (F : MF G X RX7 cX7_takes 7 1 (some .int) "takes") (hth : isO sh 7 this) (h : fX7_takes sh I this v1 v2 v3 v4 = some r) : J G X (QE G X (some (.int r)) sh I L n) 7 sh I L n 0 0 0 [(0, .ref this), (1, .int v1), (2, .int v2), (3, .int v3), (4, .int v4)] [] := by
  unfold fX7_takes at h
  refine j_aload_n (pc := 0) (k0 := 0) F 0 rfl dX7_takes_0 ?_
  refine j_aload_n (pc := 1) (k0 := 0) F 0 rfl dX7_takes_1 ?_
  obtain ⟨x1, hx1, h⟩ := ob h
  refine j_getR (pc := 2) F flX7_111 hx1 dX7_takes_2 ?_
  refine j_iload_n (pc := 5) (k0 := 1) F 1 rfl dX7_takes_5 ?_
  obtain ⟨x2, hx2, h⟩ := ob h
  refine j_iald (pc := 6) F hx2 dX7_takes_6 ?_
  refine j_iload_n (pc := 7) (k0 := 2) F 2 rfl dX7_takes_7 ?_
  refine j_bipush (pc := 8) F 24 dX7_takes_8 (by decide) ?_
  refine j_irem (pc := 10) F (by decide) dX7_takes_10 ?_
  refine j_callV1 (pc := 11) (ci := 7) (As := [.int x2, .int (v2 - v2 / 24 * 24)]) (st := []) (e1 := 0) (es1 := 0) F clX7_303 cwX7_has rfl hth (ctX7_has G) rfl rfl rfl rfl rfl rfl dX7_takes_11 ?_
  refine j_istore (pc := 14) (k1 := 5) (ls' := [(5, .int (fX7_has x2 (v2 - v2 / 24 * 24))), (0, .ref this), (1, .int v1), (2, .int v2), (3, .int v3), (4, .int v4)]) F rfl rfl dX7_takes_14 ?_
  refine j_iconst (pc := 16) F 5 dX7_takes_16 (by decide) ?_
  refine j_aload_n (pc := 17) (k0 := 0) F 1 rfl dX7_takes_17 ?_
  obtain ⟨x3, hx3, h⟩ := ob h
  refine j_getR (pc := 18) F flX7_26 hx3 dX7_takes_18 ?_
  refine j_iload_n (pc := 21) (k0 := 1) F 2 rfl dX7_takes_21 ?_
  obtain ⟨x4, hx4, h⟩ := ob h
  refine j_iald (pc := 22) F hx4 dX7_takes_22 ?_
  refine j_imul (pc := 23) F dX7_takes_23 ?_
  refine j_istore (pc := 24) (k1 := 6) (ls' := [(6, .int (5 * x4)), (5, .int (fX7_has x2 (v2 - v2 / 24 * 24))), (0, .ref this), (1, .int v1), (2, .int v2), (3, .int v3), (4, .int v4)]) F rfl rfl dX7_takes_24 ?_
  refine j_aload_n (pc := 26) (k0 := 0) F 2 rfl dX7_takes_26 ?_
  obtain ⟨x5, hx5, h⟩ := ob h
  refine j_getR (pc := 27) F flX7_108 hx5 dX7_takes_27 ?_
  refine j_iload_n (pc := 30) (k0 := 1) F 3 rfl dX7_takes_30 ?_
  obtain ⟨x6, hx6, h⟩ := ob h
  refine j_iald (pc := 31) F hx6 dX7_takes_31 ?_
  by_cases c1 : x6 = 1
  · have h := iz_t c1 h
    refine j_tabIn (pc := 32) (k0 := 1) F 72 c1 dX7_takes_32 (by decide) rfl rfl ?_
    refine j_iload (pc := 72) (k0 := 5) F 1 rfl dX7_takes_72 ?_
    refine j_if_eq (pc := 74) F 87 dX7_takes_74 rfl (fun c => ?_) (fun c => ?_)
    · have h := iz_t c h
      refine j_iconst (pc := 87) F 0 dX7_takes_87 (by decide) ?_
      have g1 := Option.some.inj h
      subst g1
      exact j_iret (pc := 88) F dX7_takes_88
    · have h := iz_f c h
      refine j_aload_n (pc := 77) (k0 := 0) F 2 rfl dX7_takes_77 ?_
      refine j_iload_n (pc := 78) (k0 := 3) F 5 rfl dX7_takes_78 ?_
      refine j_iload (pc := 79) (k0 := 6) F 0 rfl dX7_takes_79 ?_
      refine j_callV1 (pc := 81) (ci := 7) (As := [.int v3, .int (5 * x4)]) (st := []) (e1 := 0) (es1 := 0) F clX7_284 cwX7_min rfl hth (ctX7_min G) rfl rfl rfl rfl rfl rfl dX7_takes_81 ?_
      refine j_goto (pc := 84) F 88 dX7_takes_84 rfl ?_
      have g1 := Option.some.inj h
      subst g1
      exact j_iret (pc := 88) F dX7_takes_88
  have h := iz_f c1 h
  by_cases c2 : x6 = 2
  · have h := iz_t c2 h
    refine j_tabIn (pc := 32) (k0 := 2) F 89 c2 dX7_takes_32 (by decide) rfl rfl ?_
    refine j_iload_n (pc := 89) (k0 := 3) F 5 rfl dX7_takes_89 ?_
    refine j_aload_n (pc := 90) (k0 := 0) F 2 rfl dX7_takes_90 ?_
    obtain ⟨x7, hx7, h⟩ := ob h
    refine j_getR (pc := 91) F flX7_26 hx7 dX7_takes_91 ?_
    refine j_iload_n (pc := 94) (k0 := 1) F 3 rfl dX7_takes_94 ?_
    obtain ⟨x8, hx8, h⟩ := ob h
    refine j_iald (pc := 95) F hx8 dX7_takes_95 ?_
    refine j_imul (pc := 96) F dX7_takes_96 ?_
    refine j_bipush (pc := 97) F 10 dX7_takes_97 (by decide) ?_
    refine j_idiv (pc := 99) F (by decide) dX7_takes_99 ?_
    have g1 := Option.some.inj h
    subst g1
    exact j_iret (pc := 100) F dX7_takes_100
  have h := iz_f c2 h
  by_cases c3 : x6 = 3
  · have h := iz_t c3 h
    refine j_tabIn (pc := 32) (k0 := 3) F 157 c3 dX7_takes_32 (by decide) rfl rfl ?_
    refine j_iload (pc := 157) (k0 := 5) F 1 rfl dX7_takes_157 ?_
    refine j_if_eq (pc := 159) F 175 dX7_takes_159 rfl (fun c => ?_) (fun c => ?_)
    · have h := iz_t c h
      refine j_iconst (pc := 175) F 0 dX7_takes_175 (by decide) ?_
      have g1 := Option.some.inj h
      subst g1
      exact j_iret (pc := 176) F dX7_takes_176
    · have h := iz_f c h
      refine j_aload_n (pc := 162) (k0 := 0) F 2 rfl dX7_takes_162 ?_
      refine j_iload_n (pc := 163) (k0 := 3) F 5 rfl dX7_takes_163 ?_
      refine j_iload (pc := 164) (k0 := 4) F 6 rfl dX7_takes_164 ?_
      refine j_iadd (pc := 166) F dX7_takes_166 ?_
      refine j_iload (pc := 167) (k0 := 6) F 0 rfl dX7_takes_167 ?_
      refine j_callV1 (pc := 169) (ci := 7) (As := [.int (v3 + v4), .int (5 * x4)]) (st := []) (e1 := 0) (es1 := 0) F clX7_284 cwX7_min rfl hth (ctX7_min G) rfl rfl rfl rfl rfl rfl dX7_takes_169 ?_
      refine j_goto (pc := 172) F 176 dX7_takes_172 rfl ?_
      have g1 := Option.some.inj h
      subst g1
      exact j_iret (pc := 176) F dX7_takes_176
  have h := iz_f c3 h
  by_cases c4 : x6 = 4
  · have h := iz_t c4 h
    refine j_tabIn (pc := 32) (k0 := 4) F 101 c4 dX7_takes_32 (by decide) rfl rfl ?_
    refine j_iload (pc := 101) (k0 := 5) F 1 rfl dX7_takes_101 ?_
    refine j_if_eq (pc := 103) F 116 dX7_takes_103 rfl (fun c => ?_) (fun c => ?_)
    · have h := iz_t c h
      refine j_iload_n (pc := 116) (k0 := 3) F 5 rfl dX7_takes_116 ?_
      refine j_iload (pc := 117) (k0 := 6) F 0 rfl dX7_takes_117 ?_
      refine j_icmp_le (pc := 119) F 129 dX7_takes_119 rfl (fun c => ?_) (fun c => ?_)
      · have h := iz_t c h
        refine j_iconst (pc := 129) F 0 dX7_takes_129 (by decide) ?_
        have g1 := Option.some.inj h
        subst g1
        exact j_iret (pc := 130) F dX7_takes_130
      · have h := iz_f c h
        refine j_iload_n (pc := 122) (k0 := 3) F 5 rfl dX7_takes_122 ?_
        refine j_iload (pc := 123) (k0 := 6) F 0 rfl dX7_takes_123 ?_
        refine j_isub (pc := 125) F dX7_takes_125 ?_
        refine j_goto (pc := 126) F 130 dX7_takes_126 rfl ?_
        have g1 := Option.some.inj h
        subst g1
        exact j_iret (pc := 130) F dX7_takes_130
    · have h := iz_f c h
      refine j_aload_n (pc := 106) (k0 := 0) F 2 rfl dX7_takes_106 ?_
      refine j_iload_n (pc := 107) (k0 := 3) F 5 rfl dX7_takes_107 ?_
      refine j_iload (pc := 108) (k0 := 6) F 0 rfl dX7_takes_108 ?_
      refine j_callV1 (pc := 110) (ci := 7) (As := [.int v3, .int (5 * x4)]) (st := []) (e1 := 0) (es1 := 0) F clX7_284 cwX7_min rfl hth (ctX7_min G) rfl rfl rfl rfl rfl rfl dX7_takes_110 ?_
      refine j_goto (pc := 113) F 130 dX7_takes_113 rfl ?_
      have g1 := Option.some.inj h
      subst g1
      exact j_iret (pc := 130) F dX7_takes_130
  have h := iz_f c4 h
  by_cases c5 : x6 = 5
  · have h := iz_t c5 h
    refine j_tabIn (pc := 32) (k0 := 5) F 131 c5 dX7_takes_32 (by decide) rfl rfl ?_
    refine j_iload_n (pc := 131) (k0 := 2) F 4 rfl dX7_takes_131 ?_
    refine j_aload_n (pc := 132) (k0 := 0) F 2 rfl dX7_takes_132 ?_
    obtain ⟨x9, hx9, h⟩ := ob h
    refine j_getI (pc := 133) F flX7_7 hx9 dX7_takes_133 ?_
    obtain ⟨x10, hx10, h⟩ := ob h
    obtain ⟨hx10n, hx10e⟩ := rmI_obt hx10
    refine j_irem (pc := 136) F hx10n dX7_takes_136 ?_
    rw [← hx10e]
    refine j_iload_n (pc := 137) (k0 := 1) F 3 rfl dX7_takes_137 ?_
    refine j_icmp_ne (pc := 138) F 155 dX7_takes_138 rfl (fun c => ?_) (fun c => ?_)
    · have h := iz_f c h
      refine j_iconst (pc := 155) F 0 dX7_takes_155 (by decide) ?_
      have g1 := Option.some.inj h
      subst g1
      exact j_iret (pc := 156) F dX7_takes_156
    · have h := iz_t c h
      refine j_iload_n (pc := 141) (k0 := 3) F 5 rfl dX7_takes_141 ?_
      refine j_aload_n (pc := 142) (k0 := 0) F 2 rfl dX7_takes_142 ?_
      obtain ⟨x11, hx11, h⟩ := ob h
      refine j_getR (pc := 143) F flX7_26 hx11 dX7_takes_143 ?_
      refine j_iload_n (pc := 146) (k0 := 1) F 3 rfl dX7_takes_146 ?_
      obtain ⟨x12, hx12, h⟩ := ob h
      refine j_iald (pc := 147) F hx12 dX7_takes_147 ?_
      refine j_imul (pc := 148) F dX7_takes_148 ?_
      refine j_bipush (pc := 149) F 10 dX7_takes_149 (by decide) ?_
      refine j_idiv (pc := 151) F (by decide) dX7_takes_151 ?_
      refine j_goto (pc := 152) F 156 dX7_takes_152 rfl ?_
      have g1 := Option.some.inj h
      subst g1
      exact j_iret (pc := 156) F dX7_takes_156
  have h := iz_f c5 h
  by_cases c6 : x6 = 6
  · have h := iz_t c6 h
    refine j_tabIn (pc := 32) (k0 := 6) F 177 c6 dX7_takes_32 (by decide) rfl rfl ?_
    refine j_iload (pc := 177) (k0 := 5) F 1 rfl dX7_takes_177 ?_
    refine j_if_eq (pc := 179) F 199 dX7_takes_179 rfl (fun c => ?_) (fun c => ?_)
    · have h := iz_t c h
      refine j_iconst (pc := 199) F 0 dX7_takes_199 (by decide) ?_
      have g1 := Option.some.inj h
      subst g1
      exact j_iret (pc := 200) F dX7_takes_200
    · have h := iz_f c h
      refine j_aload_n (pc := 182) (k0 := 0) F 2 rfl dX7_takes_182 ?_
      refine j_iload_n (pc := 183) (k0 := 3) F 5 rfl dX7_takes_183 ?_
      refine j_iload (pc := 184) (k0 := 4) F 6 rfl dX7_takes_184 ?_
      refine j_iadd (pc := 186) F dX7_takes_186 ?_
      refine j_iconst (pc := 187) F 1 dX7_takes_187 (by decide) ?_
      refine j_iadd (pc := 188) F dX7_takes_188 ?_
      refine j_iconst (pc := 189) F 2 dX7_takes_189 (by decide) ?_
      refine j_idiv (pc := 190) F (by decide) dX7_takes_190 ?_
      refine j_iload (pc := 191) (k0 := 6) F 0 rfl dX7_takes_191 ?_
      refine j_callV1 (pc := 193) (ci := 7) (As := [.int (((v3 + v4) + 1) / 2), .int (5 * x4)]) (st := []) (e1 := 0) (es1 := 0) F clX7_284 cwX7_min rfl hth (ctX7_min G) rfl rfl rfl rfl rfl rfl dX7_takes_193 ?_
      refine j_goto (pc := 196) F 200 dX7_takes_196 rfl ?_
      have g1 := Option.some.inj h
      subst g1
      exact j_iret (pc := 200) F dX7_takes_200
  have h := iz_f c6 h
  have tc1 := lv_neT (a := 1) c1 (by decide)
  have tc2 := lv_neT (a := 2) c2 (by decide)
  have tc3 := lv_neT (a := 3) c3 (by decide)
  have tc4 := lv_neT (a := 4) c4 (by decide)
  have tc5 := lv_neT (a := 5) c5 (by decide)
  have tc6 := lv_neT (a := 6) c6 (by decide)
  refine j_tabOut (pc := 32) F 201 dX7_takes_32 (by omega) rfl ?_
  refine j_iconst (pc := 201) F 0 dX7_takes_201 (by decide) ?_
  have g1 := Option.some.inj h
  subst g1
  exact j_iret (pc := 202) F dX7_takes_202
theorem ctX7_takes (G : GT) {sh : SH} {I : IH} {L : LH} {n : Nat} {this : Nat} {v1 : Int32} {v2 : Int32} {v3 : Int32} {v4 : Int32} {r : Int32}  (hth : isO sh 7 this) (h : fX7_takes sh I this v1 v2 v3 v4 = some r) : Ct G yX7_takes cX7_takes 7 (some .int) 1 [.ref this, .int v1, .int v2, .int v3, .int v4] sh I L n (some (.int r)) sh I L n 0 0 := by
  refine ct_of (y := yX7_takes) (by decide +kernel) rfl (fun X F => ?_)
  exact jbX7_takes_0 G F hth h
theorem dX7_go_0 : decode cX7_go 0 = .ok (.iconst 0, 1) := by decide +kernel
theorem dX7_go_1 : decode cX7_go 1 = .ok (.istore_n 1, 1) := by decide +kernel
theorem dX7_go_2 : decode cX7_go 2 = .ok (.iload_n 1, 1) := by decide +kernel
theorem dX7_go_3 : decode cX7_go 3 = .ok (.sipush 240, 3) := by decide +kernel
theorem dX7_go_6 : decode cX7_go 6 = .ok (.if_icmp .ge 30, 3) := by decide +kernel
theorem dX7_go_9 : decode cX7_go 9 = .ok (.aload_n 0, 1) := by decide +kernel
theorem dX7_go_10 : decode cX7_go 10 = .ok (.getfield 114, 3) := by decide +kernel
theorem dX7_go_13 : decode cX7_go 13 = .ok (.iload_n 1, 1) := by decide +kernel
theorem dX7_go_14 : decode cX7_go 14 = .ok (.iconst 0, 1) := by decide +kernel
theorem dX7_go_15 : decode cX7_go 15 = .ok (.iastore, 1) := by decide +kernel
theorem dX7_go_16 : decode cX7_go 16 = .ok (.aload_n 0, 1) := by decide +kernel
theorem dX7_go_17 : decode cX7_go 17 = .ok (.getfield 123, 3) := by decide +kernel
theorem dX7_go_20 : decode cX7_go 20 = .ok (.iload_n 1, 1) := by decide +kernel
theorem dX7_go_21 : decode cX7_go 21 = .ok (.iconst 0, 1) := by decide +kernel
theorem dX7_go_22 : decode cX7_go 22 = .ok (.iastore, 1) := by decide +kernel
theorem dX7_go_23 : decode cX7_go 23 = .ok (.aload_n 0, 1) := by decide +kernel
theorem dX7_go_24 : decode cX7_go 24 = .ok (.getfield 126, 3) := by decide +kernel
theorem dX7_go_27 : decode cX7_go 27 = .ok (.iload_n 1, 1) := by decide +kernel
theorem dX7_go_28 : decode cX7_go 28 = .ok (.iconst 0, 1) := by decide +kernel
theorem dX7_go_29 : decode cX7_go 29 = .ok (.iastore, 1) := by decide +kernel
theorem dX7_go_30 : decode cX7_go 30 = .ok (.iinc 1 1, 3) := by decide +kernel
theorem dX7_go_33 : decode cX7_go 33 = .ok (.goto (-31), 3) := by decide +kernel
theorem dX7_go_36 : decode cX7_go 36 = .ok (.iconst 0, 1) := by decide +kernel
theorem dX7_go_37 : decode cX7_go 37 = .ok (.istore_n 1, 1) := by decide +kernel
theorem dX7_go_38 : decode cX7_go 38 = .ok (.iload_n 1, 1) := by decide +kernel
theorem dX7_go_39 : decode cX7_go 39 = .ok (.bipush 48, 2) := by decide +kernel
theorem dX7_go_41 : decode cX7_go 41 = .ok (.if_icmp .ge 176, 3) := by decide +kernel
theorem dX7_go_44 : decode cX7_go 44 = .ok (.aload_n 0, 1) := by decide +kernel
theorem dX7_go_45 : decode cX7_go 45 = .ok (.getfield 93, 3) := by decide +kernel
theorem dX7_go_48 : decode cX7_go 48 = .ok (.iload_n 1, 1) := by decide +kernel
theorem dX7_go_49 : decode cX7_go 49 = .ok (.iaload, 1) := by decide +kernel
theorem dX7_go_50 : decode cX7_go 50 = .ok (.istore_n 2, 1) := by decide +kernel
theorem dX7_go_51 : decode cX7_go 51 = .ok (.iconst 0, 1) := by decide +kernel
theorem dX7_go_52 : decode cX7_go 52 = .ok (.istore_n 3, 1) := by decide +kernel
theorem dX7_go_53 : decode cX7_go 53 = .ok (.iload_n 3, 1) := by decide +kernel
theorem dX7_go_54 : decode cX7_go 54 = .ok (.aload_n 0, 1) := by decide +kernel
theorem dX7_go_55 : decode cX7_go 55 = .ok (.getfield 7, 3) := by decide +kernel
theorem dX7_go_58 : decode cX7_go 58 = .ok (.if_icmp .ge 153, 3) := by decide +kernel
theorem dX7_go_61 : decode cX7_go 61 = .ok (.aload_n 0, 1) := by decide +kernel
theorem dX7_go_62 : decode cX7_go 62 = .ok (.iload_n 2, 1) := by decide +kernel
theorem dX7_go_63 : decode cX7_go 63 = .ok (.iload_n 3, 1) := by decide +kernel
theorem dX7_go_64 : decode cX7_go 64 = .ok (.iload_n 1, 1) := by decide +kernel
theorem dX7_go_65 : decode cX7_go 65 = .ok (.invokevirtual 306, 3) := by decide +kernel
theorem dX7_go_68 : decode cX7_go 68 = .ok (.bipush 48, 2) := by decide +kernel
theorem dX7_go_70 : decode cX7_go 70 = .ok (.iload_n 3, 1) := by decide +kernel
theorem dX7_go_71 : decode cX7_go 71 = .ok (.imul, 1) := by decide +kernel
theorem dX7_go_72 : decode cX7_go 72 = .ok (.iload_n 1, 1) := by decide +kernel
theorem dX7_go_73 : decode cX7_go 73 = .ok (.iadd, 1) := by decide +kernel
theorem dX7_go_74 : decode cX7_go 74 = .ok (.istore 4, 2) := by decide +kernel
theorem dX7_go_76 : decode cX7_go 76 = .ok (.iload_n 1, 1) := by decide +kernel
theorem dX7_go_77 : decode cX7_go 77 = .ok (.ifCond .ne 7, 3) := by decide +kernel
theorem dX7_go_80 : decode cX7_go 80 = .ok (.iconst 0, 1) := by decide +kernel
theorem dX7_go_81 : decode cX7_go 81 = .ok (.goto 12, 3) := by decide +kernel
theorem dX7_go_84 : decode cX7_go 84 = .ok (.aload_n 0, 1) := by decide +kernel
theorem dX7_go_85 : decode cX7_go 85 = .ok (.getfield 123, 3) := by decide +kernel
theorem dX7_go_88 : decode cX7_go 88 = .ok (.iload 4, 2) := by decide +kernel
theorem dX7_go_90 : decode cX7_go 90 = .ok (.iconst 1, 1) := by decide +kernel
theorem dX7_go_91 : decode cX7_go 91 = .ok (.isub, 1) := by decide +kernel
theorem dX7_go_92 : decode cX7_go 92 = .ok (.iaload, 1) := by decide +kernel
theorem dX7_go_93 : decode cX7_go 93 = .ok (.istore 5, 2) := by decide +kernel
theorem dX7_go_95 : decode cX7_go 95 = .ok (.aload_n 0, 1) := by decide +kernel
theorem dX7_go_96 : decode cX7_go 96 = .ok (.iload_n 3, 1) := by decide +kernel
theorem dX7_go_97 : decode cX7_go 97 = .ok (.iload_n 1, 1) := by decide +kernel
theorem dX7_go_98 : decode cX7_go 98 = .ok (.aload_n 0, 1) := by decide +kernel
theorem dX7_go_99 : decode cX7_go 99 = .ok (.getfield 114, 3) := by decide +kernel
theorem dX7_go_102 : decode cX7_go 102 = .ok (.iload 4, 2) := by decide +kernel
theorem dX7_go_104 : decode cX7_go 104 = .ok (.iaload, 1) := by decide +kernel
theorem dX7_go_105 : decode cX7_go 105 = .ok (.iload 5, 2) := by decide +kernel
theorem dX7_go_107 : decode cX7_go 107 = .ok (.invokevirtual 310, 3) := by decide +kernel
theorem dX7_go_110 : decode cX7_go 110 = .ok (.istore 6, 2) := by decide +kernel
theorem dX7_go_112 : decode cX7_go 112 = .ok (.aload_n 0, 1) := by decide +kernel
theorem dX7_go_113 : decode cX7_go 113 = .ok (.getfield 114, 3) := by decide +kernel
theorem dX7_go_116 : decode cX7_go 116 = .ok (.iload 4, 2) := by decide +kernel
theorem dX7_go_118 : decode cX7_go 118 = .ok (.iaload, 1) := by decide +kernel
theorem dX7_go_119 : decode cX7_go 119 = .ok (.iload 5, 2) := by decide +kernel
theorem dX7_go_121 : decode cX7_go 121 = .ok (.iadd, 1) := by decide +kernel
theorem dX7_go_122 : decode cX7_go 122 = .ok (.iload 6, 2) := by decide +kernel
theorem dX7_go_124 : decode cX7_go 124 = .ok (.isub, 1) := by decide +kernel
theorem dX7_go_125 : decode cX7_go 125 = .ok (.istore 7, 2) := by decide +kernel
theorem dX7_go_127 : decode cX7_go 127 = .ok (.aload_n 0, 1) := by decide +kernel
theorem dX7_go_128 : decode cX7_go 128 = .ok (.getfield 117, 3) := by decide +kernel
theorem dX7_go_131 : decode cX7_go 131 = .ok (.iload 4, 2) := by decide +kernel
theorem dX7_go_133 : decode cX7_go 133 = .ok (.iload 6, 2) := by decide +kernel
theorem dX7_go_135 : decode cX7_go 135 = .ok (.iastore, 1) := by decide +kernel
theorem dX7_go_136 : decode cX7_go 136 = .ok (.aload_n 0, 1) := by decide +kernel
theorem dX7_go_137 : decode cX7_go 137 = .ok (.getfield 123, 3) := by decide +kernel
theorem dX7_go_140 : decode cX7_go 140 = .ok (.iload 4, 2) := by decide +kernel
theorem dX7_go_142 : decode cX7_go 142 = .ok (.aload_n 0, 1) := by decide +kernel
theorem dX7_go_143 : decode cX7_go 143 = .ok (.getfield 108, 3) := by decide +kernel
theorem dX7_go_146 : decode cX7_go 146 = .ok (.iload_n 3, 1) := by decide +kernel
theorem dX7_go_147 : decode cX7_go 147 = .ok (.iaload, 1) := by decide +kernel
theorem dX7_go_148 : decode cX7_go 148 = .ok (.iconst 3, 1) := by decide +kernel
theorem dX7_go_149 : decode cX7_go 149 = .ok (.if_icmp .eq 14, 3) := by decide +kernel
theorem dX7_go_152 : decode cX7_go 152 = .ok (.aload_n 0, 1) := by decide +kernel
theorem dX7_go_153 : decode cX7_go 153 = .ok (.getfield 108, 3) := by decide +kernel
theorem dX7_go_156 : decode cX7_go 156 = .ok (.iload_n 3, 1) := by decide +kernel
theorem dX7_go_157 : decode cX7_go 157 = .ok (.iaload, 1) := by decide +kernel
theorem dX7_go_158 : decode cX7_go 158 = .ok (.bipush 6, 2) := by decide +kernel
theorem dX7_go_160 : decode cX7_go 160 = .ok (.if_icmp .ne 18, 3) := by decide +kernel
theorem dX7_go_163 : decode cX7_go 163 = .ok (.aload_n 0, 1) := by decide +kernel
theorem dX7_go_164 : decode cX7_go 164 = .ok (.iload 7, 2) := by decide +kernel
theorem dX7_go_166 : decode cX7_go 166 = .ok (.aload_n 0, 1) := by decide +kernel
theorem dX7_go_167 : decode cX7_go 167 = .ok (.getfield 105, 3) := by decide +kernel
theorem dX7_go_170 : decode cX7_go 170 = .ok (.iload_n 3, 1) := by decide +kernel
theorem dX7_go_171 : decode cX7_go 171 = .ok (.iaload, 1) := by decide +kernel
theorem dX7_go_172 : decode cX7_go 172 = .ok (.invokevirtual 284, 3) := by decide +kernel
theorem dX7_go_175 : decode cX7_go 175 = .ok (.goto 4, 3) := by decide +kernel
theorem dX7_go_178 : decode cX7_go 178 = .ok (.iconst 0, 1) := by decide +kernel
theorem dX7_go_179 : decode cX7_go 179 = .ok (.iastore, 1) := by decide +kernel
theorem dX7_go_180 : decode cX7_go 180 = .ok (.aload_n 0, 1) := by decide +kernel
theorem dX7_go_181 : decode cX7_go 181 = .ok (.getfield 120, 3) := by decide +kernel
theorem dX7_go_184 : decode cX7_go 184 = .ok (.iload 4, 2) := by decide +kernel
theorem dX7_go_186 : decode cX7_go 186 = .ok (.iload 7, 2) := by decide +kernel
theorem dX7_go_188 : decode cX7_go 188 = .ok (.aload_n 0, 1) := by decide +kernel
theorem dX7_go_189 : decode cX7_go 189 = .ok (.getfield 123, 3) := by decide +kernel
theorem dX7_go_192 : decode cX7_go 192 = .ok (.iload 4, 2) := by decide +kernel
theorem dX7_go_194 : decode cX7_go 194 = .ok (.iaload, 1) := by decide +kernel
theorem dX7_go_195 : decode cX7_go 195 = .ok (.isub, 1) := by decide +kernel
theorem dX7_go_196 : decode cX7_go 196 = .ok (.iastore, 1) := by decide +kernel
theorem dX7_go_197 : decode cX7_go 197 = .ok (.aload_n 0, 1) := by decide +kernel
theorem dX7_go_198 : decode cX7_go 198 = .ok (.getfield 120, 3) := by decide +kernel
theorem dX7_go_201 : decode cX7_go 201 = .ok (.iload 4, 2) := by decide +kernel
theorem dX7_go_203 : decode cX7_go 203 = .ok (.iaload, 1) := by decide +kernel
theorem dX7_go_204 : decode cX7_go 204 = .ok (.istore_n 2, 1) := by decide +kernel
theorem dX7_go_205 : decode cX7_go 205 = .ok (.iinc 3 1, 3) := by decide +kernel
theorem dX7_go_208 : decode cX7_go 208 = .ok (.goto (-155), 3) := by decide +kernel
theorem dX7_go_211 : decode cX7_go 211 = .ok (.iinc 1 1, 3) := by decide +kernel
theorem dX7_go_214 : decode cX7_go 214 = .ok (.goto (-176), 3) := by decide +kernel
theorem dX7_go_217 : decode cX7_go 217 = .ok (.return_, 1) := by decide +kernel
def fX7_go_b2 (sh : SH) (this : Nat) (k38 : (Int32 → IH → Option (IH))) : Nat → Int32 → IH → Option (IH)
  | 0, _, _ => none
  | fuel + 1, v1, I =>
    if 240 ≤ v1 then (
      k38 0 I) else
    (gR sh 7 this 34).bind fun x1 =>
    (sI sh I x1 v1 0).bind fun i2 =>
    (gR sh 7 this 37).bind fun x3 =>
    (sI sh i2 x3 v1 0).bind fun i4 =>
    (gR sh 7 this 38).bind fun x5 =>
    (sI sh i4 x5 v1 0).bind fun i6 =>
    fX7_go_b2 sh this k38 fuel (v1 + 1) i6
def fX7_go_b179 (sh : SH) (this : Nat) (k53 : (Int32 → Int32 → Int32 → IH → Option (IH))) (v1 : Int32) (v3 : Int32) (v4 : Int32) (v7 : Int32) (s0 : Nat) (s1 : Int32) (s2 : Int32) (I : IH) : Option (IH) :=
  (sI sh I s0 s1 s2).bind fun i1 =>
  (gR sh 7 this 36).bind fun x2 =>
  (gR sh 7 this 37).bind fun x3 =>
  (aI sh i1 0 x3 v4).bind fun x4 =>
  (sI sh i1 x2 v4 (v7 - x4)).bind fun i5 =>
  (gR sh 7 this 36).bind fun x6 =>
  (aI sh i5 0 x6 v4).bind fun x7 =>
  k53 v1 x7 (v3 + 1) i5
def fX7_go_b163 (sh : SH) (this : Nat) (k53 : (Int32 → Int32 → Int32 → IH → Option (IH))) (v1 : Int32) (v3 : Int32) (v4 : Int32) (v7 : Int32) (s0 : Nat) (s1 : Int32) (I : IH) : Option (IH) :=
  (gR sh 7 this 31).bind fun x1 =>
  (aI sh I 0 x1 v3).bind fun x2 =>
  fX7_go_b179 sh this k53 v1 v3 v4 v7 s0 s1 (fX7_min v7 x2) I
def fX7_go_b93 (sh : SH) (this : Nat) (k53 : (Int32 → Int32 → Int32 → IH → Option (IH))) (v1 : Int32) (v3 : Int32) (v4 : Int32) (s0 : Int32) (I : IH) : Option (IH) :=
  (gR sh 7 this 34).bind fun x1 =>
  (aI sh I 0 x1 v4).bind fun x2 =>
  (fX7_takes sh I this v3 v1 x2 s0).bind fun x3 =>
  (gR sh 7 this 34).bind fun x4 =>
  (aI sh I 0 x4 v4).bind fun x5 =>
  (gR sh 7 this 35).bind fun x6 =>
  (sI sh I x6 v4 x3).bind fun i7 =>
  (gR sh 7 this 37).bind fun x8 =>
  (gR sh 7 this 32).bind fun x9 =>
  (aI sh i7 0 x9 v3).bind fun x10 =>
  if x10 = 3 then (
    fX7_go_b163 sh this k53 v1 v3 v4 ((x5 + s0) - x3) x8 v4 i7) else
  (gR sh 7 this 32).bind fun x11 =>
  (aI sh i7 0 x11 v3).bind fun x12 =>
  if x12 = 6 then (
    fX7_go_b163 sh this k53 v1 v3 v4 ((x5 + s0) - x3) x8 v4 i7) else
  fX7_go_b179 sh this k53 v1 v3 v4 ((x5 + s0) - x3) x8 v4 0 i7
def fX7_go_b53 (sh : SH) (this : Nat) (k38 : (Int32 → IH → Option (IH))) : Nat → Int32 → Int32 → Int32 → IH → Option (IH)
  | 0, _, _, _, _ => none
  | fuel + 1, v1, v2, v3, I =>
    (gI sh I 7 this 0).bind fun x1 =>
    if x1 ≤ v3 then (
      k38 (v1 + 1) I) else
    (fX7_sets sh this v2 v3 v1 I).bind fun i2 =>
    if v1 = 0 then (
      fX7_go_b93 sh this (fX7_go_b53 sh this k38 fuel) v1 v3 ((48 * v3) + v1) 0 i2) else
    (gR sh 7 this 37).bind fun x3 =>
    (aI sh i2 0 x3 (((48 * v3) + v1) - 1)).bind fun x4 =>
    fX7_go_b93 sh this (fX7_go_b53 sh this k38 fuel) v1 v3 ((48 * v3) + v1) x4 i2
def fX7_go_b38 (sh : SH) (this : Nat) : Nat → Int32 → IH → Option (IH)
  | 0, _, _ => none
  | fuel + 1, v1, I =>
    if 48 ≤ v1 then (
      some I) else
    (gR sh 7 this 27).bind fun x1 =>
    (aI sh I 0 x1 v1).bind fun x2 =>
    fX7_go_b53 sh this (fX7_go_b38 sh this fuel) 1000 v1 x2 0 I
def fX7_go (sh : SH) (this : Nat) (I : IH) : Option (IH) :=
  fX7_go_b2 sh this (fX7_go_b38 sh this 1000) 1000 0 I
set_option maxHeartbeats 4000000 in
set_option maxRecDepth 20000 in
theorem jbX7_go_2 (G : GT) {X : XT} {sh : SH} {L : LH} {n : Nat} {I' : IH}  {this : Nat} {k38 : (Int32 → IH → Option (IH))} (F : MF G X RX7 cX7_go 8 2 none "go") (hth : isO sh 7 this)
    (hk38 : ∀ {v1 : Int32} {I : IH}, k38 v1 I = some I' → J G X (QE G X (none) sh I' L n) 8 sh I L n 0 0 38 [(0, .ref this), (1, .int v1)] []) : ∀ (fuel : Nat) (v1 : Int32) (I : IH), fX7_go_b2 sh this k38 fuel v1 I = some I' → J G X (QE G X (none) sh I' L n) 8 sh I L n 0 0 2 [(0, .ref this), (1, .int v1)] []
  | 0 => by
    intros
    rename_i h
    exact absurd (show none = some _ from h) (by intro z; cases z)
  | fuel + 1 => by
    intro v1 I h
    rw [fX7_go_b2] at h
    refine j_iload_n (pc := 2) (k0 := 1) F 1 rfl dX7_go_2 ?_
    refine j_sipush (pc := 3) F 240 dX7_go_3 (by decide) ?_
    refine j_icmp_ge (pc := 6) F 36 dX7_go_6 rfl (fun c => ?_) (fun c => ?_)
    · have h := iz_t c h
      refine j_iconst (pc := 36) F 0 dX7_go_36 (by decide) ?_
      refine j_istore_n (pc := 37) (k1 := 1) (ls' := [(1, .int 0), (0, .ref this)]) F rfl rfl rfl dX7_go_37 ?_
      refine j_sub [1, 0] rfl ?_
      exact hk38 h
    · have h := iz_f c h
      refine j_aload_n (pc := 9) (k0 := 0) F 0 rfl dX7_go_9 ?_
      obtain ⟨x1, hx1, h⟩ := ob h
      refine j_getR (pc := 10) F flX7_114 hx1 dX7_go_10 ?_
      refine j_iload_n (pc := 13) (k0 := 1) F 1 rfl dX7_go_13 ?_
      refine j_iconst (pc := 14) F 0 dX7_go_14 (by decide) ?_
      obtain ⟨i2, hi2, h⟩ := ob h
      refine j_iast (pc := 15) F hi2 dX7_go_15 ?_
      refine j_aload_n (pc := 16) (k0 := 0) F 0 rfl dX7_go_16 ?_
      obtain ⟨x3, hx3, h⟩ := ob h
      refine j_getR (pc := 17) F flX7_123 hx3 dX7_go_17 ?_
      refine j_iload_n (pc := 20) (k0 := 1) F 1 rfl dX7_go_20 ?_
      refine j_iconst (pc := 21) F 0 dX7_go_21 (by decide) ?_
      obtain ⟨i4, hi4, h⟩ := ob h
      refine j_iast (pc := 22) F hi4 dX7_go_22 ?_
      refine j_aload_n (pc := 23) (k0 := 0) F 0 rfl dX7_go_23 ?_
      obtain ⟨x5, hx5, h⟩ := ob h
      refine j_getR (pc := 24) F flX7_126 hx5 dX7_go_24 ?_
      refine j_iload_n (pc := 27) (k0 := 1) F 1 rfl dX7_go_27 ?_
      refine j_iconst (pc := 28) F 0 dX7_go_28 (by decide) ?_
      obtain ⟨i6, hi6, h⟩ := ob h
      refine j_iast (pc := 29) F hi6 dX7_go_29 ?_
      refine j_iinc (pc := 30) (k1 := 1) (ls' := [(1, .int (v1 + 1)), (0, .ref this)]) F (v1 + 1) 1 rfl rfl rfl rfl dX7_go_30 ?_
      refine j_goto (pc := 33) F 2 dX7_go_33 rfl ?_
      refine j_sub [1, 0] rfl ?_
      exact jbX7_go_2 G F hth hk38 fuel _ _ h
set_option maxHeartbeats 4000000 in
set_option maxRecDepth 20000 in
theorem jbX7_go_179 (G : GT) {X : XT} {sh : SH} {L : LH} {n : Nat} {I' : IH}  {this : Nat} {k53 : (Int32 → Int32 → Int32 → IH → Option (IH))} {v1 : Int32} {v3 : Int32} {v4 : Int32} {v7 : Int32} {s0 : Nat} {s1 : Int32} {s2 : Int32} {I : IH} (F : MF G X RX7 cX7_go 8 2 none "go") (hth : isO sh 7 this)
    (hk53 : ∀ {v1 : Int32} {v2 : Int32} {v3 : Int32} {I : IH}, k53 v1 v2 v3 I = some I' → J G X (QE G X (none) sh I' L n) 8 sh I L n 0 0 53 [(0, .ref this), (1, .int v1), (2, .int v2), (3, .int v3)] []) (h : fX7_go_b179 sh this k53 v1 v3 v4 v7 s0 s1 s2 I = some I') : J G X (QE G X (none) sh I' L n) 8 sh I L n 0 0 179 [(0, .ref this), (1, .int v1), (3, .int v3), (4, .int v4), (7, .int v7)] [.int s2, .int s1, .ref s0] := by
  unfold fX7_go_b179 at h
  obtain ⟨i1, hi1, h⟩ := ob h
  refine j_iast (pc := 179) F hi1 dX7_go_179 ?_
  refine j_aload_n (pc := 180) (k0 := 0) F 0 rfl dX7_go_180 ?_
  obtain ⟨x2, hx2, h⟩ := ob h
  refine j_getR (pc := 181) F flX7_120 hx2 dX7_go_181 ?_
  refine j_iload (pc := 184) (k0 := 4) F 3 rfl dX7_go_184 ?_
  refine j_iload (pc := 186) (k0 := 7) F 4 rfl dX7_go_186 ?_
  refine j_aload_n (pc := 188) (k0 := 0) F 0 rfl dX7_go_188 ?_
  obtain ⟨x3, hx3, h⟩ := ob h
  refine j_getR (pc := 189) F flX7_123 hx3 dX7_go_189 ?_
  refine j_iload (pc := 192) (k0 := 4) F 3 rfl dX7_go_192 ?_
  obtain ⟨x4, hx4, h⟩ := ob h
  refine j_iald (pc := 194) F hx4 dX7_go_194 ?_
  refine j_isub (pc := 195) F dX7_go_195 ?_
  obtain ⟨i5, hi5, h⟩ := ob h
  refine j_iast (pc := 196) F hi5 dX7_go_196 ?_
  refine j_aload_n (pc := 197) (k0 := 0) F 0 rfl dX7_go_197 ?_
  obtain ⟨x6, hx6, h⟩ := ob h
  refine j_getR (pc := 198) F flX7_120 hx6 dX7_go_198 ?_
  refine j_iload (pc := 201) (k0 := 4) F 3 rfl dX7_go_201 ?_
  obtain ⟨x7, hx7, h⟩ := ob h
  refine j_iald (pc := 203) F hx7 dX7_go_203 ?_
  refine j_istore_n (pc := 204) (k1 := 2) (ls' := [(2, .int x7), (0, .ref this), (1, .int v1), (3, .int v3), (4, .int v4), (7, .int v7)]) F rfl rfl rfl dX7_go_204 ?_
  refine j_iinc (pc := 205) (k1 := 3) (ls' := [(3, .int (v3 + 1)), (2, .int x7), (0, .ref this), (1, .int v1), (4, .int v4), (7, .int v7)]) F (v3 + 1) 3 rfl rfl rfl rfl dX7_go_205 ?_
  refine j_goto (pc := 208) F 53 dX7_go_208 rfl ?_
  refine j_sub [2, 3, 1, 0] rfl ?_
  exact hk53 h
set_option maxHeartbeats 4000000 in
set_option maxRecDepth 20000 in
theorem jbX7_go_163 (G : GT) {X : XT} {sh : SH} {L : LH} {n : Nat} {I' : IH}  {this : Nat} {k53 : (Int32 → Int32 → Int32 → IH → Option (IH))} {v1 : Int32} {v3 : Int32} {v4 : Int32} {v7 : Int32} {s0 : Nat} {s1 : Int32} {I : IH} (F : MF G X RX7 cX7_go 8 2 none "go") (hth : isO sh 7 this)
    (hk53 : ∀ {v1 : Int32} {v2 : Int32} {v3 : Int32} {I : IH}, k53 v1 v2 v3 I = some I' → J G X (QE G X (none) sh I' L n) 8 sh I L n 0 0 53 [(0, .ref this), (1, .int v1), (2, .int v2), (3, .int v3)] []) (h : fX7_go_b163 sh this k53 v1 v3 v4 v7 s0 s1 I = some I') : J G X (QE G X (none) sh I' L n) 8 sh I L n 0 0 163 [(0, .ref this), (1, .int v1), (3, .int v3), (4, .int v4), (7, .int v7)] [.int s1, .ref s0] := by
  unfold fX7_go_b163 at h
  refine j_aload_n (pc := 163) (k0 := 0) F 0 rfl dX7_go_163 ?_
  refine j_iload (pc := 164) (k0 := 7) F 4 rfl dX7_go_164 ?_
  refine j_aload_n (pc := 166) (k0 := 0) F 0 rfl dX7_go_166 ?_
  obtain ⟨x1, hx1, h⟩ := ob h
  refine j_getR (pc := 167) F flX7_105 hx1 dX7_go_167 ?_
  refine j_iload_n (pc := 170) (k0 := 3) F 2 rfl dX7_go_170 ?_
  obtain ⟨x2, hx2, h⟩ := ob h
  refine j_iald (pc := 171) F hx2 dX7_go_171 ?_
  refine j_callV1 (pc := 172) (ci := 7) (As := [.int v7, .int x2]) (st := [.int s1, .ref s0]) (e1 := 0) (es1 := 0) F clX7_284 cwX7_min rfl hth (ctX7_min G) rfl rfl rfl rfl rfl rfl dX7_go_172 ?_
  refine j_goto (pc := 175) F 179 dX7_go_175 rfl ?_
  exact jbX7_go_179 G F hth (fun h => hk53 h) h
set_option maxHeartbeats 4000000 in
set_option maxRecDepth 20000 in
theorem jbX7_go_93 (G : GT) {X : XT} {sh : SH} {L : LH} {n : Nat} {I' : IH}  {this : Nat} {k53 : (Int32 → Int32 → Int32 → IH → Option (IH))} {v1 : Int32} {v3 : Int32} {v4 : Int32} {s0 : Int32} {I : IH} (F : MF G X RX7 cX7_go 8 2 none "go") (hth : isO sh 7 this)
    (hk53 : ∀ {v1 : Int32} {v2 : Int32} {v3 : Int32} {I : IH}, k53 v1 v2 v3 I = some I' → J G X (QE G X (none) sh I' L n) 8 sh I L n 0 0 53 [(0, .ref this), (1, .int v1), (2, .int v2), (3, .int v3)] []) (h : fX7_go_b93 sh this k53 v1 v3 v4 s0 I = some I') : J G X (QE G X (none) sh I' L n) 8 sh I L n 0 0 93 [(0, .ref this), (1, .int v1), (3, .int v3), (4, .int v4)] [.int s0] := by
  unfold fX7_go_b93 at h
  refine j_istore (pc := 93) (k1 := 5) (ls' := [(5, .int s0), (0, .ref this), (1, .int v1), (3, .int v3), (4, .int v4)]) F rfl rfl dX7_go_93 ?_
  refine j_aload_n (pc := 95) (k0 := 0) F 1 rfl dX7_go_95 ?_
  refine j_iload_n (pc := 96) (k0 := 3) F 3 rfl dX7_go_96 ?_
  refine j_iload_n (pc := 97) (k0 := 1) F 2 rfl dX7_go_97 ?_
  refine j_aload_n (pc := 98) (k0 := 0) F 1 rfl dX7_go_98 ?_
  obtain ⟨x1, hx1, h⟩ := ob h
  refine j_getR (pc := 99) F flX7_114 hx1 dX7_go_99 ?_
  refine j_iload (pc := 102) (k0 := 4) F 4 rfl dX7_go_102 ?_
  obtain ⟨x2, hx2, h⟩ := ob h
  refine j_iald (pc := 104) F hx2 dX7_go_104 ?_
  refine j_iload (pc := 105) (k0 := 5) F 0 rfl dX7_go_105 ?_
  obtain ⟨x3, hx3, h⟩ := ob h
  refine j_callV1 (pc := 107) (ci := 7) (As := [.int v3, .int v1, .int x2, .int s0]) (st := []) (e1 := 0) (es1 := 0) F clX7_310 cwX7_takes rfl hth (ctX7_takes G hth hx3) rfl rfl rfl rfl rfl rfl dX7_go_107 ?_
  refine j_istore (pc := 110) (k1 := 6) (ls' := [(6, .int x3), (5, .int s0), (0, .ref this), (1, .int v1), (3, .int v3), (4, .int v4)]) F rfl rfl dX7_go_110 ?_
  refine j_aload_n (pc := 112) (k0 := 0) F 2 rfl dX7_go_112 ?_
  obtain ⟨x4, hx4, h⟩ := ob h
  refine j_getR (pc := 113) F flX7_114 hx4 dX7_go_113 ?_
  refine j_iload (pc := 116) (k0 := 4) F 5 rfl dX7_go_116 ?_
  obtain ⟨x5, hx5, h⟩ := ob h
  refine j_iald (pc := 118) F hx5 dX7_go_118 ?_
  refine j_iload (pc := 119) (k0 := 5) F 1 rfl dX7_go_119 ?_
  refine j_iadd (pc := 121) F dX7_go_121 ?_
  refine j_iload (pc := 122) (k0 := 6) F 0 rfl dX7_go_122 ?_
  refine j_isub (pc := 124) F dX7_go_124 ?_
  refine j_istore (pc := 125) (k1 := 7) (ls' := [(7, .int ((x5 + s0) - x3)), (6, .int x3), (5, .int s0), (0, .ref this), (1, .int v1), (3, .int v3), (4, .int v4)]) F rfl rfl dX7_go_125 ?_
  refine j_aload_n (pc := 127) (k0 := 0) F 3 rfl dX7_go_127 ?_
  obtain ⟨x6, hx6, h⟩ := ob h
  refine j_getR (pc := 128) F flX7_117 hx6 dX7_go_128 ?_
  refine j_iload (pc := 131) (k0 := 4) F 6 rfl dX7_go_131 ?_
  refine j_iload (pc := 133) (k0 := 6) F 1 rfl dX7_go_133 ?_
  obtain ⟨i7, hi7, h⟩ := ob h
  refine j_iast (pc := 135) F hi7 dX7_go_135 ?_
  refine j_aload_n (pc := 136) (k0 := 0) F 3 rfl dX7_go_136 ?_
  obtain ⟨x8, hx8, h⟩ := ob h
  refine j_getR (pc := 137) F flX7_123 hx8 dX7_go_137 ?_
  refine j_iload (pc := 140) (k0 := 4) F 6 rfl dX7_go_140 ?_
  refine j_aload_n (pc := 142) (k0 := 0) F 3 rfl dX7_go_142 ?_
  obtain ⟨x9, hx9, h⟩ := ob h
  refine j_getR (pc := 143) F flX7_108 hx9 dX7_go_143 ?_
  refine j_iload_n (pc := 146) (k0 := 3) F 5 rfl dX7_go_146 ?_
  obtain ⟨x10, hx10, h⟩ := ob h
  refine j_iald (pc := 147) F hx10 dX7_go_147 ?_
  refine j_iconst (pc := 148) F 3 dX7_go_148 (by decide) ?_
  refine j_icmp_eq (pc := 149) F 163 dX7_go_149 rfl (fun c => ?_) (fun c => ?_)
  · have h := iz_t c h
    refine j_sub [3, 4, 5, 6, 0] rfl ?_
    exact jbX7_go_163 G F hth (fun h => hk53 h) h
  · have h := iz_f c h
    refine j_aload_n (pc := 152) (k0 := 0) F 3 rfl dX7_go_152 ?_
    obtain ⟨x11, hx11, h⟩ := ob h
    refine j_getR (pc := 153) F flX7_108 hx11 dX7_go_153 ?_
    refine j_iload_n (pc := 156) (k0 := 3) F 5 rfl dX7_go_156 ?_
    obtain ⟨x12, hx12, h⟩ := ob h
    refine j_iald (pc := 157) F hx12 dX7_go_157 ?_
    refine j_bipush (pc := 158) F 6 dX7_go_158 (by decide) ?_
    refine j_icmp_ne (pc := 160) F 178 dX7_go_160 rfl (fun c => ?_) (fun c => ?_)
    · have h := iz_f c h
      refine j_iconst (pc := 178) F 0 dX7_go_178 (by decide) ?_
      refine j_sub [3, 4, 5, 6, 0] rfl ?_
      exact jbX7_go_179 G F hth (fun h => hk53 h) h
    · have h := iz_t c h
      refine j_sub [3, 4, 5, 6, 0] rfl ?_
      exact jbX7_go_163 G F hth (fun h => hk53 h) h
set_option maxHeartbeats 4000000 in
set_option maxRecDepth 20000 in
theorem jbX7_go_53 (G : GT) {X : XT} {sh : SH} {L : LH} {n : Nat} {I' : IH}  {this : Nat} {k38 : (Int32 → IH → Option (IH))} (F : MF G X RX7 cX7_go 8 2 none "go") (hth : isO sh 7 this)
    (hk38 : ∀ {v1 : Int32} {I : IH}, k38 v1 I = some I' → J G X (QE G X (none) sh I' L n) 8 sh I L n 0 0 38 [(0, .ref this), (1, .int v1)] []) : ∀ (fuel : Nat) (v1 : Int32) (v2 : Int32) (v3 : Int32) (I : IH), fX7_go_b53 sh this k38 fuel v1 v2 v3 I = some I' → J G X (QE G X (none) sh I' L n) 8 sh I L n 0 0 53 [(0, .ref this), (1, .int v1), (2, .int v2), (3, .int v3)] []
  | 0 => by
    intros
    rename_i h
    exact absurd (show none = some _ from h) (by intro z; cases z)
  | fuel + 1 => by
    intro v1 v2 v3 I h
    rw [fX7_go_b53] at h
    refine j_iload_n (pc := 53) (k0 := 3) F 3 rfl dX7_go_53 ?_
    refine j_aload_n (pc := 54) (k0 := 0) F 0 rfl dX7_go_54 ?_
    obtain ⟨x1, hx1, h⟩ := ob h
    refine j_getI (pc := 55) F flX7_7 hx1 dX7_go_55 ?_
    refine j_icmp_ge (pc := 58) F 211 dX7_go_58 rfl (fun c => ?_) (fun c => ?_)
    · have h := iz_t c h
      refine j_iinc (pc := 211) (k1 := 1) (ls' := [(1, .int (v1 + 1)), (0, .ref this), (2, .int v2), (3, .int v3)]) F (v1 + 1) 1 rfl rfl rfl rfl dX7_go_211 ?_
      refine j_goto (pc := 214) F 38 dX7_go_214 rfl ?_
      refine j_sub [1, 0] rfl ?_
      exact hk38 h
    · have h := iz_f c h
      refine j_aload_n (pc := 61) (k0 := 0) F 0 rfl dX7_go_61 ?_
      refine j_iload_n (pc := 62) (k0 := 2) F 2 rfl dX7_go_62 ?_
      refine j_iload_n (pc := 63) (k0 := 3) F 3 rfl dX7_go_63 ?_
      refine j_iload_n (pc := 64) (k0 := 1) F 1 rfl dX7_go_64 ?_
      obtain ⟨i2, hi2, h⟩ := ob h
      refine j_callV0 (pc := 65) (ci := 7) (As := [.int v2, .int v3, .int v1]) (st := []) (e1 := 0) (es1 := 0) F clX7_306 cwX7_sets rfl hth (ctX7_sets G hth hi2) rfl rfl rfl rfl rfl rfl dX7_go_65 ?_
      refine j_bipush (pc := 68) F 48 dX7_go_68 (by decide) ?_
      refine j_iload_n (pc := 70) (k0 := 3) F 3 rfl dX7_go_70 ?_
      refine j_imul (pc := 71) F dX7_go_71 ?_
      refine j_iload_n (pc := 72) (k0 := 1) F 1 rfl dX7_go_72 ?_
      refine j_iadd (pc := 73) F dX7_go_73 ?_
      refine j_istore (pc := 74) (k1 := 4) (ls' := [(4, .int ((48 * v3) + v1)), (0, .ref this), (1, .int v1), (2, .int v2), (3, .int v3)]) F rfl rfl dX7_go_74 ?_
      refine j_iload_n (pc := 76) (k0 := 1) F 2 rfl dX7_go_76 ?_
      refine j_if_ne (pc := 77) F 84 dX7_go_77 rfl (fun c => ?_) (fun c => ?_)
      · have h := iz_f c h
        refine j_aload_n (pc := 84) (k0 := 0) F 1 rfl dX7_go_84 ?_
        obtain ⟨x3, hx3, h⟩ := ob h
        refine j_getR (pc := 85) F flX7_123 hx3 dX7_go_85 ?_
        refine j_iload (pc := 88) (k0 := 4) F 0 rfl dX7_go_88 ?_
        refine j_iconst (pc := 90) F 1 dX7_go_90 (by decide) ?_
        refine j_isub (pc := 91) F dX7_go_91 ?_
        obtain ⟨x4, hx4, h⟩ := ob h
        refine j_iald (pc := 92) F hx4 dX7_go_92 ?_
        refine j_sub [1, 2, 4, 0] rfl ?_
        exact jbX7_go_93 G F hth (fun h => jbX7_go_53 G F hth hk38 fuel _ _ _ _ h) h
      · have h := iz_t c h
        refine j_iconst (pc := 80) F 0 dX7_go_80 (by decide) ?_
        refine j_goto (pc := 81) F 93 dX7_go_81 rfl ?_
        refine j_sub [1, 2, 4, 0] rfl ?_
        exact jbX7_go_93 G F hth (fun h => jbX7_go_53 G F hth hk38 fuel _ _ _ _ h) h
set_option maxHeartbeats 4000000 in
set_option maxRecDepth 20000 in
theorem jbX7_go_38 (G : GT) {X : XT} {sh : SH} {L : LH} {n : Nat} {I' : IH}  {this : Nat}  (F : MF G X RX7 cX7_go 8 2 none "go") (hth : isO sh 7 this) : ∀ (fuel : Nat) (v1 : Int32) (I : IH), fX7_go_b38 sh this fuel v1 I = some I' → J G X (QE G X (none) sh I' L n) 8 sh I L n 0 0 38 [(0, .ref this), (1, .int v1)] []
  | 0 => by
    intros
    rename_i h
    exact absurd (show none = some _ from h) (by intro z; cases z)
  | fuel + 1 => by
    intro v1 I h
    rw [fX7_go_b38] at h
    refine j_iload_n (pc := 38) (k0 := 1) F 1 rfl dX7_go_38 ?_
    refine j_bipush (pc := 39) F 48 dX7_go_39 (by decide) ?_
    refine j_icmp_ge (pc := 41) F 217 dX7_go_41 rfl (fun c => ?_) (fun c => ?_)
    · have h := iz_t c h
      have g1 := Option.some.inj h
      subst g1
      exact j_vret (pc := 217) F dX7_go_217
    · have h := iz_f c h
      refine j_aload_n (pc := 44) (k0 := 0) F 0 rfl dX7_go_44 ?_
      obtain ⟨x1, hx1, h⟩ := ob h
      refine j_getR (pc := 45) F flX7_93 hx1 dX7_go_45 ?_
      refine j_iload_n (pc := 48) (k0 := 1) F 1 rfl dX7_go_48 ?_
      obtain ⟨x2, hx2, h⟩ := ob h
      refine j_iald (pc := 49) F hx2 dX7_go_49 ?_
      refine j_istore_n (pc := 50) (k1 := 2) (ls' := [(2, .int x2), (0, .ref this), (1, .int v1)]) F rfl rfl rfl dX7_go_50 ?_
      refine j_iconst (pc := 51) F 0 dX7_go_51 (by decide) ?_
      refine j_istore_n (pc := 52) (k1 := 3) (ls' := [(3, .int 0), (2, .int x2), (0, .ref this), (1, .int v1)]) F rfl rfl rfl dX7_go_52 ?_
      refine j_sub [2, 3, 1, 0] rfl ?_
      exact jbX7_go_53 G F hth (fun h => jbX7_go_38 G F hth fuel _ _ h) 1000 _ _ _ _ h
set_option maxHeartbeats 4000000 in
set_option maxRecDepth 20000 in
theorem jbX7_go_0 (G : GT) {X : XT} {sh : SH} {L : LH} {n : Nat} {I' : IH}  {this : Nat}  {I : IH} (F : MF G X RX7 cX7_go 8 2 none "go") (hth : isO sh 7 this) (h : fX7_go sh this I = some I') : J G X (QE G X (none) sh I' L n) 8 sh I L n 0 0 0 [(0, .ref this)] [] := by
  unfold fX7_go at h
  refine j_iconst (pc := 0) F 0 dX7_go_0 (by decide) ?_
  refine j_istore_n (pc := 1) (k1 := 1) (ls' := [(1, .int 0), (0, .ref this)]) F rfl rfl rfl dX7_go_1 ?_
  refine j_sub [1, 0] rfl ?_
  exact jbX7_go_2 G F hth (fun h => jbX7_go_38 G F hth 1000 _ _ h) 1000 _ _ h
theorem ctX7_go (G : GT) {sh : SH} {I : IH} {L : LH} {n : Nat} {this : Nat} {I' : IH}  (hth : isO sh 7 this) (h : fX7_go sh this I = some I') : Ct G yX7_go cX7_go 8 none 2 [.ref this] sh I L n (none) sh I' L n 0 0 := by
  refine ct_of (y := yX7_go) (by decide +kernel) rfl (fun X F => ?_)
  exact jbX7_go_0 G F hth h
