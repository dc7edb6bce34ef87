/-! LAYER 2: the world of both, and what is read and written in it -/
def nv (x : Int32) : Nat := x.toNatClampNeg
/-- a number between bounds -/
def Bd (x : Int32) (lo hi : Nat) : Prop := x = nI (nv x) ∧ lo ≤ nv x ∧ nv x ≤ hi
theorem nv_nI {q : Nat} (h : q < 2 ^ 31) : nv (nI q) = q := nI_clamp h
theorem Bd_of {x : Int32} {q lo hi : Nat} (h : x = nI q) (h1 : lo ≤ q) (h2 : q ≤ hi) (h3 : hi < 2 ^ 31) : Bd x lo hi := by
  subst h
  have h9 : nv (nI q) = q := nv_nI (by omega)
  exact ⟨by rw [h9], by omega, by omega⟩
theorem Bd.ex {x : Int32} {lo hi : Nat} (h : Bd x lo hi) : ∃ q, x = nI q ∧ lo ≤ q ∧ q ≤ hi := ⟨nv x, h⟩
def wr (I : IH) (x j : Nat) (v : Int32) : IH := upR I x (upd (I x) j v)
theorem wr_at {I : IH} {x j : Nat} {v : Int32} : wr I x j v x j = v := by
  show upR I x (upd (I x) j v) x j = v
  rw [upR_same, upd_eq]
theorem wr_ne {I : IH} {x j y : Nat} {v : Int32} (h : y ≠ x) : wr I x j v y = I y := upR_ne h
theorem wr_nj {I : IH} {x j k : Nat} {v : Int32} (h : k ≠ j) : wr I x j v x k = I x k := by
  show upR I x (upd (I x) j v) x k = I x k
  rw [upR_same, upd_ne h]
theorem wr_or {I : IH} {x j y k : Nat} {v : Int32} (h : y ≠ x ∨ k ≠ j) : wr I x j v y k = I y k := by
  by_cases hy : y = x
  · subst hy
    exact wr_nj (by omega)
  · rw [wr_ne hy]
def wrJ (L : LH) (x j : Nat) (v : Int64) : LH := upR L x (vp_updL (L x) j v)
theorem wrJ_at {L : LH} {x j : Nat} {v : Int64} : wrJ L x j v x j = v := by
  show upR L x (vp_updL (L x) j v) x j = v
  rw [upR_same]
  exact if_pos rfl
theorem wrJ_or {L : LH} {x j y k : Nat} {v : Int64} (h : y ≠ x ∨ k ≠ j) : wrJ L x j v y k = L y k := by
  by_cases hy : y = x
  · subst hy
    show upR L y (vp_updL (L y) j v) y k = L y k
    rw [upR_same]
    exact if_neg (by omega)
  · show upR L x (vp_updL (L x) j v) y k = L y k
    rw [upR_ne hy]
def VW (s : SH) (w : Nat) : Prop := Lay s w ([vObj (w + 1)] ++ vArea (w + 1))
def WW (s : SH) (a w1 w2 : Nat) : Prop := Lay s a [oHours a, sObj (a + 9) w1, vObj (a + 3)] ∧ Lay s (a + 3) (vArea (a + 3)) ∧ Lay s (a + 9) (sArea (a + 9)) ∧ Lay s (a + 29) [sObj (a + 30) w2] ∧ Lay s (a + 30) (sArea (a + 30)) ∧ Lay s (a + 50) [wObj (a + 51) (a + 1)] ∧ Lay s (a + 51) (wArea (a + 51)) ∧ Lay s (a + 94) [oActs (a + 95), .inr (0, 20, 0), .inr (0, 100, 0), .inr (16, 6, a + 98)] ∧ Lay s (a + 98) (tapesD a 6) ∧ Lay s (a + 110) [mObj (a + 111)] ∧ Lay s (a + 111) mArea ∧ VW s w1 ∧ VW s w2
section WORLD
variable {s : SH} {I : IH} {L : LH} {a w1 w2 w p j i : Nat}
theorem e6_0_0 (W : WW s a w1 w2) : gR s 6 (a) 0 = some (a + 1) := gR_L W.1 0 0 rfl rfl
theorem e6_0_1 (W : WW s a w1 w2) : gR s 6 (a) 1 = some (a + 29) := gR_L W.1 0 1 rfl rfl
theorem e6_0_3 (W : WW s a w1 w2) : gR s 6 (a) 3 = some (a + 50) := gR_L W.1 0 3 rfl rfl
theorem e6_0_4 (W : WW s a w1 w2) : gR s 6 (a) 4 = some (a + 94) := gR_L W.1 0 4 rfl rfl
theorem e6_0_5 (W : WW s a w1 w2) : gR s 6 (a) 5 = some (a + 96) := gR_L W.1 0 5 rfl rfl
theorem e6_0_8 (W : WW s a w1 w2) : gR s 6 (a) 8 = some (a + 97) := gR_L W.1 0 8 rfl rfl
theorem e2_1_1 (W : WW s a w1 w2) : gR s 2 (a + 1) 1 = some (a + 9) := gR_L W.1 1 1 rfl rfl
theorem e2_1_2 (W : WW s a w1 w2) : gR s 2 (a + 1) 2 = some (a + 10) := gR_L W.1 1 2 rfl rfl
theorem e2_1_3 (W : WW s a w1 w2) : gR s 2 (a + 1) 3 = some (a + 11) := gR_L W.1 1 3 rfl rfl
theorem e2_1_4 (W : WW s a w1 w2) : gR s 2 (a + 1) 4 = some (a + 17) := gR_L W.1 1 4 rfl rfl
theorem e2_1_6 (W : WW s a w1 w2) : gR s 2 (a + 1) 6 = some (a + 28) := gR_L W.1 1 6 rfl rfl
theorem e2_1_8 (W : WW s a w1 w2) : gR s 2 (a + 1) 8 = some (w1) := gR_L W.1 1 8 rfl rfl
theorem e2_29_1 (W : WW s a w1 w2) : gR s 2 (a + 29) 1 = some (a + 30) := gR_L W.2.2.2.1 0 1 rfl rfl
theorem e2_29_2 (W : WW s a w1 w2) : gR s 2 (a + 29) 2 = some (a + 31) := gR_L W.2.2.2.1 0 2 rfl rfl
theorem e2_29_3 (W : WW s a w1 w2) : gR s 2 (a + 29) 3 = some (a + 32) := gR_L W.2.2.2.1 0 3 rfl rfl
theorem e2_29_4 (W : WW s a w1 w2) : gR s 2 (a + 29) 4 = some (a + 38) := gR_L W.2.2.2.1 0 4 rfl rfl
theorem e2_29_6 (W : WW s a w1 w2) : gR s 2 (a + 29) 6 = some (a + 49) := gR_L W.2.2.2.1 0 6 rfl rfl
theorem e2_29_8 (W : WW s a w1 w2) : gR s 2 (a + 29) 8 = some (w2) := gR_L W.2.2.2.1 0 8 rfl rfl
theorem e5_50_0 (W : WW s a w1 w2) : gR s 5 (a + 50) 0 = some (a + 1) := gR_L W.2.2.2.2.2.1 0 0 rfl rfl
theorem e5_50_1 (W : WW s a w1 w2) : gR s 5 (a + 50) 1 = some (a + 51) := gR_L W.2.2.2.2.2.1 0 1 rfl rfl
theorem e5_50_2 (W : WW s a w1 w2) : gR s 5 (a + 50) 2 = some (a + 52) := gR_L W.2.2.2.2.2.1 0 2 rfl rfl
theorem e5_50_3 (W : WW s a w1 w2) : gR s 5 (a + 50) 3 = some (a + 57) := gR_L W.2.2.2.2.2.1 0 3 rfl rfl
theorem e5_50_4 (W : WW s a w1 w2) : gR s 5 (a + 50) 4 = some (a + 63) := gR_L W.2.2.2.2.2.1 0 4 rfl rfl
theorem e5_50_5 (W : WW s a w1 w2) : gR s 5 (a + 50) 5 = some (a + 69) := gR_L W.2.2.2.2.2.1 0 5 rfl rfl
theorem e5_50_6 (W : WW s a w1 w2) : gR s 5 (a + 50) 6 = some (a + 75) := gR_L W.2.2.2.2.2.1 0 6 rfl rfl
theorem e5_50_7 (W : WW s a w1 w2) : gR s 5 (a + 50) 7 = some (a + 81) := gR_L W.2.2.2.2.2.1 0 7 rfl rfl
theorem e5_50_8 (W : WW s a w1 w2) : gR s 5 (a + 50) 8 = some (a + 87) := gR_L W.2.2.2.2.2.1 0 8 rfl rfl
theorem e5_50_9 (W : WW s a w1 w2) : gR s 5 (a + 50) 9 = some (a + 93) := gR_L W.2.2.2.2.2.1 0 9 rfl rfl
theorem e0_94_3 (W : WW s a w1 w2) : gR s 0 (a + 94) 3 = some (a + 95) := gR_L W.2.2.2.2.2.2.2.1 0 3 rfl rfl
theorem e7_110_3 (W : WW s a w1 w2) : gR s 7 (a + 110) 3 = some (a + 111) := gR_L W.2.2.2.2.2.2.2.2.2.1 0 3 rfl rfl
theorem e7_110_4 (W : WW s a w1 w2) : gR s 7 (a + 110) 4 = some (a + 112) := gR_L W.2.2.2.2.2.2.2.2.2.1 0 4 rfl rfl
theorem e7_110_5 (W : WW s a w1 w2) : gR s 7 (a + 110) 5 = some (a + 113) := gR_L W.2.2.2.2.2.2.2.2.2.1 0 5 rfl rfl
theorem e7_110_6 (W : WW s a w1 w2) : gR s 7 (a + 110) 6 = some (a + 114) := gR_L W.2.2.2.2.2.2.2.2.2.1 0 6 rfl rfl
theorem e7_110_12 (W : WW s a w1 w2) : gR s 7 (a + 110) 12 = some (a + 115) := gR_L W.2.2.2.2.2.2.2.2.2.1 0 12 rfl rfl
theorem e7_110_13 (W : WW s a w1 w2) : gR s 7 (a + 110) 13 = some (a + 116) := gR_L W.2.2.2.2.2.2.2.2.2.1 0 13 rfl rfl
theorem e7_110_14 (W : WW s a w1 w2) : gR s 7 (a + 110) 14 = some (a + 117) := gR_L W.2.2.2.2.2.2.2.2.2.1 0 14 rfl rfl
theorem e7_110_15 (W : WW s a w1 w2) : gR s 7 (a + 110) 15 = some (a + 118) := gR_L W.2.2.2.2.2.2.2.2.2.1 0 15 rfl rfl
theorem e7_110_16 (W : WW s a w1 w2) : gR s 7 (a + 110) 16 = some (a + 119) := gR_L W.2.2.2.2.2.2.2.2.2.1 0 16 rfl rfl
theorem e7_110_17 (W : WW s a w1 w2) : gR s 7 (a + 110) 17 = some (a + 120) := gR_L W.2.2.2.2.2.2.2.2.2.1 0 17 rfl rfl
theorem e7_110_18 (W : WW s a w1 w2) : gR s 7 (a + 110) 18 = some (a + 121) := gR_L W.2.2.2.2.2.2.2.2.2.1 0 18 rfl rfl
theorem e7_110_19 (W : WW s a w1 w2) : gR s 7 (a + 110) 19 = some (a + 122) := gR_L W.2.2.2.2.2.2.2.2.2.1 0 19 rfl rfl
theorem e7_110_20 (W : WW s a w1 w2) : gR s 7 (a + 110) 20 = some (a + 123) := gR_L W.2.2.2.2.2.2.2.2.2.1 0 20 rfl rfl
theorem e7_110_24 (W : WW s a w1 w2) : gR s 7 (a + 110) 24 = some (a + 124) := gR_L W.2.2.2.2.2.2.2.2.2.1 0 24 rfl rfl
theorem e7_110_26 (W : WW s a w1 w2) : gR s 7 (a + 110) 26 = some (a + 125) := gR_L W.2.2.2.2.2.2.2.2.2.1 0 26 rfl rfl
theorem e7_110_27 (W : WW s a w1 w2) : gR s 7 (a + 110) 27 = some (a + 126) := gR_L W.2.2.2.2.2.2.2.2.2.1 0 27 rfl rfl
theorem e7_110_28 (W : WW s a w1 w2) : gR s 7 (a + 110) 28 = some (a + 127) := gR_L W.2.2.2.2.2.2.2.2.2.1 0 28 rfl rfl
theorem e7_110_29 (W : WW s a w1 w2) : gR s 7 (a + 110) 29 = some (a + 128) := gR_L W.2.2.2.2.2.2.2.2.2.1 0 29 rfl rfl
theorem e7_110_30 (W : WW s a w1 w2) : gR s 7 (a + 110) 30 = some (a + 129) := gR_L W.2.2.2.2.2.2.2.2.2.1 0 30 rfl rfl
theorem e7_110_31 (W : WW s a w1 w2) : gR s 7 (a + 110) 31 = some (a + 130) := gR_L W.2.2.2.2.2.2.2.2.2.1 0 31 rfl rfl
theorem e7_110_32 (W : WW s a w1 w2) : gR s 7 (a + 110) 32 = some (a + 131) := gR_L W.2.2.2.2.2.2.2.2.2.1 0 32 rfl rfl
theorem e7_110_33 (W : WW s a w1 w2) : gR s 7 (a + 110) 33 = some (a + 132) := gR_L W.2.2.2.2.2.2.2.2.2.1 0 33 rfl rfl
theorem e7_110_34 (W : WW s a w1 w2) : gR s 7 (a + 110) 34 = some (a + 133) := gR_L W.2.2.2.2.2.2.2.2.2.1 0 34 rfl rfl
theorem e7_110_35 (W : WW s a w1 w2) : gR s 7 (a + 110) 35 = some (a + 134) := gR_L W.2.2.2.2.2.2.2.2.2.1 0 35 rfl rfl
theorem e7_110_36 (W : WW s a w1 w2) : gR s 7 (a + 110) 36 = some (a + 135) := gR_L W.2.2.2.2.2.2.2.2.2.1 0 36 rfl rfl
theorem e7_110_37 (W : WW s a w1 w2) : gR s 7 (a + 110) 37 = some (a + 136) := gR_L W.2.2.2.2.2.2.2.2.2.1 0 37 rfl rfl
theorem e7_110_38 (W : WW s a w1 w2) : gR s 7 (a + 110) 38 = some (a + 137) := gR_L W.2.2.2.2.2.2.2.2.2.1 0 38 rfl rfl
theorem e7_110_40 (W : WW s a w1 w2) : gR s 7 (a + 110) 40 = some (a + 138) := gR_L W.2.2.2.2.2.2.2.2.2.1 0 40 rfl rfl
theorem e7_110_41 (W : WW s a w1 w2) : gR s 7 (a + 110) 41 = some (a + 139) := gR_L W.2.2.2.2.2.2.2.2.2.1 0 41 rfl rfl
theorem e7_110_42 (W : WW s a w1 w2) : gR s 7 (a + 110) 42 = some (a + 140) := gR_L W.2.2.2.2.2.2.2.2.2.1 0 42 rfl rfl
theorem e7_110_43 (W : WW s a w1 w2) : gR s 7 (a + 110) 43 = some (a + 141) := gR_L W.2.2.2.2.2.2.2.2.2.1 0 43 rfl rfl
theorem e7_110_44 (W : WW s a w1 w2) : gR s 7 (a + 110) 44 = some (a + 142) := gR_L W.2.2.2.2.2.2.2.2.2.1 0 44 rfl rfl
theorem e7_110_52 (W : WW s a w1 w2) : gR s 7 (a + 110) 52 = some (a + 143) := gR_L W.2.2.2.2.2.2.2.2.2.1 0 52 rfl rfl
theorem e7_110_53 (W : WW s a w1 w2) : gR s 7 (a + 110) 53 = some (a + 144) := gR_L W.2.2.2.2.2.2.2.2.2.1 0 53 rfl rfl
theorem e7_110_54 (W : WW s a w1 w2) : gR s 7 (a + 110) 54 = some (a + 145) := gR_L W.2.2.2.2.2.2.2.2.2.1 0 54 rfl rfl
theorem e7_110_55 (W : WW s a w1 w2) : gR s 7 (a + 110) 55 = some (a + 146) := gR_L W.2.2.2.2.2.2.2.2.2.1 0 55 rfl rfl
theorem e7_110_56 (W : WW s a w1 w2) : gR s 7 (a + 110) 56 = some (a + 147) := gR_L W.2.2.2.2.2.2.2.2.2.1 0 56 rfl rfl
theorem e7_110_57 (W : WW s a w1 w2) : gR s 7 (a + 110) 57 = some (a + 148) := gR_L W.2.2.2.2.2.2.2.2.2.1 0 57 rfl rfl
theorem e7_110_58 (W : WW s a w1 w2) : gR s 7 (a + 110) 58 = some (a + 149) := gR_L W.2.2.2.2.2.2.2.2.2.1 0 58 rfl rfl
theorem e7_110_59 (W : WW s a w1 w2) : gR s 7 (a + 110) 59 = some (a + 150) := gR_L W.2.2.2.2.2.2.2.2.2.1 0 59 rfl rfl
theorem e7_110_60 (W : WW s a w1 w2) : gR s 7 (a + 110) 60 = some (a + 151) := gR_L W.2.2.2.2.2.2.2.2.2.1 0 60 rfl rfl
theorem e7_110_62 (W : WW s a w1 w2) : gR s 7 (a + 110) 62 = some (a + 152) := gR_L W.2.2.2.2.2.2.2.2.2.1 0 62 rfl rfl
theorem e7_110_63 (W : WW s a w1 w2) : gR s 7 (a + 110) 63 = some (a + 153) := gR_L W.2.2.2.2.2.2.2.2.2.1 0 63 rfl rfl
theorem e7_110_64 (W : WW s a w1 w2) : gR s 7 (a + 110) 64 = some (a + 154) := gR_L W.2.2.2.2.2.2.2.2.2.1 0 64 rfl rfl
theorem e7_110_65 (W : WW s a w1 w2) : gR s 7 (a + 110) 65 = some (a + 155) := gR_L W.2.2.2.2.2.2.2.2.2.1 0 65 rfl rfl
theorem e7_110_66 (W : WW s a w1 w2) : gR s 7 (a + 110) 66 = some (a + 156) := gR_L W.2.2.2.2.2.2.2.2.2.1 0 66 rfl rfl
theorem i6_0_2 (W : WW s a w1 w2) : gI s I 6 (a) 2 = some (I (a) 2) := gI_L W.1 0 2 rfl rfl
theorem p6_0_2 (W : WW s a w1 w2) {v : Int32} : pI s I 6 (a) 2 v = some (wr I (a) 2 v) := pI_L W.1 0 2 rfl rfl v
theorem i6_0_6 (W : WW s a w1 w2) : gI s I 6 (a) 6 = some (I (a) 6) := gI_L W.1 0 6 rfl rfl
theorem p6_0_6 (W : WW s a w1 w2) {v : Int32} : pI s I 6 (a) 6 v = some (wr I (a) 6 v) := pI_L W.1 0 6 rfl rfl v
theorem i6_0_7 (W : WW s a w1 w2) : gI s I 6 (a) 7 = some (I (a) 7) := gI_L W.1 0 7 rfl rfl
theorem p6_0_7 (W : WW s a w1 w2) {v : Int32} : pI s I 6 (a) 7 v = some (wr I (a) 7 v) := pI_L W.1 0 7 rfl rfl v
theorem i2_1_0 (W : WW s a w1 w2) : gI s I 2 (a + 1) 0 = some (I (a + 1) 0) := gI_L W.1 1 0 rfl rfl
theorem p2_1_0 (W : WW s a w1 w2) {v : Int32} : pI s I 2 (a + 1) 0 v = some (wr I (a + 1) 0 v) := pI_L W.1 1 0 rfl rfl v
theorem i2_1_5 (W : WW s a w1 w2) : gI s I 2 (a + 1) 5 = some (I (a + 1) 5) := gI_L W.1 1 5 rfl rfl
theorem p2_1_5 (W : WW s a w1 w2) {v : Int32} : pI s I 2 (a + 1) 5 v = some (wr I (a + 1) 5 v) := pI_L W.1 1 5 rfl rfl v
theorem i2_1_7 (W : WW s a w1 w2) : gI s I 2 (a + 1) 7 = some (I (a + 1) 7) := gI_L W.1 1 7 rfl rfl
theorem p2_1_7 (W : WW s a w1 w2) {v : Int32} : pI s I 2 (a + 1) 7 v = some (wr I (a + 1) 7 v) := pI_L W.1 1 7 rfl rfl v
theorem i2_29_0 (W : WW s a w1 w2) : gI s I 2 (a + 29) 0 = some (I (a + 29) 0) := gI_L W.2.2.2.1 0 0 rfl rfl
theorem p2_29_0 (W : WW s a w1 w2) {v : Int32} : pI s I 2 (a + 29) 0 v = some (wr I (a + 29) 0 v) := pI_L W.2.2.2.1 0 0 rfl rfl v
theorem i2_29_5 (W : WW s a w1 w2) : gI s I 2 (a + 29) 5 = some (I (a + 29) 5) := gI_L W.2.2.2.1 0 5 rfl rfl
theorem p2_29_5 (W : WW s a w1 w2) {v : Int32} : pI s I 2 (a + 29) 5 v = some (wr I (a + 29) 5 v) := pI_L W.2.2.2.1 0 5 rfl rfl v
theorem i2_29_7 (W : WW s a w1 w2) : gI s I 2 (a + 29) 7 = some (I (a + 29) 7) := gI_L W.2.2.2.1 0 7 rfl rfl
theorem p2_29_7 (W : WW s a w1 w2) {v : Int32} : pI s I 2 (a + 29) 7 v = some (wr I (a + 29) 7 v) := pI_L W.2.2.2.1 0 7 rfl rfl v
theorem i0_94_0 (W : WW s a w1 w2) : gI s I 0 (a + 94) 0 = some (I (a + 94) 0) := gI_L W.2.2.2.2.2.2.2.1 0 0 rfl rfl
theorem p0_94_0 (W : WW s a w1 w2) {v : Int32} : pI s I 0 (a + 94) 0 v = some (wr I (a + 94) 0 v) := pI_L W.2.2.2.2.2.2.2.1 0 0 rfl rfl v
theorem i0_94_1 (W : WW s a w1 w2) : gI s I 0 (a + 94) 1 = some (I (a + 94) 1) := gI_L W.2.2.2.2.2.2.2.1 0 1 rfl rfl
theorem p0_94_1 (W : WW s a w1 w2) {v : Int32} : pI s I 0 (a + 94) 1 v = some (wr I (a + 94) 1 v) := pI_L W.2.2.2.2.2.2.2.1 0 1 rfl rfl v
theorem i0_94_2 (W : WW s a w1 w2) : gI s I 0 (a + 94) 2 = some (I (a + 94) 2) := gI_L W.2.2.2.2.2.2.2.1 0 2 rfl rfl
theorem p0_94_2 (W : WW s a w1 w2) {v : Int32} : pI s I 0 (a + 94) 2 v = some (wr I (a + 94) 2 v) := pI_L W.2.2.2.2.2.2.2.1 0 2 rfl rfl v
theorem i0_94_4 (W : WW s a w1 w2) : gI s I 0 (a + 94) 4 = some (I (a + 94) 4) := gI_L W.2.2.2.2.2.2.2.1 0 4 rfl rfl
theorem p0_94_4 (W : WW s a w1 w2) {v : Int32} : pI s I 0 (a + 94) 4 v = some (wr I (a + 94) 4 v) := pI_L W.2.2.2.2.2.2.2.1 0 4 rfl rfl v
theorem i7_110_0 (W : WW s a w1 w2) : gI s I 7 (a + 110) 0 = some (I (a + 110) 0) := gI_L W.2.2.2.2.2.2.2.2.2.1 0 0 rfl rfl
theorem p7_110_0 (W : WW s a w1 w2) {v : Int32} : pI s I 7 (a + 110) 0 v = some (wr I (a + 110) 0 v) := pI_L W.2.2.2.2.2.2.2.2.2.1 0 0 rfl rfl v
theorem i7_110_1 (W : WW s a w1 w2) : gI s I 7 (a + 110) 1 = some (I (a + 110) 1) := gI_L W.2.2.2.2.2.2.2.2.2.1 0 1 rfl rfl
theorem p7_110_1 (W : WW s a w1 w2) {v : Int32} : pI s I 7 (a + 110) 1 v = some (wr I (a + 110) 1 v) := pI_L W.2.2.2.2.2.2.2.2.2.1 0 1 rfl rfl v
theorem i7_110_2 (W : WW s a w1 w2) : gI s I 7 (a + 110) 2 = some (I (a + 110) 2) := gI_L W.2.2.2.2.2.2.2.2.2.1 0 2 rfl rfl
theorem p7_110_2 (W : WW s a w1 w2) {v : Int32} : pI s I 7 (a + 110) 2 v = some (wr I (a + 110) 2 v) := pI_L W.2.2.2.2.2.2.2.2.2.1 0 2 rfl rfl v
theorem i7_110_7 (W : WW s a w1 w2) : gI s I 7 (a + 110) 7 = some (I (a + 110) 7) := gI_L W.2.2.2.2.2.2.2.2.2.1 0 7 rfl rfl
theorem p7_110_7 (W : WW s a w1 w2) {v : Int32} : pI s I 7 (a + 110) 7 v = some (wr I (a + 110) 7 v) := pI_L W.2.2.2.2.2.2.2.2.2.1 0 7 rfl rfl v
theorem i7_110_8 (W : WW s a w1 w2) : gI s I 7 (a + 110) 8 = some (I (a + 110) 8) := gI_L W.2.2.2.2.2.2.2.2.2.1 0 8 rfl rfl
theorem p7_110_8 (W : WW s a w1 w2) {v : Int32} : pI s I 7 (a + 110) 8 v = some (wr I (a + 110) 8 v) := pI_L W.2.2.2.2.2.2.2.2.2.1 0 8 rfl rfl v
theorem i7_110_9 (W : WW s a w1 w2) : gI s I 7 (a + 110) 9 = some (I (a + 110) 9) := gI_L W.2.2.2.2.2.2.2.2.2.1 0 9 rfl rfl
theorem p7_110_9 (W : WW s a w1 w2) {v : Int32} : pI s I 7 (a + 110) 9 v = some (wr I (a + 110) 9 v) := pI_L W.2.2.2.2.2.2.2.2.2.1 0 9 rfl rfl v
theorem i7_110_10 (W : WW s a w1 w2) : gI s I 7 (a + 110) 10 = some (I (a + 110) 10) := gI_L W.2.2.2.2.2.2.2.2.2.1 0 10 rfl rfl
theorem p7_110_10 (W : WW s a w1 w2) {v : Int32} : pI s I 7 (a + 110) 10 v = some (wr I (a + 110) 10 v) := pI_L W.2.2.2.2.2.2.2.2.2.1 0 10 rfl rfl v
theorem i7_110_11 (W : WW s a w1 w2) : gI s I 7 (a + 110) 11 = some (I (a + 110) 11) := gI_L W.2.2.2.2.2.2.2.2.2.1 0 11 rfl rfl
theorem p7_110_11 (W : WW s a w1 w2) {v : Int32} : pI s I 7 (a + 110) 11 v = some (wr I (a + 110) 11 v) := pI_L W.2.2.2.2.2.2.2.2.2.1 0 11 rfl rfl v
theorem i7_110_21 (W : WW s a w1 w2) : gI s I 7 (a + 110) 21 = some (I (a + 110) 21) := gI_L W.2.2.2.2.2.2.2.2.2.1 0 21 rfl rfl
theorem p7_110_21 (W : WW s a w1 w2) {v : Int32} : pI s I 7 (a + 110) 21 v = some (wr I (a + 110) 21 v) := pI_L W.2.2.2.2.2.2.2.2.2.1 0 21 rfl rfl v
theorem i7_110_22 (W : WW s a w1 w2) : gI s I 7 (a + 110) 22 = some (I (a + 110) 22) := gI_L W.2.2.2.2.2.2.2.2.2.1 0 22 rfl rfl
theorem p7_110_22 (W : WW s a w1 w2) {v : Int32} : pI s I 7 (a + 110) 22 v = some (wr I (a + 110) 22 v) := pI_L W.2.2.2.2.2.2.2.2.2.1 0 22 rfl rfl v
theorem i7_110_23 (W : WW s a w1 w2) : gI s I 7 (a + 110) 23 = some (I (a + 110) 23) := gI_L W.2.2.2.2.2.2.2.2.2.1 0 23 rfl rfl
theorem p7_110_23 (W : WW s a w1 w2) {v : Int32} : pI s I 7 (a + 110) 23 v = some (wr I (a + 110) 23 v) := pI_L W.2.2.2.2.2.2.2.2.2.1 0 23 rfl rfl v
theorem i7_110_25 (W : WW s a w1 w2) : gI s I 7 (a + 110) 25 = some (I (a + 110) 25) := gI_L W.2.2.2.2.2.2.2.2.2.1 0 25 rfl rfl
theorem p7_110_25 (W : WW s a w1 w2) {v : Int32} : pI s I 7 (a + 110) 25 v = some (wr I (a + 110) 25 v) := pI_L W.2.2.2.2.2.2.2.2.2.1 0 25 rfl rfl v
theorem i7_110_39 (W : WW s a w1 w2) : gI s I 7 (a + 110) 39 = some (I (a + 110) 39) := gI_L W.2.2.2.2.2.2.2.2.2.1 0 39 rfl rfl
theorem p7_110_39 (W : WW s a w1 w2) {v : Int32} : pI s I 7 (a + 110) 39 v = some (wr I (a + 110) 39 v) := pI_L W.2.2.2.2.2.2.2.2.2.1 0 39 rfl rfl v
theorem i7_110_45 (W : WW s a w1 w2) : gI s I 7 (a + 110) 45 = some (I (a + 110) 45) := gI_L W.2.2.2.2.2.2.2.2.2.1 0 45 rfl rfl
theorem p7_110_45 (W : WW s a w1 w2) {v : Int32} : pI s I 7 (a + 110) 45 v = some (wr I (a + 110) 45 v) := pI_L W.2.2.2.2.2.2.2.2.2.1 0 45 rfl rfl v
theorem i7_110_46 (W : WW s a w1 w2) : gI s I 7 (a + 110) 46 = some (I (a + 110) 46) := gI_L W.2.2.2.2.2.2.2.2.2.1 0 46 rfl rfl
theorem p7_110_46 (W : WW s a w1 w2) {v : Int32} : pI s I 7 (a + 110) 46 v = some (wr I (a + 110) 46 v) := pI_L W.2.2.2.2.2.2.2.2.2.1 0 46 rfl rfl v
theorem i7_110_47 (W : WW s a w1 w2) : gI s I 7 (a + 110) 47 = some (I (a + 110) 47) := gI_L W.2.2.2.2.2.2.2.2.2.1 0 47 rfl rfl
theorem p7_110_47 (W : WW s a w1 w2) {v : Int32} : pI s I 7 (a + 110) 47 v = some (wr I (a + 110) 47 v) := pI_L W.2.2.2.2.2.2.2.2.2.1 0 47 rfl rfl v
theorem i7_110_48 (W : WW s a w1 w2) : gI s I 7 (a + 110) 48 = some (I (a + 110) 48) := gI_L W.2.2.2.2.2.2.2.2.2.1 0 48 rfl rfl
theorem p7_110_48 (W : WW s a w1 w2) {v : Int32} : pI s I 7 (a + 110) 48 v = some (wr I (a + 110) 48 v) := pI_L W.2.2.2.2.2.2.2.2.2.1 0 48 rfl rfl v
theorem i7_110_49 (W : WW s a w1 w2) : gI s I 7 (a + 110) 49 = some (I (a + 110) 49) := gI_L W.2.2.2.2.2.2.2.2.2.1 0 49 rfl rfl
theorem p7_110_49 (W : WW s a w1 w2) {v : Int32} : pI s I 7 (a + 110) 49 v = some (wr I (a + 110) 49 v) := pI_L W.2.2.2.2.2.2.2.2.2.1 0 49 rfl rfl v
theorem i7_110_50 (W : WW s a w1 w2) : gI s I 7 (a + 110) 50 = some (I (a + 110) 50) := gI_L W.2.2.2.2.2.2.2.2.2.1 0 50 rfl rfl
theorem p7_110_50 (W : WW s a w1 w2) {v : Int32} : pI s I 7 (a + 110) 50 v = some (wr I (a + 110) 50 v) := pI_L W.2.2.2.2.2.2.2.2.2.1 0 50 rfl rfl v
theorem i7_110_51 (W : WW s a w1 w2) : gI s I 7 (a + 110) 51 = some (I (a + 110) 51) := gI_L W.2.2.2.2.2.2.2.2.2.1 0 51 rfl rfl
theorem p7_110_51 (W : WW s a w1 w2) {v : Int32} : pI s I 7 (a + 110) 51 v = some (wr I (a + 110) 51 v) := pI_L W.2.2.2.2.2.2.2.2.2.1 0 51 rfl rfl v
theorem i7_110_61 (W : WW s a w1 w2) : gI s I 7 (a + 110) 61 = some (I (a + 110) 61) := gI_L W.2.2.2.2.2.2.2.2.2.1 0 61 rfl rfl
theorem p7_110_61 (W : WW s a w1 w2) {v : Int32} : pI s I 7 (a + 110) 61 v = some (wr I (a + 110) 61 v) := pI_L W.2.2.2.2.2.2.2.2.2.1 0 61 rfl rfl v
theorem c6_0 (W : WW s a w1 w2) : ck s 6 (a) = some () := ck_L W.1 0 rfl
theorem c2_1 (W : WW s a w1 w2) : ck s 2 (a + 1) = some () := ck_L W.1 1 rfl
theorem c2_29 (W : WW s a w1 w2) : ck s 2 (a + 29) = some () := ck_L W.2.2.2.1 0 rfl
theorem c5_50 (W : WW s a w1 w2) : ck s 5 (a + 50) = some () := ck_L W.2.2.2.2.2.1 0 rfl
theorem c0_94 (W : WW s a w1 w2) : ck s 0 (a + 94) = some () := ck_L W.2.2.2.2.2.2.2.1 0 rfl
theorem c7_110 (W : WW s a w1 w2) : ck s 7 (a + 110) = some () := ck_L W.2.2.2.2.2.2.2.2.2.1 0 rfl
theorem l9 (W : WW s a w1 w2) : aL s (a + 9) = some (nI 2) := aL_L W.2.2.1 0 rfl (by decide)
theorem r9 (W : WW s a w1 w2) (hj : j < 2) : aI s I 0 (a + 9) (nI j) = some (I (a + 9) j) := aI_L W.2.2.1 0 rfl hj (by omega)
theorem s9 (W : WW s a w1 w2) {v : Int32} (hj : j < 2) : sI s I (a + 9) (nI j) v = some (wr I (a + 9) j v) := sI_L W.2.2.1 0 rfl hj (by omega) v
theorem l10 (W : WW s a w1 w2) : aL s (a + 10) = some (nI 3) := aL_L W.2.2.1 1 rfl (by decide)
theorem r10 (W : WW s a w1 w2) (hj : j < 3) : aI s I 0 (a + 10) (nI j) = some (I (a + 10) j) := aI_L W.2.2.1 1 rfl hj (by omega)
theorem s10 (W : WW s a w1 w2) {v : Int32} (hj : j < 3) : sI s I (a + 10) (nI j) v = some (wr I (a + 10) j v) := sI_L W.2.2.1 1 rfl hj (by omega) v
theorem l28 (W : WW s a w1 w2) : aL s (a + 28) = some (nI 24) := aL_L W.2.2.1 19 rfl (by decide)
theorem r28 (W : WW s a w1 w2) (hj : j < 24) : aI s I 0 (a + 28) (nI j) = some (I (a + 28) j) := aI_L W.2.2.1 19 rfl hj (by omega)
theorem s28 (W : WW s a w1 w2) {v : Int32} (hj : j < 24) : sI s I (a + 28) (nI j) v = some (wr I (a + 28) j v) := sI_L W.2.2.1 19 rfl hj (by omega) v
theorem l30 (W : WW s a w1 w2) : aL s (a + 30) = some (nI 2) := aL_L W.2.2.2.2.1 0 rfl (by decide)
theorem r30 (W : WW s a w1 w2) (hj : j < 2) : aI s I 0 (a + 30) (nI j) = some (I (a + 30) j) := aI_L W.2.2.2.2.1 0 rfl hj (by omega)
theorem s30 (W : WW s a w1 w2) {v : Int32} (hj : j < 2) : sI s I (a + 30) (nI j) v = some (wr I (a + 30) j v) := sI_L W.2.2.2.2.1 0 rfl hj (by omega) v
theorem l31 (W : WW s a w1 w2) : aL s (a + 31) = some (nI 3) := aL_L W.2.2.2.2.1 1 rfl (by decide)
theorem r31 (W : WW s a w1 w2) (hj : j < 3) : aI s I 0 (a + 31) (nI j) = some (I (a + 31) j) := aI_L W.2.2.2.2.1 1 rfl hj (by omega)
theorem s31 (W : WW s a w1 w2) {v : Int32} (hj : j < 3) : sI s I (a + 31) (nI j) v = some (wr I (a + 31) j v) := sI_L W.2.2.2.2.1 1 rfl hj (by omega) v
theorem l49 (W : WW s a w1 w2) : aL s (a + 49) = some (nI 24) := aL_L W.2.2.2.2.1 19 rfl (by decide)
theorem r49 (W : WW s a w1 w2) (hj : j < 24) : aI s I 0 (a + 49) (nI j) = some (I (a + 49) j) := aI_L W.2.2.2.2.1 19 rfl hj (by omega)
theorem s49 (W : WW s a w1 w2) {v : Int32} (hj : j < 24) : sI s I (a + 49) (nI j) v = some (wr I (a + 49) j v) := sI_L W.2.2.2.2.1 19 rfl hj (by omega) v
theorem l51 (W : WW s a w1 w2) : aL s (a + 51) = some (nI 48) := aL_L W.2.2.2.2.2.2.1 0 rfl (by decide)
theorem r51 (W : WW s a w1 w2) (hj : j < 48) : aI s I 0 (a + 51) (nI j) = some (I (a + 51) j) := aI_L W.2.2.2.2.2.2.1 0 rfl hj (by omega)
theorem s51 (W : WW s a w1 w2) {v : Int32} (hj : j < 48) : sI s I (a + 51) (nI j) v = some (wr I (a + 51) j v) := sI_L W.2.2.2.2.2.2.1 0 rfl hj (by omega) v
theorem l93 (W : WW s a w1 w2) : aL s (a + 93) = some (nI 10) := aL_L W.2.2.2.2.2.2.1 42 rfl (by decide)
theorem r93 (W : WW s a w1 w2) (hj : j < 10) : aI s I 0 (a + 93) (nI j) = some (I (a + 93) j) := aI_L W.2.2.2.2.2.2.1 42 rfl hj (by omega)
theorem s93 (W : WW s a w1 w2) {v : Int32} (hj : j < 10) : sI s I (a + 93) (nI j) v = some (wr I (a + 93) j v) := sI_L W.2.2.2.2.2.2.1 42 rfl hj (by omega) v
theorem l95 (W : WW s a w1 w2) : aL s (a + 95) = some (nI 20) := aL_L W.2.2.2.2.2.2.2.1 1 rfl (by decide)
theorem r95 (W : WW s a w1 w2) (hj : j < 20) : aI s I 0 (a + 95) (nI j) = some (I (a + 95) j) := aI_L W.2.2.2.2.2.2.2.1 1 rfl hj (by omega)
theorem s95 (W : WW s a w1 w2) {v : Int32} (hj : j < 20) : sI s I (a + 95) (nI j) v = some (wr I (a + 95) j v) := sI_L W.2.2.2.2.2.2.2.1 1 rfl hj (by omega) v
theorem l96 (W : WW s a w1 w2) : aL s (a + 96) = some (nI 100) := aL_L W.2.2.2.2.2.2.2.1 2 rfl (by decide)
theorem r96 (W : WW s a w1 w2) (hj : j < 100) : aI s I 0 (a + 96) (nI j) = some (I (a + 96) j) := aI_L W.2.2.2.2.2.2.2.1 2 rfl hj (by omega)
theorem s96 (W : WW s a w1 w2) {v : Int32} (hj : j < 100) : sI s I (a + 96) (nI j) v = some (wr I (a + 96) j v) := sI_L W.2.2.2.2.2.2.2.1 2 rfl hj (by omega) v
theorem l111 (W : WW s a w1 w2) : aL s (a + 111) = some (nI 2) := aL_L W.2.2.2.2.2.2.2.2.2.2.1 0 rfl (by decide)
theorem r111 (W : WW s a w1 w2) (hj : j < 2) : aI s I 0 (a + 111) (nI j) = some (I (a + 111) j) := aI_L W.2.2.2.2.2.2.2.2.2.2.1 0 rfl hj (by omega)
theorem s111 (W : WW s a w1 w2) {v : Int32} (hj : j < 2) : sI s I (a + 111) (nI j) v = some (wr I (a + 111) j v) := sI_L W.2.2.2.2.2.2.2.2.2.2.1 0 rfl hj (by omega) v
theorem l112 (W : WW s a w1 w2) : aL s (a + 112) = some (nI 5) := aL_L W.2.2.2.2.2.2.2.2.2.2.1 1 rfl (by decide)
theorem r112 (W : WW s a w1 w2) (hj : j < 5) : aI s I 0 (a + 112) (nI j) = some (I (a + 112) j) := aI_L W.2.2.2.2.2.2.2.2.2.2.1 1 rfl hj (by omega)
theorem s112 (W : WW s a w1 w2) {v : Int32} (hj : j < 5) : sI s I (a + 112) (nI j) v = some (wr I (a + 112) j v) := sI_L W.2.2.2.2.2.2.2.2.2.2.1 1 rfl hj (by omega) v
theorem l113 (W : WW s a w1 w2) : aL s (a + 113) = some (nI 5) := aL_L W.2.2.2.2.2.2.2.2.2.2.1 2 rfl (by decide)
theorem r113 (W : WW s a w1 w2) (hj : j < 5) : aI s I 0 (a + 113) (nI j) = some (I (a + 113) j) := aI_L W.2.2.2.2.2.2.2.2.2.2.1 2 rfl hj (by omega)
theorem s113 (W : WW s a w1 w2) {v : Int32} (hj : j < 5) : sI s I (a + 113) (nI j) v = some (wr I (a + 113) j v) := sI_L W.2.2.2.2.2.2.2.2.2.2.1 2 rfl hj (by omega) v
theorem l114 (W : WW s a w1 w2) : aL s (a + 114) = some (nI 5) := aL_L W.2.2.2.2.2.2.2.2.2.2.1 3 rfl (by decide)
theorem r114 (W : WW s a w1 w2) (hj : j < 5) : aI s I 0 (a + 114) (nI j) = some (I (a + 114) j) := aI_L W.2.2.2.2.2.2.2.2.2.2.1 3 rfl hj (by omega)
theorem s114 (W : WW s a w1 w2) {v : Int32} (hj : j < 5) : sI s I (a + 114) (nI j) v = some (wr I (a + 114) j v) := sI_L W.2.2.2.2.2.2.2.2.2.2.1 3 rfl hj (by omega) v
theorem l115 (W : WW s a w1 w2) : aL s (a + 115) = some (nI 100) := aL_L W.2.2.2.2.2.2.2.2.2.2.1 4 rfl (by decide)
theorem r115 (W : WW s a w1 w2) (hj : j < 100) : aI s I 0 (a + 115) (nI j) = some (I (a + 115) j) := aI_L W.2.2.2.2.2.2.2.2.2.2.1 4 rfl hj (by omega)
theorem s115 (W : WW s a w1 w2) {v : Int32} (hj : j < 100) : sI s I (a + 115) (nI j) v = some (wr I (a + 115) j v) := sI_L W.2.2.2.2.2.2.2.2.2.2.1 4 rfl hj (by omega) v
theorem l116 (W : WW s a w1 w2) : aL s (a + 116) = some (nI 5) := aL_L W.2.2.2.2.2.2.2.2.2.2.1 5 rfl (by decide)
theorem r116 (W : WW s a w1 w2) (hj : j < 5) : aI s I 0 (a + 116) (nI j) = some (I (a + 116) j) := aI_L W.2.2.2.2.2.2.2.2.2.2.1 5 rfl hj (by omega)
theorem s116 (W : WW s a w1 w2) {v : Int32} (hj : j < 5) : sI s I (a + 116) (nI j) v = some (wr I (a + 116) j v) := sI_L W.2.2.2.2.2.2.2.2.2.2.1 5 rfl hj (by omega) v
theorem l117 (W : WW s a w1 w2) : aL s (a + 117) = some (nI 60) := aL_L W.2.2.2.2.2.2.2.2.2.2.1 6 rfl (by decide)
theorem r117 (W : WW s a w1 w2) (hj : j < 60) : aI s I 0 (a + 117) (nI j) = some (I (a + 117) j) := aI_L W.2.2.2.2.2.2.2.2.2.2.1 6 rfl hj (by omega)
theorem s117 (W : WW s a w1 w2) {v : Int32} (hj : j < 60) : sI s I (a + 117) (nI j) v = some (wr I (a + 117) j v) := sI_L W.2.2.2.2.2.2.2.2.2.2.1 6 rfl hj (by omega) v
theorem l118 (W : WW s a w1 w2) : aL s (a + 118) = some (nI 60) := aL_L W.2.2.2.2.2.2.2.2.2.2.1 7 rfl (by decide)
theorem r118 (W : WW s a w1 w2) (hj : j < 60) : aI s I 0 (a + 118) (nI j) = some (I (a + 118) j) := aI_L W.2.2.2.2.2.2.2.2.2.2.1 7 rfl hj (by omega)
theorem s118 (W : WW s a w1 w2) {v : Int32} (hj : j < 60) : sI s I (a + 118) (nI j) v = some (wr I (a + 118) j v) := sI_L W.2.2.2.2.2.2.2.2.2.2.1 7 rfl hj (by omega) v
theorem l119 (W : WW s a w1 w2) : aL s (a + 119) = some (nI 60) := aL_L W.2.2.2.2.2.2.2.2.2.2.1 8 rfl (by decide)
theorem r119 (W : WW s a w1 w2) (hj : j < 60) : aI s I 0 (a + 119) (nI j) = some (I (a + 119) j) := aI_L W.2.2.2.2.2.2.2.2.2.2.1 8 rfl hj (by omega)
theorem s119 (W : WW s a w1 w2) {v : Int32} (hj : j < 60) : sI s I (a + 119) (nI j) v = some (wr I (a + 119) j v) := sI_L W.2.2.2.2.2.2.2.2.2.2.1 8 rfl hj (by omega) v
theorem l120 (W : WW s a w1 w2) : aL s (a + 120) = some (nI 60) := aL_L W.2.2.2.2.2.2.2.2.2.2.1 9 rfl (by decide)
theorem r120 (W : WW s a w1 w2) (hj : j < 60) : aI s I 0 (a + 120) (nI j) = some (I (a + 120) j) := aI_L W.2.2.2.2.2.2.2.2.2.2.1 9 rfl hj (by omega)
theorem s120 (W : WW s a w1 w2) {v : Int32} (hj : j < 60) : sI s I (a + 120) (nI j) v = some (wr I (a + 120) j v) := sI_L W.2.2.2.2.2.2.2.2.2.2.1 9 rfl hj (by omega) v
theorem l121 (W : WW s a w1 w2) : aL s (a + 121) = some (nI 60) := aL_L W.2.2.2.2.2.2.2.2.2.2.1 10 rfl (by decide)
theorem r121 (W : WW s a w1 w2) (hj : j < 60) : aI s I 0 (a + 121) (nI j) = some (I (a + 121) j) := aI_L W.2.2.2.2.2.2.2.2.2.2.1 10 rfl hj (by omega)
theorem s121 (W : WW s a w1 w2) {v : Int32} (hj : j < 60) : sI s I (a + 121) (nI j) v = some (wr I (a + 121) j v) := sI_L W.2.2.2.2.2.2.2.2.2.2.1 10 rfl hj (by omega) v
theorem l122 (W : WW s a w1 w2) : aL s (a + 122) = some (nI 500) := aL_L W.2.2.2.2.2.2.2.2.2.2.1 11 rfl (by decide)
theorem r122 (W : WW s a w1 w2) (hj : j < 500) : aI s I 0 (a + 122) (nI j) = some (I (a + 122) j) := aI_L W.2.2.2.2.2.2.2.2.2.2.1 11 rfl hj (by omega)
theorem s122 (W : WW s a w1 w2) {v : Int32} (hj : j < 500) : sI s I (a + 122) (nI j) v = some (wr I (a + 122) j v) := sI_L W.2.2.2.2.2.2.2.2.2.2.1 11 rfl hj (by omega) v
theorem l123 (W : WW s a w1 w2) : aL s (a + 123) = some (nI 101) := aL_L W.2.2.2.2.2.2.2.2.2.2.1 12 rfl (by decide)
theorem r123 (W : WW s a w1 w2) (hj : j < 101) : aI s I 0 (a + 123) (nI j) = some (I (a + 123) j) := aI_L W.2.2.2.2.2.2.2.2.2.2.1 12 rfl hj (by omega)
theorem s123 (W : WW s a w1 w2) {v : Int32} (hj : j < 101) : sI s I (a + 123) (nI j) v = some (wr I (a + 123) j v) := sI_L W.2.2.2.2.2.2.2.2.2.2.1 12 rfl hj (by omega) v
theorem l125 (W : WW s a w1 w2) : aL s (a + 125) = some (nI 24) := aL_L W.2.2.2.2.2.2.2.2.2.2.1 14 rfl (by decide)
theorem r125 (W : WW s a w1 w2) (hj : j < 24) : aI s I 0 (a + 125) (nI j) = some (I (a + 125) j) := aI_L W.2.2.2.2.2.2.2.2.2.2.1 14 rfl hj (by omega)
theorem s125 (W : WW s a w1 w2) {v : Int32} (hj : j < 24) : sI s I (a + 125) (nI j) v = some (wr I (a + 125) j v) := sI_L W.2.2.2.2.2.2.2.2.2.2.1 14 rfl hj (by omega) v
theorem l126 (W : WW s a w1 w2) : aL s (a + 126) = some (nI 48) := aL_L W.2.2.2.2.2.2.2.2.2.2.1 15 rfl (by decide)
theorem r126 (W : WW s a w1 w2) (hj : j < 48) : aI s I 0 (a + 126) (nI j) = some (I (a + 126) j) := aI_L W.2.2.2.2.2.2.2.2.2.2.1 15 rfl hj (by omega)
theorem s126 (W : WW s a w1 w2) {v : Int32} (hj : j < 48) : sI s I (a + 126) (nI j) v = some (wr I (a + 126) j v) := sI_L W.2.2.2.2.2.2.2.2.2.2.1 15 rfl hj (by omega) v
theorem l127 (W : WW s a w1 w2) : aL s (a + 127) = some (nI 5) := aL_L W.2.2.2.2.2.2.2.2.2.2.1 16 rfl (by decide)
theorem r127 (W : WW s a w1 w2) (hj : j < 5) : aI s I 0 (a + 127) (nI j) = some (I (a + 127) j) := aI_L W.2.2.2.2.2.2.2.2.2.2.1 16 rfl hj (by omega)
theorem s127 (W : WW s a w1 w2) {v : Int32} (hj : j < 5) : sI s I (a + 127) (nI j) v = some (wr I (a + 127) j v) := sI_L W.2.2.2.2.2.2.2.2.2.2.1 16 rfl hj (by omega) v
theorem l128 (W : WW s a w1 w2) : aL s (a + 128) = some (nI 5) := aL_L W.2.2.2.2.2.2.2.2.2.2.1 17 rfl (by decide)
theorem r128 (W : WW s a w1 w2) (hj : j < 5) : aI s I 0 (a + 128) (nI j) = some (I (a + 128) j) := aI_L W.2.2.2.2.2.2.2.2.2.2.1 17 rfl hj (by omega)
theorem s128 (W : WW s a w1 w2) {v : Int32} (hj : j < 5) : sI s I (a + 128) (nI j) v = some (wr I (a + 128) j v) := sI_L W.2.2.2.2.2.2.2.2.2.2.1 17 rfl hj (by omega) v
theorem l129 (W : WW s a w1 w2) : aL s (a + 129) = some (nI 5) := aL_L W.2.2.2.2.2.2.2.2.2.2.1 18 rfl (by decide)
theorem r129 (W : WW s a w1 w2) (hj : j < 5) : aI s I 0 (a + 129) (nI j) = some (I (a + 129) j) := aI_L W.2.2.2.2.2.2.2.2.2.2.1 18 rfl hj (by omega)
theorem s129 (W : WW s a w1 w2) {v : Int32} (hj : j < 5) : sI s I (a + 129) (nI j) v = some (wr I (a + 129) j v) := sI_L W.2.2.2.2.2.2.2.2.2.2.1 18 rfl hj (by omega) v
theorem l130 (W : WW s a w1 w2) : aL s (a + 130) = some (nI 5) := aL_L W.2.2.2.2.2.2.2.2.2.2.1 19 rfl (by decide)
theorem r130 (W : WW s a w1 w2) (hj : j < 5) : aI s I 0 (a + 130) (nI j) = some (I (a + 130) j) := aI_L W.2.2.2.2.2.2.2.2.2.2.1 19 rfl hj (by omega)
theorem s130 (W : WW s a w1 w2) {v : Int32} (hj : j < 5) : sI s I (a + 130) (nI j) v = some (wr I (a + 130) j v) := sI_L W.2.2.2.2.2.2.2.2.2.2.1 19 rfl hj (by omega) v
theorem l131 (W : WW s a w1 w2) : aL s (a + 131) = some (nI 5) := aL_L W.2.2.2.2.2.2.2.2.2.2.1 20 rfl (by decide)
theorem r131 (W : WW s a w1 w2) (hj : j < 5) : aI s I 0 (a + 131) (nI j) = some (I (a + 131) j) := aI_L W.2.2.2.2.2.2.2.2.2.2.1 20 rfl hj (by omega)
theorem s131 (W : WW s a w1 w2) {v : Int32} (hj : j < 5) : sI s I (a + 131) (nI j) v = some (wr I (a + 131) j v) := sI_L W.2.2.2.2.2.2.2.2.2.2.1 20 rfl hj (by omega) v
theorem l132 (W : WW s a w1 w2) : aL s (a + 132) = some (nI 5) := aL_L W.2.2.2.2.2.2.2.2.2.2.1 21 rfl (by decide)
theorem r132 (W : WW s a w1 w2) (hj : j < 5) : aI s I 0 (a + 132) (nI j) = some (I (a + 132) j) := aI_L W.2.2.2.2.2.2.2.2.2.2.1 21 rfl hj (by omega)
theorem s132 (W : WW s a w1 w2) {v : Int32} (hj : j < 5) : sI s I (a + 132) (nI j) v = some (wr I (a + 132) j v) := sI_L W.2.2.2.2.2.2.2.2.2.2.1 21 rfl hj (by omega) v
theorem l133 (W : WW s a w1 w2) : aL s (a + 133) = some (nI 240) := aL_L W.2.2.2.2.2.2.2.2.2.2.1 22 rfl (by decide)
theorem r133 (W : WW s a w1 w2) (hj : j < 240) : aI s I 0 (a + 133) (nI j) = some (I (a + 133) j) := aI_L W.2.2.2.2.2.2.2.2.2.2.1 22 rfl hj (by omega)
theorem s133 (W : WW s a w1 w2) {v : Int32} (hj : j < 240) : sI s I (a + 133) (nI j) v = some (wr I (a + 133) j v) := sI_L W.2.2.2.2.2.2.2.2.2.2.1 22 rfl hj (by omega) v
theorem l134 (W : WW s a w1 w2) : aL s (a + 134) = some (nI 240) := aL_L W.2.2.2.2.2.2.2.2.2.2.1 23 rfl (by decide)
theorem r134 (W : WW s a w1 w2) (hj : j < 240) : aI s I 0 (a + 134) (nI j) = some (I (a + 134) j) := aI_L W.2.2.2.2.2.2.2.2.2.2.1 23 rfl hj (by omega)
theorem s134 (W : WW s a w1 w2) {v : Int32} (hj : j < 240) : sI s I (a + 134) (nI j) v = some (wr I (a + 134) j v) := sI_L W.2.2.2.2.2.2.2.2.2.2.1 23 rfl hj (by omega) v
theorem l135 (W : WW s a w1 w2) : aL s (a + 135) = some (nI 240) := aL_L W.2.2.2.2.2.2.2.2.2.2.1 24 rfl (by decide)
theorem r135 (W : WW s a w1 w2) (hj : j < 240) : aI s I 0 (a + 135) (nI j) = some (I (a + 135) j) := aI_L W.2.2.2.2.2.2.2.2.2.2.1 24 rfl hj (by omega)
theorem s135 (W : WW s a w1 w2) {v : Int32} (hj : j < 240) : sI s I (a + 135) (nI j) v = some (wr I (a + 135) j v) := sI_L W.2.2.2.2.2.2.2.2.2.2.1 24 rfl hj (by omega) v
theorem l136 (W : WW s a w1 w2) : aL s (a + 136) = some (nI 240) := aL_L W.2.2.2.2.2.2.2.2.2.2.1 25 rfl (by decide)
theorem r136 (W : WW s a w1 w2) (hj : j < 240) : aI s I 0 (a + 136) (nI j) = some (I (a + 136) j) := aI_L W.2.2.2.2.2.2.2.2.2.2.1 25 rfl hj (by omega)
theorem s136 (W : WW s a w1 w2) {v : Int32} (hj : j < 240) : sI s I (a + 136) (nI j) v = some (wr I (a + 136) j v) := sI_L W.2.2.2.2.2.2.2.2.2.2.1 25 rfl hj (by omega) v
theorem l137 (W : WW s a w1 w2) : aL s (a + 137) = some (nI 240) := aL_L W.2.2.2.2.2.2.2.2.2.2.1 26 rfl (by decide)
theorem r137 (W : WW s a w1 w2) (hj : j < 240) : aI s I 0 (a + 137) (nI j) = some (I (a + 137) j) := aI_L W.2.2.2.2.2.2.2.2.2.2.1 26 rfl hj (by omega)
theorem s137 (W : WW s a w1 w2) {v : Int32} (hj : j < 240) : sI s I (a + 137) (nI j) v = some (wr I (a + 137) j v) := sI_L W.2.2.2.2.2.2.2.2.2.2.1 26 rfl hj (by omega) v
theorem l138 (W : WW s a w1 w2) : aL s (a + 138) = some (nI 10) := aL_L W.2.2.2.2.2.2.2.2.2.2.1 27 rfl (by decide)
theorem r138 (W : WW s a w1 w2) (hj : j < 10) : aI s I 0 (a + 138) (nI j) = some (I (a + 138) j) := aI_L W.2.2.2.2.2.2.2.2.2.2.1 27 rfl hj (by omega)
theorem s138 (W : WW s a w1 w2) {v : Int32} (hj : j < 10) : sI s I (a + 138) (nI j) v = some (wr I (a + 138) j v) := sI_L W.2.2.2.2.2.2.2.2.2.2.1 27 rfl hj (by omega) v
theorem l139 (W : WW s a w1 w2) : aL s (a + 139) = some (nI 10) := aL_L W.2.2.2.2.2.2.2.2.2.2.1 28 rfl (by decide)
theorem r139 (W : WW s a w1 w2) (hj : j < 10) : aI s I 0 (a + 139) (nI j) = some (I (a + 139) j) := aI_L W.2.2.2.2.2.2.2.2.2.2.1 28 rfl hj (by omega)
theorem s139 (W : WW s a w1 w2) {v : Int32} (hj : j < 10) : sI s I (a + 139) (nI j) v = some (wr I (a + 139) j v) := sI_L W.2.2.2.2.2.2.2.2.2.2.1 28 rfl hj (by omega) v
theorem l140 (W : WW s a w1 w2) : aL s (a + 140) = some (nI 10) := aL_L W.2.2.2.2.2.2.2.2.2.2.1 29 rfl (by decide)
theorem r140 (W : WW s a w1 w2) (hj : j < 10) : aI s I 0 (a + 140) (nI j) = some (I (a + 140) j) := aI_L W.2.2.2.2.2.2.2.2.2.2.1 29 rfl hj (by omega)
theorem s140 (W : WW s a w1 w2) {v : Int32} (hj : j < 10) : sI s I (a + 140) (nI j) v = some (wr I (a + 140) j v) := sI_L W.2.2.2.2.2.2.2.2.2.2.1 29 rfl hj (by omega) v
theorem l141 (W : WW s a w1 w2) : aL s (a + 141) = some (nI 10) := aL_L W.2.2.2.2.2.2.2.2.2.2.1 30 rfl (by decide)
theorem r141 (W : WW s a w1 w2) (hj : j < 10) : aI s I 0 (a + 141) (nI j) = some (I (a + 141) j) := aI_L W.2.2.2.2.2.2.2.2.2.2.1 30 rfl hj (by omega)
theorem s141 (W : WW s a w1 w2) {v : Int32} (hj : j < 10) : sI s I (a + 141) (nI j) v = some (wr I (a + 141) j v) := sI_L W.2.2.2.2.2.2.2.2.2.2.1 30 rfl hj (by omega) v
theorem l142 (W : WW s a w1 w2) : aL s (a + 142) = some (nI 10) := aL_L W.2.2.2.2.2.2.2.2.2.2.1 31 rfl (by decide)
theorem r142 (W : WW s a w1 w2) (hj : j < 10) : aI s I 0 (a + 142) (nI j) = some (I (a + 142) j) := aI_L W.2.2.2.2.2.2.2.2.2.2.1 31 rfl hj (by omega)
theorem s142 (W : WW s a w1 w2) {v : Int32} (hj : j < 10) : sI s I (a + 142) (nI j) v = some (wr I (a + 142) j v) := sI_L W.2.2.2.2.2.2.2.2.2.2.1 31 rfl hj (by omega) v
theorem l143 (W : WW s a w1 w2) : aL s (a + 143) = some (nI 2) := aL_L W.2.2.2.2.2.2.2.2.2.2.1 32 rfl (by decide)
theorem r143 (W : WW s a w1 w2) (hj : j < 2) : aI s I 0 (a + 143) (nI j) = some (I (a + 143) j) := aI_L W.2.2.2.2.2.2.2.2.2.2.1 32 rfl hj (by omega)
theorem s143 (W : WW s a w1 w2) {v : Int32} (hj : j < 2) : sI s I (a + 143) (nI j) v = some (wr I (a + 143) j v) := sI_L W.2.2.2.2.2.2.2.2.2.2.1 32 rfl hj (by omega) v
theorem l144 (W : WW s a w1 w2) : aL s (a + 144) = some (nI 5) := aL_L W.2.2.2.2.2.2.2.2.2.2.1 33 rfl (by decide)
theorem r144 (W : WW s a w1 w2) (hj : j < 5) : aI s I 0 (a + 144) (nI j) = some (I (a + 144) j) := aI_L W.2.2.2.2.2.2.2.2.2.2.1 33 rfl hj (by omega)
theorem s144 (W : WW s a w1 w2) {v : Int32} (hj : j < 5) : sI s I (a + 144) (nI j) v = some (wr I (a + 144) j v) := sI_L W.2.2.2.2.2.2.2.2.2.2.1 33 rfl hj (by omega) v
theorem l145 (W : WW s a w1 w2) : aL s (a + 145) = some (nI 5) := aL_L W.2.2.2.2.2.2.2.2.2.2.1 34 rfl (by decide)
theorem r145 (W : WW s a w1 w2) (hj : j < 5) : aI s I 0 (a + 145) (nI j) = some (I (a + 145) j) := aI_L W.2.2.2.2.2.2.2.2.2.2.1 34 rfl hj (by omega)
theorem s145 (W : WW s a w1 w2) {v : Int32} (hj : j < 5) : sI s I (a + 145) (nI j) v = some (wr I (a + 145) j v) := sI_L W.2.2.2.2.2.2.2.2.2.2.1 34 rfl hj (by omega) v
theorem l146 (W : WW s a w1 w2) : aL s (a + 146) = some (nI 5) := aL_L W.2.2.2.2.2.2.2.2.2.2.1 35 rfl (by decide)
theorem r146 (W : WW s a w1 w2) (hj : j < 5) : aI s I 0 (a + 146) (nI j) = some (I (a + 146) j) := aI_L W.2.2.2.2.2.2.2.2.2.2.1 35 rfl hj (by omega)
theorem s146 (W : WW s a w1 w2) {v : Int32} (hj : j < 5) : sI s I (a + 146) (nI j) v = some (wr I (a + 146) j v) := sI_L W.2.2.2.2.2.2.2.2.2.2.1 35 rfl hj (by omega) v
theorem l147 (W : WW s a w1 w2) : aL s (a + 147) = some (nI 24) := aL_L W.2.2.2.2.2.2.2.2.2.2.1 36 rfl (by decide)
theorem r147 (W : WW s a w1 w2) (hj : j < 24) : aI s I 0 (a + 147) (nI j) = some (I (a + 147) j) := aI_L W.2.2.2.2.2.2.2.2.2.2.1 36 rfl hj (by omega)
theorem s147 (W : WW s a w1 w2) {v : Int32} (hj : j < 24) : sI s I (a + 147) (nI j) v = some (wr I (a + 147) j v) := sI_L W.2.2.2.2.2.2.2.2.2.2.1 36 rfl hj (by omega) v
theorem l148 (W : WW s a w1 w2) : aL s (a + 148) = some (nI 10) := aL_L W.2.2.2.2.2.2.2.2.2.2.1 37 rfl (by decide)
theorem r148 (W : WW s a w1 w2) (hj : j < 10) : aI s I 0 (a + 148) (nI j) = some (I (a + 148) j) := aI_L W.2.2.2.2.2.2.2.2.2.2.1 37 rfl hj (by omega)
theorem s148 (W : WW s a w1 w2) {v : Int32} (hj : j < 10) : sI s I (a + 148) (nI j) v = some (wr I (a + 148) j v) := sI_L W.2.2.2.2.2.2.2.2.2.2.1 37 rfl hj (by omega) v
theorem l149 (W : WW s a w1 w2) : aL s (a + 149) = some (nI 10) := aL_L W.2.2.2.2.2.2.2.2.2.2.1 38 rfl (by decide)
theorem r149 (W : WW s a w1 w2) (hj : j < 10) : aI s I 0 (a + 149) (nI j) = some (I (a + 149) j) := aI_L W.2.2.2.2.2.2.2.2.2.2.1 38 rfl hj (by omega)
theorem s149 (W : WW s a w1 w2) {v : Int32} (hj : j < 10) : sI s I (a + 149) (nI j) v = some (wr I (a + 149) j v) := sI_L W.2.2.2.2.2.2.2.2.2.2.1 38 rfl hj (by omega) v
theorem l150 (W : WW s a w1 w2) : aL s (a + 150) = some (nI 10) := aL_L W.2.2.2.2.2.2.2.2.2.2.1 39 rfl (by decide)
theorem r150 (W : WW s a w1 w2) (hj : j < 10) : aI s I 0 (a + 150) (nI j) = some (I (a + 150) j) := aI_L W.2.2.2.2.2.2.2.2.2.2.1 39 rfl hj (by omega)
theorem s150 (W : WW s a w1 w2) {v : Int32} (hj : j < 10) : sI s I (a + 150) (nI j) v = some (wr I (a + 150) j v) := sI_L W.2.2.2.2.2.2.2.2.2.2.1 39 rfl hj (by omega) v
theorem l151 (W : WW s a w1 w2) : aL s (a + 151) = some (nI 10) := aL_L W.2.2.2.2.2.2.2.2.2.2.1 40 rfl (by decide)
theorem r151 (W : WW s a w1 w2) (hj : j < 10) : aI s I 0 (a + 151) (nI j) = some (I (a + 151) j) := aI_L W.2.2.2.2.2.2.2.2.2.2.1 40 rfl hj (by omega)
theorem s151 (W : WW s a w1 w2) {v : Int32} (hj : j < 10) : sI s I (a + 151) (nI j) v = some (wr I (a + 151) j v) := sI_L W.2.2.2.2.2.2.2.2.2.2.1 40 rfl hj (by omega) v
theorem l152 (W : WW s a w1 w2) : aL s (a + 152) = some (nI 20) := aL_L W.2.2.2.2.2.2.2.2.2.2.1 41 rfl (by decide)
theorem r152 (W : WW s a w1 w2) (hj : j < 20) : aI s I 0 (a + 152) (nI j) = some (I (a + 152) j) := aI_L W.2.2.2.2.2.2.2.2.2.2.1 41 rfl hj (by omega)
theorem s152 (W : WW s a w1 w2) {v : Int32} (hj : j < 20) : sI s I (a + 152) (nI j) v = some (wr I (a + 152) j v) := sI_L W.2.2.2.2.2.2.2.2.2.2.1 41 rfl hj (by omega) v
theorem l153 (W : WW s a w1 w2) : aL s (a + 153) = some (nI 6) := aL_L W.2.2.2.2.2.2.2.2.2.2.1 42 rfl (by decide)
theorem r153 (W : WW s a w1 w2) (hj : j < 6) : aI s I 0 (a + 153) (nI j) = some (I (a + 153) j) := aI_L W.2.2.2.2.2.2.2.2.2.2.1 42 rfl hj (by omega)
theorem s153 (W : WW s a w1 w2) {v : Int32} (hj : j < 6) : sI s I (a + 153) (nI j) v = some (wr I (a + 153) j v) := sI_L W.2.2.2.2.2.2.2.2.2.2.1 42 rfl hj (by omega) v
theorem l154 (W : WW s a w1 w2) : aL s (a + 154) = some (nI 6) := aL_L W.2.2.2.2.2.2.2.2.2.2.1 43 rfl (by decide)
theorem r154 (W : WW s a w1 w2) (hj : j < 6) : aI s I 0 (a + 154) (nI j) = some (I (a + 154) j) := aI_L W.2.2.2.2.2.2.2.2.2.2.1 43 rfl hj (by omega)
theorem s154 (W : WW s a w1 w2) {v : Int32} (hj : j < 6) : sI s I (a + 154) (nI j) v = some (wr I (a + 154) j v) := sI_L W.2.2.2.2.2.2.2.2.2.2.1 43 rfl hj (by omega) v
theorem r124 (W : WW s a w1 w2) (hj : j < 100) : aI s I 1 (a + 124) (nI j) = some (I (a + 124) j) := aI_L W.2.2.2.2.2.2.2.2.2.2.1 13 rfl hj (by omega)
theorem s124 (W : WW s a w1 w2) {v : Int32} (hj : j < 100) : sZ s I (a + 124) (nI j) v = some (wr I (a + 124) j (vp_nar .boolean v)) := sZ_L W.2.2.2.2.2.2.2.2.2.2.1 13 rfl hj (by omega) v
theorem r155 (W : WW s a w1 w2) (hj : j < 360) : aJ s L (a + 155) (nI j) = some (L (a + 155) j) := aJ_L W.2.2.2.2.2.2.2.2.2.2.1 44 rfl hj (by omega)
theorem s155 (W : WW s a w1 w2) {v : Int64} (hj : j < 360) : sJ s L (a + 155) (nI j) v = some (wrJ L (a + 155) j v) := sJ_L W.2.2.2.2.2.2.2.2.2.2.1 44 rfl hj (by omega) v
theorem r156 (W : WW s a w1 w2) (hj : j < 60) : aJ s L (a + 156) (nI j) = some (L (a + 156) j) := aJ_L W.2.2.2.2.2.2.2.2.2.2.1 45 rfl hj (by omega)
theorem s156 (W : WW s a w1 w2) {v : Int64} (hj : j < 60) : sJ s L (a + 156) (nI j) v = some (wrJ L (a + 156) j v) := sJ_L W.2.2.2.2.2.2.2.2.2.2.1 45 rfl hj (by omega) v
theorem l11 (W : WW s a w1 w2) : aL s (a + 11) = some (nI 5) := aL_L W.2.2.1 2 rfl (by decide)
theorem a11 (W : WW s a w1 w2) (hp : p < 5) : aR s 4 (a + 11) (nI p) = some (a + 12 + p) := (aR_L W.2.2.1 2 rfl hp (by omega)).trans (by rfl)
theorem d11 (hp : p < 5) : (sArea (a + 9))[3 + p]? = some (.inr (0, 3, 0)) := match p, hp with
  | 0, _ => rfl
  | 1, _ => rfl
  | 2, _ => rfl
  | 3, _ => rfl
  | 4, _ => rfl
  | q + 5, h => absurd h (by omega)
theorem q11 : a + 12 + p = a + 9 + (3 + p) := by omega
theorem lr11 (W : WW s a w1 w2) (hp : p < 5) : aL s (a + 12 + p) = some (nI 3) := by rw [q11]; exact aL_L W.2.2.1 (3 + p) (d11 hp) (by decide)
theorem r11 (W : WW s a w1 w2) (hp : p < 5) (hj : j < 3) : aI s I 0 (a + 12 + p) (nI j) = some (I (a + 12 + p) j) := by rw [q11]; exact aI_L W.2.2.1 (3 + p) (d11 hp) hj (by omega)
theorem s11 (W : WW s a w1 w2) {v : Int32} (hp : p < 5) (hj : j < 3) : sI s I (a + 12 + p) (nI j) v = some (wr I (a + 12 + p) j v) := by rw [q11]; exact sI_L W.2.2.1 (3 + p) (d11 hp) hj (by omega) v
theorem l17 (W : WW s a w1 w2) : aL s (a + 17) = some (nI 10) := aL_L W.2.2.1 8 rfl (by decide)
theorem a17 (W : WW s a w1 w2) (hp : p < 10) : aR s 4 (a + 17) (nI p) = some (a + 18 + p) := (aR_L W.2.2.1 8 rfl hp (by omega)).trans (by rfl)
theorem d17 (hp : p < 10) : (sArea (a + 9))[9 + p]? = some (.inr (0, 4, 0)) := match p, hp with
  | 0, _ => rfl
  | 1, _ => rfl
  | 2, _ => rfl
  | 3, _ => rfl
  | 4, _ => rfl
  | 5, _ => rfl
  | 6, _ => rfl
  | 7, _ => rfl
  | 8, _ => rfl
  | 9, _ => rfl
  | q + 10, h => absurd h (by omega)
theorem q17 : a + 18 + p = a + 9 + (9 + p) := by omega
theorem lr17 (W : WW s a w1 w2) (hp : p < 10) : aL s (a + 18 + p) = some (nI 4) := by rw [q17]; exact aL_L W.2.2.1 (9 + p) (d17 hp) (by decide)
theorem r17 (W : WW s a w1 w2) (hp : p < 10) (hj : j < 4) : aI s I 0 (a + 18 + p) (nI j) = some (I (a + 18 + p) j) := by rw [q17]; exact aI_L W.2.2.1 (9 + p) (d17 hp) hj (by omega)
theorem s17 (W : WW s a w1 w2) {v : Int32} (hp : p < 10) (hj : j < 4) : sI s I (a + 18 + p) (nI j) v = some (wr I (a + 18 + p) j v) := by rw [q17]; exact sI_L W.2.2.1 (9 + p) (d17 hp) hj (by omega) v
theorem l32 (W : WW s a w1 w2) : aL s (a + 32) = some (nI 5) := aL_L W.2.2.2.2.1 2 rfl (by decide)
theorem a32 (W : WW s a w1 w2) (hp : p < 5) : aR s 4 (a + 32) (nI p) = some (a + 33 + p) := (aR_L W.2.2.2.2.1 2 rfl hp (by omega)).trans (by rfl)
theorem d32 (hp : p < 5) : (sArea (a + 30))[3 + p]? = some (.inr (0, 3, 0)) := match p, hp with
  | 0, _ => rfl
  | 1, _ => rfl
  | 2, _ => rfl
  | 3, _ => rfl
  | 4, _ => rfl
  | q + 5, h => absurd h (by omega)
theorem q32 : a + 33 + p = a + 30 + (3 + p) := by omega
theorem lr32 (W : WW s a w1 w2) (hp : p < 5) : aL s (a + 33 + p) = some (nI 3) := by rw [q32]; exact aL_L W.2.2.2.2.1 (3 + p) (d32 hp) (by decide)
theorem r32 (W : WW s a w1 w2) (hp : p < 5) (hj : j < 3) : aI s I 0 (a + 33 + p) (nI j) = some (I (a + 33 + p) j) := by rw [q32]; exact aI_L W.2.2.2.2.1 (3 + p) (d32 hp) hj (by omega)
theorem s32 (W : WW s a w1 w2) {v : Int32} (hp : p < 5) (hj : j < 3) : sI s I (a + 33 + p) (nI j) v = some (wr I (a + 33 + p) j v) := by rw [q32]; exact sI_L W.2.2.2.2.1 (3 + p) (d32 hp) hj (by omega) v
theorem l38 (W : WW s a w1 w2) : aL s (a + 38) = some (nI 10) := aL_L W.2.2.2.2.1 8 rfl (by decide)
theorem a38 (W : WW s a w1 w2) (hp : p < 10) : aR s 4 (a + 38) (nI p) = some (a + 39 + p) := (aR_L W.2.2.2.2.1 8 rfl hp (by omega)).trans (by rfl)
theorem d38 (hp : p < 10) : (sArea (a + 30))[9 + p]? = some (.inr (0, 4, 0)) := match p, hp with
  | 0, _ => rfl
  | 1, _ => rfl
  | 2, _ => rfl
  | 3, _ => rfl
  | 4, _ => rfl
  | 5, _ => rfl
  | 6, _ => rfl
  | 7, _ => rfl
  | 8, _ => rfl
  | 9, _ => rfl
  | q + 10, h => absurd h (by omega)
theorem q38 : a + 39 + p = a + 30 + (9 + p) := by omega
theorem lr38 (W : WW s a w1 w2) (hp : p < 10) : aL s (a + 39 + p) = some (nI 4) := by rw [q38]; exact aL_L W.2.2.2.2.1 (9 + p) (d38 hp) (by decide)
theorem r38 (W : WW s a w1 w2) (hp : p < 10) (hj : j < 4) : aI s I 0 (a + 39 + p) (nI j) = some (I (a + 39 + p) j) := by rw [q38]; exact aI_L W.2.2.2.2.1 (9 + p) (d38 hp) hj (by omega)
theorem s38 (W : WW s a w1 w2) {v : Int32} (hp : p < 10) (hj : j < 4) : sI s I (a + 39 + p) (nI j) v = some (wr I (a + 39 + p) j v) := by rw [q38]; exact sI_L W.2.2.2.2.1 (9 + p) (d38 hp) hj (by omega) v
theorem l52 (W : WW s a w1 w2) : aL s (a + 52) = some (nI 4) := aL_L W.2.2.2.2.2.2.1 1 rfl (by decide)
theorem a52 (W : WW s a w1 w2) (hp : p < 4) : aR s 4 (a + 52) (nI p) = some (a + 53 + p) := (aR_L W.2.2.2.2.2.2.1 1 rfl hp (by omega)).trans (by rfl)
theorem d52 (hp : p < 4) : (wArea (a + 51))[2 + p]? = some (.inr (0, 5, 0)) := match p, hp with
  | 0, _ => rfl
  | 1, _ => rfl
  | 2, _ => rfl
  | 3, _ => rfl
  | q + 4, h => absurd h (by omega)
theorem q52 : a + 53 + p = a + 51 + (2 + p) := by omega
theorem lr52 (W : WW s a w1 w2) (hp : p < 4) : aL s (a + 53 + p) = some (nI 5) := by rw [q52]; exact aL_L W.2.2.2.2.2.2.1 (2 + p) (d52 hp) (by decide)
theorem r52 (W : WW s a w1 w2) (hp : p < 4) (hj : j < 5) : aI s I 0 (a + 53 + p) (nI j) = some (I (a + 53 + p) j) := by rw [q52]; exact aI_L W.2.2.2.2.2.2.1 (2 + p) (d52 hp) hj (by omega)
theorem s52 (W : WW s a w1 w2) {v : Int32} (hp : p < 4) (hj : j < 5) : sI s I (a + 53 + p) (nI j) v = some (wr I (a + 53 + p) j v) := by rw [q52]; exact sI_L W.2.2.2.2.2.2.1 (2 + p) (d52 hp) hj (by omega) v
theorem l57 (W : WW s a w1 w2) : aL s (a + 57) = some (nI 5) := aL_L W.2.2.2.2.2.2.1 6 rfl (by decide)
theorem a57 (W : WW s a w1 w2) (hp : p < 5) : aR s 4 (a + 57) (nI p) = some (a + 58 + p) := (aR_L W.2.2.2.2.2.2.1 6 rfl hp (by omega)).trans (by rfl)
theorem d57 (hp : p < 5) : (wArea (a + 51))[7 + p]? = some (.inr (0, 3, 0)) := match p, hp with
  | 0, _ => rfl
  | 1, _ => rfl
  | 2, _ => rfl
  | 3, _ => rfl
  | 4, _ => rfl
  | q + 5, h => absurd h (by omega)
theorem q57 : a + 58 + p = a + 51 + (7 + p) := by omega
theorem lr57 (W : WW s a w1 w2) (hp : p < 5) : aL s (a + 58 + p) = some (nI 3) := by rw [q57]; exact aL_L W.2.2.2.2.2.2.1 (7 + p) (d57 hp) (by decide)
theorem r57 (W : WW s a w1 w2) (hp : p < 5) (hj : j < 3) : aI s I 0 (a + 58 + p) (nI j) = some (I (a + 58 + p) j) := by rw [q57]; exact aI_L W.2.2.2.2.2.2.1 (7 + p) (d57 hp) hj (by omega)
theorem s57 (W : WW s a w1 w2) {v : Int32} (hp : p < 5) (hj : j < 3) : sI s I (a + 58 + p) (nI j) v = some (wr I (a + 58 + p) j v) := by rw [q57]; exact sI_L W.2.2.2.2.2.2.1 (7 + p) (d57 hp) hj (by omega) v
theorem l63 (W : WW s a w1 w2) : aL s (a + 63) = some (nI 5) := aL_L W.2.2.2.2.2.2.1 12 rfl (by decide)
theorem a63 (W : WW s a w1 w2) (hp : p < 5) : aR s 4 (a + 63) (nI p) = some (a + 64 + p) := (aR_L W.2.2.2.2.2.2.1 12 rfl hp (by omega)).trans (by rfl)
theorem d63 (hp : p < 5) : (wArea (a + 51))[13 + p]? = some (.inr (0, 48, 0)) := match p, hp with
  | 0, _ => rfl
  | 1, _ => rfl
  | 2, _ => rfl
  | 3, _ => rfl
  | 4, _ => rfl
  | q + 5, h => absurd h (by omega)
theorem q63 : a + 64 + p = a + 51 + (13 + p) := by omega
theorem lr63 (W : WW s a w1 w2) (hp : p < 5) : aL s (a + 64 + p) = some (nI 48) := by rw [q63]; exact aL_L W.2.2.2.2.2.2.1 (13 + p) (d63 hp) (by decide)
theorem r63 (W : WW s a w1 w2) (hp : p < 5) (hj : j < 48) : aI s I 0 (a + 64 + p) (nI j) = some (I (a + 64 + p) j) := by rw [q63]; exact aI_L W.2.2.2.2.2.2.1 (13 + p) (d63 hp) hj (by omega)
theorem s63 (W : WW s a w1 w2) {v : Int32} (hp : p < 5) (hj : j < 48) : sI s I (a + 64 + p) (nI j) v = some (wr I (a + 64 + p) j v) := by rw [q63]; exact sI_L W.2.2.2.2.2.2.1 (13 + p) (d63 hp) hj (by omega) v
theorem l69 (W : WW s a w1 w2) : aL s (a + 69) = some (nI 5) := aL_L W.2.2.2.2.2.2.1 18 rfl (by decide)
theorem a69 (W : WW s a w1 w2) (hp : p < 5) : aR s 4 (a + 69) (nI p) = some (a + 70 + p) := (aR_L W.2.2.2.2.2.2.1 18 rfl hp (by omega)).trans (by rfl)
theorem d69 (hp : p < 5) : (wArea (a + 51))[19 + p]? = some (.inr (0, 48, 0)) := match p, hp with
  | 0, _ => rfl
  | 1, _ => rfl
  | 2, _ => rfl
  | 3, _ => rfl
  | 4, _ => rfl
  | q + 5, h => absurd h (by omega)
theorem q69 : a + 70 + p = a + 51 + (19 + p) := by omega
theorem lr69 (W : WW s a w1 w2) (hp : p < 5) : aL s (a + 70 + p) = some (nI 48) := by rw [q69]; exact aL_L W.2.2.2.2.2.2.1 (19 + p) (d69 hp) (by decide)
theorem r69 (W : WW s a w1 w2) (hp : p < 5) (hj : j < 48) : aI s I 0 (a + 70 + p) (nI j) = some (I (a + 70 + p) j) := by rw [q69]; exact aI_L W.2.2.2.2.2.2.1 (19 + p) (d69 hp) hj (by omega)
theorem s69 (W : WW s a w1 w2) {v : Int32} (hp : p < 5) (hj : j < 48) : sI s I (a + 70 + p) (nI j) v = some (wr I (a + 70 + p) j v) := by rw [q69]; exact sI_L W.2.2.2.2.2.2.1 (19 + p) (d69 hp) hj (by omega) v
theorem l75 (W : WW s a w1 w2) : aL s (a + 75) = some (nI 5) := aL_L W.2.2.2.2.2.2.1 24 rfl (by decide)
theorem a75 (W : WW s a w1 w2) (hp : p < 5) : aR s 4 (a + 75) (nI p) = some (a + 76 + p) := (aR_L W.2.2.2.2.2.2.1 24 rfl hp (by omega)).trans (by rfl)
theorem d75 (hp : p < 5) : (wArea (a + 51))[25 + p]? = some (.inr (0, 48, 0)) := match p, hp with
  | 0, _ => rfl
  | 1, _ => rfl
  | 2, _ => rfl
  | 3, _ => rfl
  | 4, _ => rfl
  | q + 5, h => absurd h (by omega)
theorem q75 : a + 76 + p = a + 51 + (25 + p) := by omega
theorem lr75 (W : WW s a w1 w2) (hp : p < 5) : aL s (a + 76 + p) = some (nI 48) := by rw [q75]; exact aL_L W.2.2.2.2.2.2.1 (25 + p) (d75 hp) (by decide)
theorem r75 (W : WW s a w1 w2) (hp : p < 5) (hj : j < 48) : aI s I 0 (a + 76 + p) (nI j) = some (I (a + 76 + p) j) := by rw [q75]; exact aI_L W.2.2.2.2.2.2.1 (25 + p) (d75 hp) hj (by omega)
theorem s75 (W : WW s a w1 w2) {v : Int32} (hp : p < 5) (hj : j < 48) : sI s I (a + 76 + p) (nI j) v = some (wr I (a + 76 + p) j v) := by rw [q75]; exact sI_L W.2.2.2.2.2.2.1 (25 + p) (d75 hp) hj (by omega) v
theorem l81 (W : WW s a w1 w2) : aL s (a + 81) = some (nI 5) := aL_L W.2.2.2.2.2.2.1 30 rfl (by decide)
theorem a81 (W : WW s a w1 w2) (hp : p < 5) : aR s 4 (a + 81) (nI p) = some (a + 82 + p) := (aR_L W.2.2.2.2.2.2.1 30 rfl hp (by omega)).trans (by rfl)
theorem d81 (hp : p < 5) : (wArea (a + 51))[31 + p]? = some (.inr (0, 48, 0)) := match p, hp with
  | 0, _ => rfl
  | 1, _ => rfl
  | 2, _ => rfl
  | 3, _ => rfl
  | 4, _ => rfl
  | q + 5, h => absurd h (by omega)
theorem q81 : a + 82 + p = a + 51 + (31 + p) := by omega
theorem lr81 (W : WW s a w1 w2) (hp : p < 5) : aL s (a + 82 + p) = some (nI 48) := by rw [q81]; exact aL_L W.2.2.2.2.2.2.1 (31 + p) (d81 hp) (by decide)
theorem r81 (W : WW s a w1 w2) (hp : p < 5) (hj : j < 48) : aI s I 0 (a + 82 + p) (nI j) = some (I (a + 82 + p) j) := by rw [q81]; exact aI_L W.2.2.2.2.2.2.1 (31 + p) (d81 hp) hj (by omega)
theorem s81 (W : WW s a w1 w2) {v : Int32} (hp : p < 5) (hj : j < 48) : sI s I (a + 82 + p) (nI j) v = some (wr I (a + 82 + p) j v) := by rw [q81]; exact sI_L W.2.2.2.2.2.2.1 (31 + p) (d81 hp) hj (by omega) v
theorem l87 (W : WW s a w1 w2) : aL s (a + 87) = some (nI 5) := aL_L W.2.2.2.2.2.2.1 36 rfl (by decide)
theorem a87 (W : WW s a w1 w2) (hp : p < 5) : aR s 4 (a + 87) (nI p) = some (a + 88 + p) := (aR_L W.2.2.2.2.2.2.1 36 rfl hp (by omega)).trans (by rfl)
theorem d87 (hp : p < 5) : (wArea (a + 51))[37 + p]? = some (.inr (0, 48, 0)) := match p, hp with
  | 0, _ => rfl
  | 1, _ => rfl
  | 2, _ => rfl
  | 3, _ => rfl
  | 4, _ => rfl
  | q + 5, h => absurd h (by omega)
theorem q87 : a + 88 + p = a + 51 + (37 + p) := by omega
theorem lr87 (W : WW s a w1 w2) (hp : p < 5) : aL s (a + 88 + p) = some (nI 48) := by rw [q87]; exact aL_L W.2.2.2.2.2.2.1 (37 + p) (d87 hp) (by decide)
theorem r87 (W : WW s a w1 w2) (hp : p < 5) (hj : j < 48) : aI s I 0 (a + 88 + p) (nI j) = some (I (a + 88 + p) j) := by rw [q87]; exact aI_L W.2.2.2.2.2.2.1 (37 + p) (d87 hp) hj (by omega)
theorem s87 (W : WW s a w1 w2) {v : Int32} (hp : p < 5) (hj : j < 48) : sI s I (a + 88 + p) (nI j) v = some (wr I (a + 88 + p) j v) := by rw [q87]; exact sI_L W.2.2.2.2.2.2.1 (37 + p) (d87 hp) hj (by omega) v
theorem l97 (W : WW s a w1 w2) : aL s (a + 97) = some (nI 6) := aL_L W.2.2.2.2.2.2.2.1 3 rfl (by decide)
theorem a97 (W : WW s a w1 w2) (hi : i < 6) : aR s 3 (a + 97) (nI i) = some (a + 98 + 2 * i) := aRT_L (i := 6) W.2.2.2.2.2.2.2.1 3 rfl hi hi (by omega)
theorem d97 (hi : i < 6) : (tapesD a 6)[2 * i]? = some (oTape (a + (98 + 2 * i))) ∧ (tapesD a 6)[2 * i + 1]? = some (.inr (2, 60, 0)) := match i, hi with
  | 0, _ => ⟨rfl, rfl⟩
  | 1, _ => ⟨rfl, rfl⟩
  | 2, _ => ⟨rfl, rfl⟩
  | 3, _ => ⟨rfl, rfl⟩
  | 4, _ => ⟨rfl, rfl⟩
  | 5, _ => ⟨rfl, rfl⟩
  | q + 6, h => absurd h (by omega)
theorem q99 : a + 99 + 2 * i = a + 98 + (2 * i + 1) := by omega
theorem e3 (W : WW s a w1 w2) (hi : i < 6) : gR s 3 (a + 98 + 2 * i) 2 = some (a + 99 + 2 * i) := by rw [gR_L W.2.2.2.2.2.2.2.2.1 (2 * i) 2 (d97 hi).1 rfl]; congr 1; omega
theorem c3 (W : WW s a w1 w2) (hi : i < 6) : ck s 3 (a + 98 + 2 * i) = some () := ck_L W.2.2.2.2.2.2.2.2.1 (2 * i) (d97 hi).1
theorem i3_0 (W : WW s a w1 w2) (hi : i < 6) : gI s I 3 (a + 98 + 2 * i) 0 = some (I (a + 98 + 2 * i) 0) := gI_L W.2.2.2.2.2.2.2.2.1 (2 * i) 0 (d97 hi).1 rfl
theorem p3_0 (W : WW s a w1 w2) {v : Int32} (hi : i < 6) : pI s I 3 (a + 98 + 2 * i) 0 v = some (wr I (a + 98 + 2 * i) 0 v) := pI_L W.2.2.2.2.2.2.2.2.1 (2 * i) 0 (d97 hi).1 rfl v
theorem i3_1 (W : WW s a w1 w2) (hi : i < 6) : gI s I 3 (a + 98 + 2 * i) 1 = some (I (a + 98 + 2 * i) 1) := gI_L W.2.2.2.2.2.2.2.2.1 (2 * i) 1 (d97 hi).1 rfl
theorem p3_1 (W : WW s a w1 w2) {v : Int32} (hi : i < 6) : pI s I 3 (a + 98 + 2 * i) 1 v = some (wr I (a + 98 + 2 * i) 1 v) := pI_L W.2.2.2.2.2.2.2.2.1 (2 * i) 1 (d97 hi).1 rfl v
theorem l99 (W : WW s a w1 w2) (hi : i < 6) : aL s (a + 99 + 2 * i) = some (nI 60) := by rw [q99]; exact aL_L W.2.2.2.2.2.2.2.2.1 (2 * i + 1) (d97 hi).2 (by decide)
theorem r99 (W : WW s a w1 w2) (hi : i < 6) (hj : j < 60) : aJ s L (a + 99 + 2 * i) (nI j) = some (L (a + 99 + 2 * i) j) := by rw [q99]; exact aJ_L W.2.2.2.2.2.2.2.2.1 (2 * i + 1) (d97 hi).2 hj (by omega)
theorem s99 (W : WW s a w1 w2) {v : Int64} (hi : i < 6) (hj : j < 60) : sJ s L (a + 99 + 2 * i) (nI j) v = some (wrJ L (a + 99 + 2 * i) j v) := by rw [q99]; exact sJ_L W.2.2.2.2.2.2.2.2.1 (2 * i + 1) (d97 hi).2 hj (by omega) v
theorem v_R0 (V : VW s w) : gR s 4 w 0 = some (w + 1) := gR_L V 0 0 rfl rfl
theorem v_R1 (V : VW s w) : gR s 4 w 1 = some (w + 6) := gR_L V 0 1 rfl rfl
theorem v_a (V : VW s w) (hp : p < 4) : aR s 4 (w + 1) (nI p) = some (w + 2 + p) := aR_L V 1 rfl hp (by omega)
theorem v_d (hp : p < 4) : ([vObj (w + 1)] ++ vArea (w + 1))[2 + p]? = some (.inr (0, 5, 0)) := match p, hp with
  | 0, _ => rfl
  | 1, _ => rfl
  | 2, _ => rfl
  | 3, _ => rfl
  | q + 4, h => absurd h (by omega)
theorem v_l (V : VW s w) : aL s (w + 1) = some (nI 4) := aL_L V 1 rfl (by decide)
theorem v_lr (V : VW s w) (hp : p < 4) : aL s (w + 2 + p) = some (nI 5) := by rw [Nat.add_assoc]; exact aL_L V (2 + p) (v_d hp) (by decide)
theorem v_r (V : VW s w) (hp : p < 4) (hj : j < 5) : aI s I 0 (w + 2 + p) (nI j) = some (I (w + 2 + p) j) := by rw [Nat.add_assoc]; exact aI_L V (2 + p) (v_d hp) hj (by omega)
theorem v_s {v : Int32} (V : VW s w) (hp : p < 4) (hj : j < 5) : sI s I (w + 2 + p) (nI j) v = some (wr I (w + 2 + p) j v) := by rw [Nat.add_assoc]; exact sI_L V (2 + p) (v_d hp) hj (by omega) v
theorem v_lm (V : VW s w) : aL s (w + 6) = some (nI 144) := aL_L V 6 rfl (by decide)
theorem v_rm (V : VW s w) (hj : j < 144) : aI s I 0 (w + 6) (nI j) = some (I (w + 6) j) := aI_L V 6 rfl hj (by omega)
theorem v_sm {v : Int32} (V : VW s w) (hj : j < 144) : sI s I (w + 6) (nI j) v = some (wr I (w + 6) j v) := sI_L V 6 rfl hj (by omega) v
end WORLD
