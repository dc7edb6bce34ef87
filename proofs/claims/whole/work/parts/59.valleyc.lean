/-! LAYER 2: the class's valley(), whole -/
section VAL
variable {s : SH} {I : IH} {a w1 w2 n : Nat}
theorem WW_ext (W : WW s a w1 w2) (hn : a + 157 ≤ n) (ho1 : wOK a w1 n) (ho2 : wOK a w2 n) {s' : SH} (k : ∀ y, y < n → s' y = s y) : WW s' a w1 w2 := by
  obtain ⟨b1, b2, b3, b4, b5, b6, b7, b8, b9, b10, b11, b12, b13⟩ := W
  exact ⟨b1.kept (fun x h1 h2 => k x (by have h3 : x < a + 3 := h2; omega)), b2.kept (fun x h1 h2 => k x (by have h3 : x < a + 3 + 6 := h2; omega)), b3.kept (fun x h1 h2 => k x (by have h3 : x < a + 9 + 20 := h2; omega)), b4.kept (fun x h1 h2 => k x (by have h3 : x < a + 29 + 1 := h2; omega)), b5.kept (fun x h1 h2 => k x (by have h3 : x < a + 30 + 20 := h2; omega)), b6.kept (fun x h1 h2 => k x (by have h3 : x < a + 50 + 1 := h2; omega)), b7.kept (fun x h1 h2 => k x (by have h3 : x < a + 51 + 43 := h2; omega)), b8.kept (fun x h1 h2 => k x (by have h3 : x < a + 94 + 4 := h2; omega)), b9.kept (fun x h1 h2 => k x (by rw [tapesD_len] at h2; omega)), b10.kept (fun x h1 h2 => k x (by have h3 : x < a + 110 + 1 := h2; omega)), b11.kept (fun x h1 h2 => k x (by have h3 : x < a + 111 + 46 := h2; omega)), Lay.kept b12 (fun x h1 h2 => k x (by have h3 : x < w1 + 7 := h2; have := ho1.2; omega)), Lay.kept b13 (fun x h1 h2 => k x (by have h3 : x < w2 + 7 := h2; have := ho2.2; omega))⟩
theorem fkd1 : ∀ k, k < 5 → ([some none, none, none, none, some none] : List (Option (Option Nat)))[k]? = some (fkD 1 k) := by decide
theorem fkd4v : ∀ k, k < 2 → ([some none, some none] : List (Option (Option Nat)))[k]? = some (fkD 4 k) := by decide
/-- a new reader -/
theorem initC {T : Nat} (hs : isD s n (.inl (1, [some none, none, none, none, some none]))) (ht : isD s (a + 96) (.inr (0, 100, 0))) (ha : a + 96 < n) (hT : T ≤ 100) : ∃ s' I', fX1_init n (a + 96) (nI T) s I (n + 1) = some ((7, 170), (s', I', n + 8)) ∧ isD s' n (rObj a n) ∧ VW s' (n + 1) ∧ (∀ y, y < n → s' y = s y) ∧ (∀ y, y < n → I' y = I y) ∧ I' n 1 = nI T ∧ I' n 2 = 1 ∧ I' n 3 = I n 3 ∧ VT I' (n + 1) [] := by
  obtain ⟨k1, k2⟩ := nO_K (a := 0) (ds := []) (sh := s) (n := n + 1) 4 [some none, some none] fkd4v
  have hs1 : isD (nO s (n + 1) 4) n (.inl (1, [some none, none, none, none, some none])) := isD_same (k2 n (by omega)) hs
  obtain ⟨q, e4, q1, q2, q3, q4, q5, q6, q7, q8⟩ := ok_X4 (I := nOI (wr I n 2 1) (n + 1)) (t := n + 1) (n := n + 2) k1 (by omega)
  obtain ⟨c, s4, I4, n4⟩ := q
  replace q1 : c = (6, 168) := q1
  replace q4 : n4 = n + 2 + 6 := q4
  subst q1
  subst q4
  replace q2 : isD s4 (n + 1) (vObj (n + 2)) := q2
  replace q3 : Lay s4 (n + 2) (vArea (n + 2)) := q3
  replace q5 : ∀ x, x < n + 2 → x ≠ n + 1 → s4 x = nO s (n + 1) 4 x := q5
  replace q6 : ∀ x, x < n + 2 → I4 x = nOI (wr I n 2 1) (n + 1) x := q6
  replace q7 : ∀ j, j < 5 → I4 (n + 2 + 1) j = 1 ∧ I4 (n + 2 + 2) j = 0 ∧ I4 (n + 2 + 3) j = 99 ∧ I4 (n + 2 + 4) j = 0 := q7
  replace q8 : ∀ j, j < 144 → I4 (n + 2 + 5) j = 0 := q8
  have ks4 : ∀ x, x < n + 1 → s4 x = s x := fun x hx => by rw [q5 x (by omega) (by omega), k2 x (by omega)]
  have R4 : Lay s4 n [.inl (1, [some none, none, none, none, some none])] := Lay.one (isD_same (ks4 n (by omega)) hs)
  obtain ⟨s5, e5, L5, k5⟩ := pR_L R4 0 4 (n + 1) rfl ⟨none, rfl⟩
  replace L5 : Lay s5 n [.inl (1, [some none, none, none, none, some (some (n + 1))])] := L5
  obtain ⟨s6, e6, L6, k6⟩ := pR_L L5 0 0 (a + 96) rfl ⟨none, rfl⟩
  replace L6 : Lay s6 n [rObj a n] := L6
  replace k5 : ∀ x, x ≠ n → s5 x = s4 x := k5
  replace k6 : ∀ x, x ≠ n → s6 x = s5 x := k6
  have ks6 : ∀ x, x < n → s6 x = s x := fun x hx => by rw [k6 x (by omega), k5 x (by omega), ks4 x (by omega)]
  have la : aL s6 (a + 96) = some (nI 100) := aL_L (Lay.one (isD_same (ks6 _ ha) ht)) 0 rfl (by decide)
  have hI4 : ∀ x, x < n + 1 → I4 x = wr I n 2 1 x := fun x hx => by
    rw [q6 x (by omega)]
    exact upR_ne (by omega)
  refine ⟨s6, wr I4 n 1 (nI T), ?_, L6 0 _ rfl, ?_, ks6, fun y hy => by rw [wr_ne (by omega), hI4 y (by omega), wr_ne (by omega)], wr_at, by rw [wr_nj (by decide), hI4 n (by omega), wr_at], by rw [wr_nj (by decide), hI4 n (by omega), wr_nj (by decide)], ?_⟩
  · unfold fX1_init
    rw [show pI s I 1 n 2 1 = some (wr I n 2 1) from pI_L (Lay.one hs) 0 2 rfl rfl 1, Option.bind_some, b2_some, show fX4_init (n + 1) (nO s (n + 1) 4) (nOI (wr I n 2 1) (n + 1)) (n + 1 + 1) = some ((6, 168), s4, I4, n + 2 + 6) from e4, bE3_e, show pR s4 1 n 4 (n + 1) = some s5 from e5, Option.bind_some, show pR s5 1 n 0 (a + 96) = some s6 from e6, Option.bind_some, la, Option.bind_some, min_nI (by omega) (by omega), show min T 100 = T by omega, show pI s6 I4 1 n 1 (nI T) = some (wr I4 n 1 (nI T)) from pI_L L6 0 1 rfl rfl _, Option.bind_some]
    rfl
  · have hv : Lay s4 (n + 1) ([vObj (n + 2)] ++ vArea (n + 2)) := (Lay.one q2).app q3 rfl
    exact Lay.kept hv (fun x h1 h2 => by rw [k6 x (by omega), k5 x (by omega)])
  · refine ⟨fun p hp => ?_, fun q hq => ?_⟩
    · obtain ⟨z1, z2, z3, z4⟩ := q7 p hp
      rw [wr_ne (by omega), wr_ne (by omega), wr_ne (by omega), wr_ne (by omega)]
      exact ⟨z1, z2, z3, z4⟩
    · rw [wr_ne (by omega)]
      exact q8 q hq
/-- the class's valley(), where there is room for one more -/
theorem vl_cls {v T : Nat} {tx : Nat → Nat} (W : WW s a w1 w2) (hn : a + 157 ≤ n) (ho1 : wOK a w1 n) (ho2 : wOK a w2 n) (hv : I a 7 = nI v) (hv5 : v < 5) (hT : I a 6 = nI T) (hT1 : T ≤ 100) (ht : ∀ j, j < T → I (a + 96) j = nI (tx j) ∧ tx j < 256) : ∃ A z s' I', fX6_valley a s I n = some ((8 + A, 175 + 144 * A), (z, s', I', n + 8 + A)) ∧ 2 * A ≤ T + 2 ∧ (∀ y k, y < n → ¬ (y = a ∧ (k = 6 ∨ k = 7)) → I' y k = I y k) ∧ I' a 6 = 0 ∧ match pTx (bt T tx) T 12 0 with
  | .inl e => e ≤ T ∧ z = -10 - nI e ∧ I' a 7 = nI v ∧ WW s' a w1 w2
  | .inr l => z = nI v ∧ I' a 7 = nI (v + 1) ∧ WW s' a (n + 1) w2 ∧ l.length ≤ 12 ∧ (∀ c ∈ l, cOK c) ∧ VT I' (n + 1) l := by
  obtain ⟨k1, k2⟩ := nO_K (a := 0) (ds := []) (sh := s) (n := n) 1 [some none, none, none, none, some none] fkd1
  have W1 : WW (nO s n 1) a w1 w2 := WW_ext W hn ho1 ho2 (fun y hy => k2 y (by omega))
  have kI1 : ∀ y, y < n → nOI I n y = I y := fun y hy => upR_ne (by omega)
  have htx : isD s (a + 96) (.inr (0, 100, 0)) := W.2.2.2.2.2.2.2.1 2 _ rfl
  obtain ⟨s2, I2, e2, r1, r2, r3, r4, r5, r6, r7, r8⟩ := initC (a := a) (I := nOI I n) (T := T) k1 (isD_same (k2 _ (by omega)) htx) (by omega) hT1
  have W2 : WW s2 a w1 w2 := WW_ext W1 hn ho1 ho2 r3
  have hI2 : ∀ y, y < n → I2 y = I y := fun y hy => by rw [r4 y hy, kI1 y hy]
  have hP : Pst s2 (wr I2 a 6 0) (n + 8) a n T tx 0 true := by
    refine ⟨r1, isD_same ((r3 _ (by omega)).trans (k2 _ (by omega))) htx, ⟨by omega, by omega⟩, ⟨by rw [wr_ne (by omega)]; exact r5, hT1⟩, by rw [wr_ne (by omega)]; exact r6, ⟨?_, by omega⟩, fun j hj => ?_⟩
    · rw [wr_ne (by omega), r7]
      show upR I n (fun _ => 0) n 3 = nI 0
      rw [upR_same]
      rfl
    · rw [wr_ne (by omega), hI2 _ (by omega)]
      exact ht j hj
  obtain ⟨A, z, s3, I3, t1, t2, t3, t4, t5⟩ := textL 12 0 1000 s2 (wr I2 a 6 0) (n + 8) 0 (by omega) (by omega) (by omega) hP r2 (by omega)
  have W3 : WW s3 a w1 w2 := WW_ext W2 hn ho1 ho2 (fun y hy => t3 y (by omega))
  have hI3 : ∀ y, y < n → I3 y = wr I2 a 6 0 y := fun y hy => t4 y (by omega) (by omega) (by omega)
  have hk3 : ∀ y k, y < n → ¬ (y = a ∧ k = 6) → I3 y k = I y k := fun y k hy hnk => by
    rw [hI3 y hy, wr_or (by omega), hI2 y hy]
  have h36 : I3 a 6 = 0 := by rw [hI3 a (by omega), wr_at]
  have rd3 : isD s3 n (rObj a n) := isD_same (t3 n (by omega)) r1
  have V3 : VW s3 (n + 1) := Lay.kept r2 (fun x h1 h2 => t3 x (by have h3 : x < n + 1 + 7 := h2; omega))
  have run : ∀ (z' : Int32) (s' : SH) (I' : IH), (if z = 0 then (gI s3 I3 1 n 3).bind fun x31 => some ((0, 0), (((-10) - x31), s3, I3, n + 8 + A)) else (gR s3 6 a 0).bind fun x25 => (gR s3 1 n 4).bind fun x26 => (pR s3 2 x25 8 x26).bind fun h27 => (gI h27 I3 6 a 7).bind fun x28 => (pI h27 I3 6 a 7 (x28 + 1)).bind fun i29 => (gI h27 i29 6 a 7).bind fun x30 => some ((0, 0), ((x30 - 1), h27, i29, n + 8 + A))) = some ((0, 0), (z', s', I', n + 8 + A)) → fX6_valley a s I n = some ((8 + A, 175 + 144 * A), (z', s', I', n + 8 + A)) := fun z' s' I' h => by
    unfold fX6_valley
    rw [i6_0_7 W, Option.bind_some, hv, if_pos (show nI v < 5 from nI_lt (b := 5) hv5 (by omega)), b2_some, e6_0_5 W1, Option.bind_some, i6_0_6 W1, Option.bind_some, kI1 a (by omega), hT, e2, bE3_e, p6_0_6 W2, Option.bind_some, show ck s2 1 n = some () from ck_L (Lay.one r1) 0 rfl, Option.bind_some, show fX1_isValley n s2 (wr I2 a 6 0) (n + 8) = some ((A, 144 * A), (z, s3, I3, n + 8 + A)) from t1, bE4_y h]
    show some ((1 + (7 + (A + 0)), 5 + (170 + (144 * A + 0))), _) = _
    congr 3 <;> omega
  cases hp : pTx (bt T tx) T 12 0 with
  | inl e =>
    rw [hp] at t5
    obtain ⟨u1, u2, u3, u4⟩ := t5
    refine ⟨A, -10 - nI e, s3, I3, run _ _ _ ?_, by omega, fun y k hy hnk => hk3 y k hy (by omega), h36, u3, rfl, by rw [hk3 a 7 (by omega) (by omega), hv], W3⟩
    rw [if_pos u1, show gI s3 I3 1 n 3 = some (I3 n 3) from gI_L (Lay.one rd3) 0 3 rfl rfl, Option.bind_some, u4]
  | inr l =>
    rw [hp] at t5
    obtain ⟨u1, u2, u3, u4⟩ := t5
    obtain ⟨s4, e4, W4, k4⟩ := (WW_kept W3 V3 ho1.1 ho2.1 (Or.inr (by omega))).2
    refine ⟨A, nI v, s4, wr I3 a 7 (nI (v + 1)), run _ _ _ ?_, by omega, fun y k hy hnk => by rw [wr_or (by omega), hk3 y k hy (by omega)], by rw [wr_nj (by decide), h36], rfl, wr_at, W4, u2, u3, ?_⟩
    · rw [if_neg (by rw [u1]; decide), e6_0_0 W3, Option.bind_some, show gR s3 1 n 4 = some (n + 1) from gR_L (Lay.one rd3) 0 4 rfl rfl, Option.bind_some, e4, Option.bind_some, i6_0_7 W4, Option.bind_some, hk3 a 7 (by omega) (by omega), hv, nI_1, p6_0_7 W4, Option.bind_some, i6_0_7 W4, Option.bind_some, wr_at, show nI (v + 1) - 1 = nI v by rw [← nI_1]; exact Int32.add_sub_cancel _ _]
    · have h9 := u4 [] (by unfold VT at r8 ⊢; rw [wr_ne (by omega), wr_ne (by omega), wr_ne (by omega), wr_ne (by omega), wr_ne (by omega)]; exact r8)
      unfold VT at h9 ⊢
      rw [wr_ne (by omega), wr_ne (by omega), wr_ne (by omega), wr_ne (by omega), wr_ne (by omega)]
      exact h9
end VAL
