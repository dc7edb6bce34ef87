/-! LAYER 2: feed; image and undo -/
theorem byte_T : ∀ n : Fin 256, (n.1 < 128 ∧ Int32.ofBitVec ((BitVec.ofNat 8 n.1).setWidth 32) = nI n.1 ∧ Int32.ofBitVec ((BitVec.ofNat 8 n.1).signExtend 32) = nI n.1) ∨ (128 ≤ n.1 ∧ Int32.ofBitVec ((BitVec.ofNat 8 n.1).setWidth 32) = nI n.1 ∧ Int32.ofBitVec ((BitVec.ofNat 8 n.1).signExtend 32) < 0) := by decide +kernel
theorem b255 : ∀ i : Fin 32, (255#32).getLsbD i.1 = decide (i.1 < 8) := by decide
theorem low8 (y : BitVec 32) : y &&& 255#32 = (y.setWidth 8).setWidth 32 := by
  apply BitVec.eq_of_getLsbD_eq
  intro i hi
  rw [BitVec.getLsbD_and, b255 ⟨i, hi⟩]
  simp only [BitVec.getLsbD_setWidth]
  by_cases h : i < 8
  · simp [h, hi]
  · simp [h]
theorem ash8 (y : BitVec 32) (k : Nat) (hk : k + 8 ≤ 32) : (y.sshiftRight k).setWidth 8 = (y >>> k).setWidth 8 := by
  apply BitVec.eq_of_getLsbD_eq
  intro i hi
  simp only [BitVec.getLsbD_setWidth, BitVec.getLsbD_sshiftRight, BitVec.getLsbD_ushiftRight]
  have h1 : k + i < 32 := by omega
  have h2 : ¬ 32 ≤ i := by omega
  simp [h1, h2]
theorem byte_A (x : Int32) (q : Nat) (hq : q < 4) : ((x.toUInt32 >>> (Int32.toUInt32 (8 * nI q) &&& Int32.toUInt32 31)).toInt32 &&& 255) = Int32.ofBitVec ((((x.toBitVec >>> (8 * q)).setWidth 8)).setWidth 32) := by
  rw [← low8]
  apply Int32.toBitVec_inj.mp
  obtain rfl | rfl | rfl | rfl : q = 0 ∨ q = 1 ∨ q = 2 ∨ q = 3 := by omega
  all_goals rfl
theorem byte_B (x : Int32) (q : Nat) (hq : q < 4) : (x >>> ((8 * nI q) &&& 31)).toInt8.toInt32 = Int32.ofBitVec ((((x.toBitVec >>> (8 * q)).setWidth 8)).signExtend 32) := by
  rw [← ash8 _ _ (by omega)]
  apply Int32.toBitVec_inj.mp
  show BitVec.signExtend 32 (x >>> (8 * nI q &&& 31)).toInt8.toBitVec = BitVec.signExtend 32 (BitVec.setWidth 8 (x.toBitVec.sshiftRight (8 * q)))
  congr 1
  rw [Int32.toBitVec_toInt8, BitVec.signExtend_eq_setWidth_of_le _ (by omega)]
  congr 1
  rw [Int32.toBitVec_shiftRight]
  have e : ∀ q : Fin 4, ((8 * nI q.1 &&& 31).toBitVec.smod 32).toNat = 8 * q.1 := by decide
  show x.toBitVec.sshiftRight ((8 * nI q &&& 31).toBitVec.smod 32).toNat = _
  rw [e ⟨q, hq⟩]
theorem byte_TB (x : Int32) (q : Nat) (hq : q < 4) : TB ((x.toUInt32 >>> (Int32.toUInt32 (8 * nI q) &&& Int32.toUInt32 31)).toInt32 &&& 255) ((x >>> ((8 * nI q) &&& 31)).toInt8.toInt32) := by
  rw [byte_A x q hq, byte_B x q hq]
  generalize (x.toBitVec >>> (8 * q)).setWidth 8 = b
  have h := byte_T ⟨b.toNat, b.isLt⟩
  have e : BitVec.ofNat 8 b.toNat = b := BitVec.eq_of_toNat_eq (by simp)
  simp only [e] at h
  rcases h with ⟨h1, h2, h3⟩ | ⟨h1, h2, h3⟩
  · exact Or.inl ⟨_, h1, h2, h3⟩
  · exact Or.inr ⟨_, h1, b.isLt, h2, h3⟩
section FEED
variable {s : SH} {I : IH} {L : LH} {n a w1 w2 i : Nat}
def bytA (v : Int32) (q : Nat) : Int32 := (v.toUInt32 >>> (Int32.toUInt32 (8 * nI q) &&& Int32.toUInt32 31)).toInt32 &&& 255
def bytM (v : Int32) (q : Nat) : Int32 := (v >>> ((8 * nI q) &&& 31)).toInt8.toInt32
theorem down (k : Nat) : nI k + (-1) = nI k - 1 := (Int32.sub_eq_add_neg (nI k) 1).symm
theorem feedC (W : WW s a w1 w2) (v : Int32) : ∀ (m fuel F : Nat) (I' : IH), m < fuel → m ≤ 4 → F + m ≤ 100 → I' a 6 = nI F → ∃ I2, fX6_feed_b33 s a fuel v (nI m - 1) I' = some (nI (F + m), I2) ∧ I2 a 6 = nI (F + m) ∧ (∀ x j, (x ≠ a ∨ j ≠ 6) → (x ≠ a + 96 ∨ j < F ∨ F + m ≤ j) → I2 x j = I' x j) ∧ ∀ k, k < m → I2 (a + 96) (F + k) = bytA v (m - 1 - k) := by
  intro m
  induction m with
  | zero =>
    intro fuel F I' h1 h2 h3 h6
    obtain ⟨u, rfl⟩ : ∃ u, fuel = u + 1 := ⟨fuel - 1, by omega⟩
    refine ⟨I', ?_, h6, fun _ _ _ _ => rfl, fun k hk => absurd hk (by omega)⟩
    rw [fX6_feed_b33]
    refine if_t (by decide) ?_
    refine bs_eq (i6_0_6 W) ?_
    rw [h6]
    rfl
  | succ m ih =>
    intro fuel F I' h1 h2 h3 h6
    obtain ⟨u, rfl⟩ : ∃ u, fuel = u + 1 := ⟨fuel - 1, by omega⟩
    obtain ⟨I2, e2, g6, f2, v2⟩ := ih u (F + 1) (wr (wr I' (a + 96) F (bytA v m)) a 6 (nI (F + 1))) (by omega) (by omega) (by omega) wr_at
    refine ⟨I2, ?_, by rw [g6]; congr 1; omega, fun x j hx hy => ?_, fun k hk => ?_⟩
    · rw [fX6_feed_b33, nI_pred]
      refine if_f (nI_pos (by omega)) ?_
      refine bs_eq (e6_0_5 W) ?_
      refine bs_eq (i6_0_6 W) ?_
      rw [h6]
      refine bs_eq (s96 W (j := F) (by omega)) ?_
      refine bs_eq (i6_0_6 W) ?_
      rw [wr_ne (by omega), h6, nI_1]
      refine bs_eq (p6_0_6 W) ?_
      rw [down]
      refine Eq.trans e2 ?_
      rw [show F + 1 + m = F + (m + 1) by omega]
    · rw [f2 x j hx (by omega), wr_or (by omega), wr_or (by omega)]
    · by_cases hk0 : k = 0
      · subst hk0
        rw [f2 (a + 96) (F + 0) (by omega) (by omega), wr_ne (by omega), show m + 1 - 1 - 0 = m by omega]
        exact wr_at
      · have := v2 (k - 1) (by omega)
        rw [show F + 1 + (k - 1) = F + k by omega] at this
        rw [this]
        congr 1
        omega
theorem feedM (W : WW s a w1 w2) (v : Int32) : ∀ (m fuel F : Nat) (I' : IH), m < fuel → m ≤ 4 → F + m ≤ 100 → I' (a + 110) 9 = nI F → ∃ I2, fX7_feed_b31 s (a + 110) fuel v (nI m - 1) I' = some (nI (F + m), I2) ∧ I2 (a + 110) 9 = nI (F + m) ∧ (∀ x j, (x ≠ a + 110 ∨ j ≠ 9) → (x ≠ a + 115 ∨ j < F ∨ F + m ≤ j) → I2 x j = I' x j) ∧ ∀ k, k < m → I2 (a + 115) (F + k) = bytM v (m - 1 - k) := by
  intro m
  induction m with
  | zero =>
    intro fuel F I' h1 h2 h3 h6
    obtain ⟨u, rfl⟩ : ∃ u, fuel = u + 1 := ⟨fuel - 1, by omega⟩
    refine ⟨I', ?_, h6, fun _ _ _ _ => rfl, fun k hk => absurd hk (by omega)⟩
    rw [fX7_feed_b31]
    refine if_t (by decide) ?_
    refine bs_eq (i7_110_9 W) ?_
    rw [h6]
    rfl
  | succ m ih =>
    intro fuel F I' h1 h2 h3 h6
    obtain ⟨u, rfl⟩ : ∃ u, fuel = u + 1 := ⟨fuel - 1, by omega⟩
    obtain ⟨I2, e2, g6, f2, v2⟩ := ih u (F + 1) (wr (wr I' (a + 115) F (bytM v m)) (a + 110) 9 (nI (F + 1))) (by omega) (by omega) (by omega) wr_at
    refine ⟨I2, ?_, by rw [g6]; congr 1; omega, fun x j hx hy => ?_, fun k hk => ?_⟩
    · rw [fX7_feed_b31, nI_pred]
      refine if_f (nI_pos (by omega)) ?_
      refine bs_eq (e7_110_12 W) ?_
      refine bs_eq (i7_110_9 W) ?_
      rw [h6]
      refine bs_eq (s115 W (j := F) (by omega)) ?_
      refine bs_eq (i7_110_9 W) ?_
      rw [wr_ne (by omega), h6, nI_1]
      refine bs_eq (p7_110_9 W) ?_
      rw [down]
      refine Eq.trans e2 ?_
      rw [show F + 1 + m = F + (m + 1) by omega]
    · rw [f2 x j hx (by omega), wr_or (by omega), wr_or (by omega)]
    · by_cases hk0 : k = 0
      · subst hk0
        rw [f2 (a + 115) (F + 0) (by omega) (by omega), wr_ne (by omega), show m + 1 - 1 - 0 = m by omega]
        exact wr_at
      · have := v2 (k - 1) (by omega)
        rw [show F + 1 + (k - 1) = F + k by omega] at this
        rw [this]
        congr 1
        omega
theorem m_feed (R : Rel s I L n a w1 w2) (v1 v2 : Int32) : M2 s L n a w1 w2 (fX6_feed s a v1 v2 I) (fun I1 => fX7_feed s (a + 110) v1 v2 I1) := by
  have W := R.1
  obtain ⟨X1, X2⟩ := R.2.2.2.2.2.1
  obtain ⟨F, e6, hF⟩ : ∃ F, I a 6 = nI F ∧ F ≤ 100 := ⟨_, X1.2.1, X1.2.2.2⟩
  have e9 : I (a + 110) 9 = nI F := by rw [← e6]; exact X1.1
  rcases rng v2 0 4 (by omega) (by omega) with ⟨m, -, hm, rfl⟩ | ⟨u1, u2⟩ | ⟨u1, u2, u3, u4⟩
  · have cpre : ∀ r, (if nI m ≤ nI (100 - F) then fX6_feed_b33 s a 1000 v1 (nI m - 1) I else some (-4, I)) = r → fX6_feed s a v1 (nI m) I = r := by
      intro r hr
      unfold fX6_feed
      refine if_f (nI_pos (by omega)) ?_
      refine if_t (nI_le (b := 4) hm (by omega)) ?_
      refine bs_eq (e6_0_5 W) ?_
      refine bs_eq (l96 W) ?_
      refine bs_eq (i6_0_6 W) ?_
      rw [e6, nI_sub hF]
      exact hr
    by_cases hfit : F + m ≤ 100
    · obtain ⟨I1, c1, c2, c3, c4⟩ := feedC W v1 m 1000 F I (by omega) hm hfit e6
      obtain ⟨I2, d1, d2, d3, d4⟩ := feedM W v1 m 1000 F I1 (by omega) hm hfit (by rw [c3 _ _ (by omega) (by omega)]; exact e9)
      refine ⟨_, I1, I2, cpre _ (by rw [if_pos (nI_le (by omega) (by omega))]; exact c1), ?_, ?_⟩
      · show fX7_feed s (a + 110) v1 (nI m) I1 = _
        unfold fX7_feed
        refine if_f (in_ok (lo := 0) (hi := 4) (Nat.zero_le _) hm (by omega)) ?_
        refine bs_eq (i7_110_9 W) ?_
        rw [c3 _ _ (by omega) (by omega), e9, nI_add]
        refine if_t (nI_le (b := 100) hfit (by omega)) ?_
        exact d1
      · have f : ∀ x j, (x ≠ a ∨ j ≠ 6) → (x ≠ a + 96) → (x ≠ a + 110 ∨ j ≠ 9) → (x ≠ a + 115) → I2 x j = I x j := fun x j h1 h2 h3 h4 => (d3 x j h3 (Or.inl h4)).trans (c3 x j h1 (Or.inl h2))
        have g : ∀ x, x ≠ a → x ≠ a + 96 → x ≠ a + 110 → x ≠ a + 115 → I2 x = I x := fun x h1 h2 h3 h4 => funext fun j => f x j (Or.inl h1) h2 (Or.inl h3) h4
        have g6 : I2 a 6 = nI (F + m) := by rw [d3 _ _ (by omega) (by omega)]; exact c2
        obtain ⟨r1, ⟨r2, r3, r4⟩, r5, r6, r7, r8, r9, r10, r11⟩ := R
        refine ⟨r1, ⟨r2, r3, r4⟩, r5.kept (fun x k h => f x k (by omega) (by omega) (by omega) (by omega)) (fun x h => g x (by omega) (by omega) (by omega) (by omega)), r6.kept (fun x k h => f x k (by omega) (by omega) (by omega) (by omega)) (fun x h => g x (by omega) (by omega) (by omega) (by omega)), VV.kept r3 r4 r7 (fun x k h => f x k (by omega) (by omega) (by omega) (by omega)) (fun x h => g x (by omega) (by omega) (by omega) (by omega)), ⟨⟨by rw [g6, d2], Bd_of g6 (Nat.zero_le _) hfit (by omega)⟩, fun j hj hj2 => ?_⟩, r9.kept ⟨f _ _ (by omega) (by omega) (by omega) (by omega), f _ _ (by omega) (by omega) (by omega) (by omega)⟩ ⟨g _ (by omega) (by omega) (by omega) (by omega), g _ (by omega) (by omega) (by omega) (by omega)⟩, r10.kept ⟨f _ _ (by omega) (by omega) (by omega) (by omega), f _ _ (by omega) (by omega) (by omega) (by omega)⟩, r11.kept (fun x h => g x (by omega) (by omega) (by omega) (by omega))⟩
        rw [g6, nv_nI (by omega)] at hj2
        rw [d3 (a + 96) j (by omega) (by omega)]
        by_cases hjF : j < F
        · rw [c3 (a + 96) j (by omega) (by omega), d3 (a + 115) j (by omega) (by omega), c3 (a + 115) j (by omega) (by omega)]
          exact X2 j hj (by rw [e6, nv_nI (by omega)]; exact hjF)
        · obtain ⟨k, rfl⟩ : ∃ k, j = F + k := ⟨j - F, by omega⟩
          rw [c4 k (by omega), d4 k (by omega)]
          exact byte_TB v1 _ (by omega)
    · refine M2.same R (x := -4) (cpre _ (by rw [if_neg (nI_ge (by omega) (by omega))])) ?_
      show fX7_feed s (a + 110) v1 (nI m) I = _
      unfold fX7_feed
      refine if_f (in_ok (lo := 0) (hi := 4) (Nat.zero_le _) hm (by omega)) ?_
      refine bs_eq (i7_110_9 W) ?_
      rw [e9, nI_add]
      refine if_f (nI_ge (a := 100) (by omega) (by omega)) ?_
      rfl
  · skip
    exact M2.same R (by unfold fX6_feed; refine if_t (u1) ?_; rfl) (by unfold fX7_feed; refine if_t (u2) ?_; rfl)
  · skip
    exact M2.same R (by unfold fX6_feed; refine if_f (u1) ?_; refine if_f (u3) ?_; rfl) (by unfold fX7_feed; refine if_t (u4) ?_; rfl)
end FEED
section COPY
variable {s : SH} {I : IH} {L : LH} {n a w1 w2 w p : Nat}
theorem copy_y {x y N : Nat} (hx : ∃ r, s x = some (.inr (0, N, r))) (hy : ∃ r, s y = some (.inr (0, N, r))) (hN : N < 1000) : ∃ I', fX6_copy s x y I = some I' ∧ (∀ z, z ≠ y → I' z = I z) ∧ ∀ j, j < N → I' y j = I x j := by
  obtain ⟨r1, g1⟩ := hx
  obtain ⟨r2, g2⟩ := hy
  have a1 : aL s x = some (nI N) := by
    show aL s x = some (Int32.ofNat N)
    simp [aL, g1]
  have a2 : aL s y = some (nI N) := by
    show aL s y = some (Int32.ofNat N)
    simp [aL, g2]
  refine ⟨upR I y (va_cpy (I x) (I y) 0 0 N), ?_, fun z hz => upR_ne hz, fun j hj => ?_⟩
  · unfold fX6_copy
    rw [a1, Option.bind_some, a2, Option.bind_some, min_nI (by omega) (by omega), Nat.min_self]
    have h0 : (0 : Int32).toNatClampNeg = 0 := rfl
    have hc : cpI s I x 0 y 0 (nI N) = some (upR I y (va_cpy (I x) (I y) 0 0 N)) := by
      unfold cpI
      simp only [g1, g2]
      rw [nI_clamp (by omega), h0, if_pos ⟨⟨by decide, by decide, nI_pos (by omega)⟩, by omega, by omega⟩]
    rw [hc, Option.bind_some]
  · rw [upR_same]
    unfold va_cpy
    rw [if_pos (by omega)]
    congr 1
    omega
theorem copyRows_y {x y xr yr N K : Nat} (hx : aL s x = some (nI N)) (hy : aL s y = some (nI N)) (ax : ∀ p, p < N → aR s 4 x (nI p) = some (xr + p)) (ay : ∀ p, p < N → aR s 4 y (nI p) = some (yr + p)) (gx : ∀ p, p < N → ∃ r, s (xr + p) = some (.inr (0, K, r))) (gy : ∀ p, p < N → ∃ r, s (yr + p) = some (.inr (0, K, r))) (hN : N < 1000) (hK : K < 1000) (hd : xr + N ≤ yr ∨ yr + N ≤ xr) : ∃ I', fX6_copyRows s x y I = some I' ∧ (∀ z, (z < yr ∨ yr + N ≤ z) → I' z = I z) ∧ ∀ p j, p < N → j < K → I' (yr + p) j = I (xr + p) j := by
  have key : ∀ m q fuel (I0 : IH), q + m = N → m < fuel → (∀ z, (z < yr ∨ yr + N ≤ z) → I0 z = I z) → (∀ p j, p < q → j < K → I0 (yr + p) j = I (xr + p) j) → ∃ I', fX6_copyRows_b2 s fuel x y (nI q) I0 = some I' ∧ (∀ z, (z < yr ∨ yr + N ≤ z) → I' z = I z) ∧ ∀ p j, p < N → j < K → I' (yr + p) j = I (xr + p) j := by
    intro m
    induction m with
    | zero =>
      intro q fuel I0 h1 h2 f v
      obtain ⟨u, rfl⟩ : ∃ u, fuel = u + 1 := ⟨fuel - 1, by omega⟩
      obtain rfl : q = N := h1
      refine ⟨I0, ?_, f, v⟩
      rw [fX6_copyRows_b2, hx, Option.bind_some, if_pos (nI_le (Nat.le_refl _) (by omega))]
    | succ m ih =>
      intro q fuel I0 h1 h2 f v
      obtain ⟨u, rfl⟩ : ∃ u, fuel = u + 1 := ⟨fuel - 1, by omega⟩
      obtain ⟨I1, e1, f1, v1⟩ := copy_y (I := I0) (gx q (by omega)) (gy q (by omega)) hK
      rw [fX6_copyRows_b2, hx, Option.bind_some, if_neg (nI_ge (by omega) (by omega)), hy, Option.bind_some, if_neg (nI_ge (by omega) (by omega)), ax q (by omega), Option.bind_some, ay q (by omega), Option.bind_some, e1, Option.bind_some, nI_1]
      refine ih (q + 1) u I1 (by omega) (by omega) (fun z hz => ?_) (fun p j hp hj => ?_)
      · rw [f1 z (by omega), f z hz]
      · by_cases hpq : p = q
        · subst hpq
          rw [v1 j hj, f _ (by omega)]
        · rw [f1 _ (by omega)]
          exact v p j (by omega) hj
  exact key N 0 1000 I (by omega) (by omega) (fun _ _ => rfl) (fun p j hp _ => absurd hp (by omega))
theorem g9 (W : WW s a w1 w2) : ∃ r, s (a + 9) = some (.inr (0, 2, r)) := by
  obtain ⟨r, h, -⟩ := Lay.arr (o := 0) W.2.2.1 rfl
  exact ⟨r, h⟩
theorem g10 (W : WW s a w1 w2) : ∃ r, s (a + 10) = some (.inr (0, 3, r)) := by
  obtain ⟨r, h, -⟩ := Lay.arr (o := 1) W.2.2.1 rfl
  exact ⟨r, h⟩
theorem g28 (W : WW s a w1 w2) : ∃ r, s (a + 28) = some (.inr (0, 24, r)) := by
  obtain ⟨r, h, -⟩ := Lay.arr (o := 19) W.2.2.1 rfl
  exact ⟨r, h⟩
theorem g30 (W : WW s a w1 w2) : ∃ r, s (a + 30) = some (.inr (0, 2, r)) := by
  obtain ⟨r, h, -⟩ := Lay.arr (o := 0) W.2.2.2.2.1 rfl
  exact ⟨r, h⟩
theorem g31 (W : WW s a w1 w2) : ∃ r, s (a + 31) = some (.inr (0, 3, r)) := by
  obtain ⟨r, h, -⟩ := Lay.arr (o := 1) W.2.2.2.2.1 rfl
  exact ⟨r, h⟩
theorem g49 (W : WW s a w1 w2) : ∃ r, s (a + 49) = some (.inr (0, 24, r)) := by
  obtain ⟨r, h, -⟩ := Lay.arr (o := 19) W.2.2.2.2.1 rfl
  exact ⟨r, h⟩
theorem g11 (W : WW s a w1 w2) (hp : p < 5) : ∃ r, s (a + 12 + p) = some (.inr (0, 3, r)) := by
  obtain ⟨r, h, -⟩ := Lay.arr (o := 3 + p) W.2.2.1 (d11 hp)
  rw [← q11] at h
  exact ⟨r, h⟩
theorem g17 (W : WW s a w1 w2) (hp : p < 10) : ∃ r, s (a + 18 + p) = some (.inr (0, 4, r)) := by
  obtain ⟨r, h, -⟩ := Lay.arr (o := 9 + p) W.2.2.1 (d17 hp)
  rw [← q17] at h
  exact ⟨r, h⟩
theorem g32 (W : WW s a w1 w2) (hp : p < 5) : ∃ r, s (a + 33 + p) = some (.inr (0, 3, r)) := by
  obtain ⟨r, h, -⟩ := Lay.arr (o := 3 + p) W.2.2.2.2.1 (d32 hp)
  rw [← q32] at h
  exact ⟨r, h⟩
theorem g38 (W : WW s a w1 w2) (hp : p < 10) : ∃ r, s (a + 39 + p) = some (.inr (0, 4, r)) := by
  obtain ⟨r, h, -⟩ := Lay.arr (o := 9 + p) W.2.2.2.2.1 (d38 hp)
  rw [← q38] at h
  exact ⟨r, h⟩
theorem g52 (W : WW s a w1 w2) (hp : p < 4) : ∃ r, s (a + 53 + p) = some (.inr (0, 5, r)) := by
  obtain ⟨r, h, -⟩ := Lay.arr (o := 2 + p) W.2.2.2.2.2.2.1 (d52 hp)
  rw [← q52] at h
  exact ⟨r, h⟩
theorem g57 (W : WW s a w1 w2) (hp : p < 5) : ∃ r, s (a + 58 + p) = some (.inr (0, 3, r)) := by
  obtain ⟨r, h, -⟩ := Lay.arr (o := 7 + p) W.2.2.2.2.2.2.1 (d57 hp)
  rw [← q57] at h
  exact ⟨r, h⟩
theorem v_g (V : VW s w) (hp : p < 4) : ∃ r, s (w + 2 + p) = some (.inr (0, 5, r)) := by
  obtain ⟨r, h, -⟩ := Lay.arr (o := 2 + p) V (v_d hp)
  rw [← Nat.add_assoc] at h
  exact ⟨r, h⟩
/-- a state's valley becomes another's -/
theorem WW_kept (W : WW s a w1 w2) (V : VW s w) (ho1 : w1 = a + 2 ∨ a + 157 ≤ w1) (ho2 : w2 = a + 2 ∨ a + 157 ≤ w2) (ho : w = a + 2 ∨ a + 157 ≤ w) : (∃ s', pR s 2 (a + 29) 8 w = some s' ∧ WW s' a w1 w ∧ ∀ x, x ≠ a + 29 → s' x = s x) ∧ (∃ s', pR s 2 (a + 1) 8 w = some s' ∧ WW s' a w w2 ∧ ∀ x, x ≠ a + 1 → s' x = s x) := by
  obtain ⟨b1, b2, b3, b4, b5, b6, b7, b8, b9, b10, b11, b12, b13⟩ := W
  have kv : ∀ (s' : SH) (y v : Nat), (y = a + 29 ∨ y = a + 1) → (∀ x, x ≠ y → s' x = s x) → (v = a + 2 ∨ a + 157 ≤ v) → VW s v → VW s' v := fun s' y v hy k hv h => Lay.kept h (fun x h1 h2 => k x (by have h3 : x < v + 7 := h2; omega))
  constructor
  · obtain ⟨s', e, L, k⟩ := pR_L b4 0 8 w rfl ⟨some w2, rfl⟩
    replace k : ∀ x, x ≠ a + 29 → s' x = s x := k
    exact ⟨s', e, ⟨b1.kept (fun x h1 h2 => k x (by have h3 : x < a + 3 := h2; omega)), b2.kept (fun x h1 h2 => k x (by have h3 : x < a + 3 + 6 := h2; omega)), b3.kept (fun x h1 h2 => k x (by have h3 : x < a + 9 + 20 := h2; omega)), L, b5.kept (fun x h1 h2 => k x (by omega)), b6.kept (fun x h1 h2 => k x (by omega)), b7.kept (fun x h1 h2 => k x (by omega)), b8.kept (fun x h1 h2 => k x (by omega)), b9.kept (fun x h1 h2 => k x (by omega)), b10.kept (fun x h1 h2 => k x (by omega)), b11.kept (fun x h1 h2 => k x (by omega)), kv s' _ w1 (Or.inl rfl) k ho1 b12, kv s' _ w (Or.inl rfl) k ho V⟩, k⟩
  · obtain ⟨s', e, L, k⟩ := pR_L b1 1 8 w rfl ⟨some w1, rfl⟩
    exact ⟨s', e, ⟨L, b2.kept (fun x h1 h2 => k x (by omega)), b3.kept (fun x h1 h2 => k x (by omega)), b4.kept (fun x h1 h2 => k x (by omega)), b5.kept (fun x h1 h2 => k x (by omega)), b6.kept (fun x h1 h2 => k x (by omega)), b7.kept (fun x h1 h2 => k x (by omega)), b8.kept (fun x h1 h2 => k x (by omega)), b9.kept (fun x h1 h2 => k x (by omega)), b10.kept (fun x h1 h2 => k x (by omega)), b11.kept (fun x h1 h2 => k x (by omega)), kv s' _ w (Or.inr rfl) k ho V, kv s' _ w2 (Or.inr rfl) k ho2 b13⟩, k⟩
/-- what becomes of a state: the class's part -/
def Bec (I I' : IH) (t u t' u' : Nat) : Prop := (∀ x, x ≠ t' → (x < u' ∨ u' + 20 ≤ x) → I' x = I x) ∧ (∀ k, k = 0 ∨ k = 5 ∨ k = 7 → I' t' k = I t k) ∧ (∀ j, j < 2 → I' u' j = I u j) ∧ (∀ j, j < 3 → I' (u' + 1) j = I (u + 1) j) ∧ (∀ p j, p < 5 → j < 3 → I' (u' + 3 + p) j = I (u + 3 + p) j) ∧ (∀ p j, p < 10 → j < 4 → I' (u' + 9 + p) j = I (u + 9 + p) j) ∧ ∀ j, j < 24 → I' (u' + 19) j = I (u + 19) j
theorem exists_bs {α β γ : Type} {o : Option α} {f : α → Option (β × γ)} {x : α} {Q : β → γ → Prop} (h : o = some x) (k : ∃ y z, f x = some (y, z) ∧ Q y z) : ∃ y z, o.bind f = some (y, z) ∧ Q y z := by
  rw [h, Option.bind_some]
  exact k
theorem becomeK (W : WW s a w1 w2) (ho1 : w1 = a + 2 ∨ a + 157 ≤ w1) (ho2 : w2 = a + 2 ∨ a + 157 ≤ w2) : ∃ s' I', fX2_become (a + 29) (a + 1) s I = some (s', I') ∧ WW s' a w1 w1 ∧ (∀ x, x ≠ a + 29 → s' x = s x) ∧ Bec I I' (a + 1) (a + 9) (a + 29) (a + 30) := by
  unfold fX2_become
  refine exists_bs (i2_1_0 W) ?_
  refine exists_bs (p2_29_0 W) ?_
  generalize hI1 : wr I (a + 29) 0 (I (a + 1) 0) = I1
  have f1 : ∀ x j, (x ≠ a + 29 ∨ j ≠ 0) → I1 x j = I x j := fun x j h => by rw [← hI1, wr_or h]
  have v1 : I1 (a + 29) 0 = I (a + 1) 0 := by rw [← hI1, wr_at]
  refine exists_bs (e2_1_1 W) ?_
  refine exists_bs (e2_29_1 W) ?_
  obtain ⟨I2, c2, f2, v2⟩ := copy_y (I := I1) (g9 W) (g30 W) (show 2 < 1000 by omega)
  refine exists_bs c2 ?_
  refine exists_bs (e2_1_2 W) ?_
  refine exists_bs (e2_29_2 W) ?_
  obtain ⟨I3, c3, f3, v3⟩ := copy_y (I := I2) (g10 W) (g31 W) (show 3 < 1000 by omega)
  refine exists_bs c3 ?_
  refine exists_bs (e2_1_3 W) ?_
  refine exists_bs (e2_29_3 W) ?_
  obtain ⟨I4, c4, f4, v4⟩ := copyRows_y (I := I3) (l11 W) (l32 W) (fun p hp => a11 W hp) (fun p hp => a32 W hp) (fun p hp => g11 W hp) (fun p hp => g32 W hp) (by omega) (by omega) (by omega)
  refine exists_bs c4 ?_
  refine exists_bs (e2_1_4 W) ?_
  refine exists_bs (e2_29_4 W) ?_
  obtain ⟨I5, c5, f5, v5⟩ := copyRows_y (I := I4) (l17 W) (l38 W) (fun p hp => a17 W hp) (fun p hp => a38 W hp) (fun p hp => g17 W hp) (fun p hp => g38 W hp) (by omega) (by omega) (by omega)
  refine exists_bs c5 ?_
  refine exists_bs (i2_1_5 W) ?_
  refine exists_bs (p2_29_5 W) ?_
  generalize hI6 : wr I5 (a + 29) 5 (I5 (a + 1) 5) = I6
  have f6 : ∀ x j, (x ≠ a + 29 ∨ j ≠ 5) → I6 x j = I5 x j := fun x j h => by rw [← hI6, wr_or h]
  have v6 : I6 (a + 29) 5 = I5 (a + 1) 5 := by rw [← hI6, wr_at]
  refine exists_bs (e2_1_6 W) ?_
  refine exists_bs (e2_29_6 W) ?_
  obtain ⟨I7, c7, f7, v7⟩ := copy_y (I := I6) (g28 W) (g49 W) (show 24 < 1000 by omega)
  refine exists_bs c7 ?_
  refine exists_bs (i2_1_7 W) ?_
  refine exists_bs (p2_29_7 W) ?_
  generalize hI8 : wr I7 (a + 29) 7 (I7 (a + 1) 7) = I8
  have f8 : ∀ x j, (x ≠ a + 29 ∨ j ≠ 7) → I8 x j = I7 x j := fun x j h => by rw [← hI8, wr_or h]
  have v8 : I8 (a + 29) 7 = I7 (a + 1) 7 := by rw [← hI8, wr_at]
  refine exists_bs (e2_1_8 W) ?_
  obtain ⟨s', es, Ws, ks⟩ := (WW_kept W W.2.2.2.2.2.2.2.2.2.2.2.1 ho1 ho2 (by first | exact ho1 | exact ho2)).1
  refine exists_bs es ?_
  refine ⟨s', I8, rfl, Ws, ks, ?_⟩
  have g1 : ∀ x, x ≠ a + 29 → (x < a + 30 ∨ a + 50 ≤ x) → I8 x = I x := fun x h1 h2 => by
    funext j
    rw [f8 x j (Or.inl h1), f7 x (by omega), f6 x j (Or.inl h1), f5 x (by omega), f4 x (by omega), f3 x (by omega), f2 x (by omega), f1 x j (Or.inl h1)]
  refine ⟨fun x h1 h2 => g1 x h1 (by omega), fun k hk => ?_, fun j hj => ?_, fun j hj => ?_, fun p j hp hj => ?_, fun p j hp hj => ?_, fun j hj => ?_⟩
  · obtain rfl | rfl | rfl := hk
    · rw [f8 _ _ (by omega), f7 _ (by omega), f6 _ _ (by omega), f5 _ (by omega), f4 _ (by omega), f3 _ (by omega), f2 _ (by omega), v1]
    · rw [f8 _ _ (by omega), f7 _ (by omega), v6, f5 _ (by omega), f4 _ (by omega), f3 _ (by omega), f2 _ (by omega), f1 _ _ (by omega)]
    · rw [v8, f7 _ (by omega), f6 _ _ (by omega), f5 _ (by omega), f4 _ (by omega), f3 _ (by omega), f2 _ (by omega), f1 _ _ (by omega)]
  · rw [f8 _ _ (by omega), f7 _ (by omega), f6 _ _ (by omega), f5 _ (by omega), f4 _ (by omega), f3 _ (by omega), v2 j hj, f1 _ _ (by omega)]
  · rw [f8 _ _ (by omega), f7 _ (by omega), f6 _ _ (by omega), f5 _ (by omega), f4 _ (by omega), v3 j hj, f2 _ (by omega), f1 _ _ (by omega)]
  · rw [f8 _ _ (by omega), f7 _ (by omega), f6 _ _ (by omega), f5 _ (by omega), v4 p j hp hj, f3 _ (by omega), f2 _ (by omega), f1 _ _ (by omega)]
  · rw [f8 _ _ (by omega), f7 _ (by omega), f6 _ _ (by omega), v5 p j hp hj, f4 _ (by omega), f3 _ (by omega), f2 _ (by omega), f1 _ _ (by omega)]
  · rw [f8 _ _ (by omega), v7 j hj, f6 _ _ (by omega), f5 _ (by omega), f4 _ (by omega), f3 _ (by omega), f2 _ (by omega), f1 _ _ (by omega)]
theorem becomeN (W : WW s a w1 w2) (ho1 : w1 = a + 2 ∨ a + 157 ≤ w1) (ho2 : w2 = a + 2 ∨ a + 157 ≤ w2) : ∃ s' I', fX2_become (a + 1) (a + 29) s I = some (s', I') ∧ WW s' a w2 w2 ∧ (∀ x, x ≠ a + 1 → s' x = s x) ∧ Bec I I' (a + 29) (a + 30) (a + 1) (a + 9) := by
  unfold fX2_become
  refine exists_bs (i2_29_0 W) ?_
  refine exists_bs (p2_1_0 W) ?_
  generalize hI1 : wr I (a + 1) 0 (I (a + 29) 0) = I1
  have f1 : ∀ x j, (x ≠ a + 1 ∨ j ≠ 0) → I1 x j = I x j := fun x j h => by rw [← hI1, wr_or h]
  have v1 : I1 (a + 1) 0 = I (a + 29) 0 := by rw [← hI1, wr_at]
  refine exists_bs (e2_29_1 W) ?_
  refine exists_bs (e2_1_1 W) ?_
  obtain ⟨I2, c2, f2, v2⟩ := copy_y (I := I1) (g30 W) (g9 W) (show 2 < 1000 by omega)
  refine exists_bs c2 ?_
  refine exists_bs (e2_29_2 W) ?_
  refine exists_bs (e2_1_2 W) ?_
  obtain ⟨I3, c3, f3, v3⟩ := copy_y (I := I2) (g31 W) (g10 W) (show 3 < 1000 by omega)
  refine exists_bs c3 ?_
  refine exists_bs (e2_29_3 W) ?_
  refine exists_bs (e2_1_3 W) ?_
  obtain ⟨I4, c4, f4, v4⟩ := copyRows_y (I := I3) (l32 W) (l11 W) (fun p hp => a32 W hp) (fun p hp => a11 W hp) (fun p hp => g32 W hp) (fun p hp => g11 W hp) (by omega) (by omega) (by omega)
  refine exists_bs c4 ?_
  refine exists_bs (e2_29_4 W) ?_
  refine exists_bs (e2_1_4 W) ?_
  obtain ⟨I5, c5, f5, v5⟩ := copyRows_y (I := I4) (l38 W) (l17 W) (fun p hp => a38 W hp) (fun p hp => a17 W hp) (fun p hp => g38 W hp) (fun p hp => g17 W hp) (by omega) (by omega) (by omega)
  refine exists_bs c5 ?_
  refine exists_bs (i2_29_5 W) ?_
  refine exists_bs (p2_1_5 W) ?_
  generalize hI6 : wr I5 (a + 1) 5 (I5 (a + 29) 5) = I6
  have f6 : ∀ x j, (x ≠ a + 1 ∨ j ≠ 5) → I6 x j = I5 x j := fun x j h => by rw [← hI6, wr_or h]
  have v6 : I6 (a + 1) 5 = I5 (a + 29) 5 := by rw [← hI6, wr_at]
  refine exists_bs (e2_29_6 W) ?_
  refine exists_bs (e2_1_6 W) ?_
  obtain ⟨I7, c7, f7, v7⟩ := copy_y (I := I6) (g49 W) (g28 W) (show 24 < 1000 by omega)
  refine exists_bs c7 ?_
  refine exists_bs (i2_29_7 W) ?_
  refine exists_bs (p2_1_7 W) ?_
  generalize hI8 : wr I7 (a + 1) 7 (I7 (a + 29) 7) = I8
  have f8 : ∀ x j, (x ≠ a + 1 ∨ j ≠ 7) → I8 x j = I7 x j := fun x j h => by rw [← hI8, wr_or h]
  have v8 : I8 (a + 1) 7 = I7 (a + 29) 7 := by rw [← hI8, wr_at]
  refine exists_bs (e2_29_8 W) ?_
  obtain ⟨s', es, Ws, ks⟩ := (WW_kept W W.2.2.2.2.2.2.2.2.2.2.2.2 ho1 ho2 (by first | exact ho1 | exact ho2)).2
  refine exists_bs es ?_
  refine ⟨s', I8, rfl, Ws, ks, ?_⟩
  have g1 : ∀ x, x ≠ a + 1 → (x < a + 9 ∨ a + 29 ≤ x) → I8 x = I x := fun x h1 h2 => by
    funext j
    rw [f8 x j (Or.inl h1), f7 x (by omega), f6 x j (Or.inl h1), f5 x (by omega), f4 x (by omega), f3 x (by omega), f2 x (by omega), f1 x j (Or.inl h1)]
  refine ⟨fun x h1 h2 => g1 x h1 (by omega), fun k hk => ?_, fun j hj => ?_, fun j hj => ?_, fun p j hp hj => ?_, fun p j hp hj => ?_, fun j hj => ?_⟩
  · obtain rfl | rfl | rfl := hk
    · rw [f8 _ _ (by omega), f7 _ (by omega), f6 _ _ (by omega), f5 _ (by omega), f4 _ (by omega), f3 _ (by omega), f2 _ (by omega), v1]
    · rw [f8 _ _ (by omega), f7 _ (by omega), v6, f5 _ (by omega), f4 _ (by omega), f3 _ (by omega), f2 _ (by omega), f1 _ _ (by omega)]
    · rw [v8, f7 _ (by omega), f6 _ _ (by omega), f5 _ (by omega), f4 _ (by omega), f3 _ (by omega), f2 _ (by omega), f1 _ _ (by omega)]
  · rw [f8 _ _ (by omega), f7 _ (by omega), f6 _ _ (by omega), f5 _ (by omega), f4 _ (by omega), f3 _ (by omega), v2 j hj, f1 _ _ (by omega)]
  · rw [f8 _ _ (by omega), f7 _ (by omega), f6 _ _ (by omega), f5 _ (by omega), f4 _ (by omega), v3 j hj, f2 _ (by omega), f1 _ _ (by omega)]
  · rw [f8 _ _ (by omega), f7 _ (by omega), f6 _ _ (by omega), f5 _ (by omega), v4 p j hp hj, f3 _ (by omega), f2 _ (by omega), f1 _ _ (by omega)]
  · rw [f8 _ _ (by omega), f7 _ (by omega), f6 _ _ (by omega), v5 p j hp hj, f4 _ (by omega), f3 _ (by omega), f2 _ (by omega), f1 _ _ (by omega)]
  · rw [f8 _ _ (by omega), v7 j hj, f6 _ _ (by omega), f5 _ (by omega), f4 _ (by omega), f3 _ (by omega), f2 _ (by omega), f1 _ _ (by omega)]
theorem copyM_y {b x y N : Nat} (hy : aL s y = some (nI N)) (rx : ∀ (I' : IH) j, j < N → aI s I' 0 x (nI j) = some (I' x j)) (sy : ∀ (I' : IH) (v : Int32) j, j < N → sI s I' y (nI j) v = some (wr I' y j v)) (hN : N < 1000) (hxy : x ≠ y) : ∃ I', fX7_copy s b x y I = some I' ∧ (∀ z, z ≠ y → I' z = I z) ∧ ∀ j, j < N → I' y j = I x j := by
  have key : ∀ m q fuel (I0 : IH), q + m = N → m < fuel → (∀ z, z ≠ y → I0 z = I z) → (∀ j, j < q → I0 y j = I x j) → ∃ I', fX7_copy_b2 s b fuel x y (nI q) I0 = some I' ∧ (∀ z, z ≠ y → I' z = I z) ∧ ∀ j, j < N → I' y j = I x j := by
    intro m
    induction m with
    | zero =>
      intro q fuel I0 h1 h2 f v
      obtain ⟨u, rfl⟩ : ∃ u, fuel = u + 1 := ⟨fuel - 1, by omega⟩
      obtain rfl : q = N := h1
      refine ⟨I0, ?_, f, v⟩
      rw [fX7_copy_b2, hy, Option.bind_some, if_pos (nI_le (Nat.le_refl _) (by omega))]
    | succ m ih =>
      intro q fuel I0 h1 h2 f v
      obtain ⟨u, rfl⟩ : ∃ u, fuel = u + 1 := ⟨fuel - 1, by omega⟩
      rw [fX7_copy_b2, hy, Option.bind_some, if_neg (nI_ge (by omega) (by omega)), rx I0 q (by omega), Option.bind_some, sy I0 _ q (by omega), Option.bind_some, nI_1]
      refine ih (q + 1) u _ (by omega) (by omega) (fun z hz => ?_) (fun j hj => ?_)
      · rw [wr_ne hz, f z hz]
      · by_cases hjq : j = q
        · subst hjq
          rw [wr_at, f x hxy]
        · rw [wr_nj hjq]
          exact v j (by omega)
  exact key N 0 1000 I (by omega) (by omega) (fun _ _ => rfl) (fun j hj => absurd hj (by omega))
/-- the same copy between a state's fields and their image, on both sides -/
theorem SR.copy' {I I' : IH} {t u t' u' : Nat} {mP mA mB mD mW mP' mA' mB' mD' mW' : Int32} {sky kd vv hh dy pl ho cu wo sky' kd' vv' hh' dy' pl' ho' cu' wo' : Nat → Int32} (h : SR I t u mP mA mB mD mW sky kd vv hh dy pl ho cu wo) (B : (∀ k, k = 0 ∨ k = 5 ∨ k = 7 → I' t' k = I t k) ∧ (∀ j, j < 2 → I' u' j = I u j) ∧ (∀ j, j < 3 → I' (u' + 1) j = I (u + 1) j) ∧ (∀ p j, p < 5 → j < 3 → I' (u' + 3 + p) j = I (u + 3 + p) j) ∧ (∀ p j, p < 10 → j < 4 → I' (u' + 9 + p) j = I (u + 9 + p) j) ∧ ∀ j, j < 24 → I' (u' + 19) j = I (u + 19) j) (e3 : mP' = mP ∧ mA' = mA ∧ mB' = mB ∧ mD' = mD ∧ mW' = mW) (e4 : (∀ j, j < 2 → sky' j = sky j) ∧ (∀ j, j < 5 → kd' j = kd j) ∧ (∀ j, j < 5 → vv' j = vv j) ∧ (∀ j, j < 5 → hh' j = hh j) ∧ (∀ j, j < 24 → dy' j = dy j) ∧ (∀ j, j < 10 → pl' j = pl j) ∧ (∀ j, j < 10 → ho' j = ho j) ∧ (∀ j, j < 10 → cu' j = cu j) ∧ (∀ j, j < 10 → wo' j = wo j)) : SR I' t' u' mP' mA' mB' mD' mW' sky' kd' vv' hh' dy' pl' ho' cu' wo' := by
  obtain ⟨rfl, rfl, rfl, rfl, rfl⟩ := e3
  obtain ⟨h1, h2, h3, h4, h5, h6, h7, h8⟩ := h
  obtain ⟨b1, b2, b3, b4, b5, b6⟩ := B
  obtain ⟨m1, m2, m3, m4, m5, m6, m7, m8, m9⟩ := e4
  unfold SR
  rw [b1 0 (by omega), b1 5 (by omega), b1 7 (by omega)]
  refine ⟨h1, fun d hd => ?_, ?_, fun p hp => ?_, h5, fun w hw hw2 => ?_, h7, fun d hd hd2 => ?_⟩
  · rw [m1 d hd, b2 d hd]
    exact h2 d hd
  · unfold C3
    rw [b3 0 (by omega), b3 1 (by omega), b3 2 (by omega)]
    exact h3
  · rw [m2 p hp, m3 p hp, m4 p hp, b4 p 0 hp (by omega), b4 p 1 hp (by omega), b4 p 2 hp (by omega)]
    exact h4 p hp
  · rw [m6 w hw, m7 w hw, m8 w hw, m9 w hw, b5 w 0 hw (by omega), b5 w 1 hw (by omega), b5 w 2 hw (by omega), b5 w 3 hw (by omega)]
    exact h6 w hw hw2
  · rw [m5 d hd, b6 d hd]
    exact h8 d hd hd2
theorem Bec.kept {I I1 I2 : IH} {t u t' u' : Nat} (B : Bec I I1 t u t' u') (e : ∀ x, (x = t' ∨ (u' ≤ x ∧ x < u' + 20)) → I2 x = I1 x) : (∀ k, k = 0 ∨ k = 5 ∨ k = 7 → I2 t' k = I t k) ∧ (∀ j, j < 2 → I2 u' j = I u j) ∧ (∀ j, j < 3 → I2 (u' + 1) j = I (u + 1) j) ∧ (∀ p j, p < 5 → j < 3 → I2 (u' + 3 + p) j = I (u + 3 + p) j) ∧ (∀ p j, p < 10 → j < 4 → I2 (u' + 9 + p) j = I (u + 9 + p) j) ∧ ∀ j, j < 24 → I2 (u' + 19) j = I (u + 19) j := by
  obtain ⟨b0, b1, b2, b3, b4, b5, b6⟩ := B
  refine ⟨fun k hk => ?_, fun j hj => ?_, fun j hj => ?_, fun p j hp hj => ?_, fun p j hp hj => ?_, fun j hj => ?_⟩
  all_goals rw [e _ (by omega)]
  · exact b1 k hk
  · exact b2 j hj
  · exact b3 j hj
  · exact b4 p j hp hj
  · exact b5 p j hp hj
  · exact b6 j hj
theorem ex_bs {α β : Type} {o : Option α} {f : α → Option (β × IH)} {x : α} {Q : IH → Prop} {g : IH → β} (h : o = some x) (k : ∃ z, f x = some (g z, z) ∧ Q z) : ∃ z, o.bind f = some (g z, z) ∧ Q z := by
  rw [h, Option.bind_some]
  exact k
theorem ex_if_f {β : Type} {c : Prop} [Decidable c] {A B : Option (β × IH)} {Q : IH → Prop} {g : IH → β} (h : ¬ c) (k : ∃ z, B = some (g z, z) ∧ Q z) : ∃ z, (if c then A else B) = some (g z, z) ∧ Q z := by
  rw [if_neg h]
  exact k
theorem imageM (W : WW s a w1 w2) : ∃ I', fX7_image s (a + 110) I = some (I' (a + 110) 39, I') ∧ (∀ x k, (x = a + 110 → ¬ (k = 45 ∨ k = 46 ∨ k = 47 ∨ k = 48 ∨ k = 49 ∨ k = 50 ∨ k = 51)) → x ≠ a + 143 ∧ x ≠ a + 144 ∧ x ≠ a + 145 ∧ x ≠ a + 146 ∧ x ≠ a + 147 ∧ x ≠ a + 148 ∧ x ≠ a + 149 ∧ x ≠ a + 150 ∧ x ≠ a + 151 → I' x k = I x k) ∧ (I' (a + 110) 46 = I (a + 110) 0 ∧ I' (a + 110) 47 = I (a + 110) 1 ∧ I' (a + 110) 48 = I (a + 110) 2 ∧ I' (a + 110) 49 = I (a + 110) 8 ∧ I' (a + 110) 50 = I (a + 110) 25 ∧ I' (a + 110) 51 = I (a + 110) 39) ∧ ((∀ j, j < 2 → I' (a + 143) j = I (a + 111) j) ∧ (∀ j, j < 5 → I' (a + 144) j = I (a + 112) j) ∧ (∀ j, j < 5 → I' (a + 145) j = I (a + 113) j) ∧ (∀ j, j < 5 → I' (a + 146) j = I (a + 114) j) ∧ (∀ j, j < 24 → I' (a + 147) j = I (a + 125) j) ∧ (∀ j, j < 10 → I' (a + 148) j = I (a + 138) j) ∧ (∀ j, j < 10 → I' (a + 149) j = I (a + 139) j) ∧ (∀ j, j < 10 → I' (a + 150) j = I (a + 140) j) ∧ (∀ j, j < 10 → I' (a + 151) j = I (a + 141) j)) ∧ I' (a + 110) 45 = 1 := by
  unfold fX7_image
  refine ex_bs (p7_110_45 W) ?_
  generalize hJ0 : wr I (a + 110) 45 1 = J0
  have s0 : ∀ x j, (x ≠ a + 110 ∨ j ≠ 45) → J0 x j = I x j := fun x j h => by rw [← hJ0, wr_or h]
  have u0 : J0 (a + 110) 45 = 1 := by rw [← hJ0, wr_at]
  refine ex_bs (i7_110_0 W) ?_
  refine ex_bs (p7_110_46 W) ?_
  generalize hJ1 : wr J0 (a + 110) 46 (J0 (a + 110) 0) = J1
  have s1 : ∀ x j, (x ≠ a + 110 ∨ j ≠ 46) → J1 x j = J0 x j := fun x j h => by rw [← hJ1, wr_or h]
  have u1 : J1 (a + 110) 46 = J0 (a + 110) 0 := by rw [← hJ1, wr_at]
  refine ex_bs (i7_110_1 W) ?_
  refine ex_bs (p7_110_47 W) ?_
  generalize hJ2 : wr J1 (a + 110) 47 (J1 (a + 110) 1) = J2
  have s2 : ∀ x j, (x ≠ a + 110 ∨ j ≠ 47) → J2 x j = J1 x j := fun x j h => by rw [← hJ2, wr_or h]
  have u2 : J2 (a + 110) 47 = J1 (a + 110) 1 := by rw [← hJ2, wr_at]
  refine ex_bs (i7_110_2 W) ?_
  refine ex_bs (p7_110_48 W) ?_
  generalize hJ3 : wr J2 (a + 110) 48 (J2 (a + 110) 2) = J3
  have s3 : ∀ x j, (x ≠ a + 110 ∨ j ≠ 48) → J3 x j = J2 x j := fun x j h => by rw [← hJ3, wr_or h]
  have u3 : J3 (a + 110) 48 = J2 (a + 110) 2 := by rw [← hJ3, wr_at]
  refine ex_bs (i7_110_8 W) ?_
  refine ex_bs (p7_110_49 W) ?_
  generalize hJ4 : wr J3 (a + 110) 49 (J3 (a + 110) 8) = J4
  have s4 : ∀ x j, (x ≠ a + 110 ∨ j ≠ 49) → J4 x j = J3 x j := fun x j h => by rw [← hJ4, wr_or h]
  have u4 : J4 (a + 110) 49 = J3 (a + 110) 8 := by rw [← hJ4, wr_at]
  refine ex_bs (i7_110_25 W) ?_
  refine ex_bs (p7_110_50 W) ?_
  generalize hJ5 : wr J4 (a + 110) 50 (J4 (a + 110) 25) = J5
  have s5 : ∀ x j, (x ≠ a + 110 ∨ j ≠ 50) → J5 x j = J4 x j := fun x j h => by rw [← hJ5, wr_or h]
  have u5 : J5 (a + 110) 50 = J4 (a + 110) 25 := by rw [← hJ5, wr_at]
  refine ex_bs (i7_110_39 W) ?_
  refine ex_bs (p7_110_51 W) ?_
  generalize hJ6 : wr J5 (a + 110) 51 (J5 (a + 110) 39) = J6
  have s6 : ∀ x j, (x ≠ a + 110 ∨ j ≠ 51) → J6 x j = J5 x j := fun x j h => by rw [← hJ6, wr_or h]
  have u6 : J6 (a + 110) 51 = J5 (a + 110) 39 := by rw [← hJ6, wr_at]
  refine ex_bs (e7_110_3 W) ?_
  refine ex_bs (e7_110_52 W) ?_
  obtain ⟨J7, c7, s7, u7⟩ := copyM_y (I := J6) (b := a + 110) (l143 W) (fun I' j hj => r111 W hj) (fun I' v j hj => s143 W hj) (by omega) (show a + 111 ≠ a + 143 by omega)
  refine ex_bs c7 ?_
  refine ex_bs (e7_110_4 W) ?_
  refine ex_bs (e7_110_53 W) ?_
  obtain ⟨J8, c8, s8, u8⟩ := copyM_y (I := J7) (b := a + 110) (l144 W) (fun I' j hj => r112 W hj) (fun I' v j hj => s144 W hj) (by omega) (show a + 112 ≠ a + 144 by omega)
  refine ex_bs c8 ?_
  refine ex_bs (e7_110_5 W) ?_
  refine ex_bs (e7_110_54 W) ?_
  obtain ⟨J9, c9, s9, u9⟩ := copyM_y (I := J8) (b := a + 110) (l145 W) (fun I' j hj => r113 W hj) (fun I' v j hj => s145 W hj) (by omega) (show a + 113 ≠ a + 145 by omega)
  refine ex_bs c9 ?_
  refine ex_bs (e7_110_6 W) ?_
  refine ex_bs (e7_110_55 W) ?_
  obtain ⟨J10, c10, s10, u10⟩ := copyM_y (I := J9) (b := a + 110) (l146 W) (fun I' j hj => r114 W hj) (fun I' v j hj => s146 W hj) (by omega) (show a + 114 ≠ a + 146 by omega)
  refine ex_bs c10 ?_
  refine ex_bs (e7_110_26 W) ?_
  refine ex_bs (e7_110_56 W) ?_
  obtain ⟨J11, c11, s11, u11⟩ := copyM_y (I := J10) (b := a + 110) (l147 W) (fun I' j hj => r125 W hj) (fun I' v j hj => s147 W hj) (by omega) (show a + 125 ≠ a + 147 by omega)
  refine ex_bs c11 ?_
  refine ex_bs (e7_110_40 W) ?_
  refine ex_bs (e7_110_57 W) ?_
  obtain ⟨J12, c12, s12, u12⟩ := copyM_y (I := J11) (b := a + 110) (l148 W) (fun I' j hj => r138 W hj) (fun I' v j hj => s148 W hj) (by omega) (show a + 138 ≠ a + 148 by omega)
  refine ex_bs c12 ?_
  refine ex_bs (e7_110_41 W) ?_
  refine ex_bs (e7_110_58 W) ?_
  obtain ⟨J13, c13, s13, u13⟩ := copyM_y (I := J12) (b := a + 110) (l149 W) (fun I' j hj => r139 W hj) (fun I' v j hj => s149 W hj) (by omega) (show a + 139 ≠ a + 149 by omega)
  refine ex_bs c13 ?_
  refine ex_bs (e7_110_42 W) ?_
  refine ex_bs (e7_110_59 W) ?_
  obtain ⟨J14, c14, s14, u14⟩ := copyM_y (I := J13) (b := a + 110) (l150 W) (fun I' j hj => r140 W hj) (fun I' v j hj => s150 W hj) (by omega) (show a + 140 ≠ a + 150 by omega)
  refine ex_bs c14 ?_
  refine ex_bs (e7_110_43 W) ?_
  refine ex_bs (e7_110_60 W) ?_
  obtain ⟨J15, c15, s15, u15⟩ := copyM_y (I := J14) (b := a + 110) (l151 W) (fun I' j hj => r141 W hj) (fun I' v j hj => s151 W hj) (by omega) (show a + 141 ≠ a + 151 by omega)
  refine ex_bs c15 ?_
  refine ex_bs (i7_110_39 W) ?_
  refine ⟨J15, rfl, fun x k hx hy => ?_, ⟨?_, ?_, ?_, ?_, ?_, ?_⟩, ⟨fun j hj => ?_, fun j hj => ?_, fun j hj => ?_, fun j hj => ?_, fun j hj => ?_, fun j hj => ?_, fun j hj => ?_, fun j hj => ?_, fun j hj => ?_⟩, ?_⟩
  · rw [s15 _ (by omega), s14 _ (by omega), s13 _ (by omega), s12 _ (by omega), s11 _ (by omega), s10 _ (by omega), s9 _ (by omega), s8 _ (by omega), s7 _ (by omega), s6 _ _ (by omega), s5 _ _ (by omega), s4 _ _ (by omega), s3 _ _ (by omega), s2 _ _ (by omega), s1 _ _ (by omega), s0 _ _ (by omega)]
  · rw [s15 _ (by omega), s14 _ (by omega), s13 _ (by omega), s12 _ (by omega), s11 _ (by omega), s10 _ (by omega), s9 _ (by omega), s8 _ (by omega), s7 _ (by omega), s6 _ _ (by omega), s5 _ _ (by omega), s4 _ _ (by omega), s3 _ _ (by omega), s2 _ _ (by omega), u1, s0 _ _ (by omega)]
  · rw [s15 _ (by omega), s14 _ (by omega), s13 _ (by omega), s12 _ (by omega), s11 _ (by omega), s10 _ (by omega), s9 _ (by omega), s8 _ (by omega), s7 _ (by omega), s6 _ _ (by omega), s5 _ _ (by omega), s4 _ _ (by omega), s3 _ _ (by omega), u2, s1 _ _ (by omega), s0 _ _ (by omega)]
  · rw [s15 _ (by omega), s14 _ (by omega), s13 _ (by omega), s12 _ (by omega), s11 _ (by omega), s10 _ (by omega), s9 _ (by omega), s8 _ (by omega), s7 _ (by omega), s6 _ _ (by omega), s5 _ _ (by omega), s4 _ _ (by omega), u3, s2 _ _ (by omega), s1 _ _ (by omega), s0 _ _ (by omega)]
  · rw [s15 _ (by omega), s14 _ (by omega), s13 _ (by omega), s12 _ (by omega), s11 _ (by omega), s10 _ (by omega), s9 _ (by omega), s8 _ (by omega), s7 _ (by omega), s6 _ _ (by omega), s5 _ _ (by omega), u4, s3 _ _ (by omega), s2 _ _ (by omega), s1 _ _ (by omega), s0 _ _ (by omega)]
  · rw [s15 _ (by omega), s14 _ (by omega), s13 _ (by omega), s12 _ (by omega), s11 _ (by omega), s10 _ (by omega), s9 _ (by omega), s8 _ (by omega), s7 _ (by omega), s6 _ _ (by omega), u5, s4 _ _ (by omega), s3 _ _ (by omega), s2 _ _ (by omega), s1 _ _ (by omega), s0 _ _ (by omega)]
  · rw [s15 _ (by omega), s14 _ (by omega), s13 _ (by omega), s12 _ (by omega), s11 _ (by omega), s10 _ (by omega), s9 _ (by omega), s8 _ (by omega), s7 _ (by omega), u6, s5 _ _ (by omega), s4 _ _ (by omega), s3 _ _ (by omega), s2 _ _ (by omega), s1 _ _ (by omega), s0 _ _ (by omega)]
  · rw [s15 _ (by omega), s14 _ (by omega), s13 _ (by omega), s12 _ (by omega), s11 _ (by omega), s10 _ (by omega), s9 _ (by omega), s8 _ (by omega), u7 j hj, s6 _ _ (by omega), s5 _ _ (by omega), s4 _ _ (by omega), s3 _ _ (by omega), s2 _ _ (by omega), s1 _ _ (by omega), s0 _ _ (by omega)]
  · rw [s15 _ (by omega), s14 _ (by omega), s13 _ (by omega), s12 _ (by omega), s11 _ (by omega), s10 _ (by omega), s9 _ (by omega), u8 j hj, s7 _ (by omega), s6 _ _ (by omega), s5 _ _ (by omega), s4 _ _ (by omega), s3 _ _ (by omega), s2 _ _ (by omega), s1 _ _ (by omega), s0 _ _ (by omega)]
  · rw [s15 _ (by omega), s14 _ (by omega), s13 _ (by omega), s12 _ (by omega), s11 _ (by omega), s10 _ (by omega), u9 j hj, s8 _ (by omega), s7 _ (by omega), s6 _ _ (by omega), s5 _ _ (by omega), s4 _ _ (by omega), s3 _ _ (by omega), s2 _ _ (by omega), s1 _ _ (by omega), s0 _ _ (by omega)]
  · rw [s15 _ (by omega), s14 _ (by omega), s13 _ (by omega), s12 _ (by omega), s11 _ (by omega), u10 j hj, s9 _ (by omega), s8 _ (by omega), s7 _ (by omega), s6 _ _ (by omega), s5 _ _ (by omega), s4 _ _ (by omega), s3 _ _ (by omega), s2 _ _ (by omega), s1 _ _ (by omega), s0 _ _ (by omega)]
  · rw [s15 _ (by omega), s14 _ (by omega), s13 _ (by omega), s12 _ (by omega), u11 j hj, s10 _ (by omega), s9 _ (by omega), s8 _ (by omega), s7 _ (by omega), s6 _ _ (by omega), s5 _ _ (by omega), s4 _ _ (by omega), s3 _ _ (by omega), s2 _ _ (by omega), s1 _ _ (by omega), s0 _ _ (by omega)]
  · rw [s15 _ (by omega), s14 _ (by omega), s13 _ (by omega), u12 j hj, s11 _ (by omega), s10 _ (by omega), s9 _ (by omega), s8 _ (by omega), s7 _ (by omega), s6 _ _ (by omega), s5 _ _ (by omega), s4 _ _ (by omega), s3 _ _ (by omega), s2 _ _ (by omega), s1 _ _ (by omega), s0 _ _ (by omega)]
  · rw [s15 _ (by omega), s14 _ (by omega), u13 j hj, s12 _ (by omega), s11 _ (by omega), s10 _ (by omega), s9 _ (by omega), s8 _ (by omega), s7 _ (by omega), s6 _ _ (by omega), s5 _ _ (by omega), s4 _ _ (by omega), s3 _ _ (by omega), s2 _ _ (by omega), s1 _ _ (by omega), s0 _ _ (by omega)]
  · rw [s15 _ (by omega), u14 j hj, s13 _ (by omega), s12 _ (by omega), s11 _ (by omega), s10 _ (by omega), s9 _ (by omega), s8 _ (by omega), s7 _ (by omega), s6 _ _ (by omega), s5 _ _ (by omega), s4 _ _ (by omega), s3 _ _ (by omega), s2 _ _ (by omega), s1 _ _ (by omega), s0 _ _ (by omega)]
  · rw [u15 j hj, s14 _ (by omega), s13 _ (by omega), s12 _ (by omega), s11 _ (by omega), s10 _ (by omega), s9 _ (by omega), s8 _ (by omega), s7 _ (by omega), s6 _ _ (by omega), s5 _ _ (by omega), s4 _ _ (by omega), s3 _ _ (by omega), s2 _ _ (by omega), s1 _ _ (by omega), s0 _ _ (by omega)]
  · rw [s15 _ (by omega), s14 _ (by omega), s13 _ (by omega), s12 _ (by omega), s11 _ (by omega), s10 _ (by omega), s9 _ (by omega), s8 _ (by omega), s7 _ (by omega), s6 _ _ (by omega), s5 _ _ (by omega), s4 _ _ (by omega), s3 _ _ (by omega), s2 _ _ (by omega), s1 _ _ (by omega), u0]
theorem undoM (W : WW s a w1 w2) (h45 : I (a + 110) 45 = 1) : ∃ I', fX7_undo s (a + 110) I = some (I' (a + 110) 39, I') ∧ (∀ x k, (x = a + 110 → ¬ (k = 0 ∨ k = 1 ∨ k = 2 ∨ k = 8 ∨ k = 25 ∨ k = 39)) → x ≠ a + 111 ∧ x ≠ a + 112 ∧ x ≠ a + 113 ∧ x ≠ a + 114 ∧ x ≠ a + 125 ∧ x ≠ a + 138 ∧ x ≠ a + 139 ∧ x ≠ a + 140 ∧ x ≠ a + 141 → I' x k = I x k) ∧ (I' (a + 110) 0 = I (a + 110) 46 ∧ I' (a + 110) 1 = I (a + 110) 47 ∧ I' (a + 110) 2 = I (a + 110) 48 ∧ I' (a + 110) 8 = I (a + 110) 49 ∧ I' (a + 110) 25 = I (a + 110) 50 ∧ I' (a + 110) 39 = I (a + 110) 51) ∧ ((∀ j, j < 2 → I' (a + 111) j = I (a + 143) j) ∧ (∀ j, j < 5 → I' (a + 112) j = I (a + 144) j) ∧ (∀ j, j < 5 → I' (a + 113) j = I (a + 145) j) ∧ (∀ j, j < 5 → I' (a + 114) j = I (a + 146) j) ∧ (∀ j, j < 24 → I' (a + 125) j = I (a + 147) j) ∧ (∀ j, j < 10 → I' (a + 138) j = I (a + 148) j) ∧ (∀ j, j < 10 → I' (a + 139) j = I (a + 149) j) ∧ (∀ j, j < 10 → I' (a + 140) j = I (a + 150) j) ∧ (∀ j, j < 10 → I' (a + 141) j = I (a + 151) j)) := by
  unfold fX7_undo
  refine ex_bs (i7_110_45 W) ?_
  refine ex_if_f (by rw [h45]; decide) ?_
  refine ex_bs (i7_110_46 W) ?_
  refine ex_bs (p7_110_0 W) ?_
  generalize hJ1 : wr I (a + 110) 0 (I (a + 110) 46) = J1
  have s1 : ∀ x j, (x ≠ a + 110 ∨ j ≠ 0) → J1 x j = I x j := fun x j h => by rw [← hJ1, wr_or h]
  have u1 : J1 (a + 110) 0 = I (a + 110) 46 := by rw [← hJ1, wr_at]
  refine ex_bs (i7_110_47 W) ?_
  refine ex_bs (p7_110_1 W) ?_
  generalize hJ2 : wr J1 (a + 110) 1 (J1 (a + 110) 47) = J2
  have s2 : ∀ x j, (x ≠ a + 110 ∨ j ≠ 1) → J2 x j = J1 x j := fun x j h => by rw [← hJ2, wr_or h]
  have u2 : J2 (a + 110) 1 = J1 (a + 110) 47 := by rw [← hJ2, wr_at]
  refine ex_bs (i7_110_48 W) ?_
  refine ex_bs (p7_110_2 W) ?_
  generalize hJ3 : wr J2 (a + 110) 2 (J2 (a + 110) 48) = J3
  have s3 : ∀ x j, (x ≠ a + 110 ∨ j ≠ 2) → J3 x j = J2 x j := fun x j h => by rw [← hJ3, wr_or h]
  have u3 : J3 (a + 110) 2 = J2 (a + 110) 48 := by rw [← hJ3, wr_at]
  refine ex_bs (i7_110_49 W) ?_
  refine ex_bs (p7_110_8 W) ?_
  generalize hJ4 : wr J3 (a + 110) 8 (J3 (a + 110) 49) = J4
  have s4 : ∀ x j, (x ≠ a + 110 ∨ j ≠ 8) → J4 x j = J3 x j := fun x j h => by rw [← hJ4, wr_or h]
  have u4 : J4 (a + 110) 8 = J3 (a + 110) 49 := by rw [← hJ4, wr_at]
  refine ex_bs (i7_110_50 W) ?_
  refine ex_bs (p7_110_25 W) ?_
  generalize hJ5 : wr J4 (a + 110) 25 (J4 (a + 110) 50) = J5
  have s5 : ∀ x j, (x ≠ a + 110 ∨ j ≠ 25) → J5 x j = J4 x j := fun x j h => by rw [← hJ5, wr_or h]
  have u5 : J5 (a + 110) 25 = J4 (a + 110) 50 := by rw [← hJ5, wr_at]
  refine ex_bs (i7_110_51 W) ?_
  refine ex_bs (p7_110_39 W) ?_
  generalize hJ6 : wr J5 (a + 110) 39 (J5 (a + 110) 51) = J6
  have s6 : ∀ x j, (x ≠ a + 110 ∨ j ≠ 39) → J6 x j = J5 x j := fun x j h => by rw [← hJ6, wr_or h]
  have u6 : J6 (a + 110) 39 = J5 (a + 110) 51 := by rw [← hJ6, wr_at]
  refine ex_bs (e7_110_52 W) ?_
  refine ex_bs (e7_110_3 W) ?_
  obtain ⟨J7, c7, s7, u7⟩ := copyM_y (I := J6) (b := a + 110) (l111 W) (fun I' j hj => r143 W hj) (fun I' v j hj => s111 W hj) (by omega) (show a + 143 ≠ a + 111 by omega)
  refine ex_bs c7 ?_
  refine ex_bs (e7_110_53 W) ?_
  refine ex_bs (e7_110_4 W) ?_
  obtain ⟨J8, c8, s8, u8⟩ := copyM_y (I := J7) (b := a + 110) (l112 W) (fun I' j hj => r144 W hj) (fun I' v j hj => s112 W hj) (by omega) (show a + 144 ≠ a + 112 by omega)
  refine ex_bs c8 ?_
  refine ex_bs (e7_110_54 W) ?_
  refine ex_bs (e7_110_5 W) ?_
  obtain ⟨J9, c9, s9, u9⟩ := copyM_y (I := J8) (b := a + 110) (l113 W) (fun I' j hj => r145 W hj) (fun I' v j hj => s113 W hj) (by omega) (show a + 145 ≠ a + 113 by omega)
  refine ex_bs c9 ?_
  refine ex_bs (e7_110_55 W) ?_
  refine ex_bs (e7_110_6 W) ?_
  obtain ⟨J10, c10, s10, u10⟩ := copyM_y (I := J9) (b := a + 110) (l114 W) (fun I' j hj => r146 W hj) (fun I' v j hj => s114 W hj) (by omega) (show a + 146 ≠ a + 114 by omega)
  refine ex_bs c10 ?_
  refine ex_bs (e7_110_56 W) ?_
  refine ex_bs (e7_110_26 W) ?_
  obtain ⟨J11, c11, s11, u11⟩ := copyM_y (I := J10) (b := a + 110) (l125 W) (fun I' j hj => r147 W hj) (fun I' v j hj => s125 W hj) (by omega) (show a + 147 ≠ a + 125 by omega)
  refine ex_bs c11 ?_
  refine ex_bs (e7_110_57 W) ?_
  refine ex_bs (e7_110_40 W) ?_
  obtain ⟨J12, c12, s12, u12⟩ := copyM_y (I := J11) (b := a + 110) (l138 W) (fun I' j hj => r148 W hj) (fun I' v j hj => s138 W hj) (by omega) (show a + 148 ≠ a + 138 by omega)
  refine ex_bs c12 ?_
  refine ex_bs (e7_110_58 W) ?_
  refine ex_bs (e7_110_41 W) ?_
  obtain ⟨J13, c13, s13, u13⟩ := copyM_y (I := J12) (b := a + 110) (l139 W) (fun I' j hj => r149 W hj) (fun I' v j hj => s139 W hj) (by omega) (show a + 149 ≠ a + 139 by omega)
  refine ex_bs c13 ?_
  refine ex_bs (e7_110_59 W) ?_
  refine ex_bs (e7_110_42 W) ?_
  obtain ⟨J14, c14, s14, u14⟩ := copyM_y (I := J13) (b := a + 110) (l140 W) (fun I' j hj => r150 W hj) (fun I' v j hj => s140 W hj) (by omega) (show a + 150 ≠ a + 140 by omega)
  refine ex_bs c14 ?_
  refine ex_bs (e7_110_60 W) ?_
  refine ex_bs (e7_110_43 W) ?_
  obtain ⟨J15, c15, s15, u15⟩ := copyM_y (I := J14) (b := a + 110) (l141 W) (fun I' j hj => r151 W hj) (fun I' v j hj => s141 W hj) (by omega) (show a + 151 ≠ a + 141 by omega)
  refine ex_bs c15 ?_
  refine ex_bs (i7_110_39 W) ?_
  refine ⟨J15, rfl, fun x k hx hy => ?_, ⟨?_, ?_, ?_, ?_, ?_, ?_⟩, ⟨fun j hj => ?_, fun j hj => ?_, fun j hj => ?_, fun j hj => ?_, fun j hj => ?_, fun j hj => ?_, fun j hj => ?_, fun j hj => ?_, fun j hj => ?_⟩⟩
  · rw [s15 _ (by omega), s14 _ (by omega), s13 _ (by omega), s12 _ (by omega), s11 _ (by omega), s10 _ (by omega), s9 _ (by omega), s8 _ (by omega), s7 _ (by omega), s6 _ _ (by omega), s5 _ _ (by omega), s4 _ _ (by omega), s3 _ _ (by omega), s2 _ _ (by omega), s1 _ _ (by omega)]
  · rw [s15 _ (by omega), s14 _ (by omega), s13 _ (by omega), s12 _ (by omega), s11 _ (by omega), s10 _ (by omega), s9 _ (by omega), s8 _ (by omega), s7 _ (by omega), s6 _ _ (by omega), s5 _ _ (by omega), s4 _ _ (by omega), s3 _ _ (by omega), s2 _ _ (by omega), u1]
  · rw [s15 _ (by omega), s14 _ (by omega), s13 _ (by omega), s12 _ (by omega), s11 _ (by omega), s10 _ (by omega), s9 _ (by omega), s8 _ (by omega), s7 _ (by omega), s6 _ _ (by omega), s5 _ _ (by omega), s4 _ _ (by omega), s3 _ _ (by omega), u2, s1 _ _ (by omega)]
  · rw [s15 _ (by omega), s14 _ (by omega), s13 _ (by omega), s12 _ (by omega), s11 _ (by omega), s10 _ (by omega), s9 _ (by omega), s8 _ (by omega), s7 _ (by omega), s6 _ _ (by omega), s5 _ _ (by omega), s4 _ _ (by omega), u3, s2 _ _ (by omega), s1 _ _ (by omega)]
  · rw [s15 _ (by omega), s14 _ (by omega), s13 _ (by omega), s12 _ (by omega), s11 _ (by omega), s10 _ (by omega), s9 _ (by omega), s8 _ (by omega), s7 _ (by omega), s6 _ _ (by omega), s5 _ _ (by omega), u4, s3 _ _ (by omega), s2 _ _ (by omega), s1 _ _ (by omega)]
  · rw [s15 _ (by omega), s14 _ (by omega), s13 _ (by omega), s12 _ (by omega), s11 _ (by omega), s10 _ (by omega), s9 _ (by omega), s8 _ (by omega), s7 _ (by omega), s6 _ _ (by omega), u5, s4 _ _ (by omega), s3 _ _ (by omega), s2 _ _ (by omega), s1 _ _ (by omega)]
  · rw [s15 _ (by omega), s14 _ (by omega), s13 _ (by omega), s12 _ (by omega), s11 _ (by omega), s10 _ (by omega), s9 _ (by omega), s8 _ (by omega), s7 _ (by omega), u6, s5 _ _ (by omega), s4 _ _ (by omega), s3 _ _ (by omega), s2 _ _ (by omega), s1 _ _ (by omega)]
  · rw [s15 _ (by omega), s14 _ (by omega), s13 _ (by omega), s12 _ (by omega), s11 _ (by omega), s10 _ (by omega), s9 _ (by omega), s8 _ (by omega), u7 j hj, s6 _ _ (by omega), s5 _ _ (by omega), s4 _ _ (by omega), s3 _ _ (by omega), s2 _ _ (by omega), s1 _ _ (by omega)]
  · rw [s15 _ (by omega), s14 _ (by omega), s13 _ (by omega), s12 _ (by omega), s11 _ (by omega), s10 _ (by omega), s9 _ (by omega), u8 j hj, s7 _ (by omega), s6 _ _ (by omega), s5 _ _ (by omega), s4 _ _ (by omega), s3 _ _ (by omega), s2 _ _ (by omega), s1 _ _ (by omega)]
  · rw [s15 _ (by omega), s14 _ (by omega), s13 _ (by omega), s12 _ (by omega), s11 _ (by omega), s10 _ (by omega), u9 j hj, s8 _ (by omega), s7 _ (by omega), s6 _ _ (by omega), s5 _ _ (by omega), s4 _ _ (by omega), s3 _ _ (by omega), s2 _ _ (by omega), s1 _ _ (by omega)]
  · rw [s15 _ (by omega), s14 _ (by omega), s13 _ (by omega), s12 _ (by omega), s11 _ (by omega), u10 j hj, s9 _ (by omega), s8 _ (by omega), s7 _ (by omega), s6 _ _ (by omega), s5 _ _ (by omega), s4 _ _ (by omega), s3 _ _ (by omega), s2 _ _ (by omega), s1 _ _ (by omega)]
  · rw [s15 _ (by omega), s14 _ (by omega), s13 _ (by omega), s12 _ (by omega), u11 j hj, s10 _ (by omega), s9 _ (by omega), s8 _ (by omega), s7 _ (by omega), s6 _ _ (by omega), s5 _ _ (by omega), s4 _ _ (by omega), s3 _ _ (by omega), s2 _ _ (by omega), s1 _ _ (by omega)]
  · rw [s15 _ (by omega), s14 _ (by omega), s13 _ (by omega), u12 j hj, s11 _ (by omega), s10 _ (by omega), s9 _ (by omega), s8 _ (by omega), s7 _ (by omega), s6 _ _ (by omega), s5 _ _ (by omega), s4 _ _ (by omega), s3 _ _ (by omega), s2 _ _ (by omega), s1 _ _ (by omega)]
  · rw [s15 _ (by omega), s14 _ (by omega), u13 j hj, s12 _ (by omega), s11 _ (by omega), s10 _ (by omega), s9 _ (by omega), s8 _ (by omega), s7 _ (by omega), s6 _ _ (by omega), s5 _ _ (by omega), s4 _ _ (by omega), s3 _ _ (by omega), s2 _ _ (by omega), s1 _ _ (by omega)]
  · rw [s15 _ (by omega), u14 j hj, s13 _ (by omega), s12 _ (by omega), s11 _ (by omega), s10 _ (by omega), s9 _ (by omega), s8 _ (by omega), s7 _ (by omega), s6 _ _ (by omega), s5 _ _ (by omega), s4 _ _ (by omega), s3 _ _ (by omega), s2 _ _ (by omega), s1 _ _ (by omega)]
  · rw [u15 j hj, s14 _ (by omega), s13 _ (by omega), s12 _ (by omega), s11 _ (by omega), s10 _ (by omega), s9 _ (by omega), s8 _ (by omega), s7 _ (by omega), s6 _ _ (by omega), s5 _ _ (by omega), s4 _ _ (by omega), s3 _ _ (by omega), s2 _ _ (by omega), s1 _ _ (by omega)]
/-- image and undo change the world's shape too -/
def MS (L : LH) (n a w : Nat) (c : Option (Int32 × SH × IH)) (m : SH → IH → Option (Int32 × IH)) (w1 w2 : Nat) : Prop := ∃ x s' I1 I2, c = some (x, s', I1) ∧ m s' I1 = some (x, I2) ∧ Rel s' I2 L n a w1 w2
theorem m_image (R : Rel s I L n a w1 w2) : ∃ x s' I1 I2, fX6_image a s I = some (x, s', I1) ∧ fX7_image s' (a + 110) I1 = some (x, I2) ∧ Rel s' I2 L n a w1 w1 := by
  obtain ⟨W, ⟨r2, r3, r4⟩, S, r6, r7, r8, r9, r10, r11⟩ := R
  obtain ⟨s', I1, e1, W', k1, B⟩ := becomeK (I := I) W r3.1 r4.1
  generalize hJ : wr I1 a 2 1 = J
  have sJ' : ∀ x j, (x ≠ a ∨ j ≠ 2) → J x j = I1 x j := fun x j h => by rw [← hJ, wr_or h]
  have bf : ∀ x j, x ≠ a + 29 → (x < a + 30 ∨ a + 50 ≤ x) → (x ≠ a ∨ j ≠ 2) → J x j = I x j := fun x j h1 h2 h3 => by rw [sJ' x j h3, B.1 x h1 (by omega)]
  obtain ⟨I2, e2, f2, ⟨v1, v2, v3, v4, v5, v6⟩, ⟨x1, x2, x3, x4, x5, x6, x7, x8, x9⟩, h45⟩ := imageM (I := J) W'
  have F : ∀ x j, x ≠ a + 29 → (x < a + 30 ∨ a + 50 ≤ x) → (x ≠ a ∨ j ≠ 2) → (x = a + 110 → ¬ (j = 45 ∨ j = 46 ∨ j = 47 ∨ j = 48 ∨ j = 49 ∨ j = 50 ∨ j = 51)) → (x < a + 143 ∨ a + 151 < x) → I2 x j = I x j := fun x j h1 h2 h3 h4 h5 => by rw [f2 x j h4 (by omega), bf x j h1 h2 h3]
  have G : ∀ x, x ≠ a + 29 → (x < a + 30 ∨ a + 50 ≤ x) → x ≠ a → x ≠ a + 110 → (x < a + 143 ∨ a + 151 < x) → I2 x = I x := fun x h1 h2 h3 h4 h5 => funext fun j => F x j h1 h2 (Or.inl h3) (fun h => absurd h h4) h5
  have c39 : I2 (a + 110) 39 = I (a + 1) 5 := by rw [F _ _ (by omega) (by omega) (by omega) (by omega) (by omega)]; exact S.2.2.2.2.1.1
  refine ⟨I (a + 1) 5, s', J, I2, ?_, by rw [← c39]; exact e2, W', ⟨r2, r3, r3⟩, S.kept (fun x k h => F x k (by omega) (by omega) (by omega) (by omega) (by omega)) (fun x h => G x (by omega) (by omega) (by omega) (by omega) (by omega)), ?_, ?_, r8.kept ⟨F _ _ (by omega) (by omega) (by omega) (by omega) (by omega), F _ _ (by omega) (by omega) (by omega) (by omega) (by omega)⟩ ⟨G _ (by omega) (by omega) (by omega) (by omega) (by omega), G _ (by omega) (by omega) (by omega) (by omega) (by omega)⟩, r9.kept ⟨F _ _ (by omega) (by omega) (by omega) (by omega) (by omega), F _ _ (by omega) (by omega) (by omega) (by omega) (by omega)⟩ ⟨G _ (by omega) (by omega) (by omega) (by omega) (by omega), G _ (by omega) (by omega) (by omega) (by omega) (by omega)⟩, ?_, r11.kept (fun x h => G x (by omega) (by omega) (by omega) (by omega) (by omega))⟩
  · unfold fX6_image
    refine bs_eq (e6_0_1 W) ?_
    refine bs_eq (e6_0_0 W) ?_
    refine bs_eq (c2_29 W) ?_
    refine b2_eq e1 ?_
    refine bs_eq (p6_0_2 W') ?_
    rw [hJ]
    refine bs_eq (e6_0_0 W') ?_
    refine bs_eq (i2_1_5 W') ?_
    rw [bf _ _ (by omega) (by omega) (by omega)]
  · skip
    have K := B.kept (I2 := I2) (fun x hx => funext fun j => by rw [f2 x j (by omega) (by omega), sJ' x j (by omega)])
    refine SR.copy' S K ⟨by rw [v1, bf _ _ (by omega) (by omega) (by omega)], by rw [v2, bf _ _ (by omega) (by omega) (by omega)], by rw [v3, bf _ _ (by omega) (by omega) (by omega)], by rw [v5, bf _ _ (by omega) (by omega) (by omega)], by rw [v6, bf _ _ (by omega) (by omega) (by omega)]⟩ ⟨fun j hj => by rw [x1 j hj, bf _ _ (by omega) (by omega) (by omega)], fun j hj => by rw [x2 j hj, bf _ _ (by omega) (by omega) (by omega)], fun j hj => by rw [x3 j hj, bf _ _ (by omega) (by omega) (by omega)], fun j hj => by rw [x4 j hj, bf _ _ (by omega) (by omega) (by omega)], fun j hj => by rw [x5 j hj, bf _ _ (by omega) (by omega) (by omega)], fun j hj => by rw [x6 j hj, bf _ _ (by omega) (by omega) (by omega)], fun j hj => by rw [x7 j hj, bf _ _ (by omega) (by omega) (by omega)], fun j hj => by rw [x8 j hj, bf _ _ (by omega) (by omega) (by omega)], fun j hj => by rw [x9 j hj, bf _ _ (by omega) (by omega) (by omega)]⟩
  · have q7 : I2 (a + 110) 7 = I (a + 110) 7 := F _ _ (by omega) (by omega) (by omega) (by omega) (by omega)
    have kv : ∀ f, VR I a w1 f → VR I2 a w1 f := fun f h => h.kept (fun x h1 h2 => G x (by have := r3.1; omega) (by have := r3.1; omega) (by have := r3.1; omega) (by have := r3.1; omega) (by have := r3.1; omega)) (fun x h1 h2 => G x (by omega) (by omega) (by omega) (by omega) (by omega)) q7
    refine ⟨?_, ?_, ?_⟩
    · rw [F a 7 (by omega) (by omega) (by omega) (by omega) (by omega), q7]
      exact r7.1
    · rw [F (a + 110) 8 (by omega) (by omega) (by omega) (by omega) (by omega)]
      exact kv _ r7.2.1
    · rw [v4, bf _ _ (by omega) (by omega) (by omega)]
      exact kv _ r7.2.1
  · have q2 : I2 a 2 = 1 := by rw [f2 _ _ (by omega) (by omega), ← hJ, wr_at]
    exact ⟨by rw [q2, h45], Or.inr q2⟩
theorem m_undo (R : Rel s I L n a w1 w2) : ∃ x s' I1 I2 w, (w = w1 ∨ w = w2) ∧ fX6_undo a s I = some (x, s', I1) ∧ fX7_undo s' (a + 110) I1 = some (x, I2) ∧ Rel s' I2 L n a w w2 := by
  have R0 := R
  obtain ⟨W, ⟨r2, r3, r4⟩, S, r6, r7, r8, r9, r10, r11⟩ := R
  rcases r10.2 with h2 | h2
  · refine ⟨-3, s, I, I, w1, Or.inl rfl, ?_, ?_, R0⟩
    · unfold fX6_undo
      refine bs_eq (i6_0_2 W) ?_
      refine if_t h2 ?_
      rfl
    · unfold fX7_undo
      refine bs_eq (i7_110_45 W) ?_
      refine if_t (by rw [r10.1]; exact h2) ?_
      rfl
  · obtain ⟨s', I1, e1, W', k1, B⟩ := becomeN (I := I) W r3.1 r4.1
    have bf : ∀ x j, x ≠ a + 1 → (x < a + 9 ∨ a + 29 ≤ x) → I1 x j = I x j := fun x j h1 h2 => by rw [B.1 x h1 (by omega)]
    obtain ⟨I2, e2, f2, ⟨v1, v2, v3, v4, v5, v6⟩, ⟨x1, x2, x3, x4, x5, x6, x7, x8, x9⟩⟩ := undoM (I := I1) W' (by rw [bf _ _ (by omega) (by omega), r10.1, h2])
    have F : ∀ x j, x ≠ a + 1 → (x < a + 9 ∨ a + 29 ≤ x) → (x = a + 110 → ¬ (j = 0 ∨ j = 1 ∨ j = 2 ∨ j = 8 ∨ j = 25 ∨ j = 39)) → (x < a + 111 ∨ a + 114 < x) → x ≠ a + 125 → (x < a + 138 ∨ a + 141 < x) → I2 x j = I x j := fun x j h1 h2 h4 h5 h6 h7 => by rw [f2 x j h4 (by omega), bf x j h1 h2]
    have G : ∀ x, x ≠ a + 1 → (x < a + 9 ∨ a + 29 ≤ x) → x ≠ a + 110 → (x < a + 111 ∨ a + 114 < x) → x ≠ a + 125 → (x < a + 138 ∨ a + 141 < x) → I2 x = I x := fun x h1 h2 h4 h5 h6 h7 => funext fun j => F x j h1 h2 (fun h => absurd h h4) h5 h6 h7
    have c39 : I2 (a + 110) 39 = I1 (a + 1) 5 := by rw [v6, bf _ _ (by omega) (by omega), B.2.1 5 (by omega)]; exact r6.2.2.2.2.1.1
    refine ⟨I1 (a + 1) 5, s', I1, I2, w2, Or.inr rfl, ?_, by rw [← c39]; exact e2, W', ⟨r2, r4, r4⟩, ?_, r6.kept (fun x k h => F x k (by omega) (by omega) (by omega) (by omega) (by omega) (by omega)) (fun x h => G x (by omega) (by omega) (by omega) (by omega) (by omega) (by omega)), ?_, r8.kept ⟨F _ _ (by omega) (by omega) (by omega) (by omega) (by omega) (by omega), F _ _ (by omega) (by omega) (by omega) (by omega) (by omega) (by omega)⟩ ⟨G _ (by omega) (by omega) (by omega) (by omega) (by omega) (by omega), G _ (by omega) (by omega) (by omega) (by omega) (by omega) (by omega)⟩, r9.kept ⟨F _ _ (by omega) (by omega) (by omega) (by omega) (by omega) (by omega), F _ _ (by omega) (by omega) (by omega) (by omega) (by omega) (by omega)⟩ ⟨G _ (by omega) (by omega) (by omega) (by omega) (by omega) (by omega), G _ (by omega) (by omega) (by omega) (by omega) (by omega) (by omega)⟩, r10.kept ⟨F _ _ (by omega) (by omega) (by omega) (by omega) (by omega) (by omega), F _ _ (by omega) (by omega) (by omega) (by omega) (by omega) (by omega)⟩, r11.kept (fun x h => G x (by omega) (by omega) (by omega) (by omega) (by omega) (by omega))⟩
    · unfold fX6_undo
      refine bs_eq (i6_0_2 W) ?_
      refine if_f (by rw [h2]; decide) ?_
      refine bs_eq (e6_0_0 W) ?_
      refine bs_eq (e6_0_1 W) ?_
      refine bs_eq (c2_1 W) ?_
      refine b2_eq e1 ?_
      refine bs_eq (e6_0_0 W') ?_
      refine bs_eq (i2_1_5 W') ?_
      rfl
    · have K := B.kept (I2 := I2) (fun x hx => funext fun j => by rw [f2 x j (by omega) (by omega)])
      refine SR.copy' r6 K ⟨by rw [v1, bf _ _ (by omega) (by omega)], by rw [v2, bf _ _ (by omega) (by omega)], by rw [v3, bf _ _ (by omega) (by omega)], by rw [v5, bf _ _ (by omega) (by omega)], by rw [v6, bf _ _ (by omega) (by omega)]⟩ ⟨fun j hj => by rw [x1 j hj, bf _ _ (by omega) (by omega)], fun j hj => by rw [x2 j hj, bf _ _ (by omega) (by omega)], fun j hj => by rw [x3 j hj, bf _ _ (by omega) (by omega)], fun j hj => by rw [x4 j hj, bf _ _ (by omega) (by omega)], fun j hj => by rw [x5 j hj, bf _ _ (by omega) (by omega)], fun j hj => by rw [x6 j hj, bf _ _ (by omega) (by omega)], fun j hj => by rw [x7 j hj, bf _ _ (by omega) (by omega)], fun j hj => by rw [x8 j hj, bf _ _ (by omega) (by omega)], fun j hj => by rw [x9 j hj, bf _ _ (by omega) (by omega)]⟩
    · have q7 : I2 (a + 110) 7 = I (a + 110) 7 := F _ _ (by omega) (by omega) (by omega) (by omega) (by omega) (by omega)
      have kv : ∀ f, VR I a w2 f → VR I2 a w2 f := fun f h => h.kept (fun x h1 h2 => G x (by have := r4.1; omega) (by have := r4.1; omega) (by have := r4.1; omega) (by have := r4.1; omega) (by have := r4.1; omega) (by have := r4.1; omega)) (fun x h1 h2 => G x (by omega) (by omega) (by omega) (by omega) (by omega) (by omega)) q7
      refine ⟨?_, ?_, ?_⟩
      · rw [F a 7 (by omega) (by omega) (by omega) (by omega) (by omega) (by omega), q7]
        exact r7.1
      · rw [v4, bf _ _ (by omega) (by omega)]
        exact kv _ r7.2.2
      · rw [F (a + 110) 49 (by omega) (by omega) (by omega) (by omega) (by omega) (by omega)]
        exact kv _ r7.2.2
end COPY
