/-! LAYER 2: tapes -/
theorem oc_none {β : Type} {A r : β} {B : Nat → β} (k : A = r) : oc none A B = r := k
theorem oc_some {β : Type} {A r : β} {B : Nat → β} {x : Nat} (k : B x = r) : oc (some x) A B = r := k
theorem sub_toInt {p q : Nat} (hp : p < 2 ^ 31) (hq : q < 2 ^ 31) : (nI p - nI q).toInt = (p : Int) - q := by
  rw [Int32.toInt_sub, nI_toInt hp, nI_toInt hq]
  exact Int.bmod_eq_of_le (by omega) (by omega)
theorem sub_lt {p q r : Nat} (hp : p < 2 ^ 31) (hq : q < 2 ^ 31) (hr : r < 2 ^ 31) : nI p - nI q < nI r ↔ p < r + q := by
  rw [Int32.lt_iff_toInt_lt, sub_toInt hp hq, nI_toInt hr]
  omega
theorem le_sub {p q r : Nat} (hp : p < 2 ^ 31) (hq : q < 2 ^ 31) (hr : r < 2 ^ 31) : nI r ≤ nI p - nI q ↔ r + q ≤ p := by
  rw [Int32.le_iff_toInt_le, sub_toInt hp hq, nI_toInt hr]
  omega
theorem m60 (i k : Nat) : (60 : Int32) * nI i + nI k = nI (60 * i + k) := by rw [show (60 : Int32) * nI i = nI (60 * i) from nI_mul 60 i, nI_add]
section TAPES
variable {s : SH} {I : IH} {L : LH} {n a w1 w2 i : Nat}
theorem tapeAt_y (W : WW s a w1 w2) (hi : i < 6) : fX6_tapeAt s a (nI i) = some (some (a + 98 + 2 * i)) := by
  unfold fX6_tapeAt
  refine bs_eq (e6_0_8 W) ?_
  refine bs_eq (l97 W) ?_
  refine if_f (un hi (by omega)) ?_
  refine bs_eq (e6_0_8 W) ?_
  refine bs_eq (a97 W (i := i) hi) ?_
  rfl
theorem tapeAt_n (W : WW s a w1 w2) {v : Int32} (h : fX6_isUnder v (nI 6) = 0) : fX6_tapeAt s a v = some none := by
  unfold fX6_tapeAt
  refine bs_eq (e6_0_8 W) ?_
  refine bs_eq (l97 W) ?_
  refine if_t (h) ?_
  rfl
theorem tape_cases (v : Int32) : (∃ i, i < 6 ∧ v = nI i) ∨ (fX6_isUnder v (nI 6) = 0 ∧ fX7_isTape v = 0) := by
  rcases under_cases v 6 (by omega) (by omega) with h | ⟨-, h1, h2⟩
  · exact Or.inl h
  · exact Or.inr ⟨h1, h2⟩
theorem isTape_y (hi : i < 6) : ¬ fX7_isTape (nI i) = 0 := inn (N := 6) hi (by omega)
/-- when the cells of tapes alone change -/
theorem Rel.tapes {I2 : IH} {L2 : LH} (R : Rel s I L n a w1 w2) (f : ∀ x, ¬ ((a + 98 ≤ x ∧ x < a + 110) ∨ x = a + 153 ∨ x = a + 154) → I2 x = I x) (h : C15 I2 L2 a) : Rel s I2 L2 n a w1 w2 := by
  obtain ⟨r1, ⟨r2, r3, r4⟩, r5, r6, r7, r8, r9, r10, r11⟩ := R
  have g : ∀ x j, ¬ ((a + 98 ≤ x ∧ x < a + 110) ∨ x = a + 153 ∨ x = a + 154) → I2 x j = I x j := fun x j hx => by rw [f x hx]
  exact ⟨r1, ⟨r2, r3, r4⟩, r5.kept (fun x k h => g x k (by omega)) (fun x h => f x (by omega)), r6.kept (fun x k h => g x k (by omega)) (fun x h => f x (by omega)), VV.kept r3 r4 r7 (fun x k h => g x k (by omega)) (fun x h => f x (by omega)), r8.kept ⟨g _ _ (by omega), g _ _ (by omega)⟩ ⟨f _ (by omega), f _ (by omega)⟩, r9.kept ⟨g _ _ (by omega), g _ _ (by omega)⟩ ⟨f _ (by omega), f _ (by omega)⟩, r10.kept ⟨g _ _ (by omega), g _ _ (by omega)⟩, h⟩
/-- all items of a tape are 0 -/
theorem fillJ (W : WW s a w1 w2) (hi : i < 6) : ∃ L1, fJ7_fill_d0a16 s (a + 99 + 2 * i) 0 L = some L1 ∧ (∀ x, x ≠ a + 99 + 2 * i → L1 x = L x) ∧ ∀ j, j < 60 → L1 (a + 99 + 2 * i) j = 0 := by
  have key : ∀ m q fuel (L0 : LH), q + m = 60 → m < fuel → (∀ x, x ≠ a + 99 + 2 * i → L0 x = L x) → (∀ j, j < q → L0 (a + 99 + 2 * i) j = 0) → ∃ L1, fJ7_fill_d0a16_b6 s fuel (a + 99 + 2 * i) 0 (nI q) (nI 60) L0 = some L1 ∧ (∀ x, x ≠ a + 99 + 2 * i → L1 x = L x) ∧ ∀ j, j < 60 → L1 (a + 99 + 2 * i) j = 0 := by
    intro m
    induction m with
    | zero =>
      intro q fuel L0 h1 h2 f v
      obtain ⟨u, rfl⟩ : ∃ u, fuel = u + 1 := ⟨fuel - 1, by omega⟩
      obtain rfl : q = 60 := h1
      refine ⟨L0, ?_, f, v⟩
      rw [fJ7_fill_d0a16_b6, if_pos (nI_le (Nat.le_refl _) (by omega))]
    | succ m ih =>
      intro q fuel L0 h1 h2 f v
      obtain ⟨u, rfl⟩ : ∃ u, fuel = u + 1 := ⟨fuel - 1, by omega⟩
      rw [fJ7_fill_d0a16_b6, if_neg (nI_ge (by omega) (by omega)), s99 W hi (j := q) (by omega), Option.bind_some, nI_1]
      refine ih (q + 1) u _ (by omega) (by omega) (fun x hx => ?_) (fun j hj => ?_)
      · funext j
        rw [wrJ_or (Or.inl hx), f x hx]
      · by_cases hjq : j = q
        · subst hjq
          exact wrJ_at
        · rw [wrJ_or (Or.inr hjq)]
          exact v j (by omega)
  unfold fJ7_fill_d0a16
  rw [l99 W hi, Option.bind_some]
  exact key 60 0 1000 L rfl (by omega) (fun _ _ => rfl) (fun j hj => absurd hj (by omega))
theorem clearM (W : WW s a w1 w2) (hi : i < 6) : ∃ L1, fX7_tape_b69 s (a + 110) 1000 (nI i) 0 I L = some (1, I, L1) ∧ (∀ x j, (x ≠ a + 155 ∨ j < 60 * i ∨ 60 * i + 60 ≤ j) → L1 x j = L x j) ∧ ∀ k, k < 60 → L1 (a + 155) (60 * i + k) = 0 := by
  have key : ∀ m q fuel (L0 : LH), q + m = 60 → m < fuel → (∀ x j, (x ≠ a + 155 ∨ j < 60 * i ∨ 60 * i + 60 ≤ j) → L0 x j = L x j) → (∀ k, k < q → L0 (a + 155) (60 * i + k) = 0) → ∃ L1, fX7_tape_b69 s (a + 110) fuel (nI i) (nI q) I L0 = some (1, I, L1) ∧ (∀ x j, (x ≠ a + 155 ∨ j < 60 * i ∨ 60 * i + 60 ≤ j) → L1 x j = L x j) ∧ ∀ k, k < 60 → L1 (a + 155) (60 * i + k) = 0 := by
    intro m
    induction m with
    | zero =>
      intro q fuel L0 h1 h2 f v
      obtain ⟨u, rfl⟩ : ∃ u, fuel = u + 1 := ⟨fuel - 1, by omega⟩
      obtain rfl : q = 60 := h1
      refine ⟨L0, ?_, f, v⟩
      rw [fX7_tape_b69, if_pos (show (60 : Int32) ≤ nI 60 by decide)]
    | succ m ih =>
      intro q fuel L0 h1 h2 f v
      obtain ⟨u, rfl⟩ : ∃ u, fuel = u + 1 := ⟨fuel - 1, by omega⟩
      rw [fX7_tape_b69, if_neg (show ¬ (60 : Int32) ≤ nI q from nI_ge (b := 60) (by omega) (by omega)), e7_110_65 W, Option.bind_some, m60, s155 W (j := 60 * i + q) (by omega), Option.bind_some, nI_1]
      refine ih (q + 1) u _ (by omega) (by omega) (fun x j hx => ?_) (fun k hk => ?_)
      · rw [wrJ_or (by omega), f x j hx]
      · by_cases hjq : k = q
        · subst hjq
          exact wrJ_at
        · rw [wrJ_or (by omega)]
          exact v k (by omega)
  exact key 60 0 1000 L rfl (by omega) (fun _ _ _ => rfl) (fun j hj => absurd hj (by omega))
def M3 (s : SH) (n a w1 w2 : Nat) (c : Option (Int32 × IH × LH)) (m : IH → LH → Option (Int32 × IH × LH)) : Prop := ∃ x I1 L1 I2 L2, c = some (x, I1, L1) ∧ m I1 L1 = some (x, I2, L2) ∧ Rel s I2 L2 n a w1 w2
def ML (s : SH) (I : IH) (n a w1 w2 : Nat) (c : Option (Int32 × LH)) (m : LH → Option (Int32 × LH)) : Prop := ∃ x L1 L2, c = some (x, L1) ∧ m L1 = some (x, L2) ∧ Rel s I L2 n a w1 w2
/-- a tape becomes another: the whole step, on both sides -/
theorem tape_step (R : Rel s I L n a w1 w2) (hi : i < 6) {so : Int32} {sz : Nat} (hsz : sz ≤ 60) (hso : (so = -1 ∧ sz = 0) ∨ Bd so 0 4) (cs : Int32) (hcs : fJ9_min_7cf53 cs (nI 60) = nI sz) (m : IH → LH → Option (Int32 × IH × LH)) (hm : ∀ I1 L1, m I1 L1 = fX7_tape_b69 s (a + 110) 1000 (nI i) 0 (wr (wr I1 (a + 153) i so) (a + 154) i (nI sz)) L1) : ∃ I1 L1 I2 L2, fX3_become s (a + 98 + 2 * i) so cs I L = some (I1, L1) ∧ m I1 L1 = some (1, I2, L2) ∧ Rel s I2 L2 n a w1 w2 := by
  have W := R.1
  obtain ⟨L1, e1, f1, z1⟩ := fillJ (L := L) W hi
  have hc : fX3_become s (a + 98 + 2 * i) so cs I L = some (wr (wr I (a + 98 + 2 * i) 0 so) (a + 98 + 2 * i) 1 (nI sz), L1) := by
    unfold fX3_become
    rw [p3_0 W hi, Option.bind_some, e3 W hi, Option.bind_some, l99 W hi, Option.bind_some, hcs, p3_1 W hi, Option.bind_some, Option.bind_some, e1, Option.bind_some]
  obtain ⟨L2, e2, f2, z2⟩ := clearM (I := wr (wr (wr (wr I (a + 98 + 2 * i) 0 so) (a + 98 + 2 * i) 1 (nI sz)) (a + 153) i so) (a + 154) i (nI sz)) (L := L1) W hi
  refine ⟨_, L1, _, L2, hc, by rw [hm]; exact e2, R.tapes (fun x hx => ?_) ?_⟩
  · rw [wr_ne (by omega), wr_ne (by omega), wr_ne (by omega), wr_ne (by omega)]
  · intro i' hi'
    obtain ⟨c1, c2, c3, c4, c5⟩ := R.2.2.2.2.2.2.2.2 i' hi'
    by_cases hii : i' = i
    · subst hii
      have g1 : wr (wr (wr (wr I (a + 98 + 2 * i') 0 so) (a + 98 + 2 * i') 1 (nI sz)) (a + 153) i' so) (a + 154) i' (nI sz) (a + 98 + 2 * i') 0 = so := by rw [wr_ne (by omega), wr_ne (by omega), wr_nj (by omega), wr_at]
      have g2 : wr (wr (wr (wr I (a + 98 + 2 * i') 0 so) (a + 98 + 2 * i') 1 (nI sz)) (a + 153) i' so) (a + 154) i' (nI sz) (a + 98 + 2 * i') 1 = nI sz := by rw [wr_ne (by omega), wr_ne (by omega), wr_at]
      rw [g1, g2]
      refine ⟨by rw [wr_ne (by omega), wr_at], by rw [wr_at], Bd_of rfl (Nat.zero_le _) hsz (by omega), ?_, fun k hk => ?_⟩
      · rcases hso with ⟨h1, h2⟩ | h
        · exact Or.inl ⟨h1, by rw [h2]; rfl⟩
        · exact Or.inr h
      · rw [z2 k hk, f2 _ _ (Or.inl (by omega)), z1 k hk]
    · have q1 : ∀ k, wr (wr (wr (wr I (a + 98 + 2 * i) 0 so) (a + 98 + 2 * i) 1 (nI sz)) (a + 153) i so) (a + 154) i (nI sz) (a + 98 + 2 * i') k = I (a + 98 + 2 * i') k := fun k => by rw [wr_ne (by omega), wr_ne (by omega), wr_ne (by omega), wr_ne (by omega)]
      have q2 : wr (wr (wr (wr I (a + 98 + 2 * i) 0 so) (a + 98 + 2 * i) 1 (nI sz)) (a + 153) i so) (a + 154) i (nI sz) (a + 153) i' = I (a + 153) i' := by rw [wr_ne (by omega), wr_nj hii, wr_ne (by omega), wr_ne (by omega)]
      have q3 : wr (wr (wr (wr I (a + 98 + 2 * i) 0 so) (a + 98 + 2 * i) 1 (nI sz)) (a + 153) i so) (a + 154) i (nI sz) (a + 154) i' = I (a + 154) i' := by rw [wr_nj hii, wr_ne (by omega), wr_ne (by omega), wr_ne (by omega)]
      rw [q1, q1, q2, q3]
      refine ⟨c1, c2, c3, c4, fun k hk => ?_⟩
      rw [f2 _ _ (by omega), f1 _ (by omega), f2 _ _ (by omega), f1 _ (by omega)]
      exact c5 k hk
theorem in_bad {v lo hi : Int32} (h : v < lo) : fX7_in v lo hi = 0 := by
  unfold fX7_in
  rw [if_pos h]
theorem in_big {v lo hi : Int32} (h : hi < v) : fX7_in v lo hi = 0 := by
  unfold fX7_in
  by_cases h1 : v < lo
  · rw [if_pos h1]
  · rw [if_neg h1, if_pos h]
theorem m_tape (R : Rel s I L n a w1 w2) (v1 v2 v3 : Int32) : M3 s n a w1 w2 (fX6_tape s a v1 v2 v3 I L) (fun I1 L1 => fX7_tape s (a + 110) v1 v2 v3 I1 L1) := by
  have W := R.1
  have mb : ∀ (I1 : IH) (L1 : LH) (i : Nat) (so v : Int32), i < 6 → (0 ≤ so) → fX7_tape_b44 s (a + 110) (nI i) so v I1 L1 = fX7_tape_b69 s (a + 110) 1000 (nI i) 0 (wr (wr I1 (a + 153) i so) (a + 154) i v) L1 := by
    intro I1 L1 i so v hi h0
    unfold fX7_tape_b44
    rw [e7_110_63 W, Option.bind_some, s153 W hi, Option.bind_some, e7_110_64 W, Option.bind_some, if_pos h0, s154 W hi, Option.bind_some]
  rcases tape_cases v1 with ⟨i, hi, rfl⟩ | ⟨u1, u2⟩
  · by_cases hm1 : v2 = -1
    · subst hm1
      obtain ⟨I1, L1, I2, L2, h1, h2, h3⟩ := tape_step R hi (so := -1) (sz := 0) (by omega) (Or.inl ⟨rfl, rfl⟩) 0 (min_nI (x := 0) (y := 60) (by omega) (by omega)) (fun I1 L1 => fX7_tape s (a + 110) (nI i) (-1) v3 I1 L1) (fun I1 L1 => by
        show fX7_tape s (a + 110) (nI i) (-1) v3 I1 L1 = _
        unfold fX7_tape
        refine if_f (isTape_y hi) ?_
        refine if_f (by decide) ?_
        refine if_t (by decide) ?_
        unfold fX7_tape_b33
        refine if_t (by decide) ?_
        unfold fX7_tape_b44
        rw [e7_110_63 W, Option.bind_some, s153 W hi, Option.bind_some, e7_110_64 W, Option.bind_some, if_neg (by decide), s154 W hi, Option.bind_some]
        rfl)
      refine ⟨1, I1, L1, I2, L2, ?_, h2, h3⟩
      unfold fX6_tape
      refine bs_eq (tapeAt_y W hi) ?_
      refine oc_some ?_
      refine if_t rfl ?_
      refine bs_eq (c3 W hi) ?_
      exact b2_eq h1 rfl
    · rcases rng v2 0 4 (by omega) (by omega) with ⟨q, -, hq, rfl⟩ | ⟨u3, u4⟩ | ⟨u3, u4, u5, u6⟩
      · have n0 : ¬ nI q < 0 := nI_pos (by omega)
        have n1 : ¬ fX7_in (nI q) (-1) 4 = 0 := by
          obtain rfl | rfl | rfl | rfl | rfl : q = 0 ∨ q = 1 ∨ q = 2 ∨ q = 3 ∨ q = 4 := by omega
          all_goals decide
        rcases rng v3 0 60 (by omega) (by omega) with ⟨z, -, hz, rfl⟩ | ⟨u7, -⟩ | ⟨u7, u8, u9, -⟩
        · obtain ⟨I1, L1, I2, L2, h1, h2, h3⟩ := tape_step R hi (so := nI q) (sz := z) hz (Or.inr (Bd_of rfl (Nat.zero_le _) hq (by omega))) (nI z) (by rw [min_nI (by omega) (by omega), Nat.min_eq_left hz]) (fun I1 L1 => fX7_tape s (a + 110) (nI i) (nI q) (nI z) I1 L1) (fun I1 L1 => by
            show fX7_tape s (a + 110) (nI i) (nI q) (nI z) I1 L1 = _
            unfold fX7_tape
            refine if_f (isTape_y hi) ?_
            refine if_f n1 ?_
            refine if_f n0 ?_
            refine if_t (nI_le (b := 60) hz (by omega)) ?_
            unfold fX7_tape_b33
            refine if_f n0 ?_
            refine if_t (nI_pos' (by omega)) ?_
            exact mb I1 L1 i (nI q) (nI z) hi (nI_pos' (by omega)))
          refine ⟨1, I1, L1, I2, L2, ?_, h2, h3⟩
          unfold fX6_tape
          refine bs_eq (tapeAt_y W hi) ?_
          refine oc_some ?_
          refine if_f hm1 ?_
          refine if_f (un (N := 5) (by omega) (by omega)) ?_
          refine if_t (nI_le (b := 60) hz (by omega)) ?_
          refine if_t (nI_pos' (by omega)) ?_
          refine bs_eq (c3 W hi) ?_
          exact b2_eq h1 rfl
        · have v60 : v3 ≤ 60 := Int32.le_of_lt (Int32.lt_of_lt_of_le u7 (show nI 0 ≤ 60 by decide))
          have nv0 : ¬ 0 ≤ v3 := fun h => Int32.lt_irrefl (Int32.lt_of_lt_of_le u7 h)
          refine ⟨-14, I, L, I, L, ?_, ?_, R⟩
          · unfold fX6_tape
            refine bs_eq (tapeAt_y W hi) ?_
            refine oc_some ?_
            refine if_f hm1 ?_
            refine if_f (un (N := 5) (by omega) (by omega)) ?_
            refine if_t v60 ?_
            refine if_f nv0 ?_
            rfl
          · show fX7_tape s (a + 110) (nI i) (nI q) v3 I L = _
            unfold fX7_tape
            refine if_f (isTape_y hi) ?_
            refine if_f n1 ?_
            refine if_f n0 ?_
            refine if_t v60 ?_
            unfold fX7_tape_b33
            refine if_f n0 ?_
            refine if_f nv0 ?_
            rfl
        · refine ⟨-2, I, L, I, L, ?_, ?_, R⟩
          · unfold fX6_tape
            refine bs_eq (tapeAt_y W hi) ?_
            refine oc_some ?_
            refine if_f hm1 ?_
            refine if_f (un (N := 5) (by omega) (by omega)) ?_
            refine if_f u9 ?_
            rfl
          · show fX7_tape s (a + 110) (nI i) (nI q) v3 I L = _
            unfold fX7_tape
            refine if_f (isTape_y hi) ?_
            refine if_f n1 ?_
            refine if_f n0 ?_
            refine if_f u9 ?_
            rfl
      · have b1 : v2 < -1 := by
          have h1 := Int32.lt_iff_toInt_lt.mp u3
          have h0 : (nI 0).toInt = 0 := rfl
          have h2 : (-1 : Int32).toInt = -1 := rfl
          have h3 : v2.toInt ≠ -1 := fun h => hm1 (Int32.toInt_inj.mp (h.trans h2.symm))
          exact Int32.lt_iff_toInt_lt.mpr (by omega)
        refine ⟨-2, I, L, I, L, ?_, ?_, R⟩
        · unfold fX6_tape
          refine bs_eq (tapeAt_y W hi) ?_
          refine oc_some ?_
          refine if_f hm1 ?_
          refine if_t (un_lt u3) ?_
          rfl
        · show fX7_tape s (a + 110) (nI i) v2 v3 I L = _
          unfold fX7_tape
          refine if_f (isTape_y hi) ?_
          refine if_t (in_bad b1) ?_
          rfl
      · have b5 : nI 5 ≤ v2 := by
          have h1 := Int32.lt_iff_toInt_lt.mp u4
          have h2 : (nI 4).toInt = 4 := rfl
          have h3 : (nI 5).toInt = 5 := rfl
          exact Int32.le_iff_toInt_le.mpr (by omega)
        refine ⟨-2, I, L, I, L, ?_, ?_, R⟩
        · unfold fX6_tape
          refine bs_eq (tapeAt_y W hi) ?_
          refine oc_some ?_
          refine if_f hm1 ?_
          refine if_t (un_ge b5) ?_
          rfl
        · show fX7_tape s (a + 110) (nI i) v2 v3 I L = _
          unfold fX7_tape
          refine if_f (isTape_y hi) ?_
          refine if_t (in_big u4) ?_
          rfl
  · refine ⟨-1, I, L, I, L, ?_, ?_, R⟩
    · unfold fX6_tape
      refine bs_eq (tapeAt_n W u1) ?_
      rfl
    · show fX7_tape s (a + 110) v1 v2 v3 I L = _
      unfold fX7_tape
      refine if_t u2 ?_
      rfl
theorem C15.item {L2 : LH} {j : Nat} {v : Int64} (h : C15 I L a) (hi : i < 6) (hj : j < 60) (h1 : L2 = wrJ (wrJ L (a + 99 + 2 * i) j v) (a + 155) (60 * i + j) v) : C15 I L2 a := by
  intro i' hi'
  obtain ⟨c1, c2, c3, c4, c5⟩ := h i' hi'
  refine ⟨c1, c2, c3, c4, fun k hk => ?_⟩
  rw [h1]
  by_cases hii : i' = i
  · subst hii
    by_cases hkj : k = j
    · subst hkj
      rw [wrJ_at, wrJ_or (by omega), wrJ_at]
    · rw [wrJ_or (by omega), wrJ_or (by omega), wrJ_or (by omega), wrJ_or (by omega)]
      exact c5 k hk
  · rw [wrJ_or (by omega), wrJ_or (by omega), wrJ_or (by omega), wrJ_or (by omega)]
    exact c5 k hk
theorem narrow_eq (W : WW s a w1 w2) (hi : i < 6) (v : Int64) : fX3_asItem s I (a + 98 + 2 * i) v = some (fX7_narrow (I (a + 98 + 2 * i) 0) v) := by
  unfold fX3_asItem fX7_narrow
  rw [i3_0 W hi, Option.bind_some]
  split
  · rfl
  split
  · rfl
  split
  · rfl
  split
  · split
    · rfl
    · rfl
  · rfl
/-- sort and size of a tape -/
theorem sort_cases (R : Rel s I L n a w1 w2) (hi : i < 6) : ∃ z, z ≤ 60 ∧ I (a + 98 + 2 * i) 1 = nI z ∧ I (a + 154) i = nI z ∧ ((I (a + 98 + 2 * i) 0 = -1 ∧ I (a + 153) i = -1 ∧ z = 0) ∨ ∃ q, q ≤ 4 ∧ I (a + 98 + 2 * i) 0 = nI q ∧ I (a + 153) i = nI q) := by
  obtain ⟨c1, c2, c3, c4, c5⟩ := R.2.2.2.2.2.2.2.2 i hi
  obtain ⟨z, hz, -, hz6⟩ := c3.ex
  refine ⟨z, hz6, hz, by rw [c2, hz], ?_⟩
  rcases c4 with ⟨h1, h2⟩ | h
  · refine Or.inl ⟨h1, by rw [c1, h1], ?_⟩
    rw [hz] at h2
    exact (nI_eq (by omega) (by omega)).mp (h2.trans (show (0 : Int32) = nI 0 from rfl))
  · obtain ⟨q, hq, -, hq4⟩ := h.ex
    exact Or.inr ⟨q, hq4, hq, by rw [c1, hq]⟩
theorem ne_m1 {q : Nat} (h : q ≤ 4) : ¬ nI q = -1 := by
  obtain rfl | rfl | rfl | rfl | rfl : q = 0 ∨ q = 1 ∨ q = 2 ∨ q = 3 ∨ q = 4 := by omega
  all_goals decide
/-- an index under a size, or not -/
theorem size_cases (v : Int32) (z : Nat) (hz : z ≤ 60) : (∃ j, j < z ∧ v = nI j) ∨ (fX6_isUnder v (nI z) = 0 ∧ fX7_in v 0 (nI z - 1) = 0) := by
  by_cases h0 : z = 0
  · subst h0
    refine Or.inr ⟨?_, ?_⟩
    · by_cases h1 : v < 0
      · exact un_lt h1
      · obtain ⟨j, hj, rfl⟩ := nI_of h1
        exact un_ge (nI_le (Nat.zero_le _) hj)
    · by_cases h1 : v < 0
      · exact in_bad h1
      · obtain ⟨j, hj, rfl⟩ := nI_of h1
        refine in_big ?_
        have h2 : (nI 0 - 1 : Int32).toInt = -1 := rfl
        exact Int32.lt_iff_toInt_lt.mpr (by rw [h2, nI_toInt hj]; omega)
  · rcases under_cases v z (by omega) (by omega) with h | ⟨-, h1, h2⟩
    · exact Or.inl h
    · refine Or.inr ⟨h1, ?_⟩
      rw [show nI z - 1 = nI (z - 1) from nI_sub (j := 1) (by omega)]
      exact h2
theorem m_item (R : Rel s I L n a w1 w2) (v1 v2 : Int32) (v3 : Int64) : ML s I n a w1 w2 (fX6_item s I a v1 v2 v3 L) (fun L1 => fX7_item s I (a + 110) v1 v2 v3 L1) := by
  have W := R.1
  rcases tape_cases v1 with ⟨i, hi, rfl⟩ | ⟨u1, u2⟩
  · obtain ⟨z, hz, z1, z2, hs⟩ := sort_cases R hi
    rcases hs with ⟨q1, q2, -⟩ | ⟨q, hq, q1, q2⟩
    · refine ⟨-11, L, L, ?_, ?_, R⟩
      · unfold fX6_item
        refine bs_eq (tapeAt_y W hi) ?_
        refine oc_some ?_
        refine bs_eq (i3_0 W hi) ?_
        refine if_t q1 ?_
        rfl
      · show fX7_item s I (a + 110) (nI i) v2 v3 L = _
        unfold fX7_item
        refine if_f (isTape_y hi) ?_
        refine bs_eq (e7_110_63 W) ?_
        refine bs_eq (r153 W hi) ?_
        refine if_f (by rw [q2]; decide) ?_
        rfl
    · have nq : ¬ I (a + 98 + 2 * i) 0 = -1 := by rw [q1]; exact ne_m1 hq
      have pq : 0 ≤ I (a + 153) i := by rw [q2]; exact nI_pos' (by omega)
      rcases size_cases v2 z hz with ⟨j, hj, rfl⟩ | ⟨u3, u4⟩
      · refine ⟨1, wrJ L (a + 99 + 2 * i) j (fX7_narrow (nI q) v3), wrJ (wrJ L (a + 99 + 2 * i) j (fX7_narrow (nI q) v3)) (a + 155) (60 * i + j) (fX7_narrow (nI q) v3), ?_, ?_, R.tapes (fun x _ => rfl) (R.2.2.2.2.2.2.2.2.item hi (by omega) rfl)⟩
        · unfold fX6_item
          refine bs_eq (tapeAt_y W hi) ?_
          refine oc_some ?_
          refine bs_eq (i3_0 W hi) ?_
          refine if_f nq ?_
          refine bs_eq (i3_1 W hi) ?_
          refine if_f (by rw [z1]; exact un hj (by omega)) ?_
          refine bs_eq (e3 W hi) ?_
          refine bs_eq (c3 W hi) ?_
          refine bs_eq (narrow_eq W hi v3) ?_
          refine bs_eq (s99 W hi (j := j) (by omega)) ?_
          rw [q1]
        · show fX7_item s I (a + 110) (nI i) (nI j) v3 _ = _
          unfold fX7_item
          refine if_f (isTape_y hi) ?_
          refine bs_eq (e7_110_63 W) ?_
          refine bs_eq (r153 W hi) ?_
          refine if_t pq ?_
          refine bs_eq (e7_110_64 W) ?_
          refine bs_eq (r154 W hi) ?_
          refine if_f (by rw [z2, show nI z - 1 = nI (z - 1) from nI_sub (j := 1) (by omega)]; exact inn hj (by omega)) ?_
          refine bs_eq (e7_110_65 W) ?_
          refine bs_eq (e7_110_63 W) ?_
          refine bs_eq (r153 W hi) ?_
          rw [m60, q2]
          refine bs_eq (s155 W (j := 60 * i + j) (by omega)) ?_
          rfl
      · refine ⟨-13, L, L, ?_, ?_, R⟩
        · unfold fX6_item
          refine bs_eq (tapeAt_y W hi) ?_
          refine oc_some ?_
          refine bs_eq (i3_0 W hi) ?_
          refine if_f nq ?_
          refine bs_eq (i3_1 W hi) ?_
          refine if_t (by rw [z1]; exact u3) ?_
          rfl
        · show fX7_item s I (a + 110) (nI i) v2 v3 L = _
          unfold fX7_item
          refine if_f (isTape_y hi) ?_
          refine bs_eq (e7_110_63 W) ?_
          refine bs_eq (r153 W hi) ?_
          refine if_t pq ?_
          refine bs_eq (e7_110_64 W) ?_
          refine bs_eq (r154 W hi) ?_
          refine if_t (by rw [z2]; exact u4) ?_
          rfl
  · refine ⟨-1, L, L, ?_, ?_, R⟩
    · unfold fX6_item
      refine bs_eq (tapeAt_n W u1) ?_
      rfl
    · show fX7_item s I (a + 110) v1 v2 v3 L = _
      unfold fX7_item
      refine if_t u2 ?_
      rfl
theorem m_read (R : Rel s I L n a w1 w2) (v1 v2 : Int32) : M1 (fX6_read s I L a v1 v2) (fX7_read s I L (a + 110) v1 v2) := by
  have W := R.1
  rcases tape_cases v1 with ⟨i, hi, rfl⟩ | ⟨u1, u2⟩
  · obtain ⟨z, hz, z1, z2, hs⟩ := sort_cases R hi
    have c5 := (R.2.2.2.2.2.2.2.2 i hi).2.2.2.2
    rcases size_cases v2 z hz with ⟨j, hj, rfl⟩ | ⟨u3, u4⟩
    · rcases hs with ⟨-, -, q3⟩ | ⟨q, hq, q1, q2⟩
      · omega
      · refine M1.i (x := L (a + 99 + 2 * i) j) ?_ ?_
        · unfold fX6_read
          refine bs_eq (tapeAt_y W hi) ?_
          refine oc_some ?_
          refine bs_eq (i3_1 W hi) ?_
          refine if_f (by rw [z1]; exact un hj (by omega)) ?_
          refine bs_eq (e3 W hi) ?_
          refine bs_eq (r99 W hi (j := j) (by omega)) ?_
          rfl
        · unfold fX7_read
          refine if_f (isTape_y hi) ?_
          refine bs_eq (e7_110_63 W) ?_
          refine bs_eq (r153 W hi) ?_
          refine if_f (by rw [q2]; exact nI_pos (by omega)) ?_
          refine bs_eq (e7_110_64 W) ?_
          refine bs_eq (r154 W hi) ?_
          refine if_f (by rw [z2, show nI z - 1 = nI (z - 1) from nI_sub (j := 1) (by omega)]; exact inn hj (by omega)) ?_
          refine bs_eq (e7_110_65 W) ?_
          rw [m60]
          refine bs_eq (r155 W (j := 60 * i + j) (by omega)) ?_
          rw [c5 j (by omega)]
    · refine M1.i (x := -9223372036854775808) ?_ ?_
      · unfold fX6_read
        refine bs_eq (tapeAt_y W hi) ?_
        refine oc_some ?_
        refine bs_eq (i3_1 W hi) ?_
        refine if_t (by rw [z1]; exact u3) ?_
        rfl
      · unfold fX7_read
        refine if_f (isTape_y hi) ?_
        refine bs_eq (e7_110_63 W) ?_
        refine bs_eq (r153 W hi) ?_
        by_cases hn : I (a + 153) i < 0
        · refine if_t hn ?_
          rfl
        · refine if_f hn ?_
          refine bs_eq (e7_110_64 W) ?_
          refine bs_eq (r154 W hi) ?_
          refine if_t (by rw [z2]; exact u4) ?_
          rfl
  · refine M1.i (x := -9223372036854775808) ?_ ?_
    · unfold fX6_read
      refine bs_eq (tapeAt_n W u1) ?_
      rfl
    · unfold fX7_read
      refine if_t u2 ?_
      rfl
theorem cpL_y (W : WW s a w1 w2) {i k p q c : Nat} (hi : i < 6) (hk : k < 6) (h1 : p + c ≤ 60) (h2 : q + c ≤ 60) : cpL s L (a + 99 + 2 * i) (nI p) (a + 99 + 2 * k) (nI q) (nI c) = some (upR L (a + 99 + 2 * k) (va_cpy (L (a + 99 + 2 * i)) (L (a + 99 + 2 * k)) p q c)) := by
  have A := W.2.2.2.2.2.2.2.2.1
  obtain ⟨r1, g1, -⟩ := A.arr (o := 2 * i + 1) (d97 hi).2
  obtain ⟨r2, g2, -⟩ := A.arr (o := 2 * k + 1) (d97 hk).2
  rw [show a + 98 + (2 * i + 1) = a + 99 + 2 * i by omega] at g1
  rw [show a + 98 + (2 * k + 1) = a + 99 + 2 * k by omega] at g2
  replace g1 : s (a + 99 + 2 * i) = some (.inr (2, 60, r1)) := g1
  replace g2 : s (a + 99 + 2 * k) = some (.inr (2, 60, r2)) := g2
  unfold cpL
  simp only [g1, g2]
  rw [nI_clamp (by omega), nI_clamp (by omega), nI_clamp (by omega), if_pos ⟨⟨nI_pos (by omega), nI_pos (by omega), nI_pos (by omega)⟩, h1, h2⟩]
/-- the reference sets the items aside -/
theorem shiftA (W : WW s a w1 w2) {t p c : Nat} (ht : t < 6) (hc : p + c ≤ 60) (o q : Int32) (K : Int32 → Int32 → Int32 → Int32 → LH → Option (Int32 × LH)) : ∃ L1, fX7_shift_b104 s I (a + 110) K 1000 (nI t) (nI p) o q (nI c) 0 L = K o q (nI c) 0 L1 ∧ (∀ x, x ≠ a + 156 → L1 x = L x) ∧ ∀ k, k < c → L1 (a + 156) k = L (a + 155) (60 * t + p + k) := by
  have key : ∀ m v fuel (L0 : LH), v + m = c → m < fuel → (∀ x, x ≠ a + 156 → L0 x = L x) → (∀ k, k < v → L0 (a + 156) k = L (a + 155) (60 * t + p + k)) → ∃ L1, fX7_shift_b104 s I (a + 110) K fuel (nI t) (nI p) o q (nI c) (nI v) L0 = K o q (nI c) 0 L1 ∧ (∀ x, x ≠ a + 156 → L1 x = L x) ∧ ∀ k, k < c → L1 (a + 156) k = L (a + 155) (60 * t + p + k) := by
    intro m
    induction m with
    | zero =>
      intro v fuel L0 h1 h2 f h
      obtain ⟨u, rfl⟩ : ∃ u, fuel = u + 1 := ⟨fuel - 1, by omega⟩
      obtain rfl : v = c := h1
      refine ⟨L0, ?_, f, h⟩
      rw [fX7_shift_b104, if_pos (nI_le (Nat.le_refl _) (by omega))]
    | succ m ih =>
      intro v fuel L0 h1 h2 f h
      obtain ⟨u, rfl⟩ : ∃ u, fuel = u + 1 := ⟨fuel - 1, by omega⟩
      rw [fX7_shift_b104, if_neg (nI_ge (by omega) (by omega)), e7_110_66 W, Option.bind_some, e7_110_65 W, Option.bind_some, m60, nI_add, r155 W (j := 60 * t + p + v) (by omega), Option.bind_some, s156 W (j := v) (by omega), Option.bind_some, nI_1]
      refine ih (v + 1) u _ (by omega) (by omega) (fun x hx => ?_) (fun k hk => ?_)
      · funext j
        rw [wrJ_or (Or.inl hx), f x hx]
      · by_cases hkv : k = v
        · subst hkv
          rw [wrJ_at, f _ (by omega)]
        · rw [wrJ_or (Or.inr hkv)]
          exact h k (by omega)
  exact key c 0 1000 L (by omega) (by omega) (fun _ _ => rfl) (fun j hj => absurd hj (by omega))
/-- and puts them back -/
theorem shiftB (W : WW s a w1 w2) {t p c : Nat} (ht : t < 6) (hc : p + c ≤ 60) : ∃ L1, fX7_shift_b141 s I (a + 110) 1000 (nI t) (nI p) (nI c) 0 L = some (nI c, L1) ∧ (∀ x j, (x ≠ a + 155 ∨ j < 60 * t + p ∨ 60 * t + p + c ≤ j) → L1 x j = L x j) ∧ ∀ k, k < c → L1 (a + 155) (60 * t + p + k) = L (a + 156) k := by
  have key : ∀ m v fuel (L0 : LH), v + m = c → m < fuel → (∀ x j, (x ≠ a + 155 ∨ j < 60 * t + p ∨ 60 * t + p + c ≤ j) → L0 x j = L x j) → (∀ k, k < v → L0 (a + 155) (60 * t + p + k) = L (a + 156) k) → ∃ L1, fX7_shift_b141 s I (a + 110) fuel (nI t) (nI p) (nI c) (nI v) L0 = some (nI c, L1) ∧ (∀ x j, (x ≠ a + 155 ∨ j < 60 * t + p ∨ 60 * t + p + c ≤ j) → L1 x j = L x j) ∧ ∀ k, k < c → L1 (a + 155) (60 * t + p + k) = L (a + 156) k := by
    intro m
    induction m with
    | zero =>
      intro v fuel L0 h1 h2 f h
      obtain ⟨u, rfl⟩ : ∃ u, fuel = u + 1 := ⟨fuel - 1, by omega⟩
      obtain rfl : v = c := h1
      refine ⟨L0, ?_, f, h⟩
      rw [fX7_shift_b141, if_pos (nI_le (Nat.le_refl _) (by omega))]
    | succ m ih =>
      intro v fuel L0 h1 h2 f h
      obtain ⟨u, rfl⟩ : ∃ u, fuel = u + 1 := ⟨fuel - 1, by omega⟩
      rw [fX7_shift_b141, if_neg (nI_ge (by omega) (by omega)), e7_110_65 W, Option.bind_some, e7_110_66 W, Option.bind_some, r156 W (j := v) (by omega), Option.bind_some, m60, nI_add, s155 W (j := 60 * t + p + v) (by omega), Option.bind_some, nI_1]
      refine ih (v + 1) u _ (by omega) (by omega) (fun x j hx => ?_) (fun k hk => ?_)
      · rw [wrJ_or (by omega), f x j hx]
      · by_cases hkv : k = v
        · subst hkv
          rw [wrJ_at, f _ _ (by omega)]
        · rw [wrJ_or (by omega)]
          exact h k (by omega)
  exact key c 0 1000 L (by omega) (by omega) (fun _ _ _ => rfl) (fun j hj => absurd hj (by omega))
theorem m_shift (R : Rel s I L n a w1 w2) (v1 v2 v3 v4 v5 : Int32) : ML s I n a w1 w2 (fX6_shift s I a v1 v2 v3 v4 v5 L) (fun L1 => fX7_shift s I (a + 110) v1 v2 v3 v4 v5 L1) := by
  have W := R.1
  rcases tape_cases v1 with ⟨i, hi, rfl⟩ | ⟨u1, u2⟩
  · rcases tape_cases v3 with ⟨o, ho, rfl⟩ | ⟨u3, u4⟩
    · obtain ⟨z, hz, z1, z2, hs⟩ := sort_cases R hi
      obtain ⟨y, hy, y1, y2, ht⟩ := sort_cases R ho
      have cpre : ∀ r, (if I (a + 98 + 2 * i) 0 = -1 then some ((-11 : Int32), L) else if I (a + 98 + 2 * o) 0 = -1 then some (-11, L) else if I (a + 98 + 2 * i) 0 = I (a + 98 + 2 * o) 0 then (if v5 < 0 then some (-13, L) else if v2 < 0 then some (-13, L) else if v4 < 0 then some (-13, L) else if nI z - v2 < v5 then some (-13, L) else if v5 ≤ nI y - v4 then (cpL s L (a + 99 + 2 * i) v2 (a + 99 + 2 * o) v4 v5).bind fun l15 => some (v5, l15) else some (-13, L)) else some (-12, L)) = r → fX6_shift s I a (nI i) v2 (nI o) v4 v5 L = r := by
        intro r hr
        unfold fX6_shift
        refine bs_eq (tapeAt_y W hi) ?_
        refine oc_some ?_
        refine bs_eq (tapeAt_y W ho) ?_
        refine oc_some ?_
        rw [i3_0 W hi, Option.bind_some, i3_0 W ho, Option.bind_some, Option.bind_some, Option.bind_some, i3_1 W hi, Option.bind_some, i3_1 W ho, Option.bind_some, e3 W hi, Option.bind_some, e3 W ho, Option.bind_some, z1, y1]
        exact hr
      have mpre : ∀ L1 r, (if I (a + 153) i < 0 then some ((-11 : Int32), L1) else if 0 ≤ I (a + 153) o then (if I (a + 153) i = I (a + 153) o then (if v5 < 0 then some (-13, L1) else if v2 < 0 then some (-13, L1) else if v4 < 0 then some (-13, L1) else if nI z - v5 < v2 then some (-13, L1) else if v4 ≤ nI y - v5 then fX7_shift_b104 s I (a + 110) (fX7_shift_b141 s I (a + 110) 1000) 1000 (nI i) v2 (nI o) v4 v5 0 L1 else some (-13, L1)) else some (-12, L1)) else some (-11, L1)) = r → fX7_shift s I (a + 110) (nI i) v2 (nI o) v4 v5 L1 = r := by
        intro L1 r hr
        unfold fX7_shift
        refine if_f (isTape_y hi) ?_
        refine if_f (isTape_y ho) ?_
        simp only [e7_110_63 W, e7_110_64 W, r153 W hi, r153 W ho, r154 W hi, r154 W ho, Option.bind_some, z2, y2]
        exact hr
      rcases hs with ⟨q1, q2, -⟩ | ⟨q, hq, q1, q2⟩
      · exact ⟨-11, L, L, cpre _ (by rw [if_pos q1]), mpre L _ (by rw [if_pos (by rw [q2]; decide)]), R⟩
      · have nq : ¬ I (a + 98 + 2 * i) 0 = -1 := by rw [q1]; exact ne_m1 hq
        have mq : ¬ I (a + 153) i < 0 := by rw [q2]; exact nI_pos (by omega)
        rcases ht with ⟨t1, t2, -⟩ | ⟨t, hht, t1, t2⟩
        · exact ⟨-11, L, L, cpre _ (by rw [if_neg nq, if_pos t1]), mpre L _ (by rw [if_neg mq, if_neg (by rw [t2]; decide)]), R⟩
        · have nt : ¬ I (a + 98 + 2 * o) 0 = -1 := by rw [t1]; exact ne_m1 hht
          have mt : 0 ≤ I (a + 153) o := by rw [t2]; exact nI_pos' (by omega)
          have eqs : I (a + 153) i = I (a + 153) o ↔ I (a + 98 + 2 * i) 0 = I (a + 98 + 2 * o) 0 := by rw [q1, q2, t1, t2]
          by_cases hqt : I (a + 98 + 2 * i) 0 = I (a + 98 + 2 * o) 0
          · by_cases h5 : v5 < 0
            · exact ⟨-13, L, L, cpre _ (by rw [if_neg nq, if_neg nt, if_pos hqt, if_pos h5]), mpre L _ (by rw [if_neg mq, if_pos mt, if_pos (eqs.mpr hqt), if_pos h5]), R⟩
            · by_cases h2 : v2 < 0
              · exact ⟨-13, L, L, cpre _ (by rw [if_neg nq, if_neg nt, if_pos hqt, if_neg h5, if_pos h2]), mpre L _ (by rw [if_neg mq, if_pos mt, if_pos (eqs.mpr hqt), if_neg h5, if_pos h2]), R⟩
              · by_cases h4 : v4 < 0
                · exact ⟨-13, L, L, cpre _ (by rw [if_neg nq, if_neg nt, if_pos hqt, if_neg h5, if_neg h2, if_pos h4]), mpre L _ (by rw [if_neg mq, if_pos mt, if_pos (eqs.mpr hqt), if_neg h5, if_neg h2, if_pos h4]), R⟩
                · obtain ⟨c, hc, rfl⟩ := nI_of h5
                  obtain ⟨p, hp, rfl⟩ := nI_of h2
                  obtain ⟨r, hr, rfl⟩ := nI_of h4
                  by_cases h6 : z < c + p
                  · exact ⟨-13, L, L, cpre _ (by rw [if_neg nq, if_neg nt, if_pos hqt, if_neg h5, if_neg h2, if_neg h4, if_pos ((sub_lt (by omega) hp hc).mpr h6)]), mpre L _ (by rw [if_neg mq, if_pos mt, if_pos (eqs.mpr hqt), if_neg h5, if_neg h2, if_neg h4, if_pos ((sub_lt (by omega) hc hp).mpr (by omega))]), R⟩
                  · have n6 : ¬ nI z - nI p < nI c := fun h => h6 ((sub_lt (by omega) hp hc).mp h)
                    have m6 : ¬ nI z - nI c < nI p := fun h => h6 (by have := (sub_lt (by omega) hc hp).mp h; omega)
                    by_cases h7 : c + r ≤ y
                    · obtain ⟨L1, a1, b1, d1⟩ := shiftA (I := I) (L := upR L (a + 99 + 2 * o) (va_cpy (L (a + 99 + 2 * i)) (L (a + 99 + 2 * o)) p r c)) W hi (p := p) (c := c) (by omega) (nI o) (nI r) (fX7_shift_b141 s I (a + 110) 1000)
                      obtain ⟨L2, a2, b2', d2⟩ := shiftB (I := I) (L := L1) W ho (p := r) (c := c) (by omega)
                      refine ⟨nI c, _, L2, cpre _ (by rw [if_neg nq, if_neg nt, if_pos hqt, if_neg h5, if_neg h2, if_neg h4, if_neg n6, if_pos ((le_sub (by omega) hr hc).mpr h7)]; exact bs_eq (cpL_y W hi ho (by omega) (by omega)) rfl), mpre _ _ (by rw [if_neg mq, if_pos mt, if_pos (eqs.mpr hqt), if_neg h5, if_neg h2, if_neg h4, if_neg m6, if_pos ((le_sub (by omega) hc hr).mpr (by omega)), a1]; exact a2), R.tapes (fun x _ => rfl) ?_⟩
                      intro i' hi'
                      obtain ⟨c1, c2, c3', c4, c5⟩ := R.2.2.2.2.2.2.2.2 i' hi'
                      refine ⟨c1, c2, c3', c4, fun k hk => ?_⟩
                      have f155 : ∀ j, L1 (a + 155) j = L (a + 155) j := fun j => by rw [b1 _ (by omega), upR_ne (by omega)]
                      have f99 : L2 (a + 99 + 2 * i') k = upR L (a + 99 + 2 * o) (va_cpy (L (a + 99 + 2 * i)) (L (a + 99 + 2 * o)) p r c) (a + 99 + 2 * i') k := by rw [b2' _ _ (by omega), b1 _ (by omega)]
                      rw [f99]
                      by_cases hio : i' = o
                      · subst hio
                        rw [upR_same]
                        unfold va_cpy
                        by_cases hkr : r ≤ k ∧ k < r + c
                        · rw [if_pos hkr]
                          obtain ⟨m, rfl⟩ : ∃ m, k = r + m := ⟨k - r, by omega⟩
                          rw [← Nat.add_assoc, d2 m (by omega), d1 m (by omega), upR_ne (by omega), show r + m - r = m by omega]
                          have := (R.2.2.2.2.2.2.2.2 i hi).2.2.2.2 (p + m) (by omega)
                          rw [← Nat.add_assoc] at this
                          exact this
                        · rw [if_neg hkr, b2' _ _ (by omega), f155]
                          exact c5 k hk
                      · rw [upR_ne (by omega), b2' _ _ (by omega), f155]
                        exact c5 k hk
                    · exact ⟨-13, L, L, cpre _ (by rw [if_neg nq, if_neg nt, if_pos hqt, if_neg h5, if_neg h2, if_neg h4, if_neg n6, if_neg (fun h => h7 ((le_sub (by omega) hr hc).mp h))]), mpre L _ (by rw [if_neg mq, if_pos mt, if_pos (eqs.mpr hqt), if_neg h5, if_neg h2, if_neg h4, if_neg m6, if_neg (fun h => h7 (by have := (le_sub (by omega) hc hr).mp h; omega))]), R⟩
          · exact ⟨-12, L, L, cpre _ (by rw [if_neg nq, if_neg nt, if_neg hqt]), mpre L _ (by rw [if_neg mq, if_pos mt, if_neg (fun h => hqt (eqs.mp h))]), R⟩
    · refine ⟨-1, L, L, ?_, ?_, R⟩
      · unfold fX6_shift
        refine bs_eq (tapeAt_y W hi) ?_
        refine oc_some ?_
        refine bs_eq (tapeAt_n W u3) ?_
        rfl
      · show fX7_shift s I (a + 110) (nI i) v2 v3 v4 v5 L = _
        unfold fX7_shift
        refine if_f (isTape_y hi) ?_
        refine if_t u4 ?_
        rfl
  · refine ⟨-1, L, L, ?_, ?_, R⟩
    · unfold fX6_shift
      refine bs_eq (tapeAt_n W u1) ?_
      refine oc_none ?_
      rcases tape_cases v3 with ⟨o, ho, rfl⟩ | ⟨u3, u4⟩
      · refine bs_eq (tapeAt_y W ho) ?_
        rfl
      · refine bs_eq (tapeAt_n W u3) ?_
        rfl
    · show fX7_shift s I (a + 110) v1 v2 v3 v4 v5 L = _
      unfold fX7_shift
      refine if_t u2 ?_
      rfl
end TAPES
