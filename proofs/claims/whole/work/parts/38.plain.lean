/-! LAYER 2: the plain methods -/
theorem bs_eq {α β : Type} {o : Option α} {f : α → Option β} {x : α} {r : Option β} (h : o = some x) (k : f x = r) : o.bind f = r := by
  rw [h, Option.bind_some]
  exact k
theorem b2_eq {α β γ : Type} {o : Option (α × β)} {f : α → β → Option γ} {x : α} {y : β} {r : Option γ} (h : o = some (x, y)) (k : f x y = r) : b2 o f = r := by
  subst h
  exact k
theorem b3_eq {α β γ δ : Type} {o : Option (α × β × γ)} {f : α → β → γ → Option δ} {x : α} {y : β} {z : γ} {r : Option δ} (h : o = some (x, y, z)) (k : f x y z = r) : b3 o f = r := by
  subst h
  exact k
theorem if_t {α : Type} {c : Prop} [Decidable c] {A B r : α} (h : c) (k : A = r) : (if c then A else B) = r := by
  rw [if_pos h]
  exact k
theorem if_f {α : Type} {c : Prop} [Decidable c] {A B r : α} (h : ¬ c) (k : B = r) : (if c then A else B) = r := by
  rw [if_neg h]
  exact k
theorem un {j N : Nat} (h : j < N) (hN : N < 2 ^ 31) : ¬ fX6_isUnder (nI j) (nI N) = 0 := by
  rw [under_yes h hN]
  decide
theorem inn {j N : Nat} (h : j < N) (hN : N < 2 ^ 31) : ¬ fX7_in (nI j) 0 (nI (N - 1)) = 0 := by
  rw [in_yes h hN]
  decide
/-- both answer alike, and the relation holds behind them -/
def M2 (s : SH) (L : LH) (n a w1 w2 : Nat) (c : Option (Int32 × IH)) (m : IH → Option (Int32 × IH)) : Prop := ∃ x I1 I2, c = some (x, I1) ∧ m I1 = some (x, I2) ∧ Rel s I2 L n a w1 w2
theorem M2.same {s : SH} {I : IH} {L : LH} {n a w1 w2 : Nat} {c : Option (Int32 × IH)} {m : IH → Option (Int32 × IH)} {x : Int32} (R : Rel s I L n a w1 w2) (h1 : c = some (x, I)) (h2 : m I = some (x, I)) : M2 s L n a w1 w2 c m := ⟨x, I, I, h1, h2, R⟩
/-! the parts of the state in force, kept one by one -/
section KEPT
variable {I I' : IH} {a : Nat}
theorem k1 (h : SRnow I a) (e1 : I' (a + 1) 0 = I (a + 1) 0) (e2 : I' (a + 110) 0 = I (a + 110) 0) : C1 (I' (a + 1) 0) (I' (a + 110) 0) := by rw [e1, e2]; exact h.1
theorem k2 (h : SRnow I a) (e1 : I' (a + 9) = I (a + 9)) (e2 : I' (a + 111) = I (a + 111)) : C2 (I' (a + 9)) (I' (a + 111)) := by rw [e1, e2]; exact h.2.1
theorem k3 (h : SRnow I a) (e1 : I' (a + 9 + 1) = I (a + 9 + 1)) (e2 : I' (a + 110) 1 = I (a + 110) 1) (e3 : I' (a + 110) 2 = I (a + 110) 2) : C3 (I' (a + 9 + 1)) (I' (a + 110) 1) (I' (a + 110) 2) := by rw [e1, e2, e3]; exact h.2.2.1
theorem k4 (h : SRnow I a) (e1 : ∀ x, (a + 12 ≤ x ∧ x < a + 17) ∨ (a + 112 ≤ x ∧ x ≤ a + 114) → I' x = I x) : C4 I' (a + 9 + 3) (I' (a + 112)) (I' (a + 113)) (I' (a + 114)) := fun p hp => by
  rw [e1 (a + 9 + 3 + p) (by omega), e1 (a + 112) (by omega), e1 (a + 113) (by omega), e1 (a + 114) (by omega)]
  exact h.2.2.2.1 p hp
theorem k5 (h : SRnow I a) (e1 : I' (a + 1) 5 = I (a + 1) 5) (e2 : I' (a + 110) 39 = I (a + 110) 39) : C5 (I' (a + 1) 5) (I' (a + 110) 39) 10 := by rw [e1, e2]; exact h.2.2.2.2.1
theorem k6 (h : SRnow I a) (e0 : I' (a + 1) 5 = I (a + 1) 5) (e1 : ∀ x, (a + 18 ≤ x ∧ x < a + 28) ∨ (a + 138 ≤ x ∧ x ≤ a + 141) → I' x = I x) : C6 I' (a + 9 + 9) (I' (a + 1) 5) (I' (a + 138)) (I' (a + 139)) (I' (a + 140)) (I' (a + 141)) := fun w hw hw2 => by
  rw [e0] at hw2
  rw [e1 (a + 9 + 9 + w) (by omega), e1 (a + 138) (by omega), e1 (a + 139) (by omega), e1 (a + 140) (by omega), e1 (a + 141) (by omega)]
  exact h.2.2.2.2.2.1 w hw hw2
theorem k7 (h : SRnow I a) (e1 : I' (a + 1) 7 = I (a + 1) 7) (e2 : I' (a + 110) 25 = I (a + 110) 25) : C5 (I' (a + 1) 7) (I' (a + 110) 25) 24 := by rw [e1, e2]; exact h.2.2.2.2.2.2.1
theorem k8 (h : SRnow I a) (e0 : I' (a + 1) 7 = I (a + 1) 7) (e1 : I' (a + 9 + 19) = I (a + 9 + 19)) (e2 : I' (a + 125) = I (a + 125)) : C8 (I' (a + 1) 7) (I' (a + 9 + 19)) (I' (a + 125)) := by rw [e0, e1, e2]; exact h.2.2.2.2.2.2.2
/-- all but the state in force is kept when only its cells are written -/
theorem Rel.now {s : SH} {L : LH} {n w1 w2 : Nat} (R : Rel s I L n a w1 w2) (h : SRnow I' a) (f : ∀ x j, ¬ (x = a + 1 ∨ (a + 9 ≤ x ∧ x < a + 29) ∨ (x = a + 110 ∧ (j = 0 ∨ j = 1 ∨ j = 2 ∨ j = 25 ∨ j = 39)) ∨ (a + 111 ≤ x ∧ x ≤ a + 114) ∨ x = a + 125 ∨ (a + 138 ≤ x ∧ x ≤ a + 141)) → I' x j = I x j) : Rel s I' L n a w1 w2 := by
  obtain ⟨r1, ⟨r2, r3, r4⟩, r5, r6, r7, r8, r9, r10, r11⟩ := R
  have g : ∀ x, ¬ (x = a + 1 ∨ (a + 9 ≤ x ∧ x < a + 29) ∨ x = a + 110 ∨ (a + 111 ≤ x ∧ x ≤ a + 114) ∨ x = a + 125 ∨ (a + 138 ≤ x ∧ x ≤ a + 141)) → I' x = I x := fun x hx => funext fun j => f x j (by omega)
  exact ⟨r1, ⟨r2, r3, r4⟩, h, r6.kept (fun x k h => f x k (by omega)) (fun x h => g x (by omega)), VV.kept r3 r4 r7 (fun x k h => f x k (by omega)) (fun x h => g x (by omega)), r8.kept ⟨f _ _ (by omega), f _ _ (by omega)⟩ ⟨g _ (by omega), g _ (by omega)⟩, r9.kept ⟨f _ _ (by omega), f _ _ (by omega)⟩ ⟨g _ (by omega), g _ (by omega)⟩, r10.kept ⟨f _ _ (by omega), f _ _ (by omega)⟩, r11.kept (fun x h => g x (by omega))⟩
end KEPT
theorem rng (v : Int32) (lo hi : Nat) (h1 : lo ≤ hi) (h2 : hi < 2 ^ 31) : (∃ j, lo ≤ j ∧ j ≤ hi ∧ v = nI j) ∨ (v < nI lo ∧ fX7_in v (nI lo) (nI hi) = 0) ∨ (¬ v < nI lo ∧ nI hi < v ∧ ¬ v ≤ nI hi ∧ fX7_in v (nI lo) (nI hi) = 0) := by
  by_cases h3 : v < nI lo
  · refine Or.inr (Or.inl ⟨h3, ?_⟩)
    unfold fX7_in
    rw [if_pos h3]
  · by_cases h4 : nI hi < v
    · refine Or.inr (Or.inr ⟨h3, h4, ?_, ?_⟩)
      · have h5 := Int32.lt_iff_toInt_lt.mp h4
        intro h6
        have h7 := Int32.le_iff_toInt_le.mp h6
        omega
      · unfold fX7_in
        rw [if_neg h3, if_pos h4]
    · refine Or.inl ?_
      have h0 : ¬ v < 0 := by
        intro h5
        have h6 := Int32.lt_iff_toInt_lt.mp h5
        have h7 : ¬ v.toInt < (nI lo).toInt := fun h => h3 (Int32.lt_iff_toInt_lt.mpr h)
        rw [nI_toInt (by omega)] at h7
        have h8 : (0 : Int32).toInt = 0 := rfl
        omega
      obtain ⟨j, hj, rfl⟩ := nI_of h0
      refine ⟨j, ?_, ?_, rfl⟩
      · have h7 : ¬ (nI j).toInt < (nI lo).toInt := fun h => h3 (Int32.lt_iff_toInt_lt.mpr h)
        rw [nI_toInt (by omega), nI_toInt (by omega)] at h7
        omega
      · have h7 : ¬ (nI hi).toInt < (nI j).toInt := fun h => h4 (Int32.lt_iff_toInt_lt.mpr h)
        rw [nI_toInt (by omega), nI_toInt (by omega)] at h7
        omega
theorem in_ok {j lo hi : Nat} (h1 : lo ≤ j) (h2 : j ≤ hi) (h3 : hi < 2 ^ 31) : ¬ fX7_in (nI j) (nI lo) (nI hi) = 0 := by
  unfold fX7_in
  rw [if_neg (nI_nlt h1 (by omega)), if_neg (nI_nlt h2 (by omega))]
  decide
theorem nI_sub {j k : Nat} (h : j ≤ k) : nI k - nI j = nI (k - j) := by
  have h1 : nI (k - j) + nI j = nI k := by rw [nI_add]; congr 1; omega
  rw [← h1, Int32.add_sub_cancel]
theorem nI_mul (j k : Nat) : nI j * nI k = nI (j * k) := (Int32.ofNat_mul j k).symm
/-- reading calls: both answer alike -/
def M1 {α : Type} (c m : Option α) : Prop := ∃ x, c = some x ∧ m = some x
theorem M1.i {α : Type} {c m : Option α} {x : α} (h1 : c = some x) (h2 : m = some x) : M1 c m := ⟨x, h1, h2⟩
section PLAIN
variable {s : SH} {I : IH} {L : LH} {n a w1 w2 : Nat}
theorem m_sky (R : Rel s I L n a w1 w2) (v1 v2 : Int32) : M2 s L n a w1 w2 (fX6_sky s a v1 v2 I) (fun I1 => fX7_sky s (a + 110) v1 v2 I1) := by
  have W := R.1
  have S := R.2.2.1
  rcases under_cases v1 2 (by omega) (by omega) with ⟨d, hd, rfl⟩ | ⟨-, u1, u2⟩
  · rcases under_cases v2 3 (by omega) (by omega) with ⟨k, hk, rfl⟩ | ⟨-, u3, u4⟩
    · skip
      have hc : fX6_sky s a (nI d) (nI k) I = some ((I (a + 9) d), (wr I (a + 9) d (nI k))) := by
        unfold fX6_sky
        refine if_f (un (N := 2) hd (by omega)) ?_
        refine if_f (un (N := 3) hk (by omega)) ?_
        refine bs_eq (e6_0_0 W) ?_
        refine bs_eq (e2_1_1 W) ?_
        refine bs_eq (r9 W (j := d) hd) ?_
        refine bs_eq (e6_0_0 W) ?_
        refine bs_eq (e2_1_1 W) ?_
        refine bs_eq (s9 W (j := d) hd) ?_
        rfl
      generalize hI1 : wr I (a + 9) d (nI k) = I1 at hc
      have f1 : ∀ x j, (x ≠ a + 9 ∨ j ≠ d) → I1 x j = I x j := fun x j h0 => by rw [← hI1, wr_or h0]
      have hm : fX7_sky s (a + 110) (nI d) (nI k) I1 = some ((I1 (a + 111) d), (wr I1 (a + 111) d (nI k))) := by
        unfold fX7_sky
        refine if_f (inn (N := 2) hd (by omega)) ?_
        refine if_f (inn (N := 3) hk (by omega)) ?_
        refine bs_eq (e7_110_3 W) ?_
        refine bs_eq (r111 W (j := d) hd) ?_
        refine bs_eq (e7_110_3 W) ?_
        refine bs_eq (s111 W (j := d) hd) ?_
        rfl
      generalize hI2 : wr I1 (a + 111) d (nI k) = I2 at hm
      have f : ∀ x j, (x ≠ a + 9 ∨ j ≠ d) → (x ≠ a + 111 ∨ j ≠ d) → I2 x j = I x j := fun x j h0 m0 => by rw [← hI2, wr_or m0, f1 x j h0]
      have fr : ∀ x, x ≠ a + 9 → x ≠ a + 111 → I2 x = I x := fun x h0 h1 => funext fun j => f x j (by omega) (by omega)
      have hx : I1 (a + 111) d = I (a + 9) d := by rw [f1 _ _ (by omega)]; exact (S.2.1 d hd).1
      refine ⟨I (a + 9) d, I1, I2, hc, by first | exact hm | (rw [← hx]; exact hm), R.now ?_ (fun x j h => f x j (by omega) (by omega))⟩
      unfold SRnow SR
      refine ⟨k1 S (f _ _ (by omega) (by omega)) (f _ _ (by omega) (by omega)), fun q hq => ?_, k3 S (fr _ (by omega) (by omega)) (f _ _ (by omega) (by omega)) (f _ _ (by omega) (by omega)), k4 S (fun x h => fr x (by omega) (by omega)), k5 S (f _ _ (by omega) (by omega)) (f _ _ (by omega) (by omega)), k6 S (f _ _ (by omega) (by omega)) (fun x h => fr x (by omega) (by omega)), k7 S (f _ _ (by omega) (by omega)) (f _ _ (by omega) (by omega)), k8 S (f _ _ (by omega) (by omega)) (fr _ (by omega) (by omega)) (fr _ (by omega) (by omega))⟩
      by_cases hqd : q = d
      · subst hqd
        have g1 : I2 (a + 9) q = nI k := by rw [← hI2, wr_ne (by omega), ← hI1, wr_at]
        have g2 : I2 (a + 111) q = nI k := by rw [← hI2, wr_at]
        exact ⟨by rw [g1, g2], Bd_of g1 (Nat.zero_le _) (by omega) (by omega)⟩
      · rw [f _ _ (by omega) (by omega), f _ _ (by omega) (by omega)]
        exact S.2.1 q hq
    · exact M2.same R (by unfold fX6_sky; refine if_f (un (N := 2) hd (by omega)) ?_; refine if_t (u3) ?_; rfl) (by unfold fX7_sky; refine if_f (inn (N := 2) hd (by omega)) ?_; refine if_t (u4) ?_; rfl)
  · exact M2.same R (by unfold fX6_sky; refine if_t (u1) ?_; rfl) (by unfold fX7_sky; refine if_t (u2) ?_; rfl)
theorem m_places (R : Rel s I L n a w1 w2) (v1 : Int32) : M2 s L n a w1 w2 (fX6_places s a v1 I) (fun I1 => fX7_places s (a + 110) v1 I1) := by
  have W := R.1
  have S := R.2.2.1
  rcases rng v1 1 5 (by omega) (by omega) with ⟨j, h1, h2, rfl⟩ | ⟨u1, u2⟩ | ⟨u1, -, u3, u4⟩
  · skip
    have hc : fX6_places s a (nI j) I = some ((I (a + 1) 0), (wr I (a + 1) 0 (nI j))) := by
      unfold fX6_places
      refine if_f (nI_nlt h1 (by omega)) ?_
      refine if_t (nI_le (b := 5) h2 (by omega)) ?_
      refine bs_eq (e6_0_0 W) ?_
      refine bs_eq (i2_1_0 W) ?_
      refine bs_eq (e6_0_0 W) ?_
      refine bs_eq (p2_1_0 W) ?_
      rfl
    generalize hI1 : wr I (a + 1) 0 (nI j) = I1 at hc
    have f1 : ∀ x j, (x ≠ a + 1 ∨ j ≠ 0) → I1 x j = I x j := fun x j h0 => by rw [← hI1, wr_or h0]
    have hm : fX7_places s (a + 110) (nI j) I1 = some ((I1 (a + 110) 0), (wr I1 (a + 110) 0 (nI j))) := by
      unfold fX7_places
      refine if_f (in_ok (lo := 1) (hi := 5) h1 h2 (by omega)) ?_
      refine bs_eq (i7_110_0 W) ?_
      refine bs_eq (p7_110_0 W) ?_
      rfl
    generalize hI2 : wr I1 (a + 110) 0 (nI j) = I2 at hm
    have f : ∀ x j, (x ≠ a + 1 ∨ j ≠ 0) → (x ≠ a + 110 ∨ j ≠ 0) → I2 x j = I x j := fun x j h0 m0 => by rw [← hI2, wr_or m0, f1 x j h0]
    have fr : ∀ x, x ≠ a + 1 → x ≠ a + 110 → I2 x = I x := fun x h0 h1 => funext fun j => f x j (by omega) (by omega)
    have hx : I1 (a + 110) 0 = I (a + 1) 0 := by rw [f1 _ _ (by omega)]; exact S.1.1
    refine ⟨I (a + 1) 0, I1, I2, hc, by first | exact hm | (rw [← hx]; exact hm), R.now ?_ (fun x j h => f x j (by omega) (by omega))⟩
    unfold SRnow SR
    refine ⟨⟨by rw [← hI2, wr_at, wr_ne (by omega), ← hI1, wr_at], Bd_of (q := j) (by rw [← hI2, wr_ne (by omega), ← hI1, wr_at]) h1 h2 (by omega)⟩, k2 S (fr _ (by omega) (by omega)) (fr _ (by omega) (by omega)), k3 S (fr _ (by omega) (by omega)) (f _ _ (by omega) (by omega)) (f _ _ (by omega) (by omega)), k4 S (fun x h => fr x (by omega) (by omega)), k5 S (f _ _ (by omega) (by omega)) (f _ _ (by omega) (by omega)), k6 S (f _ _ (by omega) (by omega)) (fun x h => fr x (by omega) (by omega)), k7 S (f _ _ (by omega) (by omega)) (f _ _ (by omega) (by omega)), k8 S (f _ _ (by omega) (by omega)) (fr _ (by omega) (by omega)) (fr _ (by omega) (by omega))⟩
  · skip
    exact M2.same R (by unfold fX6_places; refine if_t (u1) ?_; rfl) (by unfold fX7_places; refine if_t (u2) ?_; rfl)
  · skip
    exact M2.same R (by unfold fX6_places; refine if_f (u1) ?_; refine if_f (u3) ?_; rfl) (by unfold fX7_places; refine if_t (u4) ?_; rfl)
theorem m_gate (R : Rel s I L n a w1 w2) (v1 v2 v3 v4 : Int32) : M2 s L n a w1 w2 (fX6_gate s a v1 v2 v3 v4 I) (fun I1 => fX7_gate s (a + 110) v1 v2 v3 v4 I1) := by
  have W := R.1
  have S := R.2.2.1
  rcases under_cases v1 5 (by omega) (by omega) with ⟨p, hp, rfl⟩ | ⟨-, u1, u2⟩
  · rcases under_cases v2 7 (by omega) (by omega) with ⟨k, hk, rfl⟩ | ⟨-, u3, u4⟩
    · rcases rng v3 0 10 (by omega) (by omega) with ⟨j, h1, h2, rfl⟩ | ⟨u5, u6⟩ | ⟨u5, u6, -, u8⟩
      · rcases rng v4 0 16777215 (by omega) (by omega) with ⟨i, h3, h4, rfl⟩ | ⟨u9, u10⟩ | ⟨u9, -, u11, u12⟩
        · skip
          have hc : fX6_gate s a (nI p) (nI k) (nI j) (nI i) I = some ((I (a + 12 + p) 0), (wr (wr (wr I (a + 12 + p) 0 (nI k)) (a + 12 + p) 1 (nI j)) (a + 12 + p) 2 (nI i))) := by
            unfold fX6_gate
            refine if_f (un (N := 5) hp (by omega)) ?_
            refine if_f (un (N := 7) hk (by omega)) ?_
            refine if_f (nI_nlt (b := 0) h1 (by omega)) ?_
            refine if_f (nI_nlt (a := 10) h2 (by omega)) ?_
            refine if_f (nI_nlt (b := 0) h3 (by omega)) ?_
            refine if_t (nI_le (b := 16777215) h4 (by omega)) ?_
            refine bs_eq (e6_0_0 W) ?_
            refine bs_eq (e2_1_3 W) ?_
            refine bs_eq (a11 W (p := p) hp) ?_
            refine bs_eq (r11 W hp (j := 0) (by omega)) ?_
            refine bs_eq (s11 W hp (j := 0) (by omega)) ?_
            refine bs_eq (s11 W hp (j := 1) (by omega)) ?_
            refine bs_eq (s11 W hp (j := 2) (by omega)) ?_
            rfl
          generalize hI1 : wr (wr (wr I (a + 12 + p) 0 (nI k)) (a + 12 + p) 1 (nI j)) (a + 12 + p) 2 (nI i) = I1 at hc
          have f1 : ∀ x j, (x ≠ a + 12 + p ∨ j ≠ 0) → (x ≠ a + 12 + p ∨ j ≠ 1) → (x ≠ a + 12 + p ∨ j ≠ 2) → I1 x j = I x j := fun x j h0 h1 h2 => by rw [← hI1, wr_or h2, wr_or h1, wr_or h0]
          have hm : fX7_gate s (a + 110) (nI p) (nI k) (nI j) (nI i) I1 = some ((I1 (a + 112) p), (wr (wr (wr I1 (a + 112) p (nI k)) (a + 113) p (nI j)) (a + 114) p (nI i))) := by
            unfold fX7_gate
            refine if_f (inn (N := 5) hp (by omega)) ?_
            refine if_f (inn (N := 7) hk (by omega)) ?_
            refine if_f (in_ok (lo := 0) (hi := 10) h1 h2 (by omega)) ?_
            refine if_f (in_ok (lo := 0) (hi := 16777215) h3 h4 (by omega)) ?_
            refine bs_eq (e7_110_4 W) ?_
            refine bs_eq (r112 W (j := p) hp) ?_
            refine bs_eq (e7_110_4 W) ?_
            refine bs_eq (s112 W (j := p) hp) ?_
            refine bs_eq (e7_110_5 W) ?_
            refine bs_eq (s113 W (j := p) hp) ?_
            refine bs_eq (e7_110_6 W) ?_
            refine bs_eq (s114 W (j := p) hp) ?_
            rfl
          generalize hI2 : wr (wr (wr I1 (a + 112) p (nI k)) (a + 113) p (nI j)) (a + 114) p (nI i) = I2 at hm
          have f : ∀ x j, (x ≠ a + 12 + p ∨ j ≠ 0) → (x ≠ a + 12 + p ∨ j ≠ 1) → (x ≠ a + 12 + p ∨ j ≠ 2) → (x ≠ a + 112 ∨ j ≠ p) → (x ≠ a + 113 ∨ j ≠ p) → (x ≠ a + 114 ∨ j ≠ p) → I2 x j = I x j := fun x j h0 h1 h2 m0 m1 m2 => by rw [← hI2, wr_or m2, wr_or m1, wr_or m0, f1 x j h0 h1 h2]
          have fr : ∀ x, x ≠ a + 12 + p → x ≠ a + 112 → x ≠ a + 113 → x ≠ a + 114 → I2 x = I x := fun x h0 h1 h2 h3 => funext fun j => f x j (by omega) (by omega) (by omega) (by omega) (by omega) (by omega)
          have hx : I1 (a + 112) p = I (a + 12 + p) 0 := by rw [f1 _ _ (by omega) (by omega) (by omega)]; exact (S.2.2.2.1 p hp).1
          refine ⟨I (a + 12 + p) 0, I1, I2, hc, by first | exact hm | (rw [← hx]; exact hm), R.now ?_ (fun x j h => f x j (by omega) (by omega) (by omega) (by omega) (by omega) (by omega))⟩
          unfold SRnow SR
          refine ⟨k1 S (f _ _ (by omega) (by omega) (by omega) (by omega) (by omega) (by omega)) (f _ _ (by omega) (by omega) (by omega) (by omega) (by omega) (by omega)), k2 S (fr _ (by omega) (by omega) (by omega) (by omega)) (fr _ (by omega) (by omega) (by omega) (by omega)), k3 S (fr _ (by omega) (by omega) (by omega) (by omega)) (f _ _ (by omega) (by omega) (by omega) (by omega) (by omega) (by omega)) (f _ _ (by omega) (by omega) (by omega) (by omega) (by omega) (by omega)), fun q hq => ?_, k5 S (f _ _ (by omega) (by omega) (by omega) (by omega) (by omega) (by omega)) (f _ _ (by omega) (by omega) (by omega) (by omega) (by omega) (by omega)), k6 S (f _ _ (by omega) (by omega) (by omega) (by omega) (by omega) (by omega)) (fun x h => fr x (by omega) (by omega) (by omega) (by omega)), k7 S (f _ _ (by omega) (by omega) (by omega) (by omega) (by omega) (by omega)) (f _ _ (by omega) (by omega) (by omega) (by omega) (by omega) (by omega)), k8 S (f _ _ (by omega) (by omega) (by omega) (by omega) (by omega) (by omega)) (fr _ (by omega) (by omega) (by omega) (by omega)) (fr _ (by omega) (by omega) (by omega) (by omega))⟩
          by_cases hqp : q = p
          · subst hqp
            have e9 : a + 9 + 3 + q = a + 12 + q := by omega
            have g1 : I2 (a + 9 + 3 + q) 0 = nI k := by rw [← hI2, wr_ne (by omega), wr_ne (by omega), wr_ne (by omega), ← hI1, e9, wr_nj (by omega), wr_nj (by omega), wr_at]
            have g2 : I2 (a + 9 + 3 + q) 1 = nI j := by rw [← hI2, wr_ne (by omega), wr_ne (by omega), wr_ne (by omega), ← hI1, e9, wr_nj (by omega), wr_at]
            have g3 : I2 (a + 9 + 3 + q) 2 = nI i := by rw [← hI2, wr_ne (by omega), wr_ne (by omega), wr_ne (by omega), ← hI1, e9, wr_at]
            have g4 : I2 (a + 112) q = nI k := by rw [← hI2, wr_ne (by omega), wr_ne (by omega), wr_at]
            have g5 : I2 (a + 113) q = nI j := by rw [← hI2, wr_ne (by omega), wr_at]
            have g6 : I2 (a + 114) q = nI i := by rw [← hI2, wr_at]
            exact ⟨by rw [g1, g4], by rw [g2, g5], by rw [g3, g6], Bd_of g1 (Nat.zero_le _) (by omega) (by omega), Bd_of g2 (Nat.zero_le _) h2 (by omega), Bd_of g3 (Nat.zero_le _) h4 (by omega)⟩
          · have e9 : a + 9 + 3 + q ≠ a + 12 + p := by omega
            have e8 : I2 (a + 9 + 3 + q) = I (a + 9 + 3 + q) := fr _ e9 (by omega) (by omega) (by omega)
            rw [e8, f _ q (by omega) (by omega) (by omega) (by omega) (by omega) (by omega), f _ q (by omega) (by omega) (by omega) (by omega) (by omega) (by omega), f _ q (by omega) (by omega) (by omega) (by omega) (by omega) (by omega)]
            exact S.2.2.2.1 q hq
        · skip
          exact M2.same R (by unfold fX6_gate; refine if_f (un (N := 5) hp (by omega)) ?_; refine if_f (un (N := 7) hk (by omega)) ?_; refine if_f (nI_nlt (b := 0) h1 (by omega)) ?_; refine if_f (nI_nlt (a := 10) h2 (by omega)) ?_; refine if_t (u9) ?_; rfl) (by unfold fX7_gate; refine if_f (inn (N := 5) hp (by omega)) ?_; refine if_f (inn (N := 7) hk (by omega)) ?_; refine if_f (in_ok (lo := 0) (hi := 10) h1 h2 (by omega)) ?_; refine if_t (u10) ?_; rfl)
        · skip
          exact M2.same R (by unfold fX6_gate; refine if_f (un (N := 5) hp (by omega)) ?_; refine if_f (un (N := 7) hk (by omega)) ?_; refine if_f (nI_nlt (b := 0) h1 (by omega)) ?_; refine if_f (nI_nlt (a := 10) h2 (by omega)) ?_; refine if_f (u9) ?_; refine if_f (u11) ?_; rfl) (by unfold fX7_gate; refine if_f (inn (N := 5) hp (by omega)) ?_; refine if_f (inn (N := 7) hk (by omega)) ?_; refine if_f (in_ok (lo := 0) (hi := 10) h1 h2 (by omega)) ?_; refine if_t (u12) ?_; rfl)
      · skip
        exact M2.same R (by unfold fX6_gate; refine if_f (un (N := 5) hp (by omega)) ?_; refine if_f (un (N := 7) hk (by omega)) ?_; refine if_t (u5) ?_; rfl) (by unfold fX7_gate; refine if_f (inn (N := 5) hp (by omega)) ?_; refine if_f (inn (N := 7) hk (by omega)) ?_; refine if_t (u6) ?_; rfl)
      · skip
        exact M2.same R (by unfold fX6_gate; refine if_f (un (N := 5) hp (by omega)) ?_; refine if_f (un (N := 7) hk (by omega)) ?_; refine if_f (u5) ?_; refine if_t (u6) ?_; rfl) (by unfold fX7_gate; refine if_f (inn (N := 5) hp (by omega)) ?_; refine if_f (inn (N := 7) hk (by omega)) ?_; refine if_t (u8) ?_; rfl)
    · skip
      exact M2.same R (by unfold fX6_gate; refine if_f (un (N := 5) hp (by omega)) ?_; refine if_t (u3) ?_; rfl) (by unfold fX7_gate; refine if_f (inn (N := 5) hp (by omega)) ?_; refine if_t (u4) ?_; rfl)
  · skip
    exact M2.same R (by unfold fX6_gate; refine if_t (u1) ?_; rfl) (by unfold fX7_gate; refine if_t (u2) ?_; rfl)
theorem m_of (R : Rel s I L n a w1 w2) (v1 v2 : Int32) : M1 (fX6_of s I a v1 v2) (fX7_of s I (a + 110) v1 v2) := by
  have W := R.1
  have S := R.2.2.1
  rcases under_cases v1 5 (by omega) (by omega) with ⟨p, hp, rfl⟩ | ⟨-, u1, u2⟩
  · rcases under_cases v2 3 (by omega) (by omega) with ⟨k, hk, rfl⟩ | ⟨-, u3, u4⟩
    · obtain rfl | rfl | rfl : k = 0 ∨ k = 1 ∨ k = 2 := by omega
      · skip
        have hc : fX6_of s I a (nI p) (nI 0) = some (I (a + 12 + p) 0) := by
          unfold fX6_of
          refine if_f (un (N := 5) hp (by omega)) ?_
          refine if_f (un (N := 3) hk (by omega)) ?_
          refine bs_eq (e6_0_0 W) ?_
          refine bs_eq (e2_1_3 W) ?_
          refine bs_eq (a11 W (p := p) hp) ?_
          refine bs_eq (r11 W hp (j := 0) (by omega)) ?_
          rfl
        have hm : fX7_of s I (a + 110) (nI p) (nI 0) = some (I (a + 112) p) := by
          unfold fX7_of
          refine if_f (inn (N := 5) hp (by omega)) ?_
          refine if_t (rfl) ?_
          refine bs_eq (e7_110_4 W) ?_
          refine bs_eq (r112 W (j := p) hp) ?_
          rfl
        have hx : (I (a + 112) p) = (I (a + 12 + p) 0) := (S.2.2.2.1 p hp).1
        exact M1.i hc (by rw [← hx]; exact hm)
      · skip
        have hc : fX6_of s I a (nI p) (nI 1) = some (I (a + 12 + p) 1) := by
          unfold fX6_of
          refine if_f (un (N := 5) hp (by omega)) ?_
          refine if_f (un (N := 3) hk (by omega)) ?_
          refine bs_eq (e6_0_0 W) ?_
          refine bs_eq (e2_1_3 W) ?_
          refine bs_eq (a11 W (p := p) hp) ?_
          refine bs_eq (r11 W hp (j := 1) (by omega)) ?_
          rfl
        have hm : fX7_of s I (a + 110) (nI p) (nI 1) = some (I (a + 113) p) := by
          unfold fX7_of
          refine if_f (inn (N := 5) hp (by omega)) ?_
          refine if_f (by decide) ?_
          refine if_t (rfl) ?_
          refine bs_eq (e7_110_5 W) ?_
          refine bs_eq (r113 W (j := p) hp) ?_
          rfl
        have hx : (I (a + 113) p) = (I (a + 12 + p) 1) := (S.2.2.2.1 p hp).2.1
        exact M1.i hc (by rw [← hx]; exact hm)
      · skip
        have hc : fX6_of s I a (nI p) (nI 2) = some (I (a + 12 + p) 2) := by
          unfold fX6_of
          refine if_f (un (N := 5) hp (by omega)) ?_
          refine if_f (un (N := 3) hk (by omega)) ?_
          refine bs_eq (e6_0_0 W) ?_
          refine bs_eq (e2_1_3 W) ?_
          refine bs_eq (a11 W (p := p) hp) ?_
          refine bs_eq (r11 W hp (j := 2) (by omega)) ?_
          rfl
        have hm : fX7_of s I (a + 110) (nI p) (nI 2) = some (I (a + 114) p) := by
          unfold fX7_of
          refine if_f (inn (N := 5) hp (by omega)) ?_
          refine if_f (by decide) ?_
          refine if_f (by decide) ?_
          refine if_t (rfl) ?_
          refine bs_eq (e7_110_6 W) ?_
          refine bs_eq (r114 W (j := p) hp) ?_
          rfl
        have hx : (I (a + 114) p) = (I (a + 12 + p) 2) := (S.2.2.2.1 p hp).2.2.1
        exact M1.i hc (by rw [← hx]; exact hm)
    · skip
      exact M1.i (by unfold fX6_of; refine if_f (un (N := 5) hp (by omega)) ?_; refine if_t (u3) ?_; rfl) (by unfold fX7_of; refine if_f (inn (N := 5) hp (by omega)) ?_; refine if_f (by rintro rfl; exact absurd u3 (by decide)) ?_; refine if_f (by rintro rfl; exact absurd u3 (by decide)) ?_; refine if_f (by rintro rfl; exact absurd u3 (by decide)) ?_; rfl)
  · skip
    exact M1.i (by unfold fX6_of; refine if_t (u1) ?_; rfl) (by unfold fX7_of; refine if_t (u2) ?_; rfl)
theorem m_count (R : Rel s I L n a w1 w2) (v1 : Int32) : M1 (fX6_count s I a v1) (fX7_count s I (a + 110) v1) := by
  have W := R.1
  have S := R.2.2.1
  have hX := R.2.2.2.2.2.1
  by_cases h0 : v1 = 0
  · skip
    have hc : fX6_count s I a v1 = some (I (a + 1) 0) := by
      unfold fX6_count
      refine if_t (h0) ?_
      refine bs_eq (e6_0_0 W) ?_
      refine bs_eq (i2_1_0 W) ?_
      rfl
    have hm : fX7_count s I (a + 110) v1 = some (I (a + 110) 0) := by
      unfold fX7_count
      refine if_t (h0) ?_
      refine bs_eq (i7_110_0 W) ?_
      rfl
    have hx : (I (a + 110) 0) = (I (a + 1) 0) := S.1.1
    exact M1.i hc (by rw [← hx]; exact hm)
  by_cases h1 : v1 = 1
  · skip
    have hc : fX6_count s I a v1 = some (I (a + 1) 5) := by
      unfold fX6_count
      refine if_f (h0) ?_
      refine if_t (h1) ?_
      refine bs_eq (e6_0_0 W) ?_
      refine bs_eq (i2_1_5 W) ?_
      rfl
    have hm : fX7_count s I (a + 110) v1 = some (I (a + 110) 39) := by
      unfold fX7_count
      refine if_f (h0) ?_
      refine if_t (h1) ?_
      refine bs_eq (i7_110_39 W) ?_
      rfl
    have hx : (I (a + 110) 39) = (I (a + 1) 5) := S.2.2.2.2.1.1
    exact M1.i hc (by rw [← hx]; exact hm)
  by_cases h2 : v1 = 2
  · skip
    have hc : fX6_count s I a v1 = some (I (a) 7) := by
      unfold fX6_count
      refine if_f (h0) ?_
      refine if_f (h1) ?_
      refine if_t (h2) ?_
      refine bs_eq (i6_0_7 W) ?_
      rfl
    have hm : fX7_count s I (a + 110) v1 = some (I (a + 110) 7) := by
      unfold fX7_count
      refine if_f (h0) ?_
      refine if_f (h1) ?_
      refine if_t (h2) ?_
      refine bs_eq (i7_110_7 W) ?_
      rfl
    have hx : (I (a + 110) 7) = (I (a) 7) := R.2.2.2.2.1.1.1
    exact M1.i hc (by rw [← hx]; exact hm)
  by_cases h3 : v1 = 3
  · skip
    have hc : fX6_count s I a v1 = some (I (a + 1) 7) := by
      unfold fX6_count
      refine if_f (h0) ?_
      refine if_f (h1) ?_
      refine if_f (h2) ?_
      refine if_t (h3) ?_
      refine bs_eq (e6_0_0 W) ?_
      refine bs_eq (i2_1_7 W) ?_
      rfl
    have hm : fX7_count s I (a + 110) v1 = some (I (a + 110) 25) := by
      unfold fX7_count
      refine if_f (h0) ?_
      refine if_f (h1) ?_
      refine if_f (h2) ?_
      refine if_t (h3) ?_
      refine bs_eq (i7_110_25 W) ?_
      rfl
    have hx : (I (a + 110) 25) = (I (a + 1) 7) := S.2.2.2.2.2.2.1.1
    exact M1.i hc (by rw [← hx]; exact hm)
  by_cases h4 : v1 = 4
  · skip
    have hc : fX6_count s I a v1 = some (I (a) 6) := by
      unfold fX6_count
      refine if_f (h0) ?_
      refine if_f (h1) ?_
      refine if_f (h2) ?_
      refine if_f (h3) ?_
      refine if_t (h4) ?_
      refine bs_eq (i6_0_6 W) ?_
      rfl
    have hm : fX7_count s I (a + 110) v1 = some (I (a + 110) 9) := by
      unfold fX7_count
      refine if_f (h0) ?_
      refine if_f (h1) ?_
      refine if_f (h2) ?_
      refine if_f (h3) ?_
      refine if_t (h4) ?_
      refine bs_eq (i7_110_9 W) ?_
      rfl
    have hx : (I (a + 110) 9) = (I (a) 6) := R.2.2.2.2.2.1.1.1
    exact M1.i hc (by rw [← hx]; exact hm)
  by_cases h5 : v1 = 5
  · skip
    have hc : fX6_count s I a v1 = some (I (a + 94) 4) := by
      unfold fX6_count
      refine if_f (h0) ?_
      refine if_f (h1) ?_
      refine if_f (h2) ?_
      refine if_f (h3) ?_
      refine if_f (h4) ?_
      refine if_t (h5) ?_
      refine bs_eq (e6_0_4 W) ?_
      refine bs_eq (i0_94_4 W) ?_
      rfl
    have hm : fX7_count s I (a + 110) v1 = some (I (a + 110) 61) := by
      unfold fX7_count
      refine if_f (h0) ?_
      refine if_f (h1) ?_
      refine if_f (h2) ?_
      refine if_f (h3) ?_
      refine if_f (h4) ?_
      refine if_t (h5) ?_
      refine bs_eq (i7_110_61 W) ?_
      rfl
    have hx : (I (a + 110) 61) = (I (a + 94) 4) := R.2.2.2.2.2.2.1.1.1
    exact M1.i hc (by rw [← hx]; exact hm)
  exact M1.i (by unfold fX6_count; refine if_f (h0) ?_; refine if_f (h1) ?_; refine if_f (h2) ?_; refine if_f (h3) ?_; refine if_f (h4) ?_; refine if_f (h5) ?_; rfl) (by unfold fX7_count; refine if_f (h0) ?_; refine if_f (h1) ?_; refine if_f (h2) ?_; refine if_f (h3) ?_; refine if_f (h4) ?_; refine if_f (h5) ?_; rfl)
theorem m_want (R : Rel s I L n a w1 w2) (v1 v2 v3 v4 : Int32) : M2 s L n a w1 w2 (fX6_want s a v1 v2 v3 v4 I) (fun I1 => fX7_want s (a + 110) v1 v2 v3 v4 I1) := by
  have W := R.1
  have S := R.2.2.1
  obtain ⟨N, e5, hN⟩ : ∃ N, I (a + 1) 5 = nI N ∧ N ≤ 10 := ⟨_, S.2.2.2.2.1.2.1, S.2.2.2.2.1.2.2.2⟩
  have e39 : I (a + 110) 39 = nI N := by rw [← e5]; exact S.2.2.2.2.1.1
  rcases under_cases v1 5 (by omega) (by omega) with ⟨p, hp, rfl⟩ | ⟨-, u1, u2⟩
  · rcases under_cases v2 48 (by omega) (by omega) with ⟨h, hh, rfl⟩ | ⟨-, u3, u4⟩
    · rcases rng v3 1 30 (by omega) (by omega) with ⟨j, h1, h2, rfl⟩ | ⟨u5, u6⟩ | ⟨u5, u6, -, u8⟩
      · rcases rng v4 1 9 (by omega) (by omega) with ⟨i, h3, h4, rfl⟩ | ⟨u9, u10⟩ | ⟨u9, -, u11, u12⟩
        · by_cases hN10 : N = 10
          · subst hN10
            refine M2.same R (x := -4) ?_ ?_
            · unfold fX6_want
              refine if_f (un (N := 5) hp (by omega)) ?_
              refine if_f (un (N := 48) hh (by omega)) ?_
              refine if_f (nI_nlt (b := 1) h1 (by omega)) ?_
              refine if_f (nI_nlt (a := 30) h2 (by omega)) ?_
              refine if_f (nI_nlt (b := 1) h3 (by omega)) ?_
              refine if_t (nI_le (b := 9) h4 (by omega)) ?_
              refine bs_eq (e6_0_0 W) ?_
              refine bs_eq (i2_1_5 W) ?_
              refine if_f (by rw [e5]; decide) ?_
              rfl
            · unfold fX7_want
              refine if_f (inn (N := 5) hp (by omega)) ?_
              refine if_f (inn (N := 48) hh (by omega)) ?_
              refine if_f (in_ok (lo := 1) (hi := 30) h1 h2 (by omega)) ?_
              refine if_f (in_ok (lo := 1) (hi := 9) h3 h4 (by omega)) ?_
              refine bs_eq (i7_110_39 W) ?_
              refine if_t (e39) ?_
              rfl
          · have hN9 : N < 10 := by omega
            have hc : fX6_want s a (nI p) (nI h) (nI j) (nI i) I = some ((((wr (wr (wr (wr (wr I (a + 18 + N) 0 (nI p)) (a + 18 + N) 1 (nI h)) (a + 18 + N) 2 (nI j)) (a + 18 + N) 3 (nI i)) (a + 1) 5 (((wr (wr (wr (wr I (a + 18 + N) 0 (nI p)) (a + 18 + N) 1 (nI h)) (a + 18 + N) 2 (nI j)) (a + 18 + N) 3 (nI i)) (a + 1) 5) + 1)) (a + 1) 5) - 1), (wr (wr (wr (wr (wr I (a + 18 + N) 0 (nI p)) (a + 18 + N) 1 (nI h)) (a + 18 + N) 2 (nI j)) (a + 18 + N) 3 (nI i)) (a + 1) 5 (((wr (wr (wr (wr I (a + 18 + N) 0 (nI p)) (a + 18 + N) 1 (nI h)) (a + 18 + N) 2 (nI j)) (a + 18 + N) 3 (nI i)) (a + 1) 5) + 1))) := by
              unfold fX6_want
              refine if_f (un (N := 5) hp (by omega)) ?_
              refine if_f (un (N := 48) hh (by omega)) ?_
              refine if_f (nI_nlt (b := 1) h1 (by omega)) ?_
              refine if_f (nI_nlt (a := 30) h2 (by omega)) ?_
              refine if_f (nI_nlt (b := 1) h3 (by omega)) ?_
              refine if_t (nI_le (b := 9) h4 (by omega)) ?_
              refine bs_eq (e6_0_0 W) ?_
              refine bs_eq (i2_1_5 W) ?_
              refine if_t (by rw [e5]; exact nI_lt (b := 10) hN9 (by omega)) ?_
              refine bs_eq (e6_0_0 W) ?_
              refine bs_eq (e2_1_4 W) ?_
              refine bs_eq (e6_0_0 W) ?_
              refine bs_eq (i2_1_5 W) ?_
              refine bs_eq (by rw [e5]; exact a17 W (p := N) hN9) ?_
              refine bs_eq (s17 W hN9 (j := 0) (by omega)) ?_
              refine bs_eq (s17 W hN9 (j := 1) (by omega)) ?_
              refine bs_eq (s17 W hN9 (j := 2) (by omega)) ?_
              refine bs_eq (s17 W hN9 (j := 3) (by omega)) ?_
              refine bs_eq (e6_0_0 W) ?_
              refine bs_eq (i2_1_5 W) ?_
              refine bs_eq (p2_1_5 W) ?_
              refine bs_eq (e6_0_0 W) ?_
              refine bs_eq (i2_1_5 W) ?_
              rfl
            generalize hI1 : wr (wr (wr (wr (wr I (a + 18 + N) 0 (nI p)) (a + 18 + N) 1 (nI h)) (a + 18 + N) 2 (nI j)) (a + 18 + N) 3 (nI i)) (a + 1) 5 (((wr (wr (wr (wr I (a + 18 + N) 0 (nI p)) (a + 18 + N) 1 (nI h)) (a + 18 + N) 2 (nI j)) (a + 18 + N) 3 (nI i)) (a + 1) 5) + 1) = I1 at hc
            have f1 : ∀ x j, (x ≠ a + 18 + N ∨ j ≠ 0) → (x ≠ a + 18 + N ∨ j ≠ 1) → (x ≠ a + 18 + N ∨ j ≠ 2) → (x ≠ a + 18 + N ∨ j ≠ 3) → (x ≠ a + 1 ∨ j ≠ 5) → I1 x j = I x j := fun x j h0 h1 h2 h3 h4 => by rw [← hI1, wr_or h4, wr_or h3, wr_or h2, wr_or h1, wr_or h0]
            have i39 : I1 (a + 110) 39 = nI N := by rw [f1 _ _ (by omega) (by omega) (by omega) (by omega) (by omega)]; exact e39
            have hm : fX7_want s (a + 110) (nI p) (nI h) (nI j) (nI i) I1 = some ((((wr (wr (wr (wr (wr I1 (a + 138) N (nI p)) (a + 139) N (nI h)) (a + 140) N (nI j)) (a + 141) N (nI i)) (a + 110) 39 (((wr (wr (wr (wr I1 (a + 138) N (nI p)) (a + 139) N (nI h)) (a + 140) N (nI j)) (a + 141) N (nI i)) (a + 110) 39) + 1)) (a + 110) 39) - 1), (wr (wr (wr (wr (wr I1 (a + 138) N (nI p)) (a + 139) N (nI h)) (a + 140) N (nI j)) (a + 141) N (nI i)) (a + 110) 39 (((wr (wr (wr (wr I1 (a + 138) N (nI p)) (a + 139) N (nI h)) (a + 140) N (nI j)) (a + 141) N (nI i)) (a + 110) 39) + 1))) := by
              unfold fX7_want
              refine if_f (inn (N := 5) hp (by omega)) ?_
              refine if_f (inn (N := 48) hh (by omega)) ?_
              refine if_f (in_ok (lo := 1) (hi := 30) h1 h2 (by omega)) ?_
              refine if_f (in_ok (lo := 1) (hi := 9) h3 h4 (by omega)) ?_
              refine bs_eq (i7_110_39 W) ?_
              refine if_f (by rw [i39]; intro h9; exact absurd ((nI_eq (by omega) (by omega)).mp (h9.trans (show (10 : Int32) = nI 10 from rfl))) (by omega)) ?_
              refine bs_eq (e7_110_40 W) ?_
              refine bs_eq (i7_110_39 W) ?_
              refine bs_eq (by rw [show I1 (a + 110) 39 = nI N from by rw [i39]]; exact s138 W (j := N) hN9) ?_
              refine bs_eq (e7_110_41 W) ?_
              refine bs_eq (i7_110_39 W) ?_
              refine bs_eq (by rw [show (wr I1 (a + 138) N (nI p)) (a + 110) 39 = nI N from by rw [wr_ne (by omega), i39]]; exact s139 W (j := N) hN9) ?_
              refine bs_eq (e7_110_42 W) ?_
              refine bs_eq (i7_110_39 W) ?_
              refine bs_eq (by rw [show (wr (wr I1 (a + 138) N (nI p)) (a + 139) N (nI h)) (a + 110) 39 = nI N from by rw [wr_ne (by omega), wr_ne (by omega), i39]]; exact s140 W (j := N) hN9) ?_
              refine bs_eq (e7_110_43 W) ?_
              refine bs_eq (i7_110_39 W) ?_
              refine bs_eq (by rw [show (wr (wr (wr I1 (a + 138) N (nI p)) (a + 139) N (nI h)) (a + 140) N (nI j)) (a + 110) 39 = nI N from by rw [wr_ne (by omega), wr_ne (by omega), wr_ne (by omega), i39]]; exact s141 W (j := N) hN9) ?_
              refine bs_eq (i7_110_39 W) ?_
              refine bs_eq (p7_110_39 W) ?_
              refine bs_eq (i7_110_39 W) ?_
              rfl
            generalize hI2 : wr (wr (wr (wr (wr I1 (a + 138) N (nI p)) (a + 139) N (nI h)) (a + 140) N (nI j)) (a + 141) N (nI i)) (a + 110) 39 (((wr (wr (wr (wr I1 (a + 138) N (nI p)) (a + 139) N (nI h)) (a + 140) N (nI j)) (a + 141) N (nI i)) (a + 110) 39) + 1) = I2 at hm
            have f : ∀ x j, (x ≠ a + 18 + N ∨ j ≠ 0) → (x ≠ a + 18 + N ∨ j ≠ 1) → (x ≠ a + 18 + N ∨ j ≠ 2) → (x ≠ a + 18 + N ∨ j ≠ 3) → (x ≠ a + 1 ∨ j ≠ 5) → (x ≠ a + 138 ∨ j ≠ N) → (x ≠ a + 139 ∨ j ≠ N) → (x ≠ a + 140 ∨ j ≠ N) → (x ≠ a + 141 ∨ j ≠ N) → (x ≠ a + 110 ∨ j ≠ 39) → I2 x j = I x j := fun x j h0 h1 h2 h3 h4 m0 m1 m2 m3 m4 => by rw [← hI2, wr_or m4, wr_or m3, wr_or m2, wr_or m1, wr_or m0, f1 x j h0 h1 h2 h3 h4]
            have fr : ∀ x, x ≠ a + 18 + N → x ≠ a + 1 → x ≠ a + 138 → x ≠ a + 139 → x ≠ a + 140 → x ≠ a + 141 → x ≠ a + 110 → I2 x = I x := fun x h0 h1 h2 h3 h4 h5 h6 => funext fun j => f x j (by omega) (by omega) (by omega) (by omega) (by omega) (by omega) (by omega) (by omega) (by omega) (by omega)
            have hx : (I2 (a + 110) 39) - 1 = (I1 (a + 1) 5) - 1 := by rw [show I2 (a + 110) 39 = nI (N + 1) from by rw [← hI2, wr_at, wr_ne (by omega), wr_ne (by omega), wr_ne (by omega), wr_ne (by omega), i39, nI_1], show I1 (a + 1) 5 = nI (N + 1) from by rw [← hI1, wr_at, wr_ne (by omega), wr_ne (by omega), wr_ne (by omega), wr_ne (by omega), e5, nI_1]]
            refine ⟨(I1 (a + 1) 5) - 1, I1, I2, hc, by first | exact hm | (rw [← hx]; exact hm), R.now ?_ (fun x j h => f x j (by omega) (by omega) (by omega) (by omega) (by omega) (by omega) (by omega) (by omega) (by omega) (by omega))⟩
            unfold SRnow SR
            have g39 : I2 (a + 110) 39 = nI (N + 1) := by rw [← hI2, wr_at, wr_ne (by omega), wr_ne (by omega), wr_ne (by omega), wr_ne (by omega), i39, nI_1]
            have g5 : I2 (a + 1) 5 = nI (N + 1) := by rw [← hI2, wr_ne (by omega), wr_ne (by omega), wr_ne (by omega), wr_ne (by omega), wr_ne (by omega), ← hI1, wr_at, wr_ne (by omega), wr_ne (by omega), wr_ne (by omega), wr_ne (by omega), e5, nI_1]
            refine ⟨k1 S (f _ _ (by omega) (by omega) (by omega) (by omega) (by omega) (by omega) (by omega) (by omega) (by omega) (by omega)) (f _ _ (by omega) (by omega) (by omega) (by omega) (by omega) (by omega) (by omega) (by omega) (by omega) (by omega)), k2 S (fr _ (by omega) (by omega) (by omega) (by omega) (by omega) (by omega) (by omega)) (fr _ (by omega) (by omega) (by omega) (by omega) (by omega) (by omega) (by omega)), k3 S (fr _ (by omega) (by omega) (by omega) (by omega) (by omega) (by omega) (by omega)) (f _ _ (by omega) (by omega) (by omega) (by omega) (by omega) (by omega) (by omega) (by omega) (by omega) (by omega)) (f _ _ (by omega) (by omega) (by omega) (by omega) (by omega) (by omega) (by omega) (by omega) (by omega) (by omega)), k4 S (fun x h => fr x (by omega) (by omega) (by omega) (by omega) (by omega) (by omega) (by omega)), ?_, fun q hq hq2 => ?_, k7 S (f _ _ (by omega) (by omega) (by omega) (by omega) (by omega) (by omega) (by omega) (by omega) (by omega) (by omega)) (f _ _ (by omega) (by omega) (by omega) (by omega) (by omega) (by omega) (by omega) (by omega) (by omega) (by omega)), k8 S (f _ _ (by omega) (by omega) (by omega) (by omega) (by omega) (by omega) (by omega) (by omega) (by omega) (by omega)) (fr _ (by omega) (by omega) (by omega) (by omega) (by omega) (by omega) (by omega)) (fr _ (by omega) (by omega) (by omega) (by omega) (by omega) (by omega) (by omega))⟩
            · exact ⟨by rw [g39, g5], Bd_of g5 (Nat.zero_le _) (by omega) (by omega)⟩
            · rw [g5, nv_nI (by omega)] at hq2
              by_cases hqN : q = N
              · subst hqN
                have e9 : a + 9 + 9 + q = a + 18 + q := by omega
                have g0 : I2 (a + 9 + 9 + q) 0 = nI p := by rw [← hI2, wr_ne (by omega), wr_ne (by omega), wr_ne (by omega), wr_ne (by omega), wr_ne (by omega), ← hI1, wr_ne (by omega), e9, wr_nj (by omega), wr_nj (by omega), wr_nj (by omega), wr_at]
                have g1 : I2 (a + 9 + 9 + q) 1 = nI h := by rw [← hI2, wr_ne (by omega), wr_ne (by omega), wr_ne (by omega), wr_ne (by omega), wr_ne (by omega), ← hI1, wr_ne (by omega), e9, wr_nj (by omega), wr_nj (by omega), wr_at]
                have g2 : I2 (a + 9 + 9 + q) 2 = nI j := by rw [← hI2, wr_ne (by omega), wr_ne (by omega), wr_ne (by omega), wr_ne (by omega), wr_ne (by omega), ← hI1, wr_ne (by omega), e9, wr_nj (by omega), wr_at]
                have g3 : I2 (a + 9 + 9 + q) 3 = nI i := by rw [← hI2, wr_ne (by omega), wr_ne (by omega), wr_ne (by omega), wr_ne (by omega), wr_ne (by omega), ← hI1, wr_ne (by omega), e9, wr_at]
                have d0 : I2 (a + 138) q = nI p := by rw [← hI2, wr_ne (by omega), wr_ne (by omega), wr_ne (by omega), wr_ne (by omega), wr_at]
                have d1 : I2 (a + 139) q = nI h := by rw [← hI2, wr_ne (by omega), wr_ne (by omega), wr_ne (by omega), wr_at]
                have d2 : I2 (a + 140) q = nI j := by rw [← hI2, wr_ne (by omega), wr_ne (by omega), wr_at]
                have d3 : I2 (a + 141) q = nI i := by rw [← hI2, wr_ne (by omega), wr_at]
                exact ⟨by rw [g0, d0], by rw [g1, d1], by rw [g2, d2], by rw [g3, d3], Bd_of g0 (Nat.zero_le _) (by omega) (by omega), Bd_of g1 (Nat.zero_le _) (by omega) (by omega), Bd_of g2 h1 h2 (by omega), Bd_of g3 h3 h4 (by omega)⟩
              · have e8 : I2 (a + 9 + 9 + q) = I (a + 9 + 9 + q) := fr _ (by omega) (by omega) (by omega) (by omega) (by omega) (by omega) (by omega)
                rw [e8, f _ q (by omega) (by omega) (by omega) (by omega) (by omega) (by omega) (by omega) (by omega) (by omega) (by omega), f _ q (by omega) (by omega) (by omega) (by omega) (by omega) (by omega) (by omega) (by omega) (by omega) (by omega), f _ q (by omega) (by omega) (by omega) (by omega) (by omega) (by omega) (by omega) (by omega) (by omega) (by omega), f _ q (by omega) (by omega) (by omega) (by omega) (by omega) (by omega) (by omega) (by omega) (by omega) (by omega)]
                exact S.2.2.2.2.2.1 q hq (by rw [e5, nv_nI (by omega)]; omega)
        · skip
          exact M2.same R (by unfold fX6_want; refine if_f (un (N := 5) hp (by omega)) ?_; refine if_f (un (N := 48) hh (by omega)) ?_; refine if_f (nI_nlt (b := 1) h1 (by omega)) ?_; refine if_f (nI_nlt (a := 30) h2 (by omega)) ?_; refine if_t (u9) ?_; rfl) (by unfold fX7_want; refine if_f (inn (N := 5) hp (by omega)) ?_; refine if_f (inn (N := 48) hh (by omega)) ?_; refine if_f (in_ok (lo := 1) (hi := 30) h1 h2 (by omega)) ?_; refine if_t (u10) ?_; rfl)
        · skip
          exact M2.same R (by unfold fX6_want; refine if_f (un (N := 5) hp (by omega)) ?_; refine if_f (un (N := 48) hh (by omega)) ?_; refine if_f (nI_nlt (b := 1) h1 (by omega)) ?_; refine if_f (nI_nlt (a := 30) h2 (by omega)) ?_; refine if_f (u9) ?_; refine if_f (u11) ?_; rfl) (by unfold fX7_want; refine if_f (inn (N := 5) hp (by omega)) ?_; refine if_f (inn (N := 48) hh (by omega)) ?_; refine if_f (in_ok (lo := 1) (hi := 30) h1 h2 (by omega)) ?_; refine if_t (u12) ?_; rfl)
      · skip
        exact M2.same R (by unfold fX6_want; refine if_f (un (N := 5) hp (by omega)) ?_; refine if_f (un (N := 48) hh (by omega)) ?_; refine if_t (u5) ?_; rfl) (by unfold fX7_want; refine if_f (inn (N := 5) hp (by omega)) ?_; refine if_f (inn (N := 48) hh (by omega)) ?_; refine if_t (u6) ?_; rfl)
      · skip
        exact M2.same R (by unfold fX6_want; refine if_f (un (N := 5) hp (by omega)) ?_; refine if_f (un (N := 48) hh (by omega)) ?_; refine if_f (u5) ?_; refine if_t (u6) ?_; rfl) (by unfold fX7_want; refine if_f (inn (N := 5) hp (by omega)) ?_; refine if_f (inn (N := 48) hh (by omega)) ?_; refine if_t (u8) ?_; rfl)
    · skip
      exact M2.same R (by unfold fX6_want; refine if_f (un (N := 5) hp (by omega)) ?_; refine if_t (u3) ?_; rfl) (by unfold fX7_want; refine if_f (inn (N := 5) hp (by omega)) ?_; refine if_t (u4) ?_; rfl)
  · skip
    exact M2.same R (by unfold fX6_want; refine if_t (u1) ?_; rfl) (by unfold fX7_want; refine if_t (u2) ?_; rfl)
theorem m_odds (R : Rel s I L n a w1 w2) (v1 v2 : Int32) : M2 s L n a w1 w2 (fX6_odds s a v1 v2 I) (fun I1 => fX7_odds s (a + 110) v1 v2 I1) := by
  have W := R.1
  have S := R.2.2.1
  rcases rng v1 0 10 (by omega) (by omega) with ⟨x, -, hx10, rfl⟩ | ⟨u1, -⟩ | ⟨u1, u2, -, -⟩
  · rcases rng v2 0 10 (by omega) (by omega) with ⟨y, -, hy10, rfl⟩ | ⟨u3, -⟩ | ⟨u3, u4, u5, -⟩
    · by_cases hxy : x + y ≤ 10
      · skip
        have hc : fX6_odds s a (nI x) (nI y) I = some (1, (wr (wr (wr I (a + 10) 0 (nI x)) (a + 10) 1 (nI y)) (a + 10) 2 ((10 - (nI x)) - (nI y)))) := by
          unfold fX6_odds
          refine if_f (nI_nlt (b := 0) (Nat.zero_le _) (by omega)) ?_
          refine if_f (nI_nlt (a := 10) hx10 (by omega)) ?_
          refine if_f (nI_nlt (b := 0) (Nat.zero_le _) (by omega)) ?_
          refine if_t (by rw [show (10 : Int32) - nI x = nI (10 - x) from nI_sub hx10]; exact nI_le (by omega) (by omega)) ?_
          refine bs_eq (e6_0_0 W) ?_
          refine bs_eq (e2_1_2 W) ?_
          refine bs_eq (s10 W (j := 0) (by omega)) ?_
          refine bs_eq (e6_0_0 W) ?_
          refine bs_eq (e2_1_2 W) ?_
          refine bs_eq (s10 W (j := 1) (by omega)) ?_
          refine bs_eq (e6_0_0 W) ?_
          refine bs_eq (e2_1_2 W) ?_
          refine bs_eq (s10 W (j := 2) (by omega)) ?_
          rfl
        generalize hI1 : wr (wr (wr I (a + 10) 0 (nI x)) (a + 10) 1 (nI y)) (a + 10) 2 ((10 - (nI x)) - (nI y)) = I1 at hc
        have f1 : ∀ x j, (x ≠ a + 10 ∨ j ≠ 0) → (x ≠ a + 10 ∨ j ≠ 1) → (x ≠ a + 10 ∨ j ≠ 2) → I1 x j = I x j := fun x j h0 h1 h2 => by rw [← hI1, wr_or h2, wr_or h1, wr_or h0]
        have hm : fX7_odds s (a + 110) (nI x) (nI y) I1 = some (1, (wr (wr I1 (a + 110) 1 (nI x)) (a + 110) 2 (nI y))) := by
          unfold fX7_odds
          refine if_f (nI_nlt (b := 0) (Nat.zero_le _) (by omega)) ?_
          refine if_f (nI_nlt (b := 0) (Nat.zero_le _) (by omega)) ?_
          refine if_f (nI_nlt (a := 10) hx10 (by omega)) ?_
          refine if_f (nI_nlt (a := 10) hy10 (by omega)) ?_
          refine if_t (by rw [nI_add]; exact nI_le (b := 10) hxy (by omega)) ?_
          refine bs_eq (p7_110_1 W) ?_
          refine bs_eq (p7_110_2 W) ?_
          rfl
        generalize hI2 : wr (wr I1 (a + 110) 1 (nI x)) (a + 110) 2 (nI y) = I2 at hm
        have f : ∀ x j, (x ≠ a + 10 ∨ j ≠ 0) → (x ≠ a + 10 ∨ j ≠ 1) → (x ≠ a + 10 ∨ j ≠ 2) → (x ≠ a + 110 ∨ j ≠ 1) → (x ≠ a + 110 ∨ j ≠ 2) → I2 x j = I x j := fun x j h0 h1 h2 m0 m1 => by rw [← hI2, wr_or m1, wr_or m0, f1 x j h0 h1 h2]
        have fr : ∀ x, x ≠ a + 10 → x ≠ a + 110 → I2 x = I x := fun x h0 h1 => funext fun j => f x j (by omega) (by omega) (by omega) (by omega) (by omega)
        have hx : 1 = 1 := rfl
        refine ⟨1, I1, I2, hc, by first | exact hm | (rw [← hx]; exact hm), R.now ?_ (fun x j h => f x j (by omega) (by omega) (by omega) (by omega) (by omega))⟩
        unfold SRnow SR
        refine ⟨k1 S (f _ _ (by omega) (by omega) (by omega) (by omega) (by omega)) (f _ _ (by omega) (by omega) (by omega) (by omega) (by omega)), k2 S (fr _ (by omega) (by omega)) (fr _ (by omega) (by omega)), ?_, k4 S (fun x h => fr x (by omega) (by omega)), k5 S (f _ _ (by omega) (by omega) (by omega) (by omega) (by omega)) (f _ _ (by omega) (by omega) (by omega) (by omega) (by omega)), k6 S (f _ _ (by omega) (by omega) (by omega) (by omega) (by omega)) (fun x h => fr x (by omega) (by omega)), k7 S (f _ _ (by omega) (by omega) (by omega) (by omega) (by omega)) (f _ _ (by omega) (by omega) (by omega) (by omega) (by omega)), k8 S (f _ _ (by omega) (by omega) (by omega) (by omega) (by omega)) (fr _ (by omega) (by omega)) (fr _ (by omega) (by omega))⟩
        have e9 : a + 9 + 1 = a + 10 := rfl
        have g0 : I2 (a + 9 + 1) 0 = nI x := by rw [← hI2, wr_ne (by omega), wr_ne (by omega), ← hI1, e9, wr_nj (by omega), wr_nj (by omega), wr_at]
        have g1 : I2 (a + 9 + 1) 1 = nI y := by rw [← hI2, wr_ne (by omega), wr_ne (by omega), ← hI1, e9, wr_nj (by omega), wr_at]
        have g2 : I2 (a + 9 + 1) 2 = nI (10 - x - y) := by rw [← hI2, wr_ne (by omega), wr_ne (by omega), ← hI1, e9, wr_at, show (10 : Int32) - nI x = nI (10 - x) from nI_sub hx10, nI_sub (by omega)]
        have d0 : I2 (a + 110) 1 = nI x := by rw [← hI2, wr_nj (by omega), wr_at]
        have d1 : I2 (a + 110) 2 = nI y := by rw [← hI2, wr_at]
        exact ⟨by rw [d0, g0], by rw [d1, g1], x, y, hxy, g0, g1, g2⟩
      · skip
        exact M2.same R (by unfold fX6_odds; refine if_f (nI_nlt (b := 0) (Nat.zero_le _) (by omega)) ?_; refine if_f (nI_nlt (a := 10) hx10 (by omega)) ?_; refine if_f (nI_nlt (b := 0) (Nat.zero_le _) (by omega)) ?_; refine if_f (by rw [show (10 : Int32) - nI x = nI (10 - x) from nI_sub hx10]; exact nI_ge (by omega) (by omega)) ?_; rfl) (by unfold fX7_odds; refine if_f (nI_nlt (b := 0) (Nat.zero_le _) (by omega)) ?_; refine if_f (nI_nlt (b := 0) (Nat.zero_le _) (by omega)) ?_; refine if_f (nI_nlt (a := 10) hx10 (by omega)) ?_; refine if_f (nI_nlt (a := 10) hy10 (by omega)) ?_; refine if_f (by rw [nI_add]; exact nI_ge (a := 10) (by omega) (by omega)) ?_; rfl)
    · skip
      exact M2.same R (by unfold fX6_odds; refine if_f (nI_nlt (b := 0) (Nat.zero_le _) (by omega)) ?_; refine if_f (nI_nlt (a := 10) hx10 (by omega)) ?_; refine if_t (u3) ?_; rfl) (by unfold fX7_odds; refine if_f (nI_nlt (b := 0) (Nat.zero_le _) (by omega)) ?_; refine if_t (u3) ?_; rfl)
    · skip
      exact M2.same R (by unfold fX6_odds; refine if_f (nI_nlt (b := 0) (Nat.zero_le _) (by omega)) ?_; refine if_f (nI_nlt (a := 10) hx10 (by omega)) ?_; refine if_f (u3) ?_; refine if_f (by rw [show (10 : Int32) - nI x = nI (10 - x) from nI_sub hx10]; intro h9; exact u5 (Int32.le_trans h9 (nI_le (by omega) (by omega)))) ?_; rfl) (by unfold fX7_odds; refine if_f (nI_nlt (b := 0) (Nat.zero_le _) (by omega)) ?_; refine if_f (u3) ?_; refine if_f (nI_nlt (a := 10) hx10 (by omega)) ?_; refine if_t (u4) ?_; rfl)
  · skip
    exact M2.same R (by unfold fX6_odds; refine if_t (u1) ?_; rfl) (by unfold fX7_odds; refine if_t (u1) ?_; rfl)
  · by_cases u3 : v2 < 0
    · skip
      exact M2.same R (by unfold fX6_odds; refine if_f (u1) ?_; refine if_t (u2) ?_; rfl) (by unfold fX7_odds; refine if_f (u1) ?_; refine if_t (u3) ?_; rfl)
    · skip
      exact M2.same R (by unfold fX6_odds; refine if_f (u1) ?_; refine if_t (u2) ?_; rfl) (by unfold fX7_odds; refine if_f (u1) ?_; refine if_f (u3) ?_; refine if_t (u2) ?_; rfl)
theorem m_day (R : Rel s I L n a w1 w2) (v1 : Int32) : M2 s L n a w1 w2 (fX6_day s a v1 I) (fun I1 => fX7_day s (a + 110) v1 I1) := by
  have W := R.1
  have S := R.2.2.1
  obtain ⟨N, e7, hN⟩ : ∃ N, I (a + 1) 7 = nI N ∧ N ≤ 24 := ⟨_, S.2.2.2.2.2.2.1.2.1, S.2.2.2.2.2.2.1.2.2.2⟩
  have e25 : I (a + 110) 25 = nI N := by rw [← e7]; exact S.2.2.2.2.2.2.1.1
  by_cases hm1 : v1 = -1
  · subst hm1
    have hc : fX6_day s a (-1) I = some (0, (wr I (a + 1) 7 0)) := by
      unfold fX6_day
      refine if_f (by decide) ?_
      refine if_t (by decide) ?_
      refine if_t (rfl) ?_
      refine bs_eq (e6_0_0 W) ?_
      refine bs_eq (p2_1_7 W) ?_
      rfl
    generalize hI1 : wr I (a + 1) 7 0 = I1 at hc
    have f1 : ∀ x j, (x ≠ a + 1 ∨ j ≠ 7) → I1 x j = I x j := fun x j h0 => by rw [← hI1, wr_or h0]
    have hm : fX7_day s (a + 110) (-1) I1 = some (0, (wr I1 (a + 110) 25 0)) := by
      unfold fX7_day
      refine if_t (rfl) ?_
      refine bs_eq (p7_110_25 W) ?_
      rfl
    generalize hI2 : wr I1 (a + 110) 25 0 = I2 at hm
    have f : ∀ x j, (x ≠ a + 1 ∨ j ≠ 7) → (x ≠ a + 110 ∨ j ≠ 25) → I2 x j = I x j := fun x j h0 m0 => by rw [← hI2, wr_or m0, f1 x j h0]
    have fr : ∀ x, x ≠ a + 1 → x ≠ a + 110 → I2 x = I x := fun x h0 h1 => funext fun j => f x j (by omega) (by omega)
    have hx : 0 = 0 := rfl
    refine ⟨0, I1, I2, hc, by first | exact hm | (rw [← hx]; exact hm), R.now ?_ (fun x j h => f x j (by omega) (by omega))⟩
    unfold SRnow SR
    refine ⟨k1 S (f _ _ (by omega) (by omega)) (f _ _ (by omega) (by omega)), k2 S (fr _ (by omega) (by omega)) (fr _ (by omega) (by omega)), k3 S (fr _ (by omega) (by omega)) (f _ _ (by omega) (by omega)) (f _ _ (by omega) (by omega)), k4 S (fun x h => fr x (by omega) (by omega)), k5 S (f _ _ (by omega) (by omega)) (f _ _ (by omega) (by omega)), k6 S (f _ _ (by omega) (by omega)) (fun x h => fr x (by omega) (by omega)), ⟨by rw [← hI2, wr_at, wr_ne (by omega), ← hI1, wr_at], Bd_of (q := 0) (by rw [← hI2, wr_ne (by omega), ← hI1, wr_at]; rfl) (Nat.zero_le _) (by omega) (by omega)⟩, fun q hq hq2 => ?_⟩
    have g7 : I2 (a + 1) 7 = nI 0 := by rw [← hI2, wr_ne (by omega), ← hI1, wr_at]; rfl
    rw [g7, nv_nI (by omega)] at hq2
    omega
  · rcases rng v1 0 99 (by omega) (by omega) with ⟨x, -, hx99, rfl⟩ | ⟨u1, u2⟩ | ⟨u1, u2, u3, u4⟩
    · have b1 : ¬ nI x < -1 := fun h => by
        have h1 := Int32.lt_iff_toInt_lt.mp h
        rw [nI_toInt (by omega)] at h1
        have h2 : (-1 : Int32).toInt = -1 := rfl
        omega
      by_cases hN24 : N = 24
      · subst hN24
        refine M2.same R (x := -4) ?_ ?_
        · unfold fX6_day
          refine if_f (b1) ?_
          refine if_t (nI_le (b := 99) hx99 (by omega)) ?_
          refine if_f (hm1) ?_
          refine bs_eq (e6_0_0 W) ?_
          refine bs_eq (i2_1_7 W) ?_
          refine bs_eq (e6_0_0 W) ?_
          refine bs_eq (e2_1_6 W) ?_
          refine bs_eq (l28 W) ?_
          refine if_f (by rw [e7]; exact nI_nlt (a := 24) (by omega) (by omega)) ?_
          rfl
        · unfold fX7_day
          refine if_f (hm1) ?_
          refine if_f (in_ok (lo := 0) (hi := 99) (Nat.zero_le _) hx99 (by omega)) ?_
          refine bs_eq (i7_110_25 W) ?_
          refine if_t (e25) ?_
          rfl
      · have hN9 : N < 24 := by omega
        have hc : fX6_day s a (nI x) I = some (((wr (wr I (a + 28) N (nI x)) (a + 1) 7 (((wr I (a + 28) N (nI x)) (a + 1) 7) + 1)) (a + 1) 7), (wr (wr I (a + 28) N (nI x)) (a + 1) 7 (((wr I (a + 28) N (nI x)) (a + 1) 7) + 1))) := by
          unfold fX6_day
          refine if_f (b1) ?_
          refine if_t (nI_le (b := 99) hx99 (by omega)) ?_
          refine if_f (hm1) ?_
          refine bs_eq (e6_0_0 W) ?_
          refine bs_eq (i2_1_7 W) ?_
          refine bs_eq (e6_0_0 W) ?_
          refine bs_eq (e2_1_6 W) ?_
          refine bs_eq (l28 W) ?_
          refine if_t (by rw [e7]; exact nI_lt hN9 (by omega)) ?_
          refine bs_eq (e6_0_0 W) ?_
          refine bs_eq (e2_1_6 W) ?_
          refine bs_eq (e6_0_0 W) ?_
          refine bs_eq (i2_1_7 W) ?_
          refine bs_eq (by rw [e7]; exact s28 W (j := N) hN9) ?_
          refine bs_eq (e6_0_0 W) ?_
          refine bs_eq (i2_1_7 W) ?_
          refine bs_eq (p2_1_7 W) ?_
          refine bs_eq (e6_0_0 W) ?_
          refine bs_eq (i2_1_7 W) ?_
          rfl
        generalize hI1 : wr (wr I (a + 28) N (nI x)) (a + 1) 7 (((wr I (a + 28) N (nI x)) (a + 1) 7) + 1) = I1 at hc
        have f1 : ∀ x j, (x ≠ a + 28 ∨ j ≠ N) → (x ≠ a + 1 ∨ j ≠ 7) → I1 x j = I x j := fun x j h0 h1 => by rw [← hI1, wr_or h1, wr_or h0]
        have i25 : I1 (a + 110) 25 = nI N := by rw [f1 _ _ (by omega) (by omega)]; exact e25
        have hm : fX7_day s (a + 110) (nI x) I1 = some (((wr (wr I1 (a + 125) N (nI x)) (a + 110) 25 (((wr I1 (a + 125) N (nI x)) (a + 110) 25) + 1)) (a + 110) 25), (wr (wr I1 (a + 125) N (nI x)) (a + 110) 25 (((wr I1 (a + 125) N (nI x)) (a + 110) 25) + 1))) := by
          unfold fX7_day
          refine if_f (hm1) ?_
          refine if_f (in_ok (lo := 0) (hi := 99) (Nat.zero_le _) hx99 (by omega)) ?_
          refine bs_eq (i7_110_25 W) ?_
          refine if_f (by rw [i25]; intro h9; exact absurd ((nI_eq (by omega) (by omega)).mp (h9.trans (show (24 : Int32) = nI 24 from rfl))) (by omega)) ?_
          refine bs_eq (e7_110_26 W) ?_
          refine bs_eq (i7_110_25 W) ?_
          refine bs_eq (by rw [i25]; exact s125 W (j := N) hN9) ?_
          refine bs_eq (i7_110_25 W) ?_
          refine bs_eq (p7_110_25 W) ?_
          refine bs_eq (i7_110_25 W) ?_
          rfl
        generalize hI2 : wr (wr I1 (a + 125) N (nI x)) (a + 110) 25 (((wr I1 (a + 125) N (nI x)) (a + 110) 25) + 1) = I2 at hm
        have f : ∀ x j, (x ≠ a + 28 ∨ j ≠ N) → (x ≠ a + 1 ∨ j ≠ 7) → (x ≠ a + 125 ∨ j ≠ N) → (x ≠ a + 110 ∨ j ≠ 25) → I2 x j = I x j := fun x j h0 h1 m0 m1 => by rw [← hI2, wr_or m1, wr_or m0, f1 x j h0 h1]
        have fr : ∀ x, x ≠ a + 28 → x ≠ a + 1 → x ≠ a + 125 → x ≠ a + 110 → I2 x = I x := fun x h0 h1 h2 h3 => funext fun j => f x j (by omega) (by omega) (by omega) (by omega)
        have hx : I2 (a + 110) 25 = I1 (a + 1) 7 := by rw [show I2 (a + 110) 25 = nI (N + 1) from by rw [← hI2, wr_at, wr_ne (by omega), i25, nI_1], show I1 (a + 1) 7 = nI (N + 1) from by rw [← hI1, wr_at, wr_ne (by omega), e7, nI_1]]
        refine ⟨I1 (a + 1) 7, I1, I2, hc, by first | exact hm | (rw [← hx]; exact hm), R.now ?_ (fun x j h => f x j (by omega) (by omega) (by omega) (by omega))⟩
        unfold SRnow SR
        have g25 : I2 (a + 110) 25 = nI (N + 1) := by rw [← hI2, wr_at, wr_ne (by omega), i25, nI_1]
        have g7 : I2 (a + 1) 7 = nI (N + 1) := by rw [← hI2, wr_ne (by omega), wr_ne (by omega), ← hI1, wr_at, wr_ne (by omega), e7, nI_1]
        refine ⟨k1 S (f _ _ (by omega) (by omega) (by omega) (by omega)) (f _ _ (by omega) (by omega) (by omega) (by omega)), k2 S (fr _ (by omega) (by omega) (by omega) (by omega)) (fr _ (by omega) (by omega) (by omega) (by omega)), k3 S (fr _ (by omega) (by omega) (by omega) (by omega)) (f _ _ (by omega) (by omega) (by omega) (by omega)) (f _ _ (by omega) (by omega) (by omega) (by omega)), k4 S (fun x h => fr x (by omega) (by omega) (by omega) (by omega)), k5 S (f _ _ (by omega) (by omega) (by omega) (by omega)) (f _ _ (by omega) (by omega) (by omega) (by omega)), k6 S (f _ _ (by omega) (by omega) (by omega) (by omega)) (fun x h => fr x (by omega) (by omega) (by omega) (by omega)), ?_, fun q hq hq2 => ?_⟩
        · exact ⟨by rw [g25, g7], Bd_of g7 (Nat.zero_le _) (by omega) (by omega)⟩
        · rw [g7, nv_nI (by omega)] at hq2
          have e9 : a + 9 + 19 = a + 28 := rfl
          by_cases hqN : q = N
          · subst hqN
            have g1 : I2 (a + 9 + 19) q = nI x := by rw [← hI2, wr_ne (by omega), wr_ne (by omega), ← hI1, wr_ne (by omega), e9, wr_at]
            have g2 : I2 (a + 125) q = nI x := by rw [← hI2, wr_ne (by omega), wr_at]
            exact ⟨by rw [g1, g2], Bd_of g1 (Nat.zero_le _) hx99 (by omega)⟩
          · rw [f (a + 9 + 19) q (by omega) (by omega) (by omega) (by omega), f (a + 125) q (by omega) (by omega) (by omega) (by omega)]
            exact S.2.2.2.2.2.2.2 q hq (by rw [e7, nv_nI (by omega)]; omega)
    · have b1 : v1 < -1 := by
        have h1 := Int32.lt_iff_toInt_lt.mp u1
        have h0 : (nI 0).toInt = 0 := rfl
        have h2 : (-1 : Int32).toInt = -1 := rfl
        have h3 : v1.toInt ≠ -1 := fun h => hm1 (Int32.toInt_inj.mp (h.trans h2.symm))
        exact Int32.lt_iff_toInt_lt.mpr (by omega)
      exact M2.same R (by unfold fX6_day; refine if_t (b1) ?_; rfl) (by unfold fX7_day; refine if_f (hm1) ?_; refine if_t (u2) ?_; rfl)
    · have b1 : ¬ v1 < -1 := fun h => by
        have h1 := Int32.lt_iff_toInt_lt.mp h
        have h4 := Int32.lt_iff_toInt_lt.mp u2
        have h0 : (nI 99).toInt = 99 := rfl
        have h2 : (-1 : Int32).toInt = -1 := rfl
        omega
      exact M2.same R (by unfold fX6_day; refine if_f (b1) ?_; refine if_f (u3) ?_; rfl) (by unfold fX7_day; refine if_f (hm1) ?_; refine if_t (u4) ?_; rfl)
end PLAIN
