/-! LAYER 2: trace, taken, act -/
theorem un_lt {v x : Int32} (h : v < 0) : fX6_isUnder v x = 0 := by
  unfold fX6_isUnder
  rw [if_pos h]
theorem gt_le {v : Int32} (h : nI 19 < v) : nI 20 ≤ v := by
  have h1 := Int32.lt_iff_toInt_lt.mp h
  have h2 : (nI 19).toInt = 19 := rfl
  have h3 : (nI 20).toInt = 20 := rfl
  exact Int32.le_iff_toInt_le.mpr (by omega)
theorem un_ge {v x : Int32} (h : x ≤ v) : fX6_isUnder v x = 0 := by
  unfold fX6_isUnder
  by_cases h1 : v < 0
  · rw [if_pos h1]
  · rw [if_neg h1, if_pos h]
section ACTS
variable {s : SH} {I : IH} {L : LH} {n a w1 w2 : Nat}
theorem m_trace (R : Rel s I L n a w1 w2) (v1 : Int32) : M1 (fX6_trace s I a v1) (fX7_trace s I (a + 110) v1) := by
  have W := R.1
  have S := R.2.2.1
  have K := R.2.2.2.2.2.2.1
  obtain ⟨r, e4, hr⟩ : ∃ r, I (a + 94) 4 = nI r ∧ r ≤ 1000 := ⟨_, K.1.2.1, K.1.2.2.2⟩
  have e61 : I (a + 110) 61 = nI r := by rw [← e4]; exact K.1.1
  have em : fJ9_min_7cf53 (I (a + 94) 4) (nI 20) = nI (min r 20) := by rw [e4]; exact min_nI (by omega) (by omega)
  rcases rng v1 0 19 (by omega) (by omega) with ⟨j, -, hj, rfl⟩ | ⟨u1, u2⟩ | ⟨u1, u2, -, u4⟩
  · by_cases hjr : j < r
    · skip
      have hc : fX6_trace s I a (nI j) = some (I (a + 95) j) := by
        unfold fX6_trace
        refine bs_eq (e6_0_4 W) ?_
        refine bs_eq (i0_94_4 W) ?_
        refine bs_eq (e6_0_4 W) ?_
        refine bs_eq (e0_94_3 W) ?_
        refine bs_eq (l95 W) ?_
        refine if_f (by rw [em]; exact un (by omega) (by omega)) ?_
        refine bs_eq (e6_0_4 W) ?_
        refine bs_eq (e0_94_3 W) ?_
        refine bs_eq (r95 W (j := j) (show j < 20 by omega)) ?_
        rfl
      have hm : fX7_trace s I (a + 110) (nI j) = some (I (a + 152) j) := by
        unfold fX7_trace
        refine if_f (in_ok (lo := 0) (hi := 19) (Nat.zero_le _) hj (by omega)) ?_
        refine bs_eq (i7_110_61 W) ?_
        refine if_f (by rw [e61]; exact nI_ge hjr (by omega)) ?_
        refine bs_eq (e7_110_62 W) ?_
        refine bs_eq (r152 W (j := j) (show j < 20 by omega)) ?_
        rfl
      have hx : (I (a + 152) j) = (I (a + 95) j) := K.2 j (by omega) (by rw [e4, nv_nI (by omega)]; exact hjr)
      exact M1.i hc (by rw [← hx]; exact hm)
    · skip
      refine M1.i (x := (-1)) ?_ ?_
      · unfold fX6_trace
        refine bs_eq (e6_0_4 W) ?_
        refine bs_eq (i0_94_4 W) ?_
        refine bs_eq (e6_0_4 W) ?_
        refine bs_eq (e0_94_3 W) ?_
        refine bs_eq (l95 W) ?_
        refine if_t (by rw [em]; exact un_ge (nI_le (by omega) (by omega))) ?_
        rfl
      · unfold fX7_trace
        refine if_f (in_ok (lo := 0) (hi := 19) (Nat.zero_le _) hj (by omega)) ?_
        refine bs_eq (i7_110_61 W) ?_
        refine if_t (by rw [e61]; exact nI_le (by omega) (by omega)) ?_
        rfl
  · skip
    refine M1.i (x := (-1)) ?_ ?_
    · unfold fX6_trace
      refine bs_eq (e6_0_4 W) ?_
      refine bs_eq (i0_94_4 W) ?_
      refine bs_eq (e6_0_4 W) ?_
      refine bs_eq (e0_94_3 W) ?_
      refine bs_eq (l95 W) ?_
      refine if_t (un_lt u1) ?_
      rfl
    · unfold fX7_trace
      refine if_t (u2) ?_
      rfl
  · skip
    refine M1.i (x := (-1)) ?_ ?_
    · unfold fX6_trace
      refine bs_eq (e6_0_4 W) ?_
      refine bs_eq (i0_94_4 W) ?_
      refine bs_eq (e6_0_4 W) ?_
      refine bs_eq (e0_94_3 W) ?_
      refine bs_eq (l95 W) ?_
      refine if_t (by rw [em]; exact un_ge (Int32.le_trans (nI_le (a := min r 20) (b := 20) (by omega) (by omega)) (gt_le u2))) ?_
      rfl
    · unfold fX7_trace
      refine if_t (u4) ?_
      rfl
def tkT (k j : Nat) : Bool := j = 0 || k = j || (j = 1 && k = 4) || (j = 2 && k = 5) || (j = 3 && k = 6)
theorem isOrUnder_T : ∀ k : Fin 7, ∀ j : Fin 7, fX6_isOrUnder (nI k.1) (nI j.1) = some (if tkT k.1 j.1 then 1 else 0) := by decide +kernel
def tkM (x2 v2 : Int32) : Option Int32 := if v2 = 0 then some x2 else if x2 = v2 then some x2 else if v2 = 1 then (if x2 = 4 then some x2 else fX7_taken_b51 (fun _ => none) (fun _ _ => 0) 0 v2 x2) else fX7_taken_b51 (fun _ => none) (fun _ _ => 0) 0 v2 x2
theorem tkM_T : ∀ k : Fin 7, ∀ j : Fin 7, tkM (nI k.1) (nI j.1) = some (if tkT k.1 j.1 then nI k.1 else -12) := by decide +kernel
theorem m_taken (R : Rel s I L n a w1 w2) (v1 v2 : Int32) : M1 (fX6_taken s I a v1 v2) (fX7_taken s I (a + 110) v1 v2) := by
  have W := R.1
  have S := R.2.2.1
  rcases under_cases v2 7 (by omega) (by omega) with ⟨j, hj, rfl⟩ | ⟨-, u1, u2⟩
  · rcases under_cases v1 5 (by omega) (by omega) with ⟨p, hp, rfl⟩ | ⟨-, u3, u4⟩
    · have S4 := S.2.2.2.1 p hp
      obtain ⟨k, ek, hk⟩ : ∃ k, I (a + 12 + p) 0 = nI k ∧ k ≤ 6 := ⟨_, S4.2.2.2.1.1, S4.2.2.2.1.2.2⟩
      have em : I (a + 112) p = nI k := by rw [← ek]; exact S4.1
      have h1 := isOrUnder_T ⟨k, by omega⟩ ⟨j, hj⟩
      have h2 := tkM_T ⟨k, by omega⟩ ⟨j, hj⟩
      refine ⟨if tkT k j then nI k else -12, ?_, ?_⟩
      · unfold fX6_taken
        refine if_f (un (N := 7) hj (by omega)) ?_
        refine if_f (un (N := 5) hp (by omega)) ?_
        refine bs_eq (e6_0_0 W) ?_
        refine bs_eq (e2_1_3 W) ?_
        refine bs_eq (a11 W (p := p) hp) ?_
        refine bs_eq (r11 W hp (j := 0) (by omega)) ?_
        refine bs_eq (by rw [ek]; exact h1) ?_
        by_cases ht : tkT k j = true
        · rw [if_pos ht, if_pos ht, if_neg (by decide), ek]
        · rw [if_neg ht, if_neg ht, if_pos rfl]
      · unfold fX7_taken
        refine if_f (inn (N := 7) hj (by omega)) ?_
        refine if_f (inn (N := 5) hp (by omega)) ?_
        refine bs_eq (e7_110_4 W) ?_
        refine bs_eq (r112 W (j := p) hp) ?_
        rw [em]
        exact h2
    · skip
      refine M1.i (x := (-11)) ?_ ?_
      · unfold fX6_taken
        refine if_f (un (N := 7) hj (by omega)) ?_
        refine if_t (u3) ?_
        rfl
      · unfold fX7_taken
        refine if_f (inn (N := 7) hj (by omega)) ?_
        refine if_t (u4) ?_
        rfl
  · skip
    refine M1.i (x := (-2)) ?_ ?_
    · unfold fX6_taken
      refine if_t (u1) ?_
      rfl
    · unfold fX7_taken
      refine if_t (u2) ?_
      rfl
/-- what acts have written so far: how many ran (cell o, k) and which (row b) -/
def Tr (I I' : IH) (o k b : Nat) (l : List Int32) : Prop := (∀ x j, (x ≠ o ∨ j ≠ k) → x ≠ b → I' x j = I x j) ∧ I' o k = nI l.length ∧ ∀ j v, l[j]? = some v → I' b j = v
theorem Tr.add {I I' : IH} {o k b : Nat} {l : List Int32} {v : Int32} (T : Tr I I' o k b l) (hob : o ≠ b) : Tr I (wr (wr I' b l.length v) o k (nI (l.length + 1))) o k b (l ++ [v]) := by
  obtain ⟨t1, t2, t3⟩ := T
  refine ⟨fun x j h1 h2 => ?_, ?_, fun j w h => ?_⟩
  · rw [wr_or h1, wr_ne h2]
    exact t1 x j h1 h2
  · rw [wr_at, List.length_append]
    rfl
  · rw [wr_ne (Ne.symm hob)]
    by_cases hj : j < l.length
    · rw [List.getElem?_append_left hj] at h
      rw [wr_nj (by omega)]
      exact t3 j w h
    · rw [List.getElem?_append_right (by omega)] at h
      have h4 := (List.getElem?_eq_some_iff.mp h).1
      have h5 : j = l.length := by simp at h4; omega
      subst h5
      simp at h
      rw [wr_at]
      exact h
/-- ran and told: with a bounded list behind -/
theorem c_began (W : WW s a w1 w2) {I I' : IH} {l : List Int32} (v : Int32) (T : Tr I I' (a + 94) 4 (a + 95) l) (hl : l.length < 20) : ∃ I2, fX0_began s (a + 94) v I' = some I2 ∧ Tr I I2 (a + 94) 4 (a + 95) (l ++ [v]) := by
  refine ⟨_, ?_, T.add (by omega)⟩
  have t2 := T.2.1
  unfold fX0_began
  refine bs_eq (i0_94_4 W) ?_
  refine bs_eq (e0_94_3 W) ?_
  refine bs_eq (l95 W) ?_
  refine if_f (by rw [t2]; exact nI_ge hl (by omega)) ?_
  refine bs_eq (e0_94_3 W) ?_
  refine bs_eq (i0_94_4 W) ?_
  refine bs_eq (by rw [t2]; exact s95 W (j := l.length) hl) ?_
  unfold fX0_began_b22
  refine bs_eq (i0_94_4 W) ?_
  refine bs_eq (p0_94_4 W) ?_
  rw [wr_ne (by omega), t2, nI_1]
theorem c_body (W : WW s a w1 w2) {I I' : IH} {l : List Int32} (v : Int32) (T : Tr I I' (a + 110) 61 (a + 152) l) (hl : l.length < 20) : ∃ I2, fX7_body s (a + 110) v I' = some I2 ∧ Tr I I2 (a + 110) 61 (a + 152) (l ++ [v]) := by
  refine ⟨_, ?_, T.add (by omega)⟩
  have t2 := T.2.1
  unfold fX7_body
  refine bs_eq (i7_110_61 W) ?_
  refine if_f (by rw [t2]; exact nI_ge (b := 20) hl (by omega)) ?_
  refine bs_eq (e7_110_62 W) ?_
  refine bs_eq (i7_110_61 W) ?_
  refine bs_eq (by rw [t2]; exact s152 W (j := l.length) hl) ?_
  unfold fX7_body_b19
  refine bs_eq (i7_110_61 W) ?_
  refine bs_eq (p7_110_61 W) ?_
  rw [wr_ne (by omega), t2, nI_1]
/-- the values and the traces of acts -/
def ltV (P M : Int32) (f : Nat) (x : Int32) : Int32 := if f = 2 then x * 3 + P else if f = 4 then -(x + P) else if f = 5 then x * 3 + P else if f = 6 then (x + P) ^^^ M else x + P
def ltT (f : Nat) : List Int32 := if f = 2 then [30, 10] else if f = 4 then [50, 10] else if f = 5 then [30, 10] else if f = 6 then [71, 10] else [10]
def tkV0 (P M : Int32) (K : Nat) (x : Int32) : Int32 := ltV P M K x - M
def tkT0 (K : Nat) : List Int32 := [11] ++ ltT K
def tkV (P M : Int32) (K f : Nat) (x : Int32) : Int32 := if f = 1 then tkV0 P M K x ^^^ 6 else if f = 4 then tkV0 P M K (x + 1) ^^^ 6 else if f = 6 then tkV0 P M K x + (2 + P) else tkV0 P M K x
def tkTr (K f : Nat) : List Int32 := if f = 1 then [20] ++ tkT0 K else if f = 4 then [51] ++ ([20] ++ tkT0 K) else if f = 6 then [70] ++ (tkT0 K ++ [10]) else tkT0 K
def teV0 (P M : Int32) (K : Nat) (x : Int32) : Int32 := tkV P M K K x * 2
def teT0 (K : Nat) : List Int32 := [12] ++ tkTr K K
def teV (P M : Int32) (K f : Nat) (x : Int32) : Int32 := if f = 3 then teV0 P M K x + tkV P M K K 1 else if f = 5 then teV0 P M K (x - P) else if f = 6 then teV0 P M K x + tkV P M K K 1 else teV0 P M K x
def teT (K f : Nat) : List Int32 := if f = 3 then [40] ++ (teT0 K ++ tkTr K K) else if f = 5 then [60] ++ teT0 K else if f = 6 then [40] ++ (teT0 K ++ tkTr K K) else teT0 K
theorem ltT_len : ∀ K : Fin 7, (ltT K.1).length ≤ 2 := by decide
theorem tkTr_len : ∀ K : Fin 7, (tkTr K.1 K.1).length ≤ 5 := by decide
theorem teT_len : ∀ K : Fin 7, (teT K.1 K.1).length ≤ 12 := by decide
/-- a method of the acts: its answer and what it adds -/
def ActC (I : IH) (o k b : Nat) (l : List Int32) (r : Option (Int32 × IH)) (v : Int32) (t : List Int32) : Prop := ∃ I2, r = some (v, I2) ∧ Tr I I2 o k b (l ++ t)
section CL
variable {P M : Int32} {K : Nat}
theorem c_lets (W : WW s a w1 w2) (hP : I (a + 94) 0 = P) (hM : I (a + 94) 1 = M) : ∀ (f : Nat), f ≤ 6 → ∀ (dp : Nat), 2 ≤ dp → ∀ (l : List Int32) (I' : IH) (x : Int32), Tr I I' (a + 94) 4 (a + 95) l → l.length + 2 < 20 → ActC I (a + 94) 4 (a + 95) l (fX0_lets s dp (a + 94) (nI f) x I') (ltV P M f x) (ltT f) := by
  have base : ∀ (f : Nat), f = 0 ∨ f = 1 ∨ f = 3 → ∀ (dp : Nat), 1 ≤ dp → ∀ (l : List Int32) (I' : IH) (x : Int32), Tr I I' (a + 94) 4 (a + 95) l → l.length + 1 < 20 → ActC I (a + 94) 4 (a + 95) l (fX0_lets s dp (a + 94) (nI f) x I') (x + P) [10] := by
    intro f hf dp hdp l I' x T hl
    obtain ⟨d, rfl⟩ : ∃ d, dp = d + 1 := ⟨dp - 1, by omega⟩
    obtain ⟨I2, e2, T2⟩ := c_began W 10 T (by omega)
    refine ⟨I2, ?_, T2⟩
    have hP2 : I2 (a + 94) 0 = P := by rw [T2.1 _ _ (by omega) (by omega)]; exact hP
    rw [fX0_lets, fX0_lets_b0]
    rcases hf with rfl | rfl | rfl
    all_goals
      refine if_f (by decide) ?_
      refine if_f (by decide) ?_
      refine if_f (by decide) ?_
      refine if_f (by decide) ?_
      refine bs_eq e2 ?_
      refine bs_eq (i0_94_0 W) ?_
      rw [hP2]
  intro f hf dp hdp l I' x T hl
  obtain ⟨d, rfl⟩ : ∃ d, dp = d + 1 := ⟨dp - 1, by omega⟩
  obtain rfl | rfl | rfl | rfl | rfl | rfl | rfl : f = 0 ∨ f = 1 ∨ f = 2 ∨ f = 3 ∨ f = 4 ∨ f = 5 ∨ f = 6 := by omega
  · exact base 0 (by omega) (d + 1) (by omega) l I' x T (by omega)
  · exact base 1 (by omega) (d + 1) (by omega) l I' x T (by omega)
  · obtain ⟨I2, e2, T2⟩ := c_began W 30 T (by omega)
    obtain ⟨I3, e3, T3⟩ := base 0 (by omega) d (by omega) _ I2 (x * 3) T2 (by simp; omega)
    refine ⟨I3, ?_, by rw [List.append_assoc] at T3; exact T3⟩
    rw [fX0_lets, fX0_lets_b0]
    refine if_t rfl ?_
    refine bs_eq e2 ?_
    exact b2_eq e3 rfl
  · exact base 3 (by omega) (d + 1) (by omega) l I' x T (by omega)
  · obtain ⟨I2, e2, T2⟩ := c_began W 50 T (by omega)
    obtain ⟨I3, e3, T3⟩ := base 1 (by omega) d (by omega) _ I2 x T2 (by simp; omega)
    refine ⟨I3, ?_, by rw [List.append_assoc] at T3; exact T3⟩
    rw [fX0_lets, fX0_lets_b0]
    refine if_f (by decide) ?_
    refine if_t rfl ?_
    refine bs_eq e2 ?_
    exact b2_eq e3 rfl
  · obtain ⟨I2, e2, T2⟩ := c_began W 30 T (by omega)
    obtain ⟨I3, e3, T3⟩ := base 0 (by omega) d (by omega) _ I2 (x * 3) T2 (by simp; omega)
    refine ⟨I3, ?_, by rw [List.append_assoc] at T3; exact T3⟩
    rw [fX0_lets, fX0_lets_b0]
    refine if_f (by decide) ?_
    refine if_f (by decide) ?_
    refine if_t rfl ?_
    refine bs_eq e2 ?_
    exact b2_eq e3 rfl
  · obtain ⟨I2, e2, T2⟩ := c_began W 71 T (by omega)
    obtain ⟨I3, e3, T3⟩ := base 3 (by omega) d (by omega) _ I2 x T2 (by simp; omega)
    have hM3 : I3 (a + 94) 1 = M := by rw [T3.1 _ _ (by omega) (by omega)]; exact hM
    refine ⟨I3, ?_, by rw [List.append_assoc] at T3; exact T3⟩
    rw [fX0_lets, fX0_lets_b0]
    refine if_f (by decide) ?_
    refine if_f (by decide) ?_
    refine if_f (by decide) ?_
    refine if_t rfl ?_
    refine bs_eq e2 ?_
    refine b2_eq e3 ?_
    refine bs_eq (i0_94_1 W) ?_
    rw [hM3]
    rfl
theorem c_takes (W : WW s a w1 w2) (hP : I (a + 94) 0 = P) (hM : I (a + 94) 1 = M) (hK : I (a + 94) 2 = nI K) (hK6 : K ≤ 6) : ∀ (f : Nat), f ≤ 6 → ∀ (dp : Nat), 3 ≤ dp → ∀ (l : List Int32) (I' : IH) (x : Int32), Tr I I' (a + 94) 4 (a + 95) l → l.length + 6 < 20 → ActC I (a + 94) 4 (a + 95) l (fX0_takes s dp (a + 94) (nI f) x I') (tkV P M K f x) (tkTr K f) := by
  have hlt : (ltT K).length ≤ 2 := ltT_len ⟨K, by omega⟩
  have base : ∀ (f : Nat), f = 0 ∨ f = 2 ∨ f = 3 ∨ f = 5 → ∀ (dp : Nat), 1 ≤ dp → ∀ (l : List Int32) (I' : IH) (x : Int32), Tr I I' (a + 94) 4 (a + 95) l → l.length + 4 < 20 → ActC I (a + 94) 4 (a + 95) l (fX0_takes s dp (a + 94) (nI f) x I') (tkV0 P M K x) (tkT0 K) := by
    intro f hf dp hdp l I' x T hl
    obtain ⟨d, rfl⟩ : ∃ d, dp = d + 1 := ⟨dp - 1, by omega⟩
    obtain ⟨I2, e2, T2⟩ := c_began W 11 T (by omega)
    have hK2 : I2 (a + 94) 2 = nI K := by rw [T2.1 _ _ (by omega) (by omega)]; exact hK
    obtain ⟨I3, e3, T3⟩ := c_lets W hP hM K hK6 6 (by omega) _ I2 x T2 (by simp; omega)
    have hM3 : I3 (a + 94) 1 = M := by rw [T3.1 _ _ (by omega) (by omega)]; exact hM
    refine ⟨I3, ?_, by rw [List.append_assoc] at T3; exact T3⟩
    rw [fX0_takes, fX0_takes_b0]
    rcases hf with rfl | rfl | rfl | rfl
    all_goals
      refine if_f (by decide) ?_
      refine if_f (by decide) ?_
      refine if_f (by decide) ?_
      refine bs_eq e2 ?_
      refine bs_eq (i0_94_2 W) ?_
      rw [hK2]
      refine b2_eq e3 ?_
      refine bs_eq (i0_94_1 W) ?_
      rw [hM3]
      rfl
  have base1 : ∀ (dp : Nat), 2 ≤ dp → ∀ (l : List Int32) (I' : IH) (x : Int32), Tr I I' (a + 94) 4 (a + 95) l → l.length + 5 < 20 → ActC I (a + 94) 4 (a + 95) l (fX0_takes s dp (a + 94) (nI 1) x I') (tkV0 P M K x ^^^ 6) ([20] ++ tkT0 K) := by
    intro dp hdp l I' x T hl
    obtain ⟨d, rfl⟩ : ∃ d, dp = d + 1 := ⟨dp - 1, by omega⟩
    obtain ⟨I2, e2, T2⟩ := c_began W 20 T (by omega)
    obtain ⟨I3, e3, T3⟩ := base 0 (by omega) d (by omega) _ I2 x T2 (by simp; omega)
    refine ⟨I3, ?_, by rw [List.append_assoc] at T3; exact T3⟩
    rw [fX0_takes, fX0_takes_b0]
    refine if_t rfl ?_
    refine bs_eq e2 ?_
    exact b2_eq e3 rfl
  intro f hf dp hdp l I' x T hl
  obtain rfl | rfl | rfl | rfl | rfl | rfl | rfl : f = 0 ∨ f = 1 ∨ f = 2 ∨ f = 3 ∨ f = 4 ∨ f = 5 ∨ f = 6 := by omega
  · exact base 0 (by omega) dp (by omega) l I' x T (by omega)
  · exact base1 dp (by omega) l I' x T (by omega)
  · exact base 2 (by omega) dp (by omega) l I' x T (by omega)
  · exact base 3 (by omega) dp (by omega) l I' x T (by omega)
  · obtain ⟨d, rfl⟩ : ∃ d, dp = d + 1 := ⟨dp - 1, by omega⟩
    obtain ⟨I2, e2, T2⟩ := c_began W 51 T (by omega)
    obtain ⟨I3, e3, T3⟩ := base1 d (by omega) _ I2 (x + 1) T2 (by simp; omega)
    refine ⟨I3, ?_, by rw [List.append_assoc] at T3; exact T3⟩
    rw [fX0_takes, fX0_takes_b0]
    refine if_f (by decide) ?_
    refine if_t rfl ?_
    refine bs_eq e2 ?_
    exact b2_eq e3 rfl
  · exact base 5 (by omega) dp (by omega) l I' x T (by omega)
  · obtain ⟨d, rfl⟩ : ∃ d, dp = d + 1 := ⟨dp - 1, by omega⟩
    obtain ⟨I2, e2, T2⟩ := c_began W 70 T (by omega)
    obtain ⟨I3, e3, T3⟩ := base 3 (by omega) d (by omega) _ I2 x T2 (by simp; omega)
    obtain ⟨I4, e4, T4⟩ := c_lets W hP hM 3 (by omega) 6 (by omega) _ I3 2 T3 (by unfold tkT0; simp; omega)
    refine ⟨I4, ?_, by rw [List.append_assoc, List.append_assoc] at T4; exact T4⟩
    rw [fX0_takes, fX0_takes_b0]
    refine if_f (by decide) ?_
    refine if_f (by decide) ?_
    refine if_t rfl ?_
    refine bs_eq e2 ?_
    refine b2_eq e3 ?_
    exact b2_eq e4 rfl
theorem c_tells (W : WW s a w1 w2) (hP : I (a + 94) 0 = P) (hM : I (a + 94) 1 = M) (hK : I (a + 94) 2 = nI K) (hK6 : K ≤ 6) : ∀ (f : Nat), f ≤ 6 → ∀ (dp : Nat), 3 ≤ dp → ∀ (l : List Int32) (I' : IH) (x : Int32), Tr I I' (a + 94) 4 (a + 95) l → l.length = 0 → ActC I (a + 94) 4 (a + 95) l (fX0_tells s dp (a + 94) (nI f) x I') (teV P M K f x) (teT K f) := by
  have htk : (tkTr K K).length ≤ 5 := tkTr_len ⟨K, by omega⟩
  have base : ∀ (f : Nat), f = 0 ∨ f = 1 ∨ f = 2 ∨ f = 4 → ∀ (dp : Nat), 1 ≤ dp → ∀ (l : List Int32) (I' : IH) (x : Int32), Tr I I' (a + 94) 4 (a + 95) l → l.length ≤ 1 → ActC I (a + 94) 4 (a + 95) l (fX0_tells s dp (a + 94) (nI f) x I') (teV0 P M K x) (teT0 K) := by
    intro f hf dp hdp l I' x T hl
    obtain ⟨d, rfl⟩ : ∃ d, dp = d + 1 := ⟨dp - 1, by omega⟩
    obtain ⟨I2, e2, T2⟩ := c_began W 12 T (by omega)
    have hK2 : I2 (a + 94) 2 = nI K := by rw [T2.1 _ _ (by omega) (by omega)]; exact hK
    obtain ⟨I3, e3, T3⟩ := c_takes W hP hM hK hK6 K hK6 6 (by omega) _ I2 x T2 (by simp; omega)
    refine ⟨I3, ?_, by rw [List.append_assoc] at T3; exact T3⟩
    rw [fX0_tells, fX0_tells_b0]
    rcases hf with rfl | rfl | rfl | rfl
    all_goals
      refine if_f (by decide) ?_
      refine if_f (by decide) ?_
      refine if_f (by decide) ?_
      refine bs_eq e2 ?_
      refine bs_eq (i0_94_2 W) ?_
      rw [hK2]
      exact b2_eq e3 rfl
  have two : ∀ (f : Nat), f = 3 ∨ f = 6 → ∀ (d : Nat), 1 ≤ d → ∀ (l : List Int32) (I' : IH) (x : Int32), Tr I I' (a + 94) 4 (a + 95) l → l.length = 0 → ActC I (a + 94) 4 (a + 95) l (fX0_tells s (d + 1) (a + 94) (nI f) x I') (teV0 P M K x + tkV P M K K 1) ([40] ++ (teT0 K ++ tkTr K K)) := by
    intro f hf d hd l I' x T hl
    obtain ⟨I2, e2, T2⟩ := c_began W 40 T (by omega)
    obtain ⟨I3, e3, T3⟩ := base 0 (by omega) d (by omega) _ I2 x T2 (by rw [List.length_append]; show l.length + 1 ≤ 1; omega)
    have hK3 : I3 (a + 94) 2 = nI K := by rw [T3.1 _ _ (by omega) (by omega)]; exact hK
    obtain ⟨I4, e4, T4⟩ := c_takes W hP hM hK hK6 K hK6 6 (by omega) _ I3 1 T3 (by unfold teT0; simp; omega)
    refine ⟨I4, ?_, by rw [List.append_assoc, List.append_assoc] at T4; exact T4⟩
    rw [fX0_tells, fX0_tells_b0]
    rcases hf with rfl | rfl
    · refine if_t rfl ?_
      refine bs_eq e2 ?_
      refine b2_eq e3 ?_
      refine bs_eq (i0_94_2 W) ?_
      rw [hK3]
      exact b2_eq e4 rfl
    · refine if_f (by decide) ?_
      refine if_f (by decide) ?_
      refine if_t rfl ?_
      refine bs_eq e2 ?_
      refine b2_eq e3 ?_
      refine bs_eq (i0_94_2 W) ?_
      rw [hK3]
      exact b2_eq e4 rfl
  intro f hf dp hdp l I' x T hl
  obtain ⟨d, rfl⟩ : ∃ d, dp = d + 1 := ⟨dp - 1, by omega⟩
  obtain rfl | rfl | rfl | rfl | rfl | rfl | rfl : f = 0 ∨ f = 1 ∨ f = 2 ∨ f = 3 ∨ f = 4 ∨ f = 5 ∨ f = 6 := by omega
  · exact base 0 (by omega) (d + 1) (by omega) l I' x T (by omega)
  · exact base 1 (by omega) (d + 1) (by omega) l I' x T (by omega)
  · exact base 2 (by omega) (d + 1) (by omega) l I' x T (by omega)
  · exact two 3 (by omega) d (by omega) l I' x T hl
  · exact base 4 (by omega) (d + 1) (by omega) l I' x T (by omega)
  · obtain ⟨I2, e2, T2⟩ := c_began W 60 T (by omega)
    have hP2 : I2 (a + 94) 0 = P := by rw [T2.1 _ _ (by omega) (by omega)]; exact hP
    obtain ⟨I3, e3, T3⟩ := base 2 (by omega) d (by omega) _ I2 (x - P) T2 (by rw [List.length_append]; show l.length + 1 ≤ 1; omega)
    refine ⟨I3, ?_, by rw [List.append_assoc] at T3; exact T3⟩
    rw [fX0_tells, fX0_tells_b0]
    refine if_f (by decide) ?_
    refine if_t rfl ?_
    refine bs_eq e2 ?_
    refine bs_eq (i0_94_0 W) ?_
    rw [hP2]
    exact b2_eq e3 rfl
  · exact two 6 (by omega) d (by omega) l I' x T hl
/-- the reference's acts -/
theorem d_plain (W : WW s a w1 w2) (l : List Int32) (I' : IH) (P x : Int32) (T : Tr I I' (a + 110) 61 (a + 152) l) (hl : l.length < 20) : ActC I (a + 110) 61 (a + 152) l (fX7_plainLets s (a + 110) P x I') (x + P) [10] := by
  obtain ⟨I2, e2, T2⟩ := c_body W 10 T hl
  refine ⟨I2, ?_, T2⟩
  unfold fX7_plainLets
  exact bs_eq e2 rfl
theorem d_lets (W : WW s a w1 w2) {p : Nat} (hp : p < 5) (hK : I (a + 112) p = nI K) (hK6 : K ≤ 6) (hM : I (a + 113) p = M) (l : List Int32) (I' : IH) (x : Int32) (T : Tr I I' (a + 110) 61 (a + 152) l) (hl : l.length + 2 < 20) : ActC I (a + 110) 61 (a + 152) l (fX7_letsAct s (a + 110) (nI p) x I') (ltV (nI p) M K x) (ltT K) := by
  have hK1 : I' (a + 112) p = nI K := by rw [T.1 _ _ (by omega) (by omega)]; exact hK
  unfold fX7_letsAct
  unfold ActC
  have e0 : gR s 7 (a + 110) 4 = some (a + 112) := e7_110_4 W
  rw [e0, Option.bind_some, r112 W hp, Option.bind_some, hK1]
  obtain rfl | rfl | rfl | rfl | rfl | rfl | rfl : K = 0 ∨ K = 1 ∨ K = 2 ∨ K = 3 ∨ K = 4 ∨ K = 5 ∨ K = 6 := by omega
  case inl | inr.inl | inr.inr.inr.inl =>
    obtain ⟨I2, e2, T2⟩ := d_plain W l I' (nI p) x T (by omega)
    refine ⟨I2, ?_, T2⟩
    refine if_f (by decide) ?_
    refine if_f (by decide) ?_
    refine if_f (by decide) ?_
    refine if_f (by decide) ?_
    exact b2_eq e2 rfl
  · obtain ⟨I2, e2, T2⟩ := c_body W 30 T (by omega)
    obtain ⟨I3, e3, T3⟩ := d_plain W _ I2 (nI p) (x * 3) T2 (by simp; omega)
    refine ⟨I3, ?_, by rw [List.append_assoc] at T3; exact T3⟩
    refine if_t rfl ?_
    refine bs_eq e2 ?_
    exact b2_eq e3 rfl
  · obtain ⟨I2, e2, T2⟩ := c_body W 50 T (by omega)
    obtain ⟨I3, e3, T3⟩ := d_plain W _ I2 (nI p) x T2 (by simp; omega)
    refine ⟨I3, ?_, by rw [List.append_assoc] at T3; exact T3⟩
    refine if_f (by decide) ?_
    refine if_t rfl ?_
    refine bs_eq e2 ?_
    exact b2_eq e3 rfl
  · obtain ⟨I2, e2, T2⟩ := c_body W 30 T (by omega)
    obtain ⟨I3, e3, T3⟩ := d_plain W _ I2 (nI p) (x * 3) T2 (by simp; omega)
    refine ⟨I3, ?_, by rw [List.append_assoc] at T3; exact T3⟩
    refine if_f (by decide) ?_
    refine if_f (by decide) ?_
    refine if_t rfl ?_
    refine bs_eq e2 ?_
    exact b2_eq e3 rfl
  · obtain ⟨I2, e2, T2⟩ := c_body W 71 T (by omega)
    obtain ⟨I3, e3, T3⟩ := d_plain W _ I2 (nI p) x T2 (by simp; omega)
    have hM3 : I3 (a + 113) p = M := by rw [T3.1 _ _ (by omega) (by omega)]; exact hM
    refine ⟨I3, ?_, by rw [List.append_assoc] at T3; exact T3⟩
    refine if_f (by decide) ?_
    refine if_f (by decide) ?_
    refine if_f (by decide) ?_
    refine if_t rfl ?_
    refine bs_eq e2 ?_
    refine b2_eq e3 ?_
    refine bs_eq (e7_110_5 W) ?_
    refine bs_eq (r113 W hp) ?_
    rw [hM3]
    rfl
theorem d_takes0 (W : WW s a w1 w2) {p : Nat} (hp : p < 5) (hK : I (a + 112) p = nI K) (hK6 : K ≤ 6) (hM : I (a + 113) p = M) (l : List Int32) (I' : IH) (x : Int32) (T : Tr I I' (a + 110) 61 (a + 152) l) (hl : l.length + 4 < 20) : ActC I (a + 110) 61 (a + 152) l (fX7_plainTakes s (a + 110) (nI p) x I') (tkV0 (nI p) M K x) (tkT0 K) := by
  obtain ⟨I2, e2, T2⟩ := c_body W 11 T (by omega)
  obtain ⟨I3, e3, T3⟩ := d_lets W hp hK hK6 hM _ I2 x T2 (by simp; omega)
  have hM3 : I3 (a + 113) p = M := by rw [T3.1 _ _ (by omega) (by omega)]; exact hM
  refine ⟨I3, ?_, by rw [List.append_assoc] at T3; exact T3⟩
  unfold fX7_plainTakes
  refine bs_eq e2 ?_
  refine b2_eq e3 ?_
  refine bs_eq (e7_110_5 W) ?_
  refine bs_eq (r113 W hp) ?_
  rw [hM3]
  rfl
theorem d_takes1 (W : WW s a w1 w2) {p : Nat} (hp : p < 5) (hK : I (a + 112) p = nI K) (hK6 : K ≤ 6) (hM : I (a + 113) p = M) (l : List Int32) (I' : IH) (x : Int32) (T : Tr I I' (a + 110) 61 (a + 152) l) (hl : l.length + 5 < 20) : ActC I (a + 110) 61 (a + 152) l (fX7_clockTakes s (a + 110) (nI p) x I') (tkV0 (nI p) M K x ^^^ 6) ([20] ++ tkT0 K) := by
  obtain ⟨I2, e2, T2⟩ := c_body W 20 T (by omega)
  obtain ⟨I3, e3, T3⟩ := d_takes0 W hp hK hK6 hM _ I2 x T2 (by simp; omega)
  refine ⟨I3, ?_, by rw [List.append_assoc] at T3; exact T3⟩
  unfold fX7_clockTakes
  refine bs_eq e2 ?_
  exact b2_eq e3 rfl
theorem d_takes (W : WW s a w1 w2) {p : Nat} (hp : p < 5) (hK : I (a + 112) p = nI K) (hK6 : K ≤ 6) (hM : I (a + 113) p = M) (l : List Int32) (I' : IH) (x : Int32) (T : Tr I I' (a + 110) 61 (a + 152) l) (hl : l.length + 6 < 20) : ActC I (a + 110) 61 (a + 152) l (fX7_takesAct s (a + 110) (nI p) x I') (tkV (nI p) M K K x) (tkTr K K) := by
  have hlt : (ltT K).length ≤ 2 := ltT_len ⟨K, by omega⟩
  have hK1 : I' (a + 112) p = nI K := by rw [T.1 _ _ (by omega) (by omega)]; exact hK
  unfold fX7_takesAct
  unfold ActC
  have e0 : gR s 7 (a + 110) 4 = some (a + 112) := e7_110_4 W
  rw [e0, Option.bind_some, r112 W hp, Option.bind_some, hK1]
  obtain rfl | rfl | rfl | rfl | rfl | rfl | rfl : K = 0 ∨ K = 1 ∨ K = 2 ∨ K = 3 ∨ K = 4 ∨ K = 5 ∨ K = 6 := by omega
  case inl | inr.inr.inl | inr.inr.inr.inl | inr.inr.inr.inr.inr.inl =>
    obtain ⟨I2, e2, T2⟩ := d_takes0 W hp hK hK6 hM l I' x T (by omega)
    refine ⟨I2, ?_, T2⟩
    refine if_f (by decide) ?_
    refine if_f (by decide) ?_
    refine if_f (by decide) ?_
    exact b2_eq e2 rfl
  · obtain ⟨I2, e2, T2⟩ := d_takes1 W hp hK hK6 hM l I' x T (by omega)
    refine ⟨I2, ?_, T2⟩
    refine if_t rfl ?_
    exact b2_eq e2 rfl
  · obtain ⟨I2, e2, T2⟩ := c_body W 51 T (by omega)
    obtain ⟨I3, e3, T3⟩ := d_takes1 W hp hK hK6 hM _ I2 (x + 1) T2 (by simp; omega)
    refine ⟨I3, ?_, by rw [List.append_assoc] at T3; exact T3⟩
    refine if_f (by decide) ?_
    refine if_t rfl ?_
    refine bs_eq e2 ?_
    exact b2_eq e3 rfl
  · obtain ⟨I2, e2, T2⟩ := c_body W 70 T (by omega)
    obtain ⟨I3, e3, T3⟩ := d_takes0 W hp hK hK6 hM _ I2 x T2 (by simp; omega)
    obtain ⟨I4, e4, T4⟩ := d_plain W _ I3 (nI p) 2 T3 (by unfold tkT0; simp; omega)
    refine ⟨I4, ?_, by rw [List.append_assoc, List.append_assoc] at T4; exact T4⟩
    refine if_f (by decide) ?_
    refine if_f (by decide) ?_
    refine if_t rfl ?_
    refine bs_eq e2 ?_
    refine b2_eq e3 ?_
    exact b2_eq e4 rfl
theorem d_tells0 (W : WW s a w1 w2) {p : Nat} (hp : p < 5) (hK : I (a + 112) p = nI K) (hK6 : K ≤ 6) (hM : I (a + 113) p = M) (l : List Int32) (I' : IH) (x : Int32) (T : Tr I I' (a + 110) 61 (a + 152) l) (hl : l.length + 7 < 20) : ActC I (a + 110) 61 (a + 152) l (fX7_plainTells s (a + 110) (nI p) x I') (teV0 (nI p) M K x) (teT0 K) := by
  obtain ⟨I2, e2, T2⟩ := c_body W 12 T (by omega)
  obtain ⟨I3, e3, T3⟩ := d_takes W hp hK hK6 hM _ I2 x T2 (by simp; omega)
  refine ⟨I3, ?_, by rw [List.append_assoc] at T3; exact T3⟩
  unfold fX7_plainTells
  refine bs_eq e2 ?_
  exact b2_eq e3 rfl
theorem d_tells (W : WW s a w1 w2) {p : Nat} (hp : p < 5) (hK : I (a + 112) p = nI K) (hK6 : K ≤ 6) (hM : I (a + 113) p = M) (l : List Int32) (I' : IH) (x : Int32) (T : Tr I I' (a + 110) 61 (a + 152) l) (hl : l.length = 0) : ActC I (a + 110) 61 (a + 152) l (fX7_tellsAct s (a + 110) (nI p) x I') (teV (nI p) M K K x) (teT K K) := by
  have htk : (tkTr K K).length ≤ 5 := tkTr_len ⟨K, by omega⟩
  have hK1 : I' (a + 112) p = nI K := by rw [T.1 _ _ (by omega) (by omega)]; exact hK
  unfold fX7_tellsAct
  unfold ActC
  have e0 : gR s 7 (a + 110) 4 = some (a + 112) := e7_110_4 W
  rw [e0, Option.bind_some, r112 W hp, Option.bind_some, hK1]
  obtain rfl | rfl | rfl | rfl | rfl | rfl | rfl : K = 0 ∨ K = 1 ∨ K = 2 ∨ K = 3 ∨ K = 4 ∨ K = 5 ∨ K = 6 := by omega
  case inl | inr.inl | inr.inr.inl | inr.inr.inr.inr.inl =>
    obtain ⟨I2, e2, T2⟩ := d_tells0 W hp hK hK6 hM l I' x T (by omega)
    refine ⟨I2, ?_, T2⟩
    refine if_f (by decide) ?_
    refine if_f (by decide) ?_
    refine if_f (by decide) ?_
    exact b2_eq e2 rfl
  · obtain ⟨I2, e2, T2⟩ := c_body W 40 T (by omega)
    obtain ⟨I3, e3, T3⟩ := d_tells0 W hp hK hK6 hM _ I2 x T2 (by simp; omega)
    obtain ⟨I4, e4, T4⟩ := d_takes W hp hK hK6 hM _ I3 1 T3 (by unfold teT0; simp; omega)
    refine ⟨I4, ?_, by rw [List.append_assoc, List.append_assoc] at T4; exact T4⟩
    refine if_t rfl ?_
    refine bs_eq e2 ?_
    refine b2_eq e3 ?_
    exact b2_eq e4 rfl
  · obtain ⟨I2, e2, T2⟩ := c_body W 60 T (by omega)
    obtain ⟨I3, e3, T3⟩ := d_tells0 W hp hK hK6 hM _ I2 (x - nI p) T2 (by simp; omega)
    refine ⟨I3, ?_, by rw [List.append_assoc] at T3; exact T3⟩
    refine if_f (by decide) ?_
    refine if_t rfl ?_
    refine bs_eq e2 ?_
    exact b2_eq e3 rfl
  · obtain ⟨I2, e2, T2⟩ := c_body W 40 T (by omega)
    obtain ⟨I3, e3, T3⟩ := d_tells0 W hp hK hK6 hM _ I2 x T2 (by simp; omega)
    obtain ⟨I4, e4, T4⟩ := d_takes W hp hK hK6 hM _ I3 1 T3 (by unfold teT0; simp; omega)
    refine ⟨I4, ?_, by rw [List.append_assoc, List.append_assoc] at T4; exact T4⟩
    refine if_f (by decide) ?_
    refine if_f (by decide) ?_
    refine if_t rfl ?_
    refine bs_eq e2 ?_
    refine b2_eq e3 ?_
    exact b2_eq e4 rfl
end CL
/-- after an act on either side, the relation holds again -/
theorem Rel.acts {I1 I2 : IH} {l : List Int32} (R : Rel s I L n a w1 w2) (f1 : ∀ x j, x ≠ a + 94 → x ≠ a + 95 → I1 x j = I x j) (T : ∀ j v, l[j]? = some v → I1 (a + 95) j = v) (hr : I1 (a + 94) 4 = nI l.length) (f2 : ∀ x j, (x ≠ a + 110 ∨ j ≠ 61) → x ≠ a + 152 → I2 x j = I1 x j) (hr2 : I2 (a + 110) 61 = nI l.length) (T2 : ∀ j v, l[j]? = some v → I2 (a + 152) j = v) (hl : l.length ≤ 20) : Rel s I2 L n a w1 w2 := by
  have f : ∀ x j, x ≠ a + 94 → x ≠ a + 95 → (x ≠ a + 110 ∨ j ≠ 61) → x ≠ a + 152 → I2 x j = I x j := fun x j h1 h2 h3 h4 => (f2 x j h3 h4).trans (f1 x j h1 h2)
  have g : ∀ x, x ≠ a + 94 → x ≠ a + 95 → x ≠ a + 110 → x ≠ a + 152 → I2 x = I x := fun x h1 h2 h3 h4 => funext fun j => f x j h1 h2 (Or.inl h3) h4
  have e94 : I2 (a + 94) 4 = nI l.length := by rw [f2 _ _ (by omega) (by omega)]; exact hr
  obtain ⟨r1, ⟨r2, r3, r4⟩, r5, r6, r7, r8, r9, r10, r11⟩ := R
  refine ⟨r1, ⟨r2, r3, r4⟩, r5.kept (fun x k h => f x k (by omega) (by omega) (by omega) (by omega)) (fun x h => g x (by omega) (by omega) (by omega) (by omega)), r6.kept (fun x k h => f x k (by omega) (by omega) (by omega) (by omega)) (fun x h => g x (by omega) (by omega) (by omega) (by omega)), VV.kept r3 r4 r7 (fun x k h => f x k (by omega) (by omega) (by omega) (by omega)) (fun x h => g x (by omega) (by omega) (by omega) (by omega)), r8.kept ⟨f _ _ (by omega) (by omega) (by omega) (by omega), f _ _ (by omega) (by omega) (by omega) (by omega)⟩ ⟨g _ (by omega) (by omega) (by omega) (by omega), g _ (by omega) (by omega) (by omega) (by omega)⟩, ⟨⟨?_, ?_⟩, fun j hj hj2 => ?_⟩, r10.kept ⟨f _ _ (by omega) (by omega) (by omega) (by omega), f _ _ (by omega) (by omega) (by omega) (by omega)⟩, r11.kept (fun x h => g x (by omega) (by omega) (by omega) (by omega))⟩
  · rw [e94, hr2]
  · exact Bd_of e94 (Nat.zero_le _) (by omega) (by omega)
  · rw [e94, nv_nI (by omega)] at hj2
    have h5 : l[j]? = some l[j] := List.getElem?_eq_getElem hj2
    rw [T2 j _ h5, f2 _ _ (by omega) (by omega), T j _ h5]
theorem b2_id {o : Option (Int32 × IH)} : (b2 o fun x i => some (x, i)) = o := by
  cases o with
  | none => rfl
  | some q => rfl
theorem c_done (W : WW s a w1 w2) {I0 : IH} {v2 v3 k : Int32} (g2 : I0 (a + 94) 2 = k) : fX0_done s (a + 94) v2 v3 I0 = if v2 = 0 then b2 (fX0_lets s 6 (a + 94) k v3 I0) fun x i => some (x, i) else if v2 = 1 then b2 (fX0_takes s 6 (a + 94) k v3 I0) fun x i => some (x, i) else b2 (fX0_tells s 6 (a + 94) k v3 I0) fun x i => some (x, i) := by
  have e1 : gI s I0 0 (a + 94) 2 = some k := (i0_94_2 W).trans (congrArg some g2)
  unfold fX0_done
  rw [e1, Option.bind_some, Option.bind_some, Option.bind_some]
theorem m_act (R : Rel s I L n a w1 w2) (v1 v2 v3 : Int32) : M2 s L n a w1 w2 (fX6_act s a v1 v2 v3 I) (fun I1 => fX7_act s (a + 110) v1 v2 v3 I1) := by
  have W := R.1
  have S := R.2.2.1
  have T0 : Tr I (wr I (a + 94) 4 0) (a + 94) 4 (a + 95) [] := ⟨fun x j h _ => wr_or h, wr_at, fun j v h => by simp at h⟩
  have nul : Rel s (wr (wr I (a + 94) 4 0) (a + 110) 61 0) L n a w1 w2 := R.acts (I1 := wr I (a + 94) 4 0) (l := []) (fun x j h1 h2 => wr_ne h1 ▸ rfl) (fun j v h => by simp at h) wr_at (fun x j h1 h2 => wr_or h1) wr_at (fun j v h => by simp at h) (by simp)
  rcases under_cases v1 5 (by omega) (by omega) with ⟨p, hp, rfl⟩ | ⟨-, u1, u2⟩
  · rcases under_cases v2 3 (by omega) (by omega) with ⟨k, hk, rfl⟩ | ⟨-, u3, u4⟩
    · have S4 := S.2.2.2.1 p hp
      obtain ⟨K, ek, hK⟩ : ∃ k, I (a + 12 + p) 0 = nI k ∧ k ≤ 6 := ⟨_, S4.2.2.2.1.1, S4.2.2.2.1.2.2⟩
      have em : I (a + 112) p = nI K := by rw [← ek]; exact S4.1
      have ev : I (a + 113) p = I (a + 12 + p) 1 := S4.2.1
      generalize hM : I (a + 12 + p) 1 = M at ev
      have key : ∃ (x : Int32) (l : List Int32) (Ic : IH), l.length ≤ 20 ∧ fX6_act s a (nI p) (nI k) v3 I = some (x, Ic) ∧ (∀ x j, x ≠ a + 94 → x ≠ a + 95 → Ic x j = I x j) ∧ Ic (a + 94) 4 = nI l.length ∧ (∀ j v, l[j]? = some v → Ic (a + 95) j = v) ∧ ∀ Im, Tr Ic Im (a + 110) 61 (a + 152) [] → (k = 0 → ActC Ic (a + 110) 61 (a + 152) [] (fX7_letsAct s (a + 110) (nI p) v3 Im) x l) ∧ (k = 1 → ActC Ic (a + 110) 61 (a + 152) [] (fX7_takesAct s (a + 110) (nI p) v3 Im) x l) ∧ (k = 2 → ActC Ic (a + 110) 61 (a + 152) [] (fX7_tellsAct s (a + 110) (nI p) v3 Im) x l) := by
        generalize hI0 : wr (wr (wr (wr I (a + 94) 4 0) (a + 94) 0 (nI p)) (a + 94) 2 (nI K)) (a + 94) 1 M = I0
        have g0 : I0 (a + 94) 0 = nI p := by rw [← hI0, wr_nj (by omega), wr_nj (by omega), wr_at]
        have g1 : I0 (a + 94) 1 = M := by rw [← hI0, wr_at]
        have g2 : I0 (a + 94) 2 = nI K := by rw [← hI0, wr_nj (by omega), wr_at]
        have g4 : I0 (a + 94) 4 = 0 := by rw [← hI0, wr_nj (by omega), wr_nj (by omega), wr_nj (by omega), wr_at]
        have gf : ∀ x j, x ≠ a + 94 → I0 x j = I x j := fun x j h => by rw [← hI0, wr_ne h, wr_ne h, wr_ne h, wr_ne h]
        have T1 : Tr I0 I0 (a + 94) 4 (a + 95) [] := ⟨fun _ _ _ _ => rfl, g4, fun j v h => by simp at h⟩
        have pre : ∀ r, (if nI k = 0 then b2 (fX0_lets s 6 (a + 94) (nI K) v3 I0) fun x i => some (x, i) else if nI k = 1 then b2 (fX0_takes s 6 (a + 94) (nI K) v3 I0) fun x i => some (x, i) else b2 (fX0_tells s 6 (a + 94) (nI K) v3 I0) fun x i => some (x, i)) = r → fX6_act s a (nI p) (nI k) v3 I = r := by
          intro r hr
          unfold fX6_act
          refine bs_eq (e6_0_4 W) ?_
          refine bs_eq (p0_94_4 W) ?_
          refine if_f (un (N := 5) hp (by omega)) ?_
          refine if_f (un (N := 3) hk (by omega)) ?_
          refine bs_eq (e6_0_4 W) ?_
          refine bs_eq (e6_0_0 W) ?_
          refine bs_eq (e2_1_3 W) ?_
          refine bs_eq (a11 W (p := p) hp) ?_
          refine bs_eq (c0_94 W) ?_
          refine bs_eq (x := I0) ?_ ?_
          · unfold fX0_standAt
            refine bs_eq (p0_94_0 W) ?_
            refine bs_eq (r11 W hp (j := 0) (by omega)) ?_
            refine bs_eq (p0_94_2 W) ?_
            refine bs_eq (r11 W hp (j := 1) (by omega)) ?_
            refine bs_eq (p0_94_1 W) ?_
            rw [← hI0]
            simp only [wr_ne (show a + 12 + p ≠ a + 94 by omega), ek, hM]
          · refine Eq.trans ?_ hr
            refine bs_eq (e6_0_4 W) ?_
            refine bs_eq (c0_94 W) ?_
            rw [c_done W g2]
            exact b2_id
        have fin : ∀ (x : Int32) (l : List Int32) (Ic : IH), Tr I0 Ic (a + 94) 4 (a + 95) l → (∀ x j, x ≠ a + 94 → x ≠ a + 95 → Ic x j = I x j) ∧ Ic (a + 94) 4 = nI l.length ∧ (∀ j v, l[j]? = some v → Ic (a + 95) j = v) := fun x l Ic T => ⟨fun x j h1 h2 => (T.1 x j (Or.inl h1) h2).trans (gf x j h1), T.2.1, T.2.2⟩
        have hlt : (ltT K).length ≤ 2 := ltT_len ⟨K, by omega⟩
        have htk : (tkTr K K).length ≤ 5 := tkTr_len ⟨K, by omega⟩
        have hte : (teT K K).length ≤ 12 := teT_len ⟨K, by omega⟩
        obtain rfl | rfl | rfl : k = 0 ∨ k = 1 ∨ k = 2 := by omega
        · obtain ⟨I2, e2, T2⟩ := c_lets W g0 g1 K hK 6 (by omega) [] I0 v3 T1 (by simp)
          obtain ⟨q1, q2, q3⟩ := fin v3 _ _ T2
          refine ⟨_, _, I2, ?_, pre _ (by rw [if_pos (show nI 0 = 0 from rfl)]; exact b2_eq e2 rfl), q1, q2, q3, fun Im TI => ⟨fun _ => d_lets W hp (by rw [q1 _ _ (by omega) (by omega)]; exact em) hK (by rw [q1 _ _ (by omega) (by omega)]; exact ev) [] Im v3 TI (by simp), fun h => absurd h (by omega), fun h => absurd h (by omega)⟩⟩
          exact Nat.le_trans hlt (by omega)
        · obtain ⟨I2, e2, T2⟩ := c_takes W g0 g1 g2 hK K hK 6 (by omega) [] I0 v3 T1 (by simp)
          obtain ⟨q1, q2, q3⟩ := fin v3 _ _ T2
          refine ⟨_, _, I2, ?_, pre _ (by rw [if_neg (show ¬ nI 1 = 0 by decide), if_pos (show nI 1 = 1 from rfl)]; exact b2_eq e2 rfl), q1, q2, q3, fun Im TI => ⟨fun h => absurd h (by omega), fun _ => d_takes W hp (by rw [q1 _ _ (by omega) (by omega)]; exact em) hK (by rw [q1 _ _ (by omega) (by omega)]; exact ev) [] Im v3 TI (by simp), fun h => absurd h (by omega)⟩⟩
          exact Nat.le_trans htk (by omega)
        · obtain ⟨I2, e2, T2⟩ := c_tells W g0 g1 g2 hK K hK 6 (by omega) [] I0 v3 T1 rfl
          obtain ⟨q1, q2, q3⟩ := fin v3 _ _ T2
          refine ⟨_, _, I2, ?_, pre _ (by rw [if_neg (show ¬ nI 2 = 0 by decide), if_neg (show ¬ nI 2 = 1 by decide)]; exact b2_eq e2 rfl), q1, q2, q3, fun Im TI => ⟨fun h => absurd h (by omega), fun h => absurd h (by omega), fun _ => d_tells W hp (by rw [q1 _ _ (by omega) (by omega)]; exact em) hK (by rw [q1 _ _ (by omega) (by omega)]; exact ev) [] Im v3 TI rfl⟩⟩
          exact Nat.le_trans hte (by omega)
      obtain ⟨x, l, Ic, hl, hc, q1, q2, q3, q4⟩ := key
      have TM : Tr Ic (wr Ic (a + 110) 61 0) (a + 110) 61 (a + 152) [] := ⟨fun x j h _ => wr_or h, wr_at, fun j v h => by simp at h⟩
      obtain ⟨k0, k1', k2'⟩ := q4 _ TM
      have fin : ActC Ic (a + 110) 61 (a + 152) [] (fX7_act s (a + 110) (nI p) (nI k) v3 Ic) x l := by
        unfold fX7_act ActC
        rw [p7_110_61 W, Option.bind_some, if_neg (show ¬ fX7_isGate (nI p) = 0 from inn (N := 5) hp (by omega)), if_neg (show ¬ fX7_in (nI k) 0 2 = 0 from inn (N := 3) hk (by omega))]
        obtain rfl | rfl | rfl : k = 0 ∨ k = 1 ∨ k = 2 := by omega
        · obtain ⟨I2, e2, T2⟩ := k0 rfl
          refine ⟨I2, ?_, T2⟩
          rw [if_pos (show nI 0 = 0 from rfl)]
          exact b2_eq e2 rfl
        · obtain ⟨I2, e2, T2⟩ := k1' rfl
          refine ⟨I2, ?_, T2⟩
          rw [if_neg (show ¬ nI 1 = 0 by decide), if_pos (show nI 1 = 1 from rfl)]
          exact b2_eq e2 rfl
        · obtain ⟨I2, e2, T2⟩ := k2' rfl
          refine ⟨I2, ?_, T2⟩
          rw [if_neg (show ¬ nI 2 = 0 by decide), if_neg (show ¬ nI 2 = 1 by decide)]
          exact b2_eq e2 rfl
      obtain ⟨I2, e2, T2⟩ := fin
      exact ⟨x, Ic, I2, hc, e2, R.acts q1 q3 q2 T2.1 T2.2.1 T2.2.2 hl⟩
    · refine ⟨0, wr I (a + 94) 4 0, _, ?_, ?_, nul⟩
      · unfold fX6_act
        refine bs_eq (e6_0_4 W) ?_
        refine bs_eq (p0_94_4 W) ?_
        refine if_f (un (N := 5) hp (by omega)) ?_
        refine if_t u3 ?_
        rfl
      · unfold fX7_act
        refine bs_eq (p7_110_61 W) ?_
        refine if_f (inn (N := 5) hp (by omega)) ?_
        refine if_t u4 ?_
        rfl
  · refine ⟨0, wr I (a + 94) 4 0, _, ?_, ?_, nul⟩
    · unfold fX6_act
      refine bs_eq (e6_0_4 W) ?_
      refine bs_eq (p0_94_4 W) ?_
      refine if_t u1 ?_
      rfl
    · unfold fX7_act
      refine bs_eq (p7_110_61 W) ?_
      refine if_t u2 ?_
      rfl
end ACTS
