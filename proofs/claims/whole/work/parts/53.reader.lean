/-! LAYER 2: reading a valley: what is read, and the class's reader -/
/-- the byte at a place, 255 for none and for all that is no sign -/
def bt (N : Nat) (tx : Nat → Nat) (i : Nat) : Nat := if i < N ∧ tx i < 128 then tx i else 255
def dig (c : Nat) : Bool := 48 ≤ c && c ≤ 57
def pNum (b : Nat → Nat) (i : Nat) : Option (Nat × Nat) := if dig (b i) = true then (if dig (b (i + 1)) = true then some (i + 2, 10 * (b i - 48) + (b (i + 1) - 48)) else some (i + 1, b i - 48)) else none
def tq (f s n q : Nat) : Bool :=
  let v := if f = 0 then q % 24 else if f = 1 then q / 24 / 3 else q / 24 % 3
  if s = 0 then decide (v < n) else if s = 1 then decide (v = n) else decide (v > n)
abbrev PRes : Type := Nat ⊕ (Nat × List Int32 × (Nat → Bool))
def ltr (c : Nat) : Nat := if c = 104 then 0 else if c = 100 then 1 else if c = 107 then 2 else 3
def pTst (b : Nat → Nat) (i : Nat) : PRes :=
  if ltr (b i) = 3 then .inl i
  else if b (i + 1) < 60 ∨ 62 < b (i + 1) then .inl (i + 1)
  else match pNum b (i + 2) with
    | none => .inl (i + 2)
    | some (j, n) => .inr (j, [nI (1000 * ltr (b i) + 100 * (b (i + 1) - 60) + n)], tq (ltr (b i)) (b (i + 1) - 60) n)
/-- further operands behind one sign -/
def pLoop (b : Nat → Nat) (F : Nat → PRes) (sg : Nat) (z : Int32) (op : Bool → Bool → Bool) : Nat → Nat → List Int32 → (Nat → Bool) → PRes
  | 0, j, p, M => .inr (j, p, M)
  | k + 1, j, p, M => if b j = sg then (match F (j + 1) with
      | .inl e => .inl e
      | .inr (j2, p2, M2) => pLoop b F sg z op k j2 (p ++ p2 ++ [z]) (fun q => op (M q) (M2 q))) else .inr (j, p, M)
def pB (b : Nat → Nat) (F : Nat → PRes) (i : Nat) : PRes := match F i with
  | .inl e => .inl e
  | .inr (j, p, M) => pLoop b F 38 (-38) and 1000 j p M
def pE (b : Nat → Nat) (F : Nat → PRes) (i : Nat) : PRes := match pB b F i with
  | .inl e => .inl e
  | .inr (j, p, M) => pLoop b (pB b F) 124 (-124) or 1000 j p M
def pF (b : Nat → Nat) : Nat → Nat → Nat → PRes
  | 0, _, i => .inl i
  | d + 1, w, i =>
    if w < 4 ∧ b i = 33 then (match pF b d (w + 1) (i + 1) with
      | .inl e => .inl e
      | .inr (j, p, M) => .inr (j, p ++ [-33], fun q => !(M q)))
    else if w < 4 ∧ b i = 40 then (match pE b (pF b d (w + 1)) (i + 1) with
      | .inl e => .inl e
      | .inr (j, p, M) => if b j = 41 then .inr (j + 1, p, M) else .inl j)
    else pTst b i
/-- a value read where the byte is c -/
def NX (x : Int32) (c : Nat) : Prop := c < 256 ∧ ∀ k, k < 128 → (x = nI k ↔ c = k)
theorem NX.dig_y {x : Int32} {c : Nat} (h : NX x c) (hd : dig c = true) : x = nI c ∧ 48 ≤ c ∧ c ≤ 57 := by
  unfold dig at hd
  simp only [Bool.and_eq_true, decide_eq_true_eq] at hd
  exact ⟨(h.2 c (by omega)).mpr rfl, hd.1, hd.2⟩
theorem NX.dig_n {x : Int32} {c : Nat} (h : NX x c) (hd : ¬ dig c = true) : ∀ j, j < 10 → x ≠ nI (48 + j) := fun j hj he => by
  have := (h.2 (48 + j) (by omega)).mp he
  unfold dig at hd
  simp only [Bool.and_eq_true, decide_eq_true_eq] at hd
  omega
theorem sub_add_c (x : Int32) (k : Int32) : x - k + k = x := Int32.sub_add_cancel x k
section READER
variable {s : SH} {I : IH} {L : LH} {n a r N i : Nat} {tx : Nat → Nat} {snd : Bool}
def rObj (a r : Nat) : shD := .inl (1, [some (some (a + 96)), none, none, none, some (some (r + 1))])
/-- the reader stands at i, sound or not -/
def Pst (s : SH) (I : IH) (n a r N : Nat) (tx : Nat → Nat) (i : Nat) (snd : Bool) : Prop := isD s r (rObj a r) ∧ isD s (a + 96) (.inr (0, 100, 0)) ∧ (r < n ∧ a + 96 < r) ∧ (I r 1 = nI N ∧ N ≤ 100) ∧ I r 2 = bI snd ∧ (I r 3 = nI i ∧ i ≤ N) ∧ ∀ j, j < N → I (a + 96) j = nI (tx j) ∧ tx j < 256
def cb (N : Nat) (tx : Nat → Nat) (snd : Bool) (i : Nat) : Nat := if snd = true then bt N tx i else 255
theorem Pst.rd (h : Pst s I n a r N tx i snd) : Lay s r [rObj a r] := Lay.one h.1
theorem nextC {i : Nat} {snd : Bool} (h : Pst s I n a r N tx i snd) : ∃ x, fX1_next s I r = some x ∧ NX x (cb N tx snd i) := by
  obtain ⟨h1, h2, h3, ⟨h4, h5⟩, h6, ⟨h7, h8⟩, h9⟩ := h
  have Rd : Lay s r [rObj a r] := Lay.one h1
  have m1 : NX (-1) 255 := ⟨by omega, fun k hk => ⟨fun he => by
    have := Int32.toInt_inj.mpr he
    rw [nI_toInt (by omega)] at this
    have h0 : (-1 : Int32).toInt = -1 := rfl
    omega, fun he => by omega⟩⟩
  have g1 : gI s I 1 r 1 = some (I r 1) := gI_L Rd 0 1 rfl rfl
  have g2 : gI s I 1 r 2 = some (I r 2) := gI_L Rd 0 2 rfl rfl
  have g3 : gI s I 1 r 3 = some (I r 3) := gI_L Rd 0 3 rfl rfl
  have g0 : gR s 1 r 0 = some (a + 96) := gR_L Rd 0 0 rfl rfl
  unfold fX1_next
  rw [g2, Option.bind_some, h6]
  unfold cb
  cases snd with
  | false =>
    refine ⟨-1, ?_, m1⟩
    rw [if_pos (show bI false = 0 from rfl)]
  | true =>
    rw [if_neg (show ¬ bI true = 0 by decide), g3, Option.bind_some, h7, g1, Option.bind_some, h4, if_pos rfl]
    by_cases hi : i < N
    · obtain ⟨t1, t2⟩ := h9 i hi
      refine ⟨nI (tx i), ?_, ?_⟩
      · rw [if_neg (nI_ge hi (by omega)), g0, Option.bind_some, Option.bind_some, show aI s I 0 (a + 96) (nI i) = some (I (a + 96) i) from aI_L (Lay.one h2) 0 rfl (by omega) (by omega), Option.bind_some, t1]
      · unfold bt
        by_cases h128 : tx i < 128
        · rw [if_pos ⟨hi, h128⟩]
          exact ⟨by omega, fun k hk => nI_eq (by omega) (by omega)⟩
        · rw [if_neg (fun h => h128 h.2)]
          exact ⟨by omega, fun k hk => ⟨fun he => by
            have := (nI_eq (by omega) (by omega)).mp he
            omega, fun he => by omega⟩⟩
    · refine ⟨-1, ?_, ?_⟩
      · rw [if_pos (nI_le (by omega) (by omega))]
      · unfold bt
        rw [if_neg (fun h => hi h.1)]
        exact m1
/-- only the reader's own fields change -/
def Fr1 (I I' : IH) (r : Nat) : Prop := ∀ x, x ≠ r → I' x = I x
theorem Pst.at (h : Pst s I n a r N tx i snd) {I' : IH} {i' : Nat} {snd' : Bool} (f : Fr1 I I' r) (h1 : I' r 1 = I r 1) (h2 : I' r 2 = bI snd') (h3 : I' r 3 = nI i') (h4 : i' ≤ N) : Pst s I' n a r N tx i' snd' := by
  obtain ⟨g1, g2, g3, ⟨g4, g5⟩, g6, ⟨g7, g8⟩, g9⟩ := h
  exact ⟨g1, g2, g3, ⟨h1.trans g4, g5⟩, h2, ⟨h3, h4⟩, fun j hj => by rw [f (a + 96) (by omega)]; exact g9 j hj⟩
theorem cb_lt {i : Nat} {snd : Bool} (h : cb N tx snd i < 128) : snd = true ∧ i < N ∧ bt N tx i = cb N tx snd i := by
  unfold cb at h ⊢
  by_cases hs : snd = true
  · rw [if_pos hs] at h ⊢
    refine ⟨hs, ?_, rfl⟩
    unfold bt at h
    by_cases hi : i < N ∧ tx i < 128
    · exact hi.1
    · rw [if_neg hi] at h
      omega
  · rw [if_neg hs] at h
    omega
theorem stepR (h : Pst s I n a r N tx i snd) (hlt : i < N) : ∃ I', pI s I 1 r 3 (nI i + 1) = some I' ∧ Fr1 I I' r ∧ Pst s I' n a r N tx (i + 1) snd := by
  have g3 : pI s I 1 r 3 (nI i + 1) = some (wr I r 3 (nI i + 1)) := pI_L (Lay.one h.1) 0 3 rfl rfl _
  refine ⟨_, g3, fun x hx => wr_ne hx, h.at (fun x hx => wr_ne hx) (wr_nj (by omega)) (by rw [wr_nj (by omega)]; exact h.2.2.2.2.1) (by rw [wr_at, nI_1]) (by omega)⟩
theorem failR (h : Pst s I n a r N tx i snd) : ∃ I', pI s I 1 r 2 0 = some I' ∧ Fr1 I I' r ∧ Pst s I' n a r N tx i false := by
  have g2 : pI s I 1 r 2 0 = some (wr I r 2 0) := pI_L (Lay.one h.1) 0 2 rfl rfl _
  refine ⟨_, g2, fun x hx => wr_ne hx, h.at (fun x hx => wr_ne hx) (wr_nj (by omega)) (by rw [wr_at]; rfl) (by rw [wr_nj (by omega)]; exact h.2.2.2.2.2.1.1) h.2.2.2.2.2.1.2⟩
theorem at3 (h : Pst s I n a r N tx i snd) : gI s I 1 r 3 = some (nI i) := (gI_L (Lay.one h.1) 0 3 rfl rfl).trans (by rw [show I (r + 0) 3 = nI i from h.2.2.2.2.2.1.1])
theorem passesC {k : Nat} (h : Pst s I n a r N tx i snd) (hk : k < 128) : (cb N tx snd i = k → ∃ I', fX1_passes s r (nI k) I = some (1, I') ∧ Fr1 I I' r ∧ Pst s I' n a r N tx (i + 1) snd) ∧ (cb N tx snd i ≠ k → fX1_passes s r (nI k) I = some (0, I)) := by
  obtain ⟨x, e, hx⟩ := nextC h
  constructor
  · intro hc
    obtain ⟨hs, hi, -⟩ := cb_lt (show cb N tx snd i < 128 by omega)
    obtain ⟨I', e1, f1, h1⟩ := stepR h hi
    refine ⟨I', ?_, f1, h1⟩
    unfold fX1_passes
    rw [e, Option.bind_some, if_pos ((hx.2 k hk).mpr hc), at3 h, Option.bind_some, e1, Option.bind_some]
  · intro hc
    unfold fX1_passes
    rw [e, Option.bind_some, if_neg (fun h9 => hc ((hx.2 k hk).mp h9))]
theorem expectC {k : Nat} (h : Pst s I n a r N tx i snd) (hk : k < 128) : ∃ I', fX1_expect s r (nI k) I = some I' ∧ Fr1 I I' r ∧ (if cb N tx snd i = k then Pst s I' n a r N tx (i + 1) snd else Pst s I' n a r N tx i false) := by
  obtain ⟨p1, p2⟩ := passesC h hk
  by_cases hc : cb N tx snd i = k
  · obtain ⟨I', e1, f1, h1⟩ := p1 hc
    refine ⟨I', ?_, f1, by rw [if_pos hc]; exact h1⟩
    unfold fX1_expect
    rw [e1, b2_some, if_neg (by decide)]
  · obtain ⟨I', e1, f1, h1⟩ := failR h
    refine ⟨I', ?_, f1, by rw [if_neg hc]; exact h1⟩
    unfold fX1_expect
    rw [p2 hc, b2_some, if_pos rfl, e1, Option.bind_some]
theorem Fr1.trans {I1 I2 I3 : IH} (h : Fr1 I1 I2 r) (h2 : Fr1 I2 I3 r) : Fr1 I1 I3 r := fun x hx => (h2 x hx).trans (h x hx)
/-- 1 or 2 digits -/
theorem numberC (h : Pst s I n a r N tx i snd) : ∃ z I', fX1_number s r I = some (z, I') ∧ Fr1 I I' r ∧ (match (if snd = true then pNum (bt N tx) i else none) with | none => Pst s I' n a r N tx i false | some (j, v) => Pst s I' n a r N tx j true ∧ z = nI v ∧ v ≤ 99 ∧ i < j) := by
  obtain ⟨x, e, hx⟩ := nextC h
  have step : ∀ (K : Int32 → Int32 → IH → Option (Int32 × IH)) fu (J : IH) (v k i' : Nat), k < 2 → v < 100 → Pst s J n a r N tx i' snd → dig (cb N tx snd i') = true → ∃ J', fX1_number_b4 s r K (fu + 1) (nI v) (nI k) J = fX1_number_b4 s r K fu (nI (10 * v + (cb N tx snd i' - 48))) (nI (k + 1)) J' ∧ Fr1 J J' r ∧ Pst s J' n a r N tx (i' + 1) snd := by
    intro K fu J v k i' hk hv hJ hd
    obtain ⟨y, ey, hy⟩ := nextC hJ
    obtain ⟨y1, y2, y3⟩ := hy.dig_y hd
    obtain ⟨-, hlt, -⟩ := cb_lt (show cb N tx snd i' < 128 by omega)
    obtain ⟨J', e1, f1, h1⟩ := stepR hJ hlt
    refine ⟨J', ?_, f1, h1⟩
    have hs : y - 48 = nI (cb N tx snd i' - 48) := by rw [y1]; exact nI_sub (j := 48) y2
    have h10 : (10 : Int32) * nI v + y - 48 = nI (10 * v + (cb N tx snd i' - 48)) := by
      rw [y1, show (10 : Int32) * nI v = nI (10 * v) from nI_mul 10 v, nI_add, show nI (10 * v + cb N tx snd i') - 48 = nI (10 * v + cb N tx snd i' - 48) from nI_sub (j := 48) (by omega)]
      congr 1
      omega
    rw [fX1_number_b4, if_neg (show ¬ (2 : Int32) ≤ nI k from nI_ge (b := 2) hk (by omega)), ey, Option.bind_some, hs, if_neg (show ¬ fX6_isUnder (nI (cb N tx snd i' - 48)) 10 = 0 from un (N := 10) (by omega) (by omega)), Option.bind_some, at3 hJ, Option.bind_some, e1, Option.bind_some, h10, nI_1]
  have stop : ∀ (K : Int32 → Int32 → IH → Option (Int32 × IH)) fu (J : IH) (v k i' : Nat), k < 2 → Pst s J n a r N tx i' snd → ¬ dig (cb N tx snd i') = true → fX1_number_b4 s r K (fu + 1) (nI v) (nI k) J = K (nI v) (nI k) J := by
    intro K fu J v k i' hk hJ hd
    obtain ⟨y, ey, hy⟩ := nextC hJ
    have hno : fX6_isUnder (y - 48) 10 = 0 := by
      rcases under_cases (y - 48) 10 (by omega) (by omega) with ⟨j, hj, hje⟩ | ⟨-, h1, -⟩
      · exfalso
        refine hy.dig_n hd j hj ?_
        have := sub_add_c y 48
        rw [hje] at this
        rw [← this, Nat.add_comm 48 j]
        exact nI_add j 48
      · exact h1
    rw [fX1_number_b4, if_neg (show ¬ (2 : Int32) ≤ nI k from nI_ge (b := 2) hk (by omega)), ey, Option.bind_some, if_pos hno]
  have full : ∀ (K : Int32 → Int32 → IH → Option (Int32 × IH)) fu (J : IH) (v : Nat), fX1_number_b4 s r K (fu + 1) (nI v) (nI 2) J = K (nI v) (nI 2) J := fun K fu J v => by
    rw [fX1_number_b4, if_pos (show (2 : Int32) ≤ nI 2 by decide)]
  have fin : ∀ (J : IH) (v k : Nat), 0 < k → k < 3 → fX1_number_b53 s r (nI v) (nI k) J = some (nI v, J) := fun J v k h0 h3 => by
    unfold fX1_number_b53
    rw [if_neg (nI_ne0 h0 (by omega))]
  by_cases hd : dig (cb N tx snd i) = true
  · have hc : cb N tx snd i < 128 := by
      unfold dig at hd
      simp only [Bool.and_eq_true, decide_eq_true_eq] at hd
      omega
    obtain ⟨hs, hi, hb⟩ := cb_lt hc
    subst hs
    have hcb : ∀ i, cb N tx true i = bt N tx i := fun i => if_pos rfl
    obtain ⟨d1, d2⟩ := (hx.dig_y hd).2
    obtain ⟨J1, e1, f1, h1⟩ := step (fX1_number_b53 s r) 999 I 0 0 i (by omega) (by omega) h hd
    rw [hcb] at hd e1 d1 d2
    by_cases hd2 : dig (cb N tx true (i + 1)) = true
    · obtain ⟨x2, e2, hx2⟩ := nextC h1
      obtain ⟨d3, d4⟩ := (hx2.dig_y hd2).2
      obtain ⟨J2, e3, f3, h3⟩ := step (fX1_number_b53 s r) 998 J1 (10 * 0 + (bt N tx i - 48)) 1 (i + 1) (by omega) (by omega) h1 hd2
      rw [hcb] at hd2 e3 d3 d4
      refine ⟨nI (10 * (bt N tx i - 48) + (bt N tx (i + 1) - 48)), J2, ?_, f1.trans f3, ?_⟩
      · unfold fX1_number
        refine Eq.trans e1 (Eq.trans e3 ?_)
        rw [show 1 + 1 = 2 from rfl, full (fX1_number_b53 s r) 997, fin _ _ 2 (by omega) (by omega), show 10 * (10 * 0 + (bt N tx i - 48)) = 10 * (bt N tx i - 48) by omega]
      · have hp : pNum (bt N tx) i = some (i + 2, 10 * (bt N tx i - 48) + (bt N tx (i + 1) - 48)) := by
          unfold pNum
          rw [if_pos hd, if_pos hd2]
        rw [if_pos rfl, hp]
        exact ⟨h3, rfl, by omega, by omega⟩
    · refine ⟨nI (bt N tx i - 48), J1, ?_, f1, ?_⟩
      · unfold fX1_number
        refine Eq.trans e1 ?_
        rw [show 0 + 1 = 1 from rfl, stop (fX1_number_b53 s r) 998 J1 _ 1 (i + 1) (by omega) h1 hd2, fin _ _ 1 (by omega) (by omega), show 10 * 0 + (bt N tx i - 48) = bt N tx i - 48 by omega]
      · rw [hcb] at hd2
        have hp : pNum (bt N tx) i = some (i + 1, bt N tx i - 48) := by
          unfold pNum
          rw [if_pos hd, if_neg hd2]
        rw [if_pos rfl, hp]
        exact ⟨h1, rfl, by omega, by omega⟩
  · obtain ⟨J1, e1, f1, h1⟩ := failR h
    refine ⟨nI 0, J1, ?_, f1, ?_⟩
    · unfold fX1_number
      refine Eq.trans (stop (fX1_number_b53 s r) 999 I 0 0 i (by omega) h hd) ?_
      unfold fX1_number_b53
      rw [if_pos (show nI 0 = 0 from rfl), e1, Option.bind_some]
    · have hp : (if snd = true then pNum (bt N tx) i else none) = none := by
        by_cases hs : snd = true
        · rw [if_pos hs]
          subst hs
          unfold pNum
          rw [if_neg]
          intro h9
          exact hd (by unfold cb; rw [if_pos rfl]; exact h9)
        · rw [if_neg hs]
      rw [hp]
      exact h1
/-- one of three signs -/
theorem oneOfC {k1 k2 k3 : Nat} (h : Pst s I n a r N tx i snd) (h1 : k1 < 128) (h2 : k2 < 128) (h3 : k3 < 128) : ∃ z I', fX1_oneOf s r (nI k1) (nI k2) (nI k3) I = some (z, I') ∧ Fr1 I I' r ∧ (if cb N tx snd i = k1 ∨ cb N tx snd i = k2 ∨ cb N tx snd i = k3 then Pst s I' n a r N tx (i + 1) snd ∧ z = nI (cb N tx snd i) ∧ snd = true else Pst s I' n a r N tx i false) := by
  obtain ⟨x, e, hx⟩ := nextC h
  have yes : (cb N tx snd i = k1 ∨ cb N tx snd i = k2 ∨ cb N tx snd i = k3) → ∃ I', fX1_oneOf_b31 s r x I = some (x, I') ∧ Fr1 I I' r ∧ Pst s I' n a r N tx (i + 1) snd ∧ x = nI (cb N tx snd i) ∧ snd = true := fun hc => by
    have hlt : cb N tx snd i < 128 := by omega
    obtain ⟨hs, hi, -⟩ := cb_lt hlt
    obtain ⟨I', e1, f1, g1⟩ := stepR h hi
    refine ⟨I', ?_, f1, g1, (hx.2 _ hlt).mpr rfl, hs⟩
    unfold fX1_oneOf_b31
    rw [at3 h, Option.bind_some, e1, Option.bind_some]
  unfold fX1_oneOf
  rw [e, Option.bind_some]
  by_cases c1 : cb N tx snd i = k1
  · obtain ⟨I', e1, f1, g1, g2, g3⟩ := yes (Or.inl c1)
    exact ⟨x, I', by rw [if_pos ((hx.2 k1 h1).mpr c1)]; exact e1, f1, by rw [if_pos (Or.inl c1)]; exact ⟨g1, g2, g3⟩⟩
  · by_cases c2 : cb N tx snd i = k2
    · obtain ⟨I', e1, f1, g1, g2, g3⟩ := yes (Or.inr (Or.inl c2))
      exact ⟨x, I', by rw [if_neg (fun h9 => c1 ((hx.2 k1 h1).mp h9)), if_pos ((hx.2 k2 h2).mpr c2)]; exact e1, f1, by rw [if_pos (Or.inr (Or.inl c2))]; exact ⟨g1, g2, g3⟩⟩
    · by_cases c3' : cb N tx snd i = k3
      · obtain ⟨I', e1, f1, g1, g2, g3⟩ := yes (Or.inr (Or.inr c3'))
        exact ⟨x, I', by rw [if_neg (fun h9 => c1 ((hx.2 k1 h1).mp h9)), if_neg (fun h9 => c2 ((hx.2 k2 h2).mp h9)), if_pos ((hx.2 k3 h3).mpr c3')]; exact e1, f1, by rw [if_pos (Or.inr (Or.inr c3'))]; exact ⟨g1, g2, g3⟩⟩
      · obtain ⟨I', e1, f1, g1⟩ := failR h
        exact ⟨-1, I', by rw [if_neg (fun h9 => c1 ((hx.2 k1 h1).mp h9)), if_neg (fun h9 => c2 ((hx.2 k2 h2).mp h9)), if_neg (fun h9 => c3' ((hx.2 k3 h3).mp h9)), e1, Option.bind_some], f1, by rw [if_neg (by omega)]; exact g1⟩
end READER
