/-! LAYER 2: the class's expressions -/
def bo : shD := .inr (1, 144, 0)
theorem bI_and (x y : Bool) : bI x &&& bI y = bI (x && y) := by cases x <;> cases y <;> decide
theorem bI_or (x y : Bool) : bI x ||| bI y = bI (x || y) := by cases x <;> cases y <;> decide
section EXPR
variable {s : SH} {I : IH} {L : LH} {n a r N : Nat} {tx : Nat → Nat}
theorem sZ_any {x : Nat} (h : isD s x bo) {j : Nat} (hj : j < 144) (v : Int32) : sZ s I x (nI j) v = some (wr I x j (vp_nar .boolean v)) := sZ_L (Lay.one h) 0 rfl hj (by omega) v
theorem sZ_bo {x : Nat} (h : isD s x bo) {j : Nat} (hj : j < 144) (b : Bool) : sZ s I x (nI j) (bI b) = some (wr I x j (bI b)) := by
  rw [sZ_any h hj]
  cases b
  · show some (wr I x j (vp_nar .boolean 0)) = _
    rw [nar0]
    rfl
  · show some (wr I x j (vp_nar .boolean 1)) = _
    rw [nar1]
    rfl
theorem aI_bo {x : Nat} (h : isD s x bo) {j : Nat} (hj : j < 144) : aI s I 1 x (nI j) = some (I x j) := aI_L (Lay.one h) 0 rfl hj (by omega)
/-- what one test writes -/
def vvS (v1 v2 s0 : Int32) : Bool := if v1 = 60 then !(decide (v2 ≤ s0)) else if v1 = 61 then decide (s0 = v2) else !(decide (s0 ≤ v2))
theorem b54_y {K : Int32 → Int32 → Int32 → Nat → Int32 → SH → IH → Nat → Option ((Nat × Nat) × (Nat × SH × IH × Nat))} {x j : Nat} (h : isD s x bo) (hj : j < 144) (v0 v1 v2 s0 : Int32) : fX1_whereHolds_b54 K v0 v1 v2 x (nI j) s0 s I n = K v0 v1 v2 x (nI (j + 1)) s (wr I x j (bI (vvS v1 v2 s0))) n := by
  have z0 : sZ s I x (nI j) 0 = some (wr I x j (bI false)) := sZ_bo h hj false
  have z1 : sZ s I x (nI j) 1 = some (wr I x j (bI true)) := sZ_bo h hj true
  unfold fX1_whereHolds_b54 vvS
  rw [z0, z1, Option.bind_some, Option.bind_some, nI_1]
  by_cases h1 : v1 = 60
  · rw [if_pos h1, if_pos h1]
    by_cases h2 : v2 ≤ s0
    · rw [if_pos h2, decide_eq_true h2]
      rfl
    · rw [if_neg h2, decide_eq_false h2]
      rfl
  · rw [if_neg h1, if_neg h1]
    by_cases h2 : v1 = 61
    · rw [if_pos h2, if_pos h2]
      by_cases h3 : s0 = v2
      · rw [if_pos h3, decide_eq_true h3]
      · rw [if_neg h3, decide_eq_false h3]
    · rw [if_neg h2, if_neg h2]
      by_cases h3 : s0 ≤ v2
      · rw [if_pos h3, decide_eq_true h3]
        rfl
      · rw [if_neg h3, decide_eq_false h3]
        rfl
def s0S (v0 : Int32) (q : Nat) : Int32 := if v0 = 104 then nI (q % 24) else if v0 = 100 then nI (q / 24 / 3) else nI (q / 24 % 3)
/-- a new array of what a test says -/
theorem whereC (hn : ∀ y, y < n → True) (v0 v1 v2 : Int32) : ∃ s' I', fX1_whereHolds v0 v1 v2 s I n = some ((1, 144 * 1), (n, s', I', n + 1)) ∧ isD s' n bo ∧ (∀ y, y < n → s' y = s y) ∧ (∀ y, y < n → I' y = I y) ∧ ∀ q, q < 144 → I' n q = bI (vvS v1 v2 (s0S v0 q)) := by
  obtain ⟨s1, e1, L1, k1⟩ := nAI_L (I := I) (Lay.nil (sh := s) (a := n)) (n := n) (c := 144) rfl (by omega) 1 (Or.inr rfl)
  have hb : isD s1 n bo := L1 0 _ rfl
  have key : ∀ mm q fuel (J : IH), q + mm = 144 → mm < fuel → (∀ y, y < n → J y = I y) → (∀ j, j < q → J n j = bI (vvS v1 v2 (s0S v0 j))) → ∃ I', fX1_whereHolds_b9 fuel v0 v1 v2 n (nI q) s1 J (n + 1) = some ((0, 0), (n, s1, I', n + 1)) ∧ (∀ y, y < n → I' y = I y) ∧ ∀ j, j < 144 → I' n j = bI (vvS v1 v2 (s0S v0 j)) := by
    intro mm
    induction mm with
    | zero =>
      intro q fuel J h1 h2 f v
      obtain ⟨u, rfl⟩ : ∃ u, fuel = u + 1 := ⟨fuel - 1, by omega⟩
      obtain rfl : q = 144 := h1
      refine ⟨J, ?_, f, v⟩
      rw [fX1_whereHolds_b9, if_pos (show (144 : Int32) ≤ nI 144 by decide)]
    | succ mm ih =>
      intro q fuel J h1 h2 f v
      obtain ⟨u, rfl⟩ : ∃ u, fuel = u + 1 := ⟨fuel - 1, by omega⟩
      have hq : q < 144 := by omega
      have e24 : nI q - nI q / 24 * 24 = nI (q % 24) := mod_nI (d := 24) (by omega) (by omega) (by omega)
      have e3 : nI q / 24 / 3 = nI (q / 24 / 3) := by rw [show nI q / 24 = nI (q / 24) from pk_div (d := 24) (by omega) (by omega) (by omega)]; exact pk_div (d := 3) (by omega) (by omega) (by omega)
      have e4 : nI q / 24 - nI q / 24 / 3 * 3 = nI (q / 24 % 3) := by rw [show nI q / 24 = nI (q / 24) from pk_div (d := 24) (by omega) (by omega) (by omega)]; exact mod_nI (d := 3) (by omega) (by omega) (by omega)
      have go := ih (q + 1) u (wr J n q (bI (vvS v1 v2 (s0S v0 q)))) (by omega) (by omega) (fun y hy => by rw [wr_ne (by omega), f y hy]) (fun j hj => by
        by_cases hjq : j = q
        · subst hjq
          exact wr_at
        · rw [wr_nj hjq]
          exact v j (by omega))
      rw [fX1_whereHolds_b9, if_neg (show ¬ (144 : Int32) ≤ nI q from nI_ge (b := 144) hq (by omega)), b54_y hb hq, b54_y hb hq, b54_y hb hq, e24, e4, e3]
      unfold s0S at go
      by_cases h3 : v0 = 104
      · rw [if_pos h3]
        rw [if_pos h3] at go
        exact go
      · rw [if_neg h3]
        rw [if_neg h3] at go
        by_cases h4 : v0 = 100
        · rw [if_pos h4]
          rw [if_pos h4] at go
          exact go
        · rw [if_neg h4]
          rw [if_neg h4] at go
          exact go
  obtain ⟨I', e2, f2, v2'⟩ := key 144 0 1000 (upR I n (fun _ => 0)) rfl (by omega) (fun y hy => upR_ne (by omega)) (fun j hj => absurd hj (by omega))
  refine ⟨s1, I', ?_, hb, fun y hy => k1 y (by omega), f2, v2'⟩
  unfold fX1_whereHolds
  have e1 : nAI s I n 1 144 = some (s1, upR I n (fun _ => 0)) := e1
  have e2 : fX1_whereHolds_b9 1000 v0 v1 v2 n 0 s1 (upR I n (fun _ => 0)) (n + 1) = _ := e2
  rw [e1, b2_some, e2]
  rfl
theorem vv_T (f sg nn q : Nat) (hsg : sg < 3) (hn : nn < 2 ^ 31) (hq : q < 144) (v0 : Int32) (hv : (f = 0 ∧ v0 = 104) ∨ (f = 1 ∧ v0 = 100) ∨ (f = 2 ∧ v0 = 107)) : vvS (nI (60 + sg)) (nI nn) (s0S v0 q) = tq f sg nn q := by
  have hs0 : s0S v0 q = nI (if f = 0 then q % 24 else if f = 1 then q / 24 / 3 else q / 24 % 3) := by
    unfold s0S
    rcases hv with ⟨rfl, rfl⟩ | ⟨rfl, rfl⟩ | ⟨rfl, rfl⟩
    · rfl
    · rfl
    · rfl
  have hlt : (if f = 0 then q % 24 else if f = 1 then q / 24 / 3 else q / 24 % 3) < 2 ^ 31 := by
    split
    · omega
    · split <;> omega
  unfold tq vvS
  rw [hs0]
  generalize (if f = 0 then q % 24 else if f = 1 then q / 24 / 3 else q / 24 % 3) = v at hlt ⊢
  obtain rfl | rfl | rfl : sg = 0 ∨ sg = 1 ∨ sg = 2 := by omega
  · rw [if_pos (show nI (60 + 0) = 60 from rfl)]
    show (!decide (nI nn ≤ nI v)) = decide (v < nn)
    by_cases h : v < nn
    · rw [decide_eq_false (nI_ge h hn), decide_eq_true h]
      rfl
    · rw [decide_eq_true (nI_le (by omega) hlt), decide_eq_false h]
      rfl
  · rw [if_neg (show ¬ nI (60 + 1) = 60 by decide), if_pos (show nI (60 + 1) = 61 from rfl)]
    show decide (nI v = nI nn) = decide (v = nn)
    by_cases h : v = nn
    · rw [h, decide_eq_true rfl, decide_eq_true rfl]
    · rw [decide_eq_false (fun h9 => h ((nI_eq hlt hn).mp h9)), decide_eq_false h]
  · rw [if_neg (show ¬ nI (60 + 2) = 60 by decide), if_neg (show ¬ nI (60 + 2) = 61 by decide)]
    show (!decide (nI v ≤ nI nn)) = decide (v > nn)
    by_cases h : v > nn
    · rw [decide_eq_false (nI_ge h hlt), decide_eq_true h]
      rfl
    · rw [decide_eq_true (nI_le (by omega) hn), decide_eq_false h]
      rfl
/-- the reader's state over a longer heap -/
theorem Pst.long {i : Nat} {snd : Bool} (h : Pst s I n a r N tx i snd) {s' : SH} {I' : IH} {n' : Nat} (hn : n ≤ n') (f : ∀ y, y < n → s' y = s y) (g : ∀ y, y < n → I' y = I y) : Pst s' I' n' a r N tx i snd := by
  obtain ⟨g1, g2, ⟨g3, g3'⟩, ⟨g4, g5⟩, g6, ⟨g7, g8⟩, g9⟩ := h
  have er : I' r = I r := g r g3
  have et : I' (a + 96) = I (a + 96) := g _ (by omega)
  exact ⟨isD_same (f r g3) g1, isD_same (f _ (by omega)) g2, ⟨by omega, g3'⟩, ⟨by rw [er]; exact g4, g5⟩, by rw [er]; exact g6, ⟨by rw [er]; exact g7, g8⟩, by rw [et]; exact g9⟩
/-- a parsing function of the class against the spec -/
def PC (a r N : Nat) (tx : Nat → Nat) (g : SH → IH → Nat → Option ((Nat × Nat) × (Nat × SH × IH × Nat))) (R : Nat → PRes) : Prop := ∀ (s : SH) (I : IH) (n i : Nat) (snd : Bool), Pst s I n a r N tx i snd → ∃ A x s' I', g s I n = some ((A, 144 * A), (x, s', I', n + A)) ∧ (n ≤ x ∧ x < n + A) ∧ isD s' x bo ∧ (∀ y, y < n → s' y = s y) ∧ (∀ y, y < n → y ≠ r → I' y = I y) ∧ (snd = false → A = 1 ∧ Pst s' I' (n + A) a r N tx i false) ∧ (snd = true → match R i with
  | .inl j => i ≤ j ∧ i + 2 * A ≤ j + 2 ∧ Pst s' I' (n + A) a r N tx j false
  | .inr (j, p, M) => i + 2 * A + 1 ≤ j ∧ Pst s' I' (n + A) a r N tx j true ∧ ∀ q, q < 144 → I' x q = bI (M q))
theorem testC (rc : Nat → Int32 → SH → IH → Nat → Option ((Nat × Nat) × (Nat × SH × IH × Nat))) : PC a r N tx (fun s I n => fX1_factor_b83 r rc s I n) (pTst (bt N tx)) := by
  intro s I n i snd h
  obtain ⟨x1, I1, e1, f1, g1⟩ := oneOfC (k1 := 104) (k2 := 100) (k3 := 107) h (by omega) (by omega) (by omega)
  have hrn : r < n := h.2.2.1.1
  have hck : ck s 1 r = some () := ck_L (Lay.one h.1) 0 rfl
  have e1 : fX1_oneOf s r 104 100 107 I = some (x1, I1) := e1
  -- the last reading, and the array
  have rest : ∀ (x2 : Int32) (I2 : IH) (i2 : Nat) (snd2 : Bool), fX1_oneOf s r 60 61 62 I1 = some (x2, I2) → Fr1 I I2 r → Pst s I2 n a r N tx i2 snd2 → ∃ s' I', fX1_factor_b83 r rc s I n = some ((1, 144 * 1), (n, s', I', n + 1)) ∧ isD s' n bo ∧ (∀ y, y < n → s' y = s y) ∧ (∀ y, y < n → y ≠ r → I' y = I y) ∧ (match (if snd2 = true then pNum (bt N tx) i2 else none) with | none => Pst s' I' (n + 1) a r N tx i2 false | some (j, v) => Pst s' I' (n + 1) a r N tx j true ∧ v ≤ 99 ∧ i2 < j ∧ ∀ q, q < 144 → I' n q = bI (vvS x2 (nI v) (s0S x1 q))) := by
    intro x2 I2 i2 snd2 e2 f2 g2
    obtain ⟨z, I3, e3, f3, g3⟩ := numberC g2
    obtain ⟨s', I', e4, b4, k4, f4, v4⟩ := whereC (s := s) (I := I3) (n := n) (fun _ _ => trivial) x1 x2 z
    refine ⟨s', I', ?_, b4, k4, fun y hy hyr => by rw [f4 y hy, f3 y hyr, f2 y hyr], ?_⟩
    · unfold fX1_factor_b83
      rw [hck, Option.bind_some, e1, b2_some, e2, b2_some, e3, b2_some, e4]
      rfl
    · cases hpn : (if snd2 = true then pNum (bt N tx) i2 else none) with
      | none =>
        rw [hpn] at g3
        exact Pst.long g3 (by omega) k4 (fun y hy => f4 y hy)
      | some jv =>
        obtain ⟨j, v⟩ := jv
        rw [hpn] at g3
        obtain ⟨g5, g6, g7, g8⟩ := g3
        refine ⟨Pst.long g5 (by omega) k4 (fun y hy => f4 y hy), g7, g8, fun q hq => ?_⟩
        rw [v4 q hq, g6]
  by_cases hc : cb N tx snd i = 104 ∨ cb N tx snd i = 100 ∨ cb N tx snd i = 107
  · rw [if_pos hc] at g1
    obtain ⟨g1, hz, hs⟩ := g1
    subst hs
    have hcb : cb N tx true i = bt N tx i := if_pos rfl
    rw [hcb] at hc hz
    have hl : ltr (bt N tx i) < 3 ∧ ((ltr (bt N tx i) = 0 ∧ x1 = 104) ∨ (ltr (bt N tx i) = 1 ∧ x1 = 100) ∨ (ltr (bt N tx i) = 2 ∧ x1 = 107)) := by
      unfold ltr
      rcases hc with hc | hc | hc
      · rw [hc] at hz ⊢
        exact ⟨by decide, Or.inl ⟨rfl, hz⟩⟩
      · rw [hc] at hz ⊢
        exact ⟨by decide, Or.inr (Or.inl ⟨rfl, hz⟩)⟩
      · rw [hc] at hz ⊢
        exact ⟨by decide, Or.inr (Or.inr ⟨rfl, hz⟩)⟩
    obtain ⟨x2, I2, e2, f2, g2⟩ := oneOfC (k1 := 60) (k2 := 61) (k3 := 62) g1 (by omega) (by omega) (by omega)
    have e2 : fX1_oneOf s r 60 61 62 I1 = some (x2, I2) := e2
    have hcb2 : cb N tx true (i + 1) = bt N tx (i + 1) := if_pos rfl
    by_cases hc2 : cb N tx true (i + 1) = 60 ∨ cb N tx true (i + 1) = 61 ∨ cb N tx true (i + 1) = 62
    · rw [if_pos hc2] at g2
      obtain ⟨g2, hz2, -⟩ := g2
      rw [hcb2] at hc2 hz2
      obtain ⟨s', I', e5, b5, k5', f5, g5⟩ := rest x2 I2 (i + 2) true e2 (f1.trans f2) g2
      refine ⟨1, n, s', I', e5, ⟨by omega, by omega⟩, b5, k5', f5, fun h9 => absurd h9 (by decide), fun _ => ?_⟩
      rw [if_pos rfl] at g5
      unfold pTst
      rw [if_neg (by omega), if_neg (by omega)]
      cases hpn : pNum (bt N tx) (i + 2) with
      | none =>
        rw [hpn] at g5
        exact ⟨by omega, by omega, g5⟩
      | some jv =>
        obtain ⟨j, v⟩ := jv
        rw [hpn] at g5
        obtain ⟨g6, g7, g8, g9⟩ := g5
        refine ⟨by omega, g6, fun q hq => ?_⟩
        rw [g9 q hq, hz2, show bt N tx (i + 1) = 60 + (bt N tx (i + 1) - 60) by omega, vv_T (ltr (bt N tx i)) (bt N tx (i + 1) - 60) v q (by omega) (by omega) hq x1 hl.2, show 60 + (bt N tx (i + 1) - 60) - 60 = bt N tx (i + 1) - 60 by omega]
    · rw [if_neg hc2] at g2
      rw [hcb2] at hc2
      obtain ⟨s', I', e5, b5, k5', f5, g5⟩ := rest x2 I2 (i + 1) false e2 (f1.trans f2) g2
      refine ⟨1, n, s', I', e5, ⟨by omega, by omega⟩, b5, k5', f5, fun h9 => absurd h9 (by decide), fun _ => ?_⟩
      rw [if_neg (by decide)] at g5
      unfold pTst
      rw [if_neg (by omega), if_pos (by omega)]
      exact ⟨by omega, by omega, g5⟩
  · rw [if_neg hc] at g1
    obtain ⟨x2, I2, e2, f2, g2⟩ := oneOfC (k1 := 60) (k2 := 61) (k3 := 62) g1 (by omega) (by omega) (by omega)
    have e2 : fX1_oneOf s r 60 61 62 I1 = some (x2, I2) := e2
    have hcf : cb N tx false i = 255 := if_neg (by decide)
    rw [hcf, if_neg (by omega)] at g2
    obtain ⟨s', I', e5, b5, k5', f5, g5⟩ := rest x2 I2 i false e2 (f1.trans f2) g2
    rw [if_neg (by decide)] at g5
    refine ⟨1, n, s', I', e5, ⟨by omega, by omega⟩, b5, k5', f5, fun _ => ⟨rfl, g5⟩, fun hs => ?_⟩
    subst hs
    rw [show cb N tx true i = bt N tx i from if_pos rfl] at hc
    have hl : ltr (bt N tx i) = 3 := by
      unfold ltr
      rw [if_neg (by omega), if_neg (by omega), if_neg (by omega)]
    unfold pTst
    rw [if_pos hl]
    exact ⟨by omega, by omega, g5⟩
theorem andC (rc : Nat → Int32 → SH → IH → Nat → Option ((Nat × Nat) × (Nat × SH × IH × Nat))) (K : Int32 → Nat → Int32 → SH → IH → Nat → Option ((Nat × Nat) × (Nat × SH × IH × Nat))) {x y : Nat} (hx : isD s x bo) (hy : isD s y bo) (hxy : x ≠ y) (v1 v3 : Int32) : ∃ I', fX1_both_b35 r rc K 1000 v1 x v3 y 0 s I n = K v1 x (v3 + 1) s I' n ∧ (∀ z, z ≠ x → I' z = I z) ∧ ∀ M M2 : Nat → Bool, (∀ q, q < 144 → I x q = bI (M q)) → (∀ q, q < 144 → I y q = bI (M2 q)) → ∀ q, q < 144 → I' x q = bI (and (M q) (M2 q)) := by
  have key : ∀ mm k fuel (J : IH), k + mm = 144 → mm < fuel → (∀ z, z ≠ x → J z = I z) → (∀ q, k ≤ q → J x q = I x q) → (∀ M M2 : Nat → Bool, (∀ q, q < 144 → I x q = bI (M q)) → (∀ q, q < 144 → I y q = bI (M2 q)) → ∀ q, q < k → J x q = bI (and (M q) (M2 q))) → ∃ I', fX1_both_b35 r rc K fuel v1 x v3 y (nI k) s J n = K v1 x (v3 + 1) s I' n ∧ (∀ z, z ≠ x → I' z = I z) ∧ ∀ M M2 : Nat → Bool, (∀ q, q < 144 → I x q = bI (M q)) → (∀ q, q < 144 → I y q = bI (M2 q)) → ∀ q, q < 144 → I' x q = bI (and (M q) (M2 q)) := by
    intro mm
    induction mm with
    | zero =>
      intro k fuel J h1 h2 f g v
      obtain ⟨u, rfl⟩ : ∃ u, fuel = u + 1 := ⟨fuel - 1, by omega⟩
      obtain rfl : k = 144 := h1
      refine ⟨J, ?_, f, v⟩
      rw [fX1_both_b35, if_pos (show (144 : Int32) ≤ nI 144 by decide)]
    | succ mm ih =>
      intro k fuel J h1 h2 f g v
      obtain ⟨u, rfl⟩ : ∃ u, fuel = u + 1 := ⟨fuel - 1, by omega⟩
      have hk : k < 144 := by omega
      rw [fX1_both_b35, if_neg (show ¬ (144 : Int32) ≤ nI k from nI_ge (b := 144) hk (by omega)), aI_bo hx hk, Option.bind_some, aI_bo hy hk, Option.bind_some, sZ_any hx hk, Option.bind_some, nI_1]
      refine ih (k + 1) u _ (by omega) (by omega) (fun z hz => by rw [wr_ne hz, f z hz]) (fun q hq => by rw [wr_nj (by omega), g q (by omega)]) (fun M M2 hM hM2 q hq => ?_)
      by_cases hqk : q = k
      · subst hqk
        rw [wr_at, g q (Nat.le_refl _), f y (Ne.symm hxy), hM q hk, hM2 q hk, bI_and]
        cases (and (M q) (M2 q))
        · exact nar0
        · exact nar1
      · rw [wr_nj hqk]
        exact v M M2 hM hM2 q (by omega)
  exact key 144 0 1000 I rfl (by omega) (fun _ _ => rfl) (fun _ _ => rfl) (fun M M2 _ _ q hq => absurd hq (by omega))
theorem orC (rc : Nat → Int32 → SH → IH → Nat → Option ((Nat × Nat) × (Nat × SH × IH × Nat))) (K : Int32 → Nat → Int32 → SH → IH → Nat → Option ((Nat × Nat) × (Nat × SH × IH × Nat))) {x y : Nat} (hx : isD s x bo) (hy : isD s y bo) (hxy : x ≠ y) (v1 v3 : Int32) : ∃ I', fX1_either_b35 r rc K 1000 v1 x v3 y 0 s I n = K v1 x (v3 + 1) s I' n ∧ (∀ z, z ≠ x → I' z = I z) ∧ ∀ M M2 : Nat → Bool, (∀ q, q < 144 → I x q = bI (M q)) → (∀ q, q < 144 → I y q = bI (M2 q)) → ∀ q, q < 144 → I' x q = bI (or (M q) (M2 q)) := by
  have key : ∀ mm k fuel (J : IH), k + mm = 144 → mm < fuel → (∀ z, z ≠ x → J z = I z) → (∀ q, k ≤ q → J x q = I x q) → (∀ M M2 : Nat → Bool, (∀ q, q < 144 → I x q = bI (M q)) → (∀ q, q < 144 → I y q = bI (M2 q)) → ∀ q, q < k → J x q = bI (or (M q) (M2 q))) → ∃ I', fX1_either_b35 r rc K fuel v1 x v3 y (nI k) s J n = K v1 x (v3 + 1) s I' n ∧ (∀ z, z ≠ x → I' z = I z) ∧ ∀ M M2 : Nat → Bool, (∀ q, q < 144 → I x q = bI (M q)) → (∀ q, q < 144 → I y q = bI (M2 q)) → ∀ q, q < 144 → I' x q = bI (or (M q) (M2 q)) := by
    intro mm
    induction mm with
    | zero =>
      intro k fuel J h1 h2 f g v
      obtain ⟨u, rfl⟩ : ∃ u, fuel = u + 1 := ⟨fuel - 1, by omega⟩
      obtain rfl : k = 144 := h1
      refine ⟨J, ?_, f, v⟩
      rw [fX1_either_b35, if_pos (show (144 : Int32) ≤ nI 144 by decide)]
    | succ mm ih =>
      intro k fuel J h1 h2 f g v
      obtain ⟨u, rfl⟩ : ∃ u, fuel = u + 1 := ⟨fuel - 1, by omega⟩
      have hk : k < 144 := by omega
      rw [fX1_either_b35, if_neg (show ¬ (144 : Int32) ≤ nI k from nI_ge (b := 144) hk (by omega)), aI_bo hx hk, Option.bind_some, aI_bo hy hk, Option.bind_some, sZ_any hx hk, Option.bind_some, nI_1]
      refine ih (k + 1) u _ (by omega) (by omega) (fun z hz => by rw [wr_ne hz, f z hz]) (fun q hq => by rw [wr_nj (by omega), g q (by omega)]) (fun M M2 hM hM2 q hq => ?_)
      by_cases hqk : q = k
      · subst hqk
        rw [wr_at, g q (Nat.le_refl _), f y (Ne.symm hxy), hM q hk, hM2 q hk, bI_or]
        cases (or (M q) (M2 q))
        · exact nar0
        · exact nar1
      · rw [wr_nj hqk]
        exact v M M2 hM hM2 q (by omega)
  exact key 144 0 1000 I rfl (by omega) (fun _ _ => rfl) (fun _ _ => rfl) (fun M M2 _ _ q hq => absurd hq (by omega))
theorem notC (rc : Nat → Int32 → SH → IH → Nat → Option ((Nat × Nat) × (Nat × SH × IH × Nat))) {x : Nat} (hx : isD s x bo) : ∃ I', fX1_factor_b24 r rc 1000 x 0 s I n = some ((0, 0), (x, s, I', n)) ∧ (∀ z, z ≠ x → I' z = I z) ∧ ∀ M : Nat → Bool, (∀ q, q < 144 → I x q = bI (M q)) → ∀ q, q < 144 → I' x q = bI (!(M q)) := by
  have key : ∀ mm k fuel (J : IH), k + mm = 144 → mm < fuel → (∀ z, z ≠ x → J z = I z) → (∀ q, k ≤ q → J x q = I x q) → (∀ M : Nat → Bool, (∀ q, q < 144 → I x q = bI (M q)) → ∀ q, q < k → J x q = bI (!(M q))) → ∃ I', fX1_factor_b24 r rc fuel x (nI k) s J n = some ((0, 0), (x, s, I', n)) ∧ (∀ z, z ≠ x → I' z = I z) ∧ ∀ M : Nat → Bool, (∀ q, q < 144 → I x q = bI (M q)) → ∀ q, q < 144 → I' x q = bI (!(M q)) := by
    intro mm
    induction mm with
    | zero =>
      intro k fuel J h1 h2 f g v
      obtain ⟨u, rfl⟩ : ∃ u, fuel = u + 1 := ⟨fuel - 1, by omega⟩
      obtain rfl : k = 144 := h1
      refine ⟨J, ?_, f, v⟩
      rw [fX1_factor_b24, if_pos (show (144 : Int32) ≤ nI 144 by decide)]
    | succ mm ih =>
      intro k fuel J h1 h2 f g v
      obtain ⟨u, rfl⟩ : ∃ u, fuel = u + 1 := ⟨fuel - 1, by omega⟩
      have hk : k < 144 := by omega
      have z0 : sZ s J x (nI k) 0 = some (wr J x k (bI false)) := sZ_bo hx hk false
      have z1 : sZ s J x (nI k) 1 = some (wr J x k (bI true)) := sZ_bo hx hk true
      have go : ∀ b : Bool, (∀ M : Nat → Bool, (∀ q, q < 144 → I x q = bI (M q)) → b = !(M k)) → ∃ I', fX1_factor_b24 r rc u x (nI (k + 1)) s (wr J x k (bI b)) n = some ((0, 0), (x, s, I', n)) ∧ (∀ z, z ≠ x → I' z = I z) ∧ ∀ M : Nat → Bool, (∀ q, q < 144 → I x q = bI (M q)) → ∀ q, q < 144 → I' x q = bI (!(M q)) := fun b hb =>
        ih (k + 1) u _ (by omega) (by omega) (fun z hz => by rw [wr_ne hz, f z hz]) (fun q hq => by rw [wr_nj (by omega), g q (by omega)]) (fun M hM q hq => by
          by_cases hqk : q = k
          · subst hqk
            rw [wr_at, hb M hM]
          · rw [wr_nj hqk]
            exact v M hM q (by omega))
      rw [fX1_factor_b24, if_neg (show ¬ (144 : Int32) ≤ nI k from nI_ge (b := 144) hk (by omega)), aI_bo hx hk, Option.bind_some, z0, z1, Option.bind_some, Option.bind_some, nI_1, g k (Nat.le_refl _)]
      by_cases h0 : I x k = 0
      · rw [if_pos h0]
        refine go true (fun M hM => ?_)
        rw [hM k hk] at h0
        cases hMk : M k with
        | false => rfl
        | true => rw [hMk] at h0; exact absurd h0 (by decide)
      · rw [if_neg h0]
        refine go false (fun M hM => ?_)
        rw [hM k hk] at h0
        cases hMk : M k with
        | false => rw [hMk] at h0; exact absurd (show bI false = 0 from rfl) h0
        | true => rfl
  exact key 144 0 1000 I rfl (by omega) (fun _ _ => rfl) (fun _ _ => rfl) (fun M _ q hq => absurd hq (by omega))
end EXPR
