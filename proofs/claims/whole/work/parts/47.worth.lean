/-! LAYER 2: the reference serves; both sides run; worth -/
section WORTH
variable {s : SH} {I : IH} {L : LH} {n a w1 w2 w P : Nat} {G : Nat → Nat → Nat} {m : Nat → Nat}
def MW (I : IH) (a N : Nat) (PL HO CU EA : Nat → Nat) : Prop := I (a + 110) 39 = nI N ∧ N ≤ 10 ∧ ∀ w, w < N → (I (a + 138) w = nI (PL w) ∧ PL w ≤ 4) ∧ (I (a + 139) w = nI (HO w) ∧ HO w ≤ 47) ∧ (I (a + 140) w = nI (CU w) ∧ CU w ≤ 30) ∧ I (a + 141) w = nI (EA w) ∧ EA w ≤ 9
theorem MW.kept {I1 : IH} {N : Nat} {PL HO CU EA : Nat → Nat} (h : MW I a N PL HO CU EA) (e : ∀ x, x = a + 110 ∨ (a + 138 ≤ x ∧ x ≤ a + 141) → I1 x = I x) : MW I1 a N PL HO CU EA := by
  obtain ⟨h1, h2, h3⟩ := h
  refine ⟨by rw [e _ (by omega)]; exact h1, h2, fun w hw => ?_⟩
  rw [e (a + 138) (by omega), e (a + 139) (by omega), e (a + 140) (by omega), e (a + 141) (by omega)]
  exact h3 w hw
theorem sub0 (x : Int32) : x - 0 = x := Int32.sub_zero x
theorem serveM (W : WW s a w1 w2) {N : Nat} {PL HO CU EA : Nat → Nat} {T : Nat → Nat → Nat} (hP0 : I (a + 110) 0 = nI P) (hP5 : P ≤ 5) (X : MW I a N PL HO CU EA) (hT : ∀ p h, p < P → h < 48 → I (a + 134) (48 * p + h) = nI (T p h) ∧ T p h ≤ 300) : ∃ I1, fX7_serve s (a + 110) I = some (nI (wthS PL HO CU EA T P N), I1) ∧ (∀ x, x ≠ a + 142 → I1 x = I x) ∧ ∀ w, w < N → I1 (a + 142) w = nI (SV PL HO CU T P w) := by
  have X0 := X
  obtain ⟨x1, x2, x3⟩ := X
  have hws := wthS_le (PL := PL) (HO := HO) (CU := CU) (EA := EA) (T := T) (P := P) (N := N) (fun w hw => ⟨(x3 w hw).2.2.1.2, (x3 w hw).2.2.2.2⟩)
  have key : ∀ mm q fuel (J : IH), q + mm = N → mm < fuel → (∀ x, x ≠ a + 142 → J x = I x) → (∀ w, w < q → J (a + 142) w = nI (SV PL HO CU T P w)) → ∃ I1, fX7_serve_b4 s (a + 110) fuel (nI (wthS PL HO CU EA T P q)) (nI q) J = some (nI (wthS PL HO CU EA T P N), I1) ∧ (∀ x, x ≠ a + 142 → I1 x = I x) ∧ ∀ w, w < N → I1 (a + 142) w = nI (SV PL HO CU T P w) := by
    intro mm
    induction mm with
    | zero =>
      intro q fuel J h1 h2 f v
      obtain ⟨u, rfl⟩ : ∃ u, fuel = u + 1 := ⟨fuel - 1, by omega⟩
      obtain rfl : q = N := h1
      refine ⟨J, ?_, f, v⟩
      rw [fX7_serve_b4, i7_110_39 W, Option.bind_some, f _ (by omega), x1, if_pos (nI_le (Nat.le_refl _) (by omega))]
    | succ mm ih =>
      intro q fuel J h1 h2 f v
      obtain ⟨u, rfl⟩ : ∃ u, fuel = u + 1 := ⟨fuel - 1, by omega⟩
      have hqN : q < N := by omega
      have hq : q < 10 := by omega
      obtain ⟨⟨y0, z0⟩, ⟨y1, z1⟩, ⟨y2, z2⟩, y3, z3⟩ := x3 q hqN
      have hsv := SV_le (PL := PL) (HO := HO) (CU := CU) (T := T) (P := P) q
      have hmul : SV PL HO CU T P q * EA q ≤ 30 * 9 := Nat.mul_le_mul (by omega) z3
      have hw1 := hws q (by omega)
      have eSV := SV_eq (PL := PL) (HO := HO) (CU := CU) (T := T) (P := P) q
      have hb := hadS_le (PL := PL) (HO := HO) (CU := CU) (T := T) (P := P) (pl := PL q) (ho := HO q) q
      have fin : fX7_serve_b112 s (a + 110) (fX7_serve_b4 s (a + 110) u) (nI (wthS PL HO CU EA T P q)) (nI q) (nI ((if PL q < P then T (PL q) (HO q) else 0) - hadS PL HO (SV PL HO CU T P) (PL q) (HO q) q)) J = fX7_serve_b4 s (a + 110) u (nI (wthS PL HO CU EA T P (q + 1))) (nI (q + 1)) (wr J (a + 142) q (nI (SV PL HO CU T P q))) := by
        unfold fX7_serve_b112
        have hTT : (if PL q < P then T (PL q) (HO q) else 0) ≤ 300 := by
          split
          · next h => exact (hT _ _ h (by omega)).2
          · omega
        have hmin : fX7_min (nI ((if PL q < P then T (PL q) (HO q) else 0) - hadS PL HO (SV PL HO CU T P) (PL q) (HO q) q)) (nI (CU q)) = nI (SV PL HO CU T P q) := by
          rw [min7 (by omega) (by omega), Nat.min_comm, eSV]
          congr 1
          by_cases hpl : PL q < P
          · rw [if_pos hpl, if_pos hpl]
          · rw [if_neg hpl, if_neg hpl]
            omega
        rw [e7_110_44 W, Option.bind_some, e7_110_42 W, Option.bind_some, r140 W hq, Option.bind_some, f _ (by omega), y2, hmin, s142 W hq, Option.bind_some, Option.bind_some, r142 W hq, Option.bind_some, wr_at, e7_110_43 W, Option.bind_some, r141 W hq, Option.bind_some, wr_ne (by omega), f _ (by omega), y3, nI_mul, nI_add, nI_1]
        rfl
      have inner : ∀ mm2 q2 fuel2, q2 + mm2 = q → mm2 < fuel2 → fX7_serve_b54 s (a + 110) (fX7_serve_b112 s (a + 110) (fX7_serve_b4 s (a + 110) u)) fuel2 (nI (wthS PL HO CU EA T P q)) (nI q) (nI ((if PL q < P then T (PL q) (HO q) else 0) - hadS PL HO (SV PL HO CU T P) (PL q) (HO q) q2)) (nI q2) J = fX7_serve_b4 s (a + 110) u (nI (wthS PL HO CU EA T P (q + 1))) (nI (q + 1)) (wr J (a + 142) q (nI (SV PL HO CU T P q))) := by
        intro mm2
        induction mm2 with
        | zero =>
          intro q2 fuel2 g1 g2
          obtain ⟨u2, rfl⟩ : ∃ u2, fuel2 = u2 + 1 := ⟨fuel2 - 1, by omega⟩
          obtain rfl : q2 = q := g1
          rw [fX7_serve_b54, if_pos (nI_le (Nat.le_refl _) (by omega))]
          exact fin
        | succ mm2 ih2 =>
          intro q2 fuel2 g1 g2
          obtain ⟨u2, rfl⟩ : ∃ u2, fuel2 = u2 + 1 := ⟨fuel2 - 1, by omega⟩
          have hq2 : q2 < 10 := by omega
          obtain ⟨⟨p0, p1⟩, ⟨p2, p3⟩, -⟩ := x3 q2 (by omega)
          have go := ih2 (q2 + 1) u2 (by omega) (by omega)
          have hs1 : hadS PL HO (SV PL HO CU T P) (PL q) (HO q) (q2 + 1) = hadS PL HO (SV PL HO CU T P) (PL q) (HO q) q2 + (if PL q2 = PL q ∧ HO q2 = HO q then SV PL HO CU T P q2 else 0) := rfl
          have hmo := hadS_mono (PL := PL) (HO := HO) (sv := SV PL HO CU T P) (pl := PL q) (ho := HO q) (q2 + 1) q (by omega)
          rw [fX7_serve_b54, if_neg (nI_ge (by omega) (by omega))]
          simp only [e7_110_40 W, e7_110_41 W, e7_110_44 W, Option.bind_some, r138 W (j := q2) hq2, r138 W (j := q) hq, r139 W (j := q2) hq2, r139 W (j := q) hq, r142 W (j := q2) hq2, f (a + 138) (by omega), f (a + 139) (by omega), p0, p2, y0, y1, v q2 (by omega), sub0]
          by_cases hpl : PL q2 = PL q
          · rw [if_pos (by rw [hpl])]
            by_cases hho : HO q2 = HO q
            · have hs2 : hadS PL HO (SV PL HO CU T P) (PL q) (HO q) (q2 + 1) = hadS PL HO (SV PL HO CU T P) (PL q) (HO q) q2 + SV PL HO CU T P q2 := by rw [hs1, if_pos ⟨hpl, hho⟩]
              rw [if_pos (by rw [hho]), nI_sub (by omega), nI_1, show (if PL q < P then T (PL q) (HO q) else 0) - hadS PL HO (SV PL HO CU T P) (PL q) (HO q) q2 - SV PL HO CU T P q2 = (if PL q < P then T (PL q) (HO q) else 0) - hadS PL HO (SV PL HO CU T P) (PL q) (HO q) (q2 + 1) by rw [hs2]; omega]
              exact go
            · rw [if_neg (fun h => hho ((nI_eq (by omega) (by omega)).mp h)), nI_1, show hadS PL HO (SV PL HO CU T P) (PL q) (HO q) q2 = hadS PL HO (SV PL HO CU T P) (PL q) (HO q) (q2 + 1) by rw [hs1, if_neg (fun h => hho h.2)]; rfl]
              exact go
          · rw [if_neg (fun h => hpl ((nI_eq (by omega) (by omega)).mp h)), nI_1, show hadS PL HO (SV PL HO CU T P) (PL q) (HO q) q2 = hadS PL HO (SV PL HO CU T P) (PL q) (HO q) (q2 + 1) by rw [hs1, if_neg (fun h => hpl h.1)]; rfl]
            exact go
      have run := inner q 0 1000 (by omega) (by omega)
      obtain ⟨I1, e1, f1, v1⟩ := ih (q + 1) u (wr J (a + 142) q (nI (SV PL HO CU T P q))) (by omega) (by omega) (fun x hx => by rw [wr_ne hx, f x hx]) (fun w hw => by
        by_cases hwq : w = q
        · subst hwq
          exact wr_at
        · rw [wr_nj hwq]
          exact v w (by omega))
      refine ⟨I1, ?_, f1, v1⟩
      rw [fX7_serve_b4, i7_110_39 W, Option.bind_some, f (a + 110) (by omega), x1, if_neg (nI_ge hqN (by omega))]
      simp only [e7_110_40 W, e7_110_41 W, e7_110_35 W, Option.bind_some, r138 W (j := q) hq, r139 W (j := q) hq, f (a + 138) (by omega), f (a + 139) (by omega), y0, y1, i7_110_0 W, f (a + 110) (by omega), hP0, ix48]
      have h00 : hadS PL HO (SV PL HO CU T P) (PL q) (HO q) 0 = 0 := rfl
      rw [h00, Nat.sub_zero] at run
      by_cases hpl : PL q < P
      · obtain ⟨g1, g2⟩ := hT (PL q) (HO q) hpl (by omega)
        rw [if_neg (nI_ge hpl (by omega)), r134 W (j := 48 * PL q + HO q) (by omega), Option.bind_some, f _ (by omega), g1]
        rw [if_pos hpl] at run
        exact run.trans e1
      · rw [if_pos (nI_le (by omega) (by omega))]
        rw [if_neg hpl] at run
        exact run.trans e1
  exact key N 0 1000 I (by omega) (by omega) (fun _ _ => rfl) (fun w hw => absurd hw (by omega))
theorem takS_le (B : GB G m) {p h : Nat} (hp : p < 5) : takS P G m p h ≤ 248 := by
  have h1 := comS_le B hp (inS P G m p) h
  have h2 := hdS_le (P := P) B hp (comS G p (inS P G m p)) h
  have h3 : takS P G m p h ≤ comS G p (inS P G m p) h + hdS P G p (comS G p (inS P G m p)) h := tkS_le (P := P) B hp
  omega
theorem runC (W : WW s a w1 w2) (B : GB G m) (hP : 1 ≤ P) (hP5 : P ≤ 5) {N : Nat} {PL HO CU EA : Nat → Nat} {q : Nat} (hq : q ≤ P) (X : WI I a N PL HO CU EA) (C : CI I a P G m) (hO : CO I a P G m q) : ∃ J, fX5_again s (a + 50) (nI q) I = some (nI (wthS PL HO CU EA (takS P G m) P N), J) ∧ (∀ x, ¬ (a + 64 ≤ x ∧ x ≤ a + 93) → J x = I x) ∧ CO J a P G m P ∧ ∀ w, w < N → J (a + 93) w = nI (SV PL HO CU (takS P G m) P w) := by
  obtain ⟨J1, e1, f1, O1⟩ := againC W B hP hP5 (fX5_again_b53 s (a + 50)) (5 - q) q 1000 I (by omega) (by omega) hq C hO
  have X1 : WI J1 a N PL HO CU EA := X.kept (fun x hx => f1 x (by unfold flowCells; omega))
  have C1' : CI J1 a P G m := C.kept (fun x hx => f1 x (by unfold flowCells; omega))
  obtain ⟨J2, e2, f2, v2⟩ := serveC W (T := takS P G m) C1'.1 hP5 X1 (fun p h hp hh => ⟨(O1 p h hp hh).2.1, by have := takS_le (P := P) B (p := p) (h := h) (by omega); omega⟩)
  refine ⟨J2, ?_, fun x hx => ?_, fun p h hp hh => ?_, v2⟩
  · unfold fX5_again
    rw [e1]
    unfold fX5_again_b53
    rw [e2, b2_some]
  · rw [f2 x (by omega), f1 x (by unfold flowCells; omega)]
  · rw [f2 _ (by omega), f2 _ (by omega), f2 _ (by omega), f2 _ (by omega), f2 _ (by omega)]
    exact O1 p h hp hh
theorem CO0 : CO I a P G m 0 := fun p h hp _ => absurd hp (by omega)
theorem runM (W : WW s a w1 w2) (B : GB G m) (hP : 1 ≤ P) (hP5 : P ≤ 5) {N : Nat} {PL HO CU EA : Nat → Nat} (X : MW I a N PL HO CU EA) (C : MI I a P G m) : ∃ J, fX7_worthNow s (a + 110) I = some (nI (wthS PL HO CU EA (takS P G m) P N), J) ∧ (∀ x, ¬ (goCells a x ∨ x = a + 142) → J x = I x) ∧ MO J a P G m ∧ ∀ w, w < N → J (a + 142) w = nI (SV PL HO CU (takS P G m) P w) := by
  obtain ⟨J1, e1, f1, O1⟩ := goM W C B hP hP5
  have X1 : MW J1 a N PL HO CU EA := X.kept (fun x hx => f1 x (by unfold goCells; omega))
  have C1' : MI J1 a P G m := C.kept (fun x hx => f1 x (by unfold goCells; omega))
  obtain ⟨J2, e2, f2, v2⟩ := serveM W (T := takS P G m) C1'.1 hP5 X1 (fun p h hp hh => ⟨(O1 p h hp hh).2.1, by have := takS_le (P := P) B (p := p) (h := h) (by omega); omega⟩)
  refine ⟨J2, ?_, fun x hx => ?_, fun p h hp hh => ?_, v2⟩
  · unfold fX7_worthNow
    rw [e1, Option.bind_some, e2, b2_some]
  · rw [f2 x (fun h => hx (Or.inr h)), f1 x (fun h => hx (Or.inl h))]
  · rw [f2 _ (by omega), f2 _ (by omega), f2 _ (by omega), f2 _ (by omega), f2 _ (by omega)]
    exact O1 p h hp hh
/-- the state's numbers -/
def stG (I : IH) (a w1 : Nat) : Nat → Nat → Nat := fun i p => if i < 4 then nv (I (w1 + 2 + i) p) else nv (I (a + 12 + p) (i - 4))
def stM (I : IH) (a w1 : Nat) : Nat → Nat := fun h => mlt I a w1 h (if h < 24 then skyN I a 0 else skyN I a 1)
def stP (I : IH) (a : Nat) : Nat := nv (I (a + 1) 0)
def stN (I : IH) (a : Nat) : Nat := nv (I (a + 1) 5)
def stW (I : IH) (a i : Nat) : Nat → Nat := fun w => nv (I (a + 18 + w) i)
def stWorth (I : IH) (a : Nat) (G : Nat → Nat → Nat) (m : Nat → Nat) : Nat := wthS (stW I a 0) (stW I a 1) (stW I a 2) (stW I a 3) (takS (stP I a) G m) (stP I a) (stN I a)
theorem stP_y (R : Rel s I L n a w1 w2) : I (a + 1) 0 = nI (stP I a) ∧ 1 ≤ stP I a ∧ stP I a ≤ 5 ∧ I (a + 110) 0 = nI (stP I a) := by
  obtain ⟨h1, h2, h3, h4⟩ := R.2.2.1.1
  exact ⟨h2, h3, h4, by rw [h1]; exact h2⟩
theorem stG_y (R : Rel s I L n a w1 w2) : (∀ q p, q < 4 → p < 5 → I (w1 + 2 + q) p = nI (stG I a w1 q p)) ∧ ∀ p i, p < 5 → i < 3 → I (a + 12 + p) i = nI (stG I a w1 (4 + i) p) := by
  constructor
  · intro q p hq hp
    obtain ⟨g0, g1, g2, g3⟩ := R.2.2.2.2.1.2.1.way hp
    unfold stG
    rw [if_pos hq]
    obtain rfl | rfl | rfl | rfl : q = 0 ∨ q = 1 ∨ q = 2 ∨ q = 3 := by omega
    · exact g0.1
    · exact g1.1
    · exact g2.1
    · exact g3.1
  · intro p i hp hi
    obtain ⟨-, -, -, h0, h1, h2⟩ := R.2.2.1.2.2.2.1 p hp
    unfold stG
    rw [if_neg (by omega), show 4 + i - 4 = i by omega]
    obtain rfl | rfl | rfl : i = 0 ∨ i = 1 ∨ i = 2 := by omega
    · exact h0.1
    · exact h1.1
    · exact h2.1
theorem stB (R : Rel s I L n a w1 w2) : (∀ p, p < 5 → stG I a w1 0 p ≤ 20 ∧ stG I a w1 1 p ≤ 99 ∧ stG I a w1 2 p ≤ 99 ∧ stG I a w1 3 p ≤ 99 ∧ stG I a w1 4 p ≤ 6 ∧ stG I a w1 5 p ≤ 10 ∧ stG I a w1 6 p ≤ 16777215) ∧ ∀ k1 k2 h, k1 < 3 → k2 < 3 → h < 48 → mlt I a w1 h (if h < 24 then k1 else k2) ≤ 1188 := by
  constructor
  · intro p hp
    obtain ⟨g0, g1, g2, g3⟩ := R.2.2.2.2.1.2.1.way hp
    obtain ⟨-, -, -, h0, h1, h2⟩ := R.2.2.1.2.2.2.1 p hp
    exact ⟨g0.2.2, g1.2.2, g2.2.2, g3.2.2, h0.2.2, h1.2.2, h2.2.2⟩
  · intro k1 k2 h hk1 hk2 hh
    exact mlt_le R.2.2.1 R.2.2.2.2.1.2.1 hh (by split <;> assumption)
theorem stGB (R : Rel s I L n a w1 w2) : GB (stG I a w1) (stM I a w1) := by
  obtain ⟨b1, b2'⟩ := stB R
  refine ⟨fun p hp => ?_, fun h hh => ?_⟩
  · obtain ⟨g0, g1, g2, g3, g4, g5, g6⟩ := b1 p hp
    exact ⟨by omega, g1, g2, by omega, g4, g5, g6⟩
  · have := b2' _ _ h (skyC R.2.2.1 (d := 0) (by omega)).2.2 (skyC R.2.2.1 (d := 1) (by omega)).2.2 hh
    show mlt I a w1 h _ ≤ 1189
    omega
theorem stX (R : Rel s I L n a w1 w2) : WI I a (stN I a) (stW I a 0) (stW I a 1) (stW I a 2) (stW I a 3) ∧ MW I a (stN I a) (stW I a 0) (stW I a 1) (stW I a 2) (stW I a 3) := by
  obtain ⟨h1, h2⟩ := R.2.2.1.2.2.2.2.1
  have h6 := R.2.2.1.2.2.2.2.2.1
  refine ⟨⟨h2.1, h2.2.2, fun w hw => ?_⟩, ⟨by rw [h1]; exact h2.1, h2.2.2, fun w hw => ?_⟩⟩
  · obtain ⟨-, -, -, -, g1, g2, g3, g4⟩ := h6 w (by have := h2.2.2; unfold stN at hw; omega) hw
    exact ⟨⟨g1.1, g1.2.2⟩, ⟨g2.1, g2.2.2⟩, ⟨g3.1, g3.2.2⟩, g4.1, g4.2.2⟩
  · obtain ⟨q1, q2, q3, q4, g1, g2, g3, g4⟩ := h6 w (by have := h2.2.2; unfold stN at hw; omega) hw
    exact ⟨⟨q1.trans g1.1, g1.2.2⟩, ⟨q2.trans g2.1, g2.2.2⟩, ⟨q3.trans g3.1, g3.2.2⟩, q4.trans g4.1, g4.2.2⟩
/-- the class loads and melts: its copy is the state's -/
theorem loadY (R : Rel s I L n a w1 w2) (J : IH) (fr : ∀ x, ¬ scr1 a x → J x = I x) : ∃ J1, fX5_load s (a + 50) J = some J1 ∧ (∀ x, ¬ ((a + 53 ≤ x ∧ x < a + 57) ∨ (a + 58 ≤ x ∧ x < a + 63)) → J1 x = J x) ∧ (∀ q p, q < 4 → p < 5 → J1 (a + 53 + q) p = nI (stG I a w1 q p)) ∧ ∀ p i, p < 5 → i < 3 → J1 (a + 58 + p) i = nI (stG I a w1 (4 + i) p) := by
  have ho := R.2.1.2.1.1
  obtain ⟨J1, e1, f1, v1, u1⟩ := loadC R.1 ho J
  obtain ⟨g1, g2⟩ := stG_y R
  refine ⟨J1, e1, f1, fun q p hq hp => ?_, fun p i hp hi => ?_⟩
  · rw [v1 q p hq hp, fr _ (by unfold scr1; omega)]
    exact g1 q p hq hp
  · rw [u1 p i hp hi, fr _ (by unfold scr1; omega)]
    exact g2 p i hp hi
theorem meltY (R : Rel s I L n a w1 w2) {k1 k2 : Nat} (hk1 : k1 < 3) (hk2 : k2 < 3) (J : IH) (fr : ∀ x, ¬ scr1 a x → J x = I x) : ∃ J1, fX5_meltUnder s (a + 50) (nI k1) (nI k2) J = some J1 ∧ (∀ x, x ≠ a + 51 → J1 x = J x) ∧ ∀ h, h < 48 → J1 (a + 51) h = nI (mlt I a w1 h (if h < 24 then k1 else k2)) := by
  have ho := R.2.1.2.1.1
  exact underC R.1 R.2.2.1 R.2.2.2.2.1.2.1 ho hk1 hk2 J (fun x hx => fr x (by unfold scr1; omega))
theorem settleY (R : Rel s I L n a w1 w2) (J : IH) (fr : ∀ x, ¬ scr1 a x → J x = I x) : ∃ J1, fX5_settle s (a + 50) J = some (nI (stWorth I a (stG I a w1) (stM I a w1)), J1) ∧ (∀ x, ¬ (a + 51 ≤ x ∧ x ≤ a + 93) → J1 x = J x) ∧ CI J1 a (stP I a) (stG I a w1) (stM I a w1) ∧ CO J1 a (stP I a) (stG I a w1) (stM I a w1) (stP I a) ∧ ∀ w, w < stN I a → J1 (a + 93) w = nI (SV (stW I a 0) (stW I a 1) (stW I a 2) (takS (stP I a) (stG I a w1) (stM I a w1)) (stP I a) w) := by
  have W := R.1
  obtain ⟨p1, p2, p3, -⟩ := stP_y R
  obtain ⟨J1, e1, f1, v1, u1⟩ := loadY R J fr
  have fr1 : ∀ x, ¬ scr1 a x → J1 x = I x := fun x hx => by rw [f1 x (by unfold scr1 at hx; omega), fr x hx]
  obtain ⟨k01, -, k02⟩ := skyC R.2.2.1 (d := 0) (by omega)
  obtain ⟨k11, -, k12⟩ := skyC R.2.2.1 (d := 1) (by omega)
  obtain ⟨J2, e2, f2, v2⟩ := meltY R k02 k12 J1 fr1
  have fr2 : ∀ x, ¬ scr1 a x → J2 x = I x := fun x hx => by rw [f2 x (by unfold scr1 at hx; omega), fr1 x hx]
  have C : CI J2 a (stP I a) (stG I a w1) (stM I a w1) := ⟨by rw [fr2 _ (by unfold scr1; omega)]; exact p1, fun q p hq hp => by rw [f2 _ (by omega)]; exact v1 q p hq hp, fun p i hp hi => by rw [f2 _ (by omega)]; exact u1 p i hp hi, v2⟩
  have X := (stX R).1.kept (I1 := J2) (fun x hx => fr2 x (by unfold scr1; omega))
  obtain ⟨J3, e3, f3, O3, s3⟩ := runC (q := 0) W (stGB R) p2 p3 (Nat.zero_le _) X C CO0
  refine ⟨J3, ?_, fun x hx => ?_, C.kept (fun x hx => f3 x (by omega)), O3, s3⟩
  · have z0 : aI s J1 0 (a + 9) 0 = some (nI (skyN I a 0)) := (r9 W (j := 0) (by omega)).trans (by rw [fr1 _ (by unfold scr1; omega), k01])
    have z1 : aI s J1 0 (a + 9) 1 = some (nI (skyN I a 1)) := (r9 W (j := 1) (by omega)).trans (by rw [fr1 _ (by unfold scr1; omega), k11])
    unfold fX5_settle
    rw [e1, Option.bind_some, e5_50_0 W, Option.bind_some, e2_1_1 W, Option.bind_some, z0, Option.bind_some, Option.bind_some, e2_1_1 W, Option.bind_some, z1, Option.bind_some, e2, Option.bind_some]
    exact b2_eq e3 rfl
  · rw [f3 x (by omega), f2 x (by omega), f1 x (by omega)]
/-- the reference's copy is the state's -/
theorem asIsY (R : Rel s I L n a w1 w2) (J : IH) (fr : ∀ x, ¬ scr1 a x → J x = I x) : ∃ J1, fX7_asIs s (a + 110) J = some J1 ∧ (∀ x, ¬ (x = a + 124 ∨ (a + 126 ≤ x ∧ x ≤ a + 132)) → J1 x = J x) ∧ MI J1 a (stP I a) (stG I a w1) (stM I a w1) ∧ MW J1 a (stN I a) (stW I a 0) (stW I a 1) (stW I a 2) (stW I a 3) := by
  obtain ⟨J1, e1, f1, v1, u1⟩ := asIsM R.1 R.2.2.1 R.2.2.2.2.1.2.1 R.2.1.2.1.1 J fr
  have fr1 : ∀ x, ¬ scr1 a x → J1 x = I x := fun x hx => by rw [f1 x (by unfold scr1 at hx; omega), fr x hx]
  obtain ⟨g1, g2⟩ := stG_y R
  refine ⟨J1, e1, f1, ⟨by rw [fr1 _ (by unfold scr1; omega)]; exact (stP_y R).2.2.2, v1, fun p hp => ?_⟩, (stX R).2.kept (fun x hx => fr1 x (by unfold scr1; omega))⟩
  obtain ⟨y0, y1, y2, y3, y4, y6⟩ := u1 p hp
  refine ⟨y0.trans (g1 0 p (by omega) hp), y1.trans (g1 1 p (by omega) hp), y2.trans (g1 2 p (by omega) hp), y3.trans (g1 3 p (by omega) hp), y4.trans (g2 p 0 hp (by omega)), ?_, y6.trans (g2 p 2 hp (by omega))⟩
  rw [fr1 _ (by unfold scr1; omega), (R.2.2.1.2.2.2.1 p hp).2.1]
  exact g2 p 1 hp (by omega)
theorem scrC {J : IH} (f : ∀ x, ¬ (a + 51 ≤ x ∧ x ≤ a + 93) → J x = I x) : ∀ x, ¬ scr1 a x → J x = I x := fun x hx => f x (by unfold scr1 at hx; omega)
theorem m_worth (R : Rel s I L n a w1 w2) : M2 s L n a w1 w2 (fX6_worth s a I) (fun I1 => fX7_worth s (a + 110) I1) := by
  have W := R.1
  obtain ⟨p1, p2, p3, -⟩ := stP_y R
  obtain ⟨J1, e1, f1, -⟩ := settleY R I (fun _ _ => rfl)
  obtain ⟨J2, e2, f2, C2', X2⟩ := asIsY R J1 (scrC f1)
  obtain ⟨J3, e3, f3, -⟩ := runM W (stGB R) p2 p3 X2 C2'
  refine ⟨nI (stWorth I a (stG I a w1) (stM I a w1)), J1, J3, ?_, ?_, R.kept (fun x _ hx => ?_)⟩
  · unfold fX6_worth
    refine bs_eq (e6_0_3 W) ?_
    refine bs_eq (c5_50 W) ?_
    exact b2_eq e1 rfl
  · show fX7_worth s (a + 110) J1 = _
    unfold fX7_worth
    refine bs_eq e2 ?_
    exact b2_eq e3 rfl
  · unfold scr1 at hx
    rw [f3 x (by unfold goCells; omega), f2 x (by omega), f1 x (by omega)]
end WORTH
