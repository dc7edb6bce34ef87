/-! LAYER 2: mean -/
theorem gcdC {H : Nat} (hH : H < 2 ^ 31) : fX6_divisorWithHundred (nI H) = some (nI (Nat.gcd H 100)) := by
  have hg : 0 < Nat.gcd H 100 := Nat.gcd_pos_of_pos_right _ (by omega)
  have hg100 : Nat.gcd H 100 ≤ 100 := Nat.le_of_dvd (by omega) (Nat.gcd_dvd_right H 100)
  have key : ∀ mm d fuel, d = Nat.gcd H 100 + mm → mm < fuel → d ≤ 100 → fX6_divisorWithHundred_b3 fuel (nI H) (nI d) = some (nI (Nat.gcd H 100)) := by
    intro mm
    induction mm with
    | zero =>
      intro d fuel h1 h2 h3
      obtain ⟨u, rfl⟩ : ∃ u, fuel = u + 1 := ⟨fuel - 1, by omega⟩
      obtain rfl : d = Nat.gcd H 100 := h1
      rw [fX6_divisorWithHundred_b3]
      by_cases h4 : Nat.gcd H 100 ≤ 1
      · rw [if_pos (show nI (Nat.gcd H 100) ≤ 1 from nI_le (b := 1) h4 (by omega)), show Nat.gcd H 100 = 1 by omega]
        rfl
      · have r1 : rmI 100 (nI (Nat.gcd H 100)) = some (nI (100 % Nat.gcd H 100)) := by
          unfold rmI
          rw [if_neg (nI_ne0 hg (by omega)), show (100 : Int32) - 100 / nI (Nat.gcd H 100) * nI (Nat.gcd H 100) = nI (100 % Nat.gcd H 100) from mod_nI (x := 100) (by omega) hg (by omega)]
        have r2 : rmI (nI H) (nI (Nat.gcd H 100)) = some (nI (H % Nat.gcd H 100)) := by
          unfold rmI
          rw [if_neg (nI_ne0 hg (by omega)), mod_nI hH hg (by omega)]
        rw [if_neg (show ¬ nI (Nat.gcd H 100) ≤ 1 from nI_ge (a := 1) (by omega) (by omega)), r1, Option.bind_some, Nat.mod_eq_zero_of_dvd (Nat.gcd_dvd_right H 100), if_pos (show nI 0 = 0 from rfl), r2, Option.bind_some, Nat.mod_eq_zero_of_dvd (Nat.gcd_dvd_left H 100), if_pos (show nI 0 = 0 from rfl)]
    | succ mm ih =>
      intro d fuel h1 h2 h3
      obtain ⟨u, rfl⟩ : ∃ u, fuel = u + 1 := ⟨fuel - 1, by omega⟩
      have hd : 0 < d := by omega
      have r1 : rmI 100 (nI d) = some (nI (100 % d)) := by
        unfold rmI
        rw [if_neg (nI_ne0 hd (by omega)), show (100 : Int32) - 100 / nI d * nI d = nI (100 % d) from mod_nI (x := 100) (by omega) hd (by omega)]
      have r2 : rmI (nI H) (nI d) = some (nI (H % d)) := by
        unfold rmI
        rw [if_neg (nI_ne0 hd (by omega)), mod_nI hH hd (by omega)]
      have go := ih (d - 1) u (by omega) (by omega) (by omega)
      have hdn : nI d + (-1) = nI (d - 1) := by rw [down, show nI d - 1 = nI (d - 1) from nI_sub (j := 1) (by omega)]
      have l1 : 100 % d < d := Nat.mod_lt _ hd
      have l2 : H % d < d := Nat.mod_lt _ hd
      rw [fX6_divisorWithHundred_b3, if_neg (show ¬ nI d ≤ 1 from nI_ge (a := 1) (by omega) (by omega)), r1, Option.bind_some, hdn]
      by_cases c1 : 100 % d = 0
      · rw [if_pos (by rw [c1]; rfl), r2, Option.bind_some]
        by_cases c2 : H % d = 0
        · exfalso
          have := Nat.le_of_dvd hg (Nat.dvd_gcd (Nat.dvd_of_mod_eq_zero c2) (Nat.dvd_of_mod_eq_zero c1))
          omega
        · rw [if_neg (nI_ne0 (by omega) (by omega))]
          exact go
      · rw [if_neg (nI_ne0 (by omega) (by omega))]
        exact go
  exact key (100 - Nat.gcd H 100) 100 1000 (by omega) (by omega) (by omega)
theorem gcdM (b : Nat) : ∀ fuel p q, q < fuel → p < 2 ^ 31 → q < 2 ^ 31 → fX7_divisor_b6 b fuel (lN p) (lN q) = some (lN (Nat.gcd p q)) := by
  intro fuel
  induction fuel with
  | zero =>
    intro p q h
    omega
  | succ u ih =>
    intro p q h hp hq
    rw [fX7_divisor_b6]
    by_cases h0 : q = 0
    · subst h0
      rw [if_pos (show lg_cmp (lN 0) 0 = 0 from (lg_cmp_eq _ _).mpr rfl), Nat.gcd_zero_right]
    · have hne : ¬ lg_cmp (lN q) 0 = 0 := fun h9 => h0 ((lN_eq (b := 0) hq (by omega)).mp ((lg_cmp_eq _ _).mp h9))
      have hr : rmL (lN p) (lN q) = some (lN (p % q)) := by
        unfold rmL
        rw [if_neg (show ¬ lN q = 0 from fun h9 => h0 ((lN_eq (b := 0) hq (by omega)).mp h9)), pk_lRem (by omega) (by omega) (by omega)]
      have hm : p % q < q := Nat.mod_lt _ (by omega)
      rw [if_neg hne, hr, Option.bind_some, ih q (p % q) (by omega) hq (by omega), Nat.gcd_comm p q, Nat.gcd_rec q p]
      rw [Nat.gcd_comm]
section MEAN
variable {s : SH} {I : IH} {L : LH} {n a w1 w2 w P : Nat} {G : Nat → Nat → Nat} {m : Nat → Nat}
/-- both answer alike (longs), and the relation holds behind them -/
def M2J (s : SH) (L : LH) (n a w1 w2 : Nat) (c : Option (Int64 × IH)) (m : IH → Option (Int64 × IH)) : Prop := ∃ x I1 I2, c = some (x, I1) ∧ m I1 = some (x, I2) ∧ Rel s I2 L n a w1 w2
def CIx (I : IH) (a P : Nat) (G : Nat → Nat → Nat) : Prop := I (a + 1) 0 = nI P ∧ (∀ q p, q < 4 → p < 5 → I (a + 53 + q) p = nI (G q p)) ∧ ∀ p i, p < 5 → i < 3 → I (a + 58 + p) i = nI (G (4 + i) p)
def mAB (I : IH) (a w1 k1 k2 : Nat) : Nat → Nat := fun h => mlt I a w1 h (if h < 24 then k1 else k2)
def stO (I : IH) (a k : Nat) : Nat := nv (I (a + 10) k)
/-- what one pair of skies adds -/
def valS (I : IH) (a : Nat) (G : Nat → Nat → Nat) (what : Nat) (m : Nat → Nat) : Nat := if what = 0 then stWorth I a G m else if sumF (fun p => sumF (fldS (stP I a) G m p) 48) (stP I a) = 0 then 1 else 0
def gAB (I : IH) (a w1 what : Nat) (t : Nat) : Nat := stO I a (t / 3) * stO I a (t % 3) * valS I a (stG I a w1) what (mAB I a w1 (t / 3) (t % 3))
theorem stO_y (R : Rel s I L n a w1 w2) : (∀ k, k < 3 → I (a + 10) k = nI (stO I a k) ∧ stO I a k ≤ 10) ∧ ∀ J : IH, J (a + 110) = I (a + 110) → ∀ k, k < 3 → fX7_oddsOf s J (a + 110) (nI k) = some (nI (stO I a k)) := by
  have W := R.1
  obtain ⟨h1, h2, A, B, hAB, hA, hB, hC⟩ := R.2.2.1.2.2.1
  replace hA : I (a + 10) 0 = nI A := hA
  replace hB : I (a + 10) 1 = nI B := hB
  replace hC : I (a + 10) 2 = nI (10 - A - B) := hC
  replace h1 : I (a + 110) 1 = nI A := h1.trans hA
  replace h2 : I (a + 110) 2 = nI B := h2.trans hB
  have oA : stO I a 0 = A := by unfold stO; rw [hA, nv_nI (by omega)]
  have oB : stO I a 1 = B := by unfold stO; rw [hB, nv_nI (by omega)]
  have oC : stO I a 2 = 10 - A - B := by unfold stO; rw [hC, nv_nI (by omega)]
  constructor
  · intro k hk
    obtain rfl | rfl | rfl : k = 0 ∨ k = 1 ∨ k = 2 := by omega
    · rw [oA]; exact ⟨hA, by omega⟩
    · rw [oB]; exact ⟨hB, by omega⟩
    · rw [oC]; exact ⟨hC, by omega⟩
  · intro J hJ k hk
    unfold fX7_oddsOf
    rw [i7_110_1 W, i7_110_2 W, hJ, h1, h2]
    obtain rfl | rfl | rfl : k = 0 ∨ k = 1 ∨ k = 2 := by omega
    · rw [if_pos (show nI 0 = 0 from rfl), oA, Option.bind_some]
    · rw [if_neg (show ¬ nI 1 = 0 by decide), if_pos (show nI 1 = 1 from rfl), oB, Option.bind_some]
    · rw [if_neg (show ¬ nI 2 = 0 by decide), if_neg (show ¬ nI 2 = 1 by decide), oC, Option.bind_some, Option.bind_some, show (10 : Int32) - nI A = nI (10 - A) from nI_sub (k := 10) (by omega), nI_sub (by omega)]
theorem gAB_le (R : Rel s I L n a w1 w2) {what t : Nat} (ht : t < 9) : gAB I a w1 what t ≤ 270000 := by
  have o1 := ((stO_y R).1 (t / 3) (by omega)).2
  have o2 := ((stO_y R).1 (t % 3) (by omega)).2
  have hv : valS I a (stG I a w1) what (mAB I a w1 (t / 3) (t % 3)) ≤ 2700 := by
    unfold valS
    have := stW_le R (G := stG I a w1) (m := mAB I a w1 (t / 3) (t % 3))
    split
    · exact this
    · split <;> omega
  have h1 : stO I a (t / 3) * stO I a (t % 3) ≤ 10 * 10 := Nat.mul_le_mul o1 o2
  have h2 : stO I a (t / 3) * stO I a (t % 3) * valS I a (stG I a w1) what (mAB I a w1 (t / 3) (t % 3)) ≤ 10 * 10 * 2700 := Nat.mul_le_mul h1 hv
  exact h2
theorem sumF_le {g : Nat → Nat} {B : Nat} : ∀ n, (∀ k, k < n → g k ≤ B) → sumF g n ≤ B * n
  | 0, _ => Nat.le_refl _
  | n + 1, h => by
    have h1 := sumF_le n (fun k hk => h k (by omega))
    have h2 := h n (by omega)
    show sumF g n + g n ≤ B * (n + 1)
    rw [Nat.mul_succ]
    omega
theorem mAB_GB (R : Rel s I L n a w1 w2) {k1 k2 : Nat} (h1 : k1 < 3) (h2 : k2 < 3) : GB (stG I a w1) (mAB I a w1 k1 k2) := ⟨(stGB R).1, fun h hh => by
  have := (stB R).2 k1 k2 h h1 h2 hh
  show mlt I a w1 h _ ≤ 1189
  omega⟩
theorem mul_nI0 {x y : Nat} (hx : x ≤ 10) (hy : y ≤ 10) : nI x * nI y = nI (x * y) ∧ x * y ≤ 100 := ⟨nI_mul x y, Nat.mul_le_mul hx hy⟩
theorem m_mean (R : Rel s I L n a w1 w2) (v1 v2 : Int32) : M2J s L n a w1 w2 (fX6_mean s a v1 v2 I) (fun I1 => fX7_mean s (a + 110) v1 v2 I1) := by
  have W := R.1
  obtain ⟨p1, p2, p3, p4⟩ := stP_y R
  have B := stGB R
  obtain ⟨oC, oM⟩ := stO_y R
  have S := R.2.2.1
  have V := R.2.2.2.2.1.2.1
  rcases under_cases v1 2 (by omega) (by omega) with ⟨q, hq, rfl⟩ | ⟨-, u1, u2⟩
  · rcases under_cases v2 2 (by omega) (by omega) with ⟨r, hr, rfl⟩ | ⟨-, u3, u4⟩
    · have hH : sumF (gAB I a w1 q) 9 ≤ 270000 * 9 := sumF_le 9 (fun k hk => gAB_le R hk)
      have q0 : nI q = 0 ↔ q = 0 := nI_eq (b := 0) (by omega) (by omega)
      -- one pair of skies, the class
      have under : ∀ (J : IH) (k1 k2 : Nat), k1 < 3 → k2 < 3 → (∀ x, ¬ (a + 51 ≤ x ∧ x ≤ a + 93) → J x = I x) → CIx J a (stP I a) (stG I a w1) → ∃ J', fX6_underSkies s a (nI k1) (nI k2) (nI q) J = some (nI (valS I a (stG I a w1) q (mAB I a w1 k1 k2)), J') ∧ (∀ x, ¬ (a + 51 ≤ x ∧ x ≤ a + 93) → J' x = I x) ∧ CI J' a (stP I a) (stG I a w1) (mAB I a w1 k1 k2) := by
        intro J k1 k2 hk1 hk2 f hC
        obtain ⟨c1, c2, c3⟩ := hC
        obtain ⟨J1, e1, f1, v1'⟩ := meltY R hk1 hk2 J (scrC f)
        have C1' : CI J1 a (stP I a) (stG I a w1) (mAB I a w1 k1 k2) := ⟨by rw [f1 _ (by omega)]; exact c1, fun q p hq hp => by rw [f1 _ (by omega)]; exact c2 q p hq hp, fun p i hp hi => by rw [f1 _ (by omega)]; exact c3 p i hp hi, v1'⟩
        have X1 := (stX R).1.kept (I1 := J1) (fun x hx => by rw [f1 x (by omega), f x (by omega)])
        obtain ⟨J2, e2, f2, O2, -⟩ := runC (q := 0) W (mAB_GB R hk1 hk2) p2 p3 (Nat.zero_le _) X1 C1' CO0
        have C2 := C1'.kept (I1 := J2) (fun x hx => f2 x (by omega))
        refine ⟨J2, ?_, fun x hx => by rw [f2 x (by omega), f1 x (by omega), f x hx], C2⟩
        have hr87 : ∀ p h, p < stP I a → h < 48 → aI s J2 0 (a + 87 + 1 + p) (nI h) = some (nI (fldS (stP I a) (stG I a w1) (mAB I a w1 k1 k2) p h)) := fun p h hp hh => (r87 W (by omega) hh).trans (by rw [show J2 (a + 87 + 1 + p) h = _ from (O2 p h hp hh).2.2.2.2])
        unfold fX6_underSkies
        rw [e6_0_3 W, Option.bind_some, c5_50 W, Option.bind_some, e1, Option.bind_some, Option.bind_some, c5_50 W, Option.bind_some, show fX5_again s (a + 50) 0 J1 = _ from e2, b2_some]
        unfold valS
        by_cases hq0 : q = 0
        · rw [if_pos (q0.mpr hq0), if_pos hq0]
          rfl
        · rw [if_neg (fun h => hq0 (q0.mp h)), if_neg hq0, Option.bind_some, Option.bind_some, e5_50_8 W, Option.bind_some, c5_50 W, Option.bind_some, inAllC W C2.1 p3 (fun p hp => ⟨a87 W hp, lr87 W hp⟩) hr87, Option.bind_some]
          have hb : sumF (fun p => sumF (fldS (stP I a) (stG I a w1) (mAB I a w1 k1 k2) p) 48) (stP I a) ≤ 1189 * 48 * stP I a := sumF_le _ (fun p hp => sumF_le 48 (fun h hh => by
            have := inS_le (P := stP I a) (mAB_GB R hk1 hk2) (p := p) (h := h) (by omega) hh
            unfold fldS
            omega))
          have hb2 : 1189 * 48 * stP I a ≤ 1189 * 48 * 5 := Nat.mul_le_mul_left _ p3
          by_cases hz : sumF (fun p => sumF (fldS (stP I a) (stG I a w1) (mAB I a w1 k1 k2) p) 48) (stP I a) = 0
          · rw [if_pos (by rw [hz]; rfl), if_pos hz]
            rfl
          · rw [if_neg (nI_ne0 (by omega) (by omega)), if_neg hz]
            rfl
      have hstep : ∀ k1 k2, k1 < 3 → k2 < 3 → sumF (gAB I a w1 q) (3 * k1 + k2 + 1) = sumF (gAB I a w1 q) (3 * k1 + k2) + stO I a k1 * stO I a k2 * valS I a (stG I a w1) q (mAB I a w1 k1 k2) := fun k1 k2 h1 h2 => by
        show _ + gAB I a w1 q (3 * k1 + k2) = _
        unfold gAB
        rw [show (3 * k1 + k2) / 3 = k1 by omega, show (3 * k1 + k2) % 3 = k2 by omega]
      have cin : ∀ (K : Int32 → Int32 → Int32 → Int32 → IH → Option (Int64 × IH)) (k1 : Nat), k1 < 3 → ∀ mm k2 fuel (J : IH), k2 + mm = 3 → mm < fuel → (∀ x, ¬ (a + 51 ≤ x ∧ x ≤ a + 93) → J x = I x) → CIx J a (stP I a) (stG I a w1) → ∃ J', fX6_mean_b41 s a K fuel (nI q) (nI r) (nI (sumF (gAB I a w1 q) (3 * k1 + k2))) (nI k1) (nI k2) J = K (nI q) (nI r) (nI (sumF (gAB I a w1 q) (3 * (k1 + 1)))) (nI (k1 + 1)) J' ∧ (∀ x, ¬ (a + 51 ≤ x ∧ x ≤ a + 93) → J' x = I x) ∧ CIx J' a (stP I a) (stG I a w1) := by
        intro K k1 hk1 mm
        induction mm with
        | zero =>
          intro k2 fuel J t1 t2 f C
          obtain ⟨u, rfl⟩ : ∃ u, fuel = u + 1 := ⟨fuel - 1, by omega⟩
          obtain rfl : k2 = 3 := t1
          refine ⟨J, ?_, f, C⟩
          rw [fX6_mean_b41, if_pos (show (3 : Int32) ≤ nI 3 by decide), nI_1, show 3 * (k1 + 1) = 3 * k1 + 3 by omega]
        | succ mm ih =>
          intro k2 fuel J t1 t2 f C
          obtain ⟨u, rfl⟩ : ∃ u, fuel = u + 1 := ⟨fuel - 1, by omega⟩
          have hk2 : k2 < 3 := by omega
          obtain ⟨o1, l1⟩ := oC k1 hk1
          obtain ⟨o2, l2⟩ := oC k2 hk2
          obtain ⟨hmul, hm100⟩ := mul_nI0 l1 l2
          have hs := hstep k1 k2 hk1 hk2
          rw [fX6_mean_b41, if_neg (show ¬ (3 : Int32) ≤ nI k2 from nI_ge (b := 3) hk2 (by omega))]
          simp only [e6_0_0 W, e2_1_2 W, Option.bind_some, r10 W (j := k1) hk1, r10 W (j := k2) hk2, f (a + 10) (by omega), o1, o2, hmul, nI_1]
          by_cases hz : stO I a k1 * stO I a k2 = 0
          · obtain ⟨J', e', f', C'⟩ := ih (k2 + 1) u J (by omega) (by omega) f C
            refine ⟨J', ?_, f', C'⟩
            rw [if_pos (show nI (stO I a k1 * stO I a k2) ≤ 0 from nI_le (b := 0) (by omega) (by omega))]
            rw [← Nat.add_assoc, hs, hz, Nat.zero_mul, Nat.add_zero] at e'
            exact e'
          · obtain ⟨J1, e1, f1, C1'⟩ := under J k1 k2 hk1 hk2 f C
            obtain ⟨J', e', f', C'⟩ := ih (k2 + 1) u J1 (by omega) (by omega) f1 ⟨C1'.1, C1'.2.1, C1'.2.2.1⟩
            refine ⟨J', ?_, f', C'⟩
            rw [if_neg (nI_nle (by omega) (by omega)), e1, b2_some, nI_mul, nI_add, ← hs]
            rw [← Nat.add_assoc] at e'
            exact e'
      have cout : ∀ (K : Int32 → Int32 → IH → Option (Int64 × IH)) mm k1 fuel (J : IH), k1 + mm = 3 → mm < fuel → (∀ x, ¬ (a + 51 ≤ x ∧ x ≤ a + 93) → J x = I x) → CIx J a (stP I a) (stG I a w1) → ∃ J', fX6_mean_b32 s a K fuel (nI q) (nI r) (nI (sumF (gAB I a w1 q) (3 * k1))) (nI k1) J = K (nI r) (nI (sumF (gAB I a w1 q) 9)) J' ∧ ∀ x, ¬ (a + 51 ≤ x ∧ x ≤ a + 93) → J' x = I x := by
        intro K mm
        induction mm with
        | zero =>
          intro k1 fuel J t1 t2 f C
          obtain ⟨u, rfl⟩ : ∃ u, fuel = u + 1 := ⟨fuel - 1, by omega⟩
          obtain rfl : k1 = 3 := t1
          refine ⟨J, ?_, f⟩
          rw [fX6_mean_b32, if_pos (show (3 : Int32) ≤ nI 3 by decide)]
        | succ mm ih =>
          intro k1 fuel J t1 t2 f C
          obtain ⟨u, rfl⟩ : ∃ u, fuel = u + 1 := ⟨fuel - 1, by omega⟩
          obtain ⟨J1, e1, f1, C1'⟩ := cin (fX6_mean_b32 s a K u) k1 (by omega) 3 0 1000 J rfl (by omega) f C
          obtain ⟨J2, e2, f2⟩ := ih (k1 + 1) u J1 (by omega) (by omega) f1 C1'
          refine ⟨J2, ?_, f2⟩
          rw [fX6_mean_b32, if_neg (show ¬ (3 : Int32) ≤ nI k1 from nI_ge (b := 3) (by omega) (by omega))]
          rw [Nat.add_zero] at e1
          exact Eq.trans e1 e2
      -- the reference: melts under a pair of skies
      have mmelt : ∀ (K : Int32 → Int32 → Int64 → Int32 → Int32 → Int64 → IH → Option (Int64 × IH)) (z z7 : Int64) (k1 k2 : Nat), k1 < 3 → k2 < 3 → ∀ mm h fuel (J : IH) (m' : Nat → Nat), h + mm = 48 → mm < fuel → (∀ x, ¬ scr1 a x → J x = I x) → MI J a (stP I a) (stG I a w1) m' → (∀ x, x < h → m' x = mAB I a w1 k1 k2 x) → ∃ J', fX7_mean_b78 s (a + 110) K fuel (nI q) (nI r) z (nI k1) (nI k2) z7 (nI h) J = K (nI q) (nI r) z (nI k1) (nI k2) z7 J' ∧ (∀ x, ¬ scr1 a x → J' x = I x) ∧ MI J' a (stP I a) (stG I a w1) (mAB I a w1 k1 k2) := by
        intro K z z7 k1 k2 hk1 hk2 mm
        induction mm with
        | zero =>
          intro h fuel J m' t1 t2 f C g
          obtain ⟨u, rfl⟩ : ∃ u, fuel = u + 1 := ⟨fuel - 1, by omega⟩
          obtain rfl : h = 48 := t1
          refine ⟨J, ?_, f, C.1, fun x hx => by rw [← g x hx]; exact C.2.1 x hx, C.2.2⟩
          rw [fX7_mean_b78, if_pos (show (48 : Int32) ≤ nI 48 by decide)]
        | succ mm ih =>
          intro h fuel J m' t1 t2 f C g
          obtain ⟨u, rfl⟩ : ∃ u, fuel = u + 1 := ⟨fuel - 1, by omega⟩
          have hh : h < 48 := by omega
          have step : ∀ k, k < 3 → k = (if h < 24 then k1 else k2) → ∃ J', fX7_mean_b108 s (a + 110) (fX7_mean_b78 s (a + 110) K u) (nI q) (nI r) z (nI k1) (nI k2) z7 (nI h) (a + 126) (nI h) (nI h) (nI k) J = K (nI q) (nI r) z (nI k1) (nI k2) z7 J' ∧ (∀ x, ¬ scr1 a x → J' x = I x) ∧ MI J' a (stP I a) (stG I a w1) (mAB I a w1 k1 k2) := by
            intro k hk hkh
            obtain ⟨J1, e1, f1⟩ := meltM W S V hh hk J (fun x j hx => by rw [f x (by unfold scr1; omega)])
            have hval : mlt I a w1 h k = mAB I a w1 k1 k2 h := by
              rw [hkh]
              rfl
            obtain ⟨J', e', f', C'⟩ := ih (h + 1) u (wr J1 (a + 126) h (nI (mlt I a w1 h k))) (fun x => if x = h then mlt I a w1 h k else m' x) (by omega) (by omega) (fun x hx => by
              have hx' := hx
              unfold scr1 at hx'
              rw [wr_ne (by omega), ← f x hx]
              funext j
              exact f1 x j (by omega)) (by
              obtain ⟨c1, c2, c3⟩ := C
              refine ⟨by rw [wr_ne (by omega), f1 _ _ (by omega)]; exact c1, fun x hx => ?_, fun p hp => ?_⟩
              · show _ = nI (if x = h then _ else _)
                by_cases hxh : x = h
                · subst hxh
                  rw [wr_at, if_pos rfl]
                · rw [wr_nj hxh, if_neg hxh, f1 _ _ (by omega)]
                  exact c2 x hx
              · rw [wr_ne (by omega), wr_ne (by omega), wr_ne (by omega), wr_ne (by omega), wr_ne (by omega), wr_ne (by omega), wr_ne (by omega), f1 _ _ (by omega), f1 _ _ (by omega), f1 _ _ (by omega), f1 _ _ (by omega), f1 _ _ (by omega), f1 _ _ (by omega), f1 _ _ (by omega)]
                exact c3 p hp) (fun x hx => by
              show (if x = h then _ else _) = _
              by_cases hxh : x = h
              · subst hxh
                rw [if_pos rfl]
                exact hval
              · rw [if_neg hxh]
                exact g x (by omega))
            refine ⟨J', ?_, f', C'⟩
            unfold fX7_mean_b108
            rw [e1, b2_some, s126 W hh, Option.bind_some, nI_1]
            exact e'
          rw [fX7_mean_b78, if_neg (show ¬ (48 : Int32) ≤ nI h from nI_ge (b := 48) hh (by omega)), e7_110_27 W, Option.bind_some]
          by_cases h24 : h < 24
          · rw [if_neg (show ¬ (24 : Int32) ≤ nI h from nI_ge (b := 24) h24 (by omega))]
            exact step k1 hk1 (by rw [if_pos h24])
          · rw [if_pos (show (24 : Int32) ≤ nI h from nI_le (a := 24) (by omega) (by omega))]
            exact step k2 hk2 (by rw [if_neg h24])
      have min' : ∀ (K : Int32 → Int32 → Int64 → Int32 → IH → Option (Int64 × IH)) (k1 : Nat), k1 < 3 → ∀ mm k2 fuel (J : IH), k2 + mm = 3 → mm < fuel → (∀ x, ¬ scr1 a x → J x = I x) → (∃ m', MI J a (stP I a) (stG I a w1) m') → ∃ J', fX7_mean_b42 s (a + 110) K fuel (nI q) (nI r) (lN (sumF (gAB I a w1 q) (3 * k1 + k2))) (nI k1) (nI k2) J = K (nI q) (nI r) (lN (sumF (gAB I a w1 q) (3 * (k1 + 1)))) (nI (k1 + 1)) J' ∧ (∀ x, ¬ scr1 a x → J' x = I x) ∧ ∃ m', MI J' a (stP I a) (stG I a w1) m' := by
        intro K k1 hk1 mm
        induction mm with
        | zero =>
          intro k2 fuel J t1 t2 f C
          obtain ⟨u, rfl⟩ : ∃ u, fuel = u + 1 := ⟨fuel - 1, by omega⟩
          obtain rfl : k2 = 3 := t1
          refine ⟨J, ?_, f, C⟩
          rw [fX7_mean_b42, if_pos (show (3 : Int32) ≤ nI 3 by decide), nI_1, show 3 * (k1 + 1) = 3 * k1 + 3 by omega]
        | succ mm ih =>
          intro k2 fuel J t1 t2 f C
          obtain ⟨u, rfl⟩ : ∃ u, fuel = u + 1 := ⟨fuel - 1, by omega⟩
          have hk2 : k2 < 3 := by omega
          obtain ⟨-, l1⟩ := oC k1 hk1
          obtain ⟨-, l2⟩ := oC k2 hk2
          have o1 := oM J (f _ (by unfold scr1; omega)) k1 hk1
          have o2 := oM J (f _ (by unfold scr1; omega)) k2 hk2
          have hm100 : stO I a k1 * stO I a k2 ≤ 100 := Nat.mul_le_mul l1 l2
          have hs := hstep k1 k2 hk1 hk2
          have hl : (nI (stO I a k1)).toInt64 * (nI (stO I a k2)).toInt64 = lN (stO I a k1 * stO I a k2) := by rw [nI_l (by omega), nI_l (by omega), lN_mul]
          rw [fX7_mean_b42, if_neg (show ¬ (3 : Int32) ≤ nI k2 from nI_ge (b := 3) hk2 (by omega)), o1, Option.bind_some, o2, Option.bind_some, hl]
          by_cases hz : stO I a k1 * stO I a k2 = 0
          · obtain ⟨J', e', f', C'⟩ := ih (k2 + 1) u J (by omega) (by omega) f C
            refine ⟨J', ?_, f', C'⟩
            rw [if_pos ((lg_cmp_eq _ _).mpr (by rw [hz]; rfl)), nI_1]
            rw [← Nat.add_assoc, hs, hz, Nat.zero_mul, Nat.add_zero] at e'
            exact e'
          · obtain ⟨m', C0'⟩ := C
            obtain ⟨J1, e1, f1, C1'⟩ := mmelt (fX7_mean_b118 s (a + 110) (fX7_mean_b42 s (a + 110) K u)) (lN (sumF (gAB I a w1 q) (3 * k1 + k2))) (lN (stO I a k1 * stO I a k2)) k1 k2 hk1 hk2 48 0 1000 J m' rfl (by omega) f C0' (fun x hx => absurd hx (by omega))
            have X1 := (stX R).2.kept (I1 := J1) (fun x hx => f1 x (by unfold scr1; omega))
            obtain ⟨J2, e2, f2, O2, -⟩ := runM W (mAB_GB R hk1 hk2) p2 p3 X1 C1'
            have C2 := C1'.kept (I1 := J2) (fun x hx => f2 x (by unfold goCells; omega))
            obtain ⟨J', e', f', C'⟩ := ih (k2 + 1) u J2 (by omega) (by omega) (fun x hx => by
              have hx' := hx
              unfold scr1 at hx'
              rw [f2 x (by unfold goCells; omega), f1 x hx]) ⟨_, C2⟩
            refine ⟨J', ?_, f', C'⟩
            rw [if_neg (show ¬ lg_cmp (lN (stO I a k1 * stO I a k2)) 0 = 0 from fun h9 => hz ((lN_eq (b := 0) (by omega) (by omega)).mp ((lg_cmp_eq _ _).mp h9)))]
            refine Eq.trans e1 ?_
            have hW := stW_le R (G := stG I a w1) (m := mAB I a w1 k1 k2)
            unfold fX7_mean_b118
            rw [e2, b2_some, nI_1]
            rw [← Nat.add_assoc, hs] at e'
            unfold valS at e'
            by_cases hq0 : q = 0
            · rw [if_pos (q0.mpr hq0), show (nI (wthS (stW I a 0) (stW I a 1) (stW I a 2) (stW I a 3) (takS (stP I a) (stG I a w1) (mAB I a w1 k1 k2)) (stP I a) (stN I a))).toInt64 = lN (stWorth I a (stG I a w1) (mAB I a w1 k1 k2)) from nI_l (by unfold stWorth at hW; omega), lN_mul, lN_add]
              rw [if_pos hq0] at e'
              exact e'
            · rw [if_neg (fun h => hq0 (q0.mp h)), floodsM W C2.1 p3 O2, Option.bind_some]
              rw [if_neg hq0] at e'
              have hb : sumF (fun p => sumF (fldS (stP I a) (stG I a w1) (mAB I a w1 k1 k2) p) 48) (stP I a) ≤ 1189 * 48 * stP I a := sumF_le _ (fun p hp => sumF_le 48 (fun h hh => by
                have := inS_le (P := stP I a) (mAB_GB R hk1 hk2) (p := p) (h := h) (by omega) hh
                unfold fldS
                omega))
              have hb2 : 1189 * 48 * stP I a ≤ 1189 * 48 * 5 := Nat.mul_le_mul_left _ p3
              by_cases hz2 : sumF (fun p => sumF (fldS (stP I a) (stG I a w1) (mAB I a w1 k1 k2) p) 48) (stP I a) = 0
              · rw [if_pos (by rw [hz2]; rfl), lN_add]
                rw [if_pos hz2, Nat.mul_one] at e'
                exact e'
              · rw [if_neg (nI_ne0 (by omega) (by omega)), show lN (sumF (gAB I a w1 q) (3 * k1 + k2)) + 0 = lN (sumF (gAB I a w1 q) (3 * k1 + k2)) from lN_add _ 0]
                rw [if_neg hz2, Nat.mul_zero, Nat.add_zero] at e'
                exact e'
      have mout : ∀ (K : Int32 → Int64 → IH → Option (Int64 × IH)) mm k1 fuel (J : IH), k1 + mm = 3 → mm < fuel → (∀ x, ¬ scr1 a x → J x = I x) → (∃ m', MI J a (stP I a) (stG I a w1) m') → ∃ J', fX7_mean_b33 s (a + 110) K fuel (nI q) (nI r) (lN (sumF (gAB I a w1 q) (3 * k1))) (nI k1) J = K (nI r) (lN (sumF (gAB I a w1 q) 9)) J' ∧ ∀ x, ¬ scr1 a x → J' x = I x := by
        intro K mm
        induction mm with
        | zero =>
          intro k1 fuel J t1 t2 f C
          obtain ⟨u, rfl⟩ : ∃ u, fuel = u + 1 := ⟨fuel - 1, by omega⟩
          obtain rfl : k1 = 3 := t1
          refine ⟨J, ?_, f⟩
          rw [fX7_mean_b33, if_pos (show (3 : Int32) ≤ nI 3 by decide)]
        | succ mm ih =>
          intro k1 fuel J t1 t2 f C
          obtain ⟨u, rfl⟩ : ∃ u, fuel = u + 1 := ⟨fuel - 1, by omega⟩
          obtain ⟨J1, e1, f1, C1'⟩ := min' (fX7_mean_b33 s (a + 110) K u) k1 (by omega) 3 0 1000 J rfl (by omega) f C
          obtain ⟨J2, e2, f2⟩ := ih (k1 + 1) u J1 (by omega) (by omega) f1 C1'
          refine ⟨J2, ?_, f2⟩
          rw [fX7_mean_b33, if_neg (show ¬ (3 : Int32) ≤ nI k1 from nI_ge (b := 3) (by omega) (by omega))]
          rw [Nat.add_zero] at e1
          exact Eq.trans e1 e2
      obtain ⟨J1, e1, f1, v1', u1'⟩ := loadY R I (fun _ _ => rfl)
      have fJ1 : ∀ x, ¬ (a + 51 ≤ x ∧ x ≤ a + 93) → J1 x = I x := fun x hx => f1 x (by omega)
      have hc : ∃ J2, fX6_mean_b32 s a (fX6_mean_b102 s a) 1000 (nI q) (nI r) 0 0 J1 = fX6_mean_b102 s a (nI r) (nI (sumF (gAB I a w1 q) 9)) J2 ∧ ∀ x, ¬ (a + 51 ≤ x ∧ x ≤ a + 93) → J2 x = I x := cout (fX6_mean_b102 s a) 3 0 1000 J1 rfl (by omega) fJ1 ⟨by rw [f1 _ (by omega)]; exact p1, v1', u1'⟩
      obtain ⟨J2, e2, f2⟩ := hc
      obtain ⟨J3, e3, f3, C3', -⟩ := asIsY R J2 (scrC f2)
      obtain ⟨J4, e4, f4⟩ := mout (fX7_mean_b165 s (a + 110)) 3 0 1000 J3 rfl (by omega) (fun x hx => by
        have hx' := hx
        unfold scr1 at hx'
        rw [f3 x (by omega), f2 x (by omega)]) ⟨_, C3'⟩
      have hg : 0 < Nat.gcd (sumF (gAB I a w1 q) 9) 100 := Nat.gcd_pos_of_pos_right _ (by omega)
      have hg100 : Nat.gcd (sumF (gAB I a w1 q) 9) 100 ≤ 100 := Nat.le_of_dvd (by omega) (Nat.gcd_dvd_right _ 100)
      have hgc := gcdC (H := sumF (gAB I a w1 q) 9) (by omega)
      have hgm : fX7_divisor (a + 110) (lN (sumF (gAB I a w1 q) 9)) 100 = some (lN (Nat.gcd (sumF (gAB I a w1 q) 9) 100)) := gcdM (a + 110) 1000 (sumF (gAB I a w1 q) 9) 100 (by omega) (by omega) (by omega)
      have r0 : nI r = 0 ↔ r = 0 := nI_eq (b := 0) (by omega) (by omega)
      have fin : ∃ x, fX6_mean_b102 s a (nI r) (nI (sumF (gAB I a w1 q) 9)) J2 = some (x, J2) ∧ fX7_mean_b165 s (a + 110) (nI r) (lN (sumF (gAB I a w1 q) 9)) J4 = some (x, J4) := by
        unfold fX6_mean_b102 fX7_mean_b165
        rw [hgc, Option.bind_some, hgm, Option.bind_some]
        have d1 : sumF (gAB I a w1 q) 9 / Nat.gcd (sumF (gAB I a w1 q) 9) 100 ≤ sumF (gAB I a w1 q) 9 := Nat.div_le_self _ _
        have d2 : 100 / Nat.gcd (sumF (gAB I a w1 q) 9) 100 ≤ 100 := Nat.div_le_self _ _
        have nz : ¬ lN (Nat.gcd (sumF (gAB I a w1 q) 9) 100) = 0 := fun h9 => by
          have := (lN_eq (b := 0) (by omega) (by omega)).mp h9
          omega
        by_cases hr0 : r = 0
        · refine ⟨lN (sumF (gAB I a w1 q) 9 / Nat.gcd (sumF (gAB I a w1 q) 9) 100), ?_, ?_⟩
          · rw [if_pos (r0.mpr hr0)]
            unfold dvI
            rw [if_neg (nI_ne0 hg (by omega)), Option.bind_some, pk_div (by omega) hg (by omega), nI_l (by omega)]
          · rw [if_pos (r0.mpr hr0)]
            unfold dvL
            rw [if_neg nz, Option.bind_some, pk_lDiv (by omega) hg (by omega)]
        · refine ⟨lN (100 / Nat.gcd (sumF (gAB I a w1 q) 9) 100), ?_, ?_⟩
          · rw [if_neg (fun h => hr0 (r0.mp h))]
            unfold dvI
            rw [if_neg (nI_ne0 hg (by omega)), Option.bind_some, show (100 : Int32) / nI (Nat.gcd (sumF (gAB I a w1 q) 9) 100) = nI (100 / Nat.gcd (sumF (gAB I a w1 q) 9) 100) from pk_div (a := 100) (by omega) hg (by omega), nI_l (by omega)]
          · rw [if_neg (fun h => hr0 (r0.mp h))]
            unfold dvL
            rw [if_neg nz, Option.bind_some, show (100 : Int64) / lN (Nat.gcd (sumF (gAB I a w1 q) 9) 100) = lN (100 / Nat.gcd (sumF (gAB I a w1 q) 9) 100) from pk_lDiv (a := 100) (by omega) hg (by omega)]
      obtain ⟨x, x1, x2⟩ := fin
      refine ⟨x, J2, J4, ?_, ?_, R.kept (fun x _ hx => f4 x hx)⟩
      · unfold fX6_mean
        refine if_f (un (N := 2) hq (by omega)) ?_
        refine if_f (un (N := 2) hr (by omega)) ?_
        refine bs_eq (e6_0_3 W) ?_
        refine bs_eq (c5_50 W) ?_
        refine bs_eq e1 ?_
        exact e2.trans x1
      · show fX7_mean s (a + 110) (nI q) (nI r) J2 = _
        unfold fX7_mean
        refine if_f (inn (N := 2) hq (by omega)) ?_
        refine if_f (inn (N := 2) hr (by omega)) ?_
        refine bs_eq e3 ?_
        exact Eq.trans e4 x2
    · refine ⟨-9223372036854775808, I, I, ?_, ?_, R⟩
      · unfold fX6_mean
        refine if_f (un (N := 2) hq (by omega)) ?_
        exact if_t u3 rfl
      · show fX7_mean s (a + 110) (nI q) v2 I = _
        unfold fX7_mean
        refine if_f (inn (N := 2) hq (by omega)) ?_
        exact if_t u4 rfl
  · refine ⟨-9223372036854775808, I, I, ?_, ?_, R⟩
    · unfold fX6_mean
      exact if_t u1 rfl
    · show fX7_mean s (a + 110) v1 v2 I = _
      unfold fX7_mean
      exact if_t u2 rfl
end MEAN
