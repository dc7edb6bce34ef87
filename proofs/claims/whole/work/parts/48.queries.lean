/-! LAYER 2: water, all, wants, judge -/
def sumF (g : Nat → Nat) : Nat → Nat
  | 0 => 0
  | k + 1 => sumF g k + g k
theorem sumF_add (g : Nat → Nat) (n : Nat) : ∀ m, sumF g (n + m) = sumF g n + sumF (fun k => g (n + k)) m
  | 0 => rfl
  | m + 1 => by
    show sumF g (n + m) + g (n + m) = sumF g n + (sumF (fun k => g (n + k)) m + g (n + m))
    rw [sumF_add g n m]
    omega
theorem sumF_congr {g g' : Nat → Nat} : ∀ n, (∀ k, k < n → g k = g' k) → sumF g n = sumF g' n
  | 0, _ => rfl
  | n + 1, h => by
    show sumF g n + g n = sumF g' n + g' n
    rw [sumF_congr n (fun k hk => h k (by omega)), h n (by omega)]
theorem sumF_flat (f : Nat → Nat → Nat) (g : Nat → Nat) (P : Nat) (h : ∀ p j, p < P → j < 48 → g (48 * p + j) = f p j) : sumF g (48 * P) = sumF (fun p => sumF (f p) 48) P := by
  induction P with
  | zero => rfl
  | succ P ih =>
    rw [show 48 * (P + 1) = 48 * P + 48 by omega, sumF_add, ih (fun p j hp hj => h p j (by omega) hj)]
    show _ = sumF (fun p => sumF (f p) 48) P + sumF (f P) 48
    rw [sumF_congr 48 (fun k hk => h P k (by omega) hk)]
section QUERY
variable {s : SH} {I : IH} {L : LH} {n a w1 w2 w P : Nat} {G : Nat → Nat → Nat} {m : Nat → Nat}
theorem place_cases (W : WW s a w1 w2) (hI : I (a + 1) 0 = nI P) (hP : 1 ≤ P) (hP5 : P ≤ 5) (v : Int32) : (∃ p, p < P ∧ v = nI p ∧ fX2_isPlace s I (a + 1) v = some 1 ∧ ∀ J : IH, J (a + 110) 0 = nI P → fX7_isPlace s J (a + 110) v = some 1) ∨ (fX2_isPlace s I (a + 1) v = some 0 ∧ ∀ J : IH, J (a + 110) 0 = nI P → fX7_isPlace s J (a + 110) v = some 0) := by
  have mm : ∀ J : IH, J (a + 110) 0 = nI P → fX7_isPlace s J (a + 110) v = some (fX7_in v 0 (nI (P - 1))) := fun J hJ => by
    unfold fX7_isPlace
    rw [i7_110_0 W, Option.bind_some, hJ, show nI P - 1 = nI (P - 1) from nI_sub (j := 1) hP]
  rcases under_cases v P (by omega) (by omega) with ⟨p, hp, rfl⟩ | ⟨h1, h2, h3⟩
  · refine Or.inl ⟨p, hp, rfl, ?_, fun J hJ => ?_⟩
    · rw [isPlaceC W hI hP5 (by omega), if_pos hp]
    · rw [mm J hJ, in_yes hp (by omega)]
  · refine Or.inr ⟨?_, fun J hJ => by rw [mm J hJ, h3]⟩
    rcases h1 with h1 | h1
    · unfold fX2_isPlace
      rw [if_pos (un_lt h1)]
    · by_cases h4 : v < 0
      · unfold fX2_isPlace
        rw [if_pos (un_lt h4)]
      · obtain ⟨j, hj, rfl⟩ := nI_of h4
        have h5 := Int32.lt_iff_toInt_lt.mp h1
        rw [nI_toInt (by omega), nI_toInt hj] at h5
        by_cases h6 : j < 5
        · rw [isPlaceC W hI hP5 h6, if_neg (by omega)]
        · unfold fX2_isPlace
          rw [if_pos (un_ge (x := 5) (nI_le (a := 5) (by omega) hj))]
theorem m_water (R : Rel s I L n a w1 w2) (v1 v2 v3 : Int32) : M2 s L n a w1 w2 (fX6_water s a v1 v2 v3 I) (fun I1 => fX7_water s (a + 110) v1 v2 v3 I1) := by
  have W := R.1
  obtain ⟨p1, p2, p3, p4⟩ := stP_y R
  have neg : ∀ {x : Int32}, fX6_water s a v1 v2 v3 I = some (x, I) → fX7_water s (a + 110) v1 v2 v3 I = some (x, I) → M2 s L n a w1 w2 (fX6_water s a v1 v2 v3 I) (fun I1 => fX7_water s (a + 110) v1 v2 v3 I1) := fun h1 h2 => M2.same R h1 h2
  rcases place_cases W p1 p2 p3 v1 with ⟨p, hp, rfl, g1, g2⟩ | ⟨g1, g2⟩
  · rcases under_cases v2 48 (by omega) (by omega) with ⟨h, hh, rfl⟩ | ⟨-, u1, u2⟩
    · rcases under_cases v3 5 (by omega) (by omega) with ⟨q, hq, rfl⟩ | ⟨-, u3, u4⟩
      · have hp5 : p < 5 := by omega
        obtain ⟨J1, e1, f1, -, O1, -⟩ := settleY R I (fun _ _ => rfl)
        obtain ⟨J2, e2, f2, C2', -⟩ := asIsY R J1 (scrC f1)
        obtain ⟨J3, e3, f3, O3⟩ := goM W C2' (stGB R) p2 p3
        obtain ⟨o0, o1, o2, o3, o4⟩ := O1 p h hp hh
        obtain ⟨t0, t1, t2, t3, t4⟩ := O3 p h hp hh
        have hidx : 48 * p + h < 240 := by omega
        have RK : Rel s J3 L n a w1 w2 := R.kept (fun x _ hx => by
          unfold scr1 at hx
          rw [f3 x (by unfold goCells; omega), f2 x (by omega), f1 x (by omega)])
        have pc : ∀ r, ((fX5_rows s (a + 50) (nI q)).bind fun x10 => (aR s 4 x10 (nI p)).bind fun x11 => (aI s J1 0 x11 (nI h)).bind fun x12 => some (x12, J1)) = r → fX6_water s a (nI p) (nI h) (nI q) I = r := by
          intro r hr
          unfold fX6_water
          refine bs_eq (e6_0_0 W) ?_
          refine bs_eq (c2_1 W) ?_
          refine bs_eq g1 ?_
          refine if_f (by decide) ?_
          refine if_f (un (N := 48) hh (by omega)) ?_
          refine if_f (un (N := 5) hq (by omega)) ?_
          refine bs_eq (e6_0_3 W) ?_
          refine bs_eq (c5_50 W) ?_
          refine b2_eq e1 ?_
          refine bs_eq (e6_0_3 W) ?_
          refine bs_eq (c5_50 W) ?_
          exact hr
        have pm : ∀ (r : Option (Int32 × IH)), (if nI q = 0 then ((aI s J3 0 (a + 133) (nI (48 * p + h))).bind fun x5 => some (x5, J3)) else if nI q = 1 then ((aI s J3 0 (a + 134) (nI (48 * p + h))).bind fun x5 => some (x5, J3)) else if nI q = 2 then ((aI s J3 0 (a + 135) (nI (48 * p + h))).bind fun x5 => some (x5, J3)) else if nI q = 3 then ((aI s J3 0 (a + 136) (nI (48 * p + h))).bind fun x5 => some (x5, J3)) else ((aI s J3 0 (a + 137) (nI (48 * p + h))).bind fun x5 => some (x5, J3))) = r → fX7_water s (a + 110) (nI p) (nI h) (nI q) J1 = r := by
          intro r hr
          unfold fX7_water
          refine bs_eq (g2 J1 (by rw [f1 _ (by omega)]; exact p4)) ?_
          refine if_f (by decide) ?_
          refine if_f (inn (N := 48) hh (by omega)) ?_
          refine if_f (inn (N := 5) hq (by omega)) ?_
          refine bs_eq e2 ?_
          refine bs_eq e3 ?_
          simp only [e7_110_34 W, e7_110_35 W, e7_110_36 W, e7_110_37 W, e7_110_38 W, Option.bind_some, ix48]
          exact hr
        obtain rfl | rfl | rfl | rfl | rfl : q = 0 ∨ q = 1 ∨ q = 2 ∨ q = 3 ∨ q = 4 := by omega
        · refine ⟨nI (cmS (stP I a) (stG I a w1) (stM I a w1) p h), J1, J3, pc _ ?_, pm _ ?_, RK⟩
          · unfold fX5_rows
            rw [if_pos (show nI 0 = 0 from rfl), e5_50_4 W, Option.bind_some, Option.bind_some, a63 W hp5, Option.bind_some, r63 W hp5 hh, Option.bind_some, show J1 (a + 63 + 1 + p) h = _ from o0]
          · rw [if_pos (show nI 0 = 0 from rfl), r133 W hidx, Option.bind_some, t0]
        · refine ⟨nI (takS (stP I a) (stG I a w1) (stM I a w1) p h), J1, J3, pc _ ?_, pm _ ?_, RK⟩
          · unfold fX5_rows
            rw [if_neg (show ¬ nI 1 = 0 by decide), if_pos (show nI 1 = 1 from rfl), e5_50_5 W, Option.bind_some, Option.bind_some, a69 W hp5, Option.bind_some, r69 W hp5 hh, Option.bind_some, show J1 (a + 69 + 1 + p) h = _ from o1]
          · rw [if_neg (show ¬ nI 1 = 0 by decide), if_pos (show nI 1 = 1 from rfl), r134 W hidx, Option.bind_some, t1]
        · refine ⟨nI (inS (stP I a) (stG I a w1) (stM I a w1) (p + 1) h), J1, J3, pc _ ?_, pm _ ?_, RK⟩
          · unfold fX5_rows
            rw [if_neg (show ¬ nI 2 = 0 by decide), if_neg (show ¬ nI 2 = 1 by decide), if_pos (show nI 2 = 2 from rfl), e5_50_6 W, Option.bind_some, Option.bind_some, a75 W hp5, Option.bind_some, r75 W hp5 hh, Option.bind_some, show J1 (a + 75 + 1 + p) h = _ from o2]
          · rw [if_neg (show ¬ nI 2 = 0 by decide), if_neg (show ¬ nI 2 = 1 by decide), if_pos (show nI 2 = 2 from rfl), r135 W hidx, Option.bind_some, t2]
        · refine ⟨nI (helS (stP I a) (stG I a w1) (stM I a w1) p h), J1, J3, pc _ ?_, pm _ ?_, RK⟩
          · unfold fX5_rows
            rw [if_neg (show ¬ nI 3 = 0 by decide), if_neg (show ¬ nI 3 = 1 by decide), if_neg (show ¬ nI 3 = 2 by decide), if_pos (show nI 3 = 3 from rfl), e5_50_7 W, Option.bind_some, Option.bind_some, a81 W hp5, Option.bind_some, r81 W hp5 hh, Option.bind_some, show J1 (a + 81 + 1 + p) h = _ from o3]
          · rw [if_neg (show ¬ nI 3 = 0 by decide), if_neg (show ¬ nI 3 = 1 by decide), if_neg (show ¬ nI 3 = 2 by decide), if_pos (show nI 3 = 3 from rfl), r136 W hidx, Option.bind_some, t3]
        · refine ⟨nI (fldS (stP I a) (stG I a w1) (stM I a w1) p h), J1, J3, pc _ ?_, pm _ ?_, RK⟩
          · unfold fX5_rows
            rw [if_neg (show ¬ nI 4 = 0 by decide), if_neg (show ¬ nI 4 = 1 by decide), if_neg (show ¬ nI 4 = 2 by decide), if_neg (show ¬ nI 4 = 3 by decide), e5_50_8 W, Option.bind_some, Option.bind_some, a87 W hp5, Option.bind_some, r87 W hp5 hh, Option.bind_some, show J1 (a + 87 + 1 + p) h = _ from o4]
          · rw [if_neg (show ¬ nI 4 = 0 by decide), if_neg (show ¬ nI 4 = 1 by decide), if_neg (show ¬ nI 4 = 2 by decide), if_neg (show ¬ nI 4 = 3 by decide), r137 W hidx, Option.bind_some, t4]
      · refine neg (x := -1) ?_ ?_
        · unfold fX6_water
          refine bs_eq (e6_0_0 W) ?_
          refine bs_eq (c2_1 W) ?_
          refine bs_eq g1 ?_
          refine if_f (by decide) ?_
          refine if_f (un (N := 48) hh (by omega)) ?_
          exact if_t u3 rfl
        · unfold fX7_water
          refine bs_eq (g2 I p4) ?_
          refine if_f (by decide) ?_
          refine if_f (inn (N := 48) hh (by omega)) ?_
          exact if_t u4 rfl
    · refine neg (x := -1) ?_ ?_
      · unfold fX6_water
        refine bs_eq (e6_0_0 W) ?_
        refine bs_eq (c2_1 W) ?_
        refine bs_eq g1 ?_
        refine if_f (by decide) ?_
        exact if_t u1 rfl
      · unfold fX7_water
        refine bs_eq (g2 I p4) ?_
        refine if_f (by decide) ?_
        exact if_t u2 rfl
  · refine neg (x := -1) ?_ ?_
    · unfold fX6_water
      refine bs_eq (e6_0_0 W) ?_
      refine bs_eq (c2_1 W) ?_
      refine bs_eq g1 ?_
      exact if_t rfl rfl
    · unfold fX7_water
      refine bs_eq (g2 I p4) ?_
      exact if_t rfl rfl
/-- sums -/
theorem sumC {r : Nat} {g : Nat → Nat} (hl : aL s r = some (nI 48)) (hr : ∀ h, h < 48 → aI s I 0 r (nI h) = some (nI (g h))) : fX6_sum s I r = some (nI (sumF g 48)) := by
  have key : ∀ mm q fuel, q + mm = 48 → mm < fuel → fX6_sum_b10 s I fuel (nI (sumF g q)) r (nI 48) (nI q) = some (nI (sumF g 48)) := by
    intro mm
    induction mm with
    | zero =>
      intro q fuel h1 h2
      obtain ⟨u, rfl⟩ : ∃ u, fuel = u + 1 := ⟨fuel - 1, by omega⟩
      obtain rfl : q = 48 := h1
      rw [fX6_sum_b10, if_pos (nI_le (Nat.le_refl _) (by omega))]
    | succ mm ih =>
      intro q fuel h1 h2
      obtain ⟨u, rfl⟩ : ∃ u, fuel = u + 1 := ⟨fuel - 1, by omega⟩
      rw [fX6_sum_b10, if_neg (nI_ge (by omega) (by omega)), hr q (by omega), Option.bind_some, nI_add, nI_1]
      exact ih (q + 1) u (by omega) (by omega)
  unfold fX6_sum
  rw [hl, Option.bind_some]
  exact key 48 0 1000 rfl (by omega)
theorem inPlaceC (W : WW s a w1 w2) (hI : I (a + 1) 0 = nI P) (hP5 : P ≤ 5) {hd : Nat} {f : Nat → Nat → Nat} (ha : ∀ p, p < 5 → aR s 4 (a + hd) (nI p) = some (a + hd + 1 + p) ∧ aL s (a + hd + 1 + p) = some (nI 48)) (hr : ∀ p h, p < P → h < 48 → aI s I 0 (a + hd + 1 + p) (nI h) = some (nI (f p h))) {p : Nat} (hp : p < 5) : fX5_inPlace s I (a + 50) (a + hd) (nI p) = some (nI (if p < P then sumF (f p) 48 else 0)) := by
  unfold fX5_inPlace
  rw [e5_50_0 W, Option.bind_some, c2_1 W, Option.bind_some, isPlaceC W hI hP5 hp, Option.bind_some]
  by_cases h : p < P
  · rw [if_pos h, if_neg (by decide), if_pos h, (ha p hp).1, Option.bind_some, sumC (ha p hp).2 (fun j hj => hr p j h hj), Option.bind_some]
  · rw [if_neg h, if_pos rfl, if_neg h]
    rfl
theorem inAllC (W : WW s a w1 w2) (hI : I (a + 1) 0 = nI P) (hP5 : P ≤ 5) {hd : Nat} {f : Nat → Nat → Nat} (ha : ∀ p, p < 5 → aR s 4 (a + hd) (nI p) = some (a + hd + 1 + p) ∧ aL s (a + hd + 1 + p) = some (nI 48)) (hr : ∀ p h, p < P → h < 48 → aI s I 0 (a + hd + 1 + p) (nI h) = some (nI (f p h))) : fX5_inAllPlaces s I (a + 50) (a + hd) = some (nI (sumF (fun p => sumF (f p) 48) P)) := by
  have key : ∀ mm q fuel, q + mm = 5 → mm < fuel → fX5_inAllPlaces_b4 s I (a + 50) fuel (a + hd) (nI (sumF (fun p => if p < P then sumF (f p) 48 else 0) q)) (nI q) = some (nI (sumF (fun p => if p < P then sumF (f p) 48 else 0) 5)) := by
    intro mm
    induction mm with
    | zero =>
      intro q fuel h1 h2
      obtain ⟨u, rfl⟩ : ∃ u, fuel = u + 1 := ⟨fuel - 1, by omega⟩
      obtain rfl : q = 5 := h1
      rw [fX5_inAllPlaces_b4, if_pos (show (5 : Int32) ≤ nI 5 by decide)]
    | succ mm ih =>
      intro q fuel h1 h2
      obtain ⟨u, rfl⟩ : ∃ u, fuel = u + 1 := ⟨fuel - 1, by omega⟩
      rw [fX5_inAllPlaces_b4, if_neg (show ¬ (5 : Int32) ≤ nI q from nI_ge (b := 5) (by omega) (by omega)), inPlaceC W hI hP5 ha hr (by omega), Option.bind_some, nI_add, nI_1]
      exact ih (q + 1) u (by omega) (by omega)
  have h0 := key 5 0 1000 rfl (by omega)
  have e : sumF (fun p => if p < P then sumF (f p) 48 else 0) 5 = sumF (fun p => sumF (f p) 48) P := by
    obtain ⟨d, hd⟩ : ∃ d, 5 = P + d := ⟨5 - P, by omega⟩
    rw [hd, sumF_add, sumF_congr P (g' := fun p => sumF (f p) 48) (fun k hk => if_pos hk)]
    have z : ∀ d, sumF (fun k => if P + k < P then sumF (f (P + k)) 48 else 0) d = 0 := by
      intro d
      induction d with
      | zero => rfl
      | succ d ih =>
        show sumF (fun k => if P + k < P then sumF (f (P + k)) 48 else 0) d + (if P + d < P then _ else 0) = 0
        rw [ih, if_neg (by omega)]
    rw [z]
    rfl
  rw [e] at h0
  exact h0
theorem floodsM (W : WW s a w1 w2) (hP0 : I (a + 110) 0 = nI P) (hP5 : P ≤ 5) (O : MO I a P G m) : fX7_floods s I (a + 110) = some (nI (sumF (fun p => sumF (fldS P G m p) 48) P)) := by
  have e48 : (48 : Int32) * nI P = nI (48 * P) := nI_mul 48 P
  have key : ∀ mm q fuel, q + mm = 48 * P → mm < fuel → fX7_floods_b4 s I (a + 110) fuel (nI (sumF (fun k => fldS P G m (k / 48) (k % 48)) q)) (nI q) = some (nI (sumF (fun k => fldS P G m (k / 48) (k % 48)) (48 * P))) := by
    intro mm
    induction mm with
    | zero =>
      intro q fuel h1 h2
      obtain ⟨u, rfl⟩ : ∃ u, fuel = u + 1 := ⟨fuel - 1, by omega⟩
      obtain rfl : q = 48 * P := h1
      rw [fX7_floods_b4, i7_110_0 W, Option.bind_some, hP0, e48, if_pos (nI_le (Nat.le_refl _) (by omega))]
    | succ mm ih =>
      intro q fuel h1 h2
      obtain ⟨u, rfl⟩ : ∃ u, fuel = u + 1 := ⟨fuel - 1, by omega⟩
      have hv : I (a + 137) q = nI (fldS P G m (q / 48) (q % 48)) := by
        have := (O (q / 48) (q % 48) (by omega) (by omega)).2.2.2.2
        rw [show 48 * (q / 48) + q % 48 = q by omega] at this
        exact this
      rw [fX7_floods_b4, i7_110_0 W, Option.bind_some, hP0, e48, if_neg (nI_ge (by omega) (by omega)), e7_110_38 W, Option.bind_some, r137 W (j := q) (by omega), Option.bind_some, hv, nI_add, nI_1]
      exact ih (q + 1) u (by omega) (by omega)
  have h0 := key (48 * P) 0 1000 (by omega) (by omega)
  rw [sumF_flat (fldS P G m) _ P (fun p j hp hj => by
    show fldS P G m ((48 * p + j) / 48) ((48 * p + j) % 48) = fldS P G m p j
    rw [show (48 * p + j) / 48 = p by omega, show (48 * p + j) % 48 = j by omega])] at h0
  exact h0
theorem m_all (R : Rel s I L n a w1 w2) (v1 : Int32) : M2 s L n a w1 w2 (fX6_all s a v1 I) (fun I1 => fX7_all s (a + 110) v1 I1) := by
  have W := R.1
  obtain ⟨p1, p2, p3, p4⟩ := stP_y R
  rcases under_cases v1 4 (by omega) (by omega) with ⟨q, hq, rfl⟩ | ⟨-, u1, u2⟩
  · obtain ⟨J1, e1, f1, C1', O1, -⟩ := settleY R I (fun _ _ => rfl)
    obtain ⟨J2, e2, f2, C2', -⟩ := asIsY R J1 (scrC f1)
    obtain ⟨J3, e3, f3, O3⟩ := goM W C2' (stGB R) p2 p3
    have hP3 : J3 (a + 110) 0 = nI (stP I a) := by rw [f3 _ (by unfold goCells; omega)]; exact C2'.1
    have hm3 : ∀ h, h < 48 → J3 (a + 126) h = nI (stM I a w1 h) := fun h hh => by rw [f3 _ (by unfold goCells; omega)]; exact C2'.2.1 h hh
    have RK : Rel s J3 L n a w1 w2 := R.kept (fun x _ hx => by
      unfold scr1 at hx
      rw [f3 x (by unfold goCells; omega), f2 x (by omega), f1 x (by omega)])
    have pm : ∀ (r : Option (Int32 × IH)), (if nI q = 2 then ((fX7_floods s J3 (a + 110)).bind fun x3 => some (x3, J3)) else fX7_all_b34 s (a + 110) 1000 (nI q) 0 0 J3) = r → fX7_all s (a + 110) (nI q) J1 = r := by
      intro r hr
      unfold fX7_all
      refine if_f (inn (N := 4) hq (by omega)) ?_
      refine bs_eq e2 ?_
      refine bs_eq e3 ?_
      exact hr
    have e48 : (48 : Int32) * nI (stP I a) = nI (48 * stP I a) := nI_mul 48 _
    -- the reference's loop, for 0, 1 and 3
    have loop : ∀ (N : Nat) (g : Nat → Nat), N ≤ 240 → (q = 1 → N = 48 * stP I a) → (q ≠ 1 → N = 48) → (∀ k, k < N → (q = 0 → J3 (a + 126) k = nI (g k)) ∧ (q = 1 → J3 (a + 134) k = nI (g k)) ∧ (q = 3 → J3 (a + 135) (48 * stP I a - 48 + k) = nI (g k))) → (q = 0 ∨ q = 1 ∨ q = 3) → fX7_all_b34 s (a + 110) 1000 (nI q) 0 0 J3 = some (nI (sumF g N), J3) := by
      intro N g hN hN1 hN2 hg hq3
      have key : ∀ mm k fuel, k + mm = N → mm < fuel → fX7_all_b34 s (a + 110) fuel (nI q) (nI (sumF g k)) (nI k) J3 = some (nI (sumF g N), J3) := by
        intro mm
        induction mm with
        | zero =>
          intro k fuel h1 h2
          obtain ⟨u, rfl⟩ : ∃ u, fuel = u + 1 := ⟨fuel - 1, by omega⟩
          obtain rfl : k = N := h1
          rw [fX7_all_b34]
          by_cases hq1 : q = 1
          · rw [if_pos (show nI q = 1 by rw [hq1]; rfl), i7_110_0 W, Option.bind_some, hP3, e48]
            unfold fX7_all_b52
            rw [if_pos (nI_le (by rw [hN1 hq1]; omega) (by omega))]
          · rw [if_neg (show ¬ nI q = 1 from fun h9 => hq1 ((nI_eq (by omega) (by omega)).mp (h9.trans (show (1 : Int32) = nI 1 from rfl))))]
            unfold fX7_all_b52
            rw [if_pos (show (48 : Int32) ≤ nI k from nI_le (a := 48) (by rw [hN2 hq1]; omega) (by omega))]
        | succ mm ih =>
          intro k fuel h1 h2
          obtain ⟨u, rfl⟩ : ∃ u, fuel = u + 1 := ⟨fuel - 1, by omega⟩
          obtain ⟨c0, c1, c3⟩ := hg k (by omega)
          have go := ih (k + 1) u (by omega) (by omega)
          have step : ∀ S1, ¬ S1 ≤ nI k → fX7_all_b52 s (a + 110) (fX7_all_b34 s (a + 110) u) (nI q) (nI (sumF g k)) (nI k) (nI k) S1 J3 = some (nI (sumF g N), J3) := by
            intro S1 hS
            unfold fX7_all_b52
            rw [if_neg hS]
            rcases hq3 with rfl | rfl | rfl
            · have hN48 := hN2 (by omega)
              rw [if_pos (show nI 0 = 0 from rfl), e7_110_27 W, Option.bind_some, r126 W (j := k) (by omega), Option.bind_some, c0 rfl, nI_add, nI_1]
              exact go
            · have hN48 := hN1 rfl
              rw [if_neg (show ¬ nI 1 = 0 by decide), if_pos (show nI 1 = 1 from rfl), e7_110_35 W, Option.bind_some, r134 W (j := k) (by omega), Option.bind_some, c1 rfl, nI_add, nI_1]
              exact go
            · have hN48 := hN2 (by omega)
              rw [if_neg (show ¬ nI 3 = 0 by decide), if_neg (show ¬ nI 3 = 1 by decide), e7_110_36 W, Option.bind_some, i7_110_0 W, Option.bind_some, hP3, e48, show nI (48 * stP I a) - 48 = nI (48 * stP I a - 48) from nI_sub (j := 48) (by omega), nI_add, r135 W (j := 48 * stP I a - 48 + k) (by omega), Option.bind_some, c3 rfl, nI_add, nI_1]
              exact go
          rw [fX7_all_b34]
          by_cases hq1 : q = 1
          · rw [if_pos (show nI q = 1 by rw [hq1]; rfl), i7_110_0 W, Option.bind_some, hP3, e48]
            exact step _ (nI_ge (by have := hN1 hq1; omega) (by omega))
          · rw [if_neg (show ¬ nI q = 1 from fun h9 => hq1 ((nI_eq (by omega) (by omega)).mp (h9.trans (show (1 : Int32) = nI 1 from rfl))))]
            exact step _ (show ¬ (48 : Int32) ≤ nI k from nI_ge (b := 48) (by have := hN2 hq1; omega) (by omega))
      exact key N 0 1000 (by omega) (by omega)
    have hr69 : ∀ p h, p < stP I a → h < 48 → aI s J1 0 (a + 69 + 1 + p) (nI h) = some (nI (takS (stP I a) (stG I a w1) (stM I a w1) p h)) := fun p h hp hh => (r69 W (by omega) hh).trans (by rw [show J1 (a + 69 + 1 + p) h = _ from (O1 p h hp hh).2.1])
    have hr87 : ∀ p h, p < stP I a → h < 48 → aI s J1 0 (a + 87 + 1 + p) (nI h) = some (nI (fldS (stP I a) (stG I a w1) (stM I a w1) p h)) := fun p h hp hh => (r87 W (by omega) hh).trans (by rw [show J1 (a + 87 + 1 + p) h = _ from (O1 p h hp hh).2.2.2.2])
    have hr75 : ∀ p h, p < stP I a → h < 48 → aI s J1 0 (a + 75 + 1 + p) (nI h) = some (nI (inS (stP I a) (stG I a w1) (stM I a w1) (p + 1) h)) := fun p h hp hh => (r75 W (by omega) hh).trans (by rw [show J1 (a + 75 + 1 + p) h = _ from (O1 p h hp hh).2.2.1])
    have hq4 : nI q = nI q := rfl
    obtain rfl | rfl | rfl | rfl : q = 0 ∨ q = 1 ∨ q = 2 ∨ q = 3 := by omega
    · refine ⟨nI (sumF (stM I a w1) 48), J1, J3, ?_, pm _ ?_, RK⟩
      · unfold fX6_all
        refine if_f (un (N := 4) hq (by omega)) ?_
        refine bs_eq (e6_0_3 W) ?_
        refine bs_eq (c5_50 W) ?_
        refine b2_eq e1 ?_
        refine if_t rfl ?_
        refine bs_eq (e6_0_3 W) ?_
        refine bs_eq (e5_50_1 W) ?_
        exact bs_eq (sumC (l51 W) (fun h hh => (r51 W hh).trans (by rw [C1'.2.2.2 h hh]))) rfl
      · rw [if_neg (show ¬ nI 0 = 2 by decide)]
        exact loop 48 (stM I a w1) (by omega) (fun h => absurd h (by omega)) (fun _ => rfl) (fun k hk => ⟨fun _ => hm3 k hk, fun h => absurd h (by omega), fun h => absurd h (by omega)⟩) (by omega)
    · refine ⟨nI (sumF (fun p => sumF (takS (stP I a) (stG I a w1) (stM I a w1) p) 48) (stP I a)), J1, J3, ?_, pm _ ?_, RK⟩
      · unfold fX6_all
        refine if_f (un (N := 4) hq (by omega)) ?_
        refine bs_eq (e6_0_3 W) ?_
        refine bs_eq (c5_50 W) ?_
        refine b2_eq e1 ?_
        refine if_f (by decide) ?_
        refine if_t rfl ?_
        refine bs_eq (e6_0_3 W) ?_
        refine bs_eq (e6_0_3 W) ?_
        refine bs_eq (e5_50_5 W) ?_
        refine bs_eq (c5_50 W) ?_
        exact bs_eq (inAllC W C1'.1 p3 (fun p hp => ⟨a69 W hp, lr69 W hp⟩) hr69) rfl
      · rw [if_neg (show ¬ nI 1 = 2 by decide), loop (48 * stP I a) (fun k => takS (stP I a) (stG I a w1) (stM I a w1) (k / 48) (k % 48)) (by omega) (fun _ => rfl) (fun h => absurd rfl h) (fun k hk => ⟨fun h => absurd h (by omega), fun _ => by
          have := (O3 (k / 48) (k % 48) (by omega) (by omega)).2.1
          rw [show 48 * (k / 48) + k % 48 = k by omega] at this
          exact this, fun h => absurd h (by omega)⟩) (by omega), sumF_flat (takS (stP I a) (stG I a w1) (stM I a w1)) _ _ (fun p j hp hj => by
          show takS (stP I a) (stG I a w1) (stM I a w1) ((48 * p + j) / 48) ((48 * p + j) % 48) = _
          rw [show (48 * p + j) / 48 = p by omega, show (48 * p + j) % 48 = j by omega])]
    · refine ⟨nI (sumF (fun p => sumF (fldS (stP I a) (stG I a w1) (stM I a w1) p) 48) (stP I a)), J1, J3, ?_, pm _ ?_, RK⟩
      · unfold fX6_all
        refine if_f (un (N := 4) hq (by omega)) ?_
        refine bs_eq (e6_0_3 W) ?_
        refine bs_eq (c5_50 W) ?_
        refine b2_eq e1 ?_
        refine if_f (by decide) ?_
        refine if_f (by decide) ?_
        refine if_t rfl ?_
        refine bs_eq (e6_0_3 W) ?_
        refine bs_eq (e6_0_3 W) ?_
        refine bs_eq (e5_50_8 W) ?_
        refine bs_eq (c5_50 W) ?_
        exact bs_eq (inAllC W C1'.1 p3 (fun p hp => ⟨a87 W hp, lr87 W hp⟩) hr87) rfl
      · rw [if_pos (show nI 2 = 2 from rfl), floodsM W hP3 p3 O3, Option.bind_some]
    · refine ⟨nI (sumF (inS (stP I a) (stG I a w1) (stM I a w1) (stP I a)) 48), J1, J3, ?_, pm _ ?_, RK⟩
      · unfold fX6_all
        refine if_f (un (N := 4) hq (by omega)) ?_
        refine bs_eq (e6_0_3 W) ?_
        refine bs_eq (c5_50 W) ?_
        refine b2_eq e1 ?_
        refine if_f (by decide) ?_
        refine if_f (by decide) ?_
        refine if_f (by decide) ?_
        refine bs_eq (e6_0_3 W) ?_
        refine bs_eq (e6_0_3 W) ?_
        refine bs_eq (e5_50_6 W) ?_
        refine bs_eq (e6_0_0 W) ?_
        refine bs_eq (i2_1_0 W) ?_
        refine bs_eq (c5_50 W) ?_
        rw [C1'.1, show nI (stP I a) - 1 = nI (stP I a - 1) from nI_sub (j := 1) p2, inPlaceC W C1'.1 p3 (f := fun p h => inS (stP I a) (stG I a w1) (stM I a w1) (p + 1) h) (fun p hp => ⟨a75 W hp, lr75 W hp⟩) hr75 (by omega), Option.bind_some, if_pos (by omega), show stP I a - 1 + 1 = stP I a by omega]
      · rw [if_neg (show ¬ nI 3 = 2 by decide)]
        refine loop 48 _ (by omega) (fun h => absurd h (by omega)) (fun _ => rfl) (fun k hk => ⟨fun h => absurd h (by omega), fun h => absurd h (by omega), fun _ => ?_⟩) (by omega)
        have := (O3 (stP I a - 1) k (by omega) hk).2.2.1
        rw [show 48 * (stP I a - 1) + k = 48 * stP I a - 48 + k by omega, show stP I a - 1 + 1 = stP I a by omega] at this
        exact this
  · refine M2.same R (x := -1) ?_ ?_
    · unfold fX6_all
      exact if_t u1 rfl
    · show fX7_all s (a + 110) v1 I = _
      unfold fX7_all
      exact if_t u2 rfl
theorem want_cases (W : WW s a w1 w2) {N : Nat} (hN : I (a + 1) 5 = nI N) (hN10 : N ≤ 10) (v : Int32) : (∃ w, w < N ∧ v = nI w ∧ fX2_isWant s I (a + 1) v = some 1 ∧ ¬ fX7_in v 0 (nI N - 1) = 0) ∨ (fX2_isWant s I (a + 1) v = some 0 ∧ fX7_in v 0 (nI N - 1) = 0) := by
  rcases size_cases v N (by omega) with ⟨j, hj, rfl⟩ | ⟨h1, h2⟩
  · refine Or.inl ⟨j, hj, rfl, by rw [isWantC W hN hN10 (by omega), if_pos hj], ?_⟩
    rw [show nI N - 1 = nI (N - 1) from nI_sub (j := 1) (by omega)]
    exact inn hj (by omega)
  · refine Or.inr ⟨?_, h2⟩
    by_cases h4 : v < 0
    · unfold fX2_isWant
      rw [if_pos (un_lt h4)]
    · obtain ⟨j, hj, rfl⟩ := nI_of h4
      by_cases h6 : j < 10
      · rw [isWantC W hN hN10 h6, if_neg (fun h9 => by rw [under_yes h9 (by omega)] at h1; exact absurd h1 (by decide))]
      · unfold fX2_isWant
        rw [if_pos (un_ge (x := 10) (nI_le (a := 10) (by omega) hj))]
theorem m_wants (R : Rel s I L n a w1 w2) (v1 v2 : Int32) : M2 s L n a w1 w2 (fX6_wants s a v1 v2 I) (fun I1 => fX7_wants s (a + 110) v1 v2 I1) := by
  have W := R.1
  obtain ⟨p1, p2, p3, p4⟩ := stP_y R
  obtain ⟨X, XM⟩ := stX R
  rcases want_cases W X.1 X.2.1 v1 with ⟨w, hw, rfl, g1, g2⟩ | ⟨g1, g2⟩
  · have hw10 : w < 10 := by have := X.2.1; omega
    obtain ⟨⟨x0, -⟩, ⟨x1, -⟩, ⟨x2, -⟩, x3, -⟩ := X.2.2 w hw
    obtain ⟨⟨y0, -⟩, ⟨y1, -⟩, ⟨y2, -⟩, y3, -⟩ := XM.2.2 w hw
    rcases under_cases v2 5 (by omega) (by omega) with ⟨q, hq, rfl⟩ | ⟨-, u1, u2⟩
    · by_cases hq4 : q = 4
      · subst hq4
        obtain ⟨J1, e1, f1, -, -, s1⟩ := settleY R I (fun _ _ => rfl)
        obtain ⟨J2, e2, f2, C2', X2⟩ := asIsY R J1 (scrC f1)
        obtain ⟨J3, e3, f3, -, s3⟩ := runM W (stGB R) p2 p3 X2 C2'
        refine ⟨nI (SV (stW I a 0) (stW I a 1) (stW I a 2) (takS (stP I a) (stG I a w1) (stM I a w1)) (stP I a) w), J1, J3, ?_, ?_, R.kept (fun x _ hx => by
          unfold scr1 at hx
          rw [f3 x (by unfold goCells; omega), f2 x (by omega), f1 x (by omega)])⟩
        · unfold fX6_wants
          refine bs_eq (e6_0_0 W) ?_
          refine bs_eq (c2_1 W) ?_
          refine bs_eq g1 ?_
          refine if_f (by decide) ?_
          refine if_f (un (N := 5) hq (by omega)) ?_
          refine if_t (by decide) ?_
          refine bs_eq (e6_0_3 W) ?_
          refine bs_eq (c5_50 W) ?_
          refine b2_eq e1 ?_
          refine bs_eq (e6_0_3 W) ?_
          refine bs_eq (e5_50_9 W) ?_
          refine bs_eq (r93 W hw10) ?_
          rw [s1 w hw]
        · show fX7_wants s (a + 110) (nI w) (nI 4) J1 = _
          unfold fX7_wants
          refine bs_eq (i7_110_39 W) ?_
          rw [f1 _ (by omega), XM.1]
          refine if_f g2 ?_
          refine if_f (by decide) ?_
          refine if_f (by decide) ?_
          refine if_f (by decide) ?_
          refine if_f (by decide) ?_
          refine if_t rfl ?_
          refine bs_eq e2 ?_
          refine b2_eq e3 ?_
          refine bs_eq (e7_110_44 W) ?_
          refine bs_eq (r142 W hw10) ?_
          rw [s3 w hw]
      · have pc : ∀ v, I (a + 18 + w) q = v → fX6_wants s a (nI w) (nI q) I = some (v, I) := by
          intro v hv
          unfold fX6_wants
          refine bs_eq (e6_0_0 W) ?_
          refine bs_eq (c2_1 W) ?_
          refine bs_eq g1 ?_
          refine if_f (by decide) ?_
          refine if_f (un (N := 5) hq (by omega)) ?_
          refine if_f (show ¬ (4 : Int32) ≤ nI q from nI_ge (b := 4) (by omega) (by omega)) ?_
          refine bs_eq (e6_0_0 W) ?_
          refine bs_eq (e2_1_4 W) ?_
          refine bs_eq (a17 W hw10) ?_
          refine bs_eq (r17 W hw10 (j := q) (by omega)) ?_
          rw [show I (a + 17 + 1 + w) q = v from hv]
        obtain rfl | rfl | rfl | rfl : q = 0 ∨ q = 1 ∨ q = 2 ∨ q = 3 := by omega
        · refine M2.same R (pc _ x0) ?_
          show fX7_wants s (a + 110) (nI w) (nI 0) I = _
          unfold fX7_wants
          refine bs_eq (i7_110_39 W) ?_
          rw [XM.1]
          refine if_f g2 ?_
          refine if_t rfl ?_
          refine bs_eq (e7_110_40 W) ?_
          refine bs_eq (r138 W hw10) ?_
          rw [y0]
        · refine M2.same R (pc _ x1) ?_
          show fX7_wants s (a + 110) (nI w) (nI 1) I = _
          unfold fX7_wants
          refine bs_eq (i7_110_39 W) ?_
          rw [XM.1]
          refine if_f g2 ?_
          refine if_f (by decide) ?_
          refine if_t rfl ?_
          refine bs_eq (e7_110_41 W) ?_
          refine bs_eq (r139 W hw10) ?_
          rw [y1]
        · refine M2.same R (pc _ x2) ?_
          show fX7_wants s (a + 110) (nI w) (nI 2) I = _
          unfold fX7_wants
          refine bs_eq (i7_110_39 W) ?_
          rw [XM.1]
          refine if_f g2 ?_
          refine if_f (by decide) ?_
          refine if_f (by decide) ?_
          refine if_t rfl ?_
          refine bs_eq (e7_110_42 W) ?_
          refine bs_eq (r140 W hw10) ?_
          rw [y2]
        · refine M2.same R (pc _ x3) ?_
          show fX7_wants s (a + 110) (nI w) (nI 3) I = _
          unfold fX7_wants
          refine bs_eq (i7_110_39 W) ?_
          rw [XM.1]
          refine if_f g2 ?_
          refine if_f (by decide) ?_
          refine if_f (by decide) ?_
          refine if_f (by decide) ?_
          refine if_t rfl ?_
          refine bs_eq (e7_110_43 W) ?_
          refine bs_eq (r141 W hw10) ?_
          rw [y3]
    · refine M2.same R (x := -1) ?_ ?_
      · unfold fX6_wants
        refine bs_eq (e6_0_0 W) ?_
        refine bs_eq (c2_1 W) ?_
        refine bs_eq g1 ?_
        refine if_f (by decide) ?_
        exact if_t u1 rfl
      · show fX7_wants s (a + 110) (nI w) v2 I = _
        unfold fX7_wants
        refine bs_eq (i7_110_39 W) ?_
        rw [XM.1]
        refine if_f g2 ?_
        refine if_f (by rintro rfl; exact absurd u1 (by decide)) ?_
        refine if_f (by rintro rfl; exact absurd u1 (by decide)) ?_
        refine if_f (by rintro rfl; exact absurd u1 (by decide)) ?_
        refine if_f (by rintro rfl; exact absurd u1 (by decide)) ?_
        refine if_f (by rintro rfl; exact absurd u1 (by decide)) ?_
        rfl
  · refine M2.same R (x := -1) ?_ ?_
    · unfold fX6_wants
      refine bs_eq (e6_0_0 W) ?_
      refine bs_eq (c2_1 W) ?_
      refine bs_eq g1 ?_
      exact if_t rfl rfl
    · show fX7_wants s (a + 110) v1 v2 I = _
      unfold fX7_wants
      refine bs_eq (i7_110_39 W) ?_
      rw [XM.1]
      exact if_t g2 rfl
theorem m_judge (R : Rel s I L n a w1 w2) (v1 v2 v3 : Int32) : M2 s L n a w1 w2 (fX6_judge s L a v1 v2 v3 I) (fun I1 => fX7_judge s L (a + 110) v1 v2 v3 I1) := by
  have W := R.1
  obtain ⟨p1, p2, p3, p4⟩ := stP_y R
  rcases tape_cases v1 with ⟨i, hi, rfl⟩ | ⟨u1, u2⟩
  · obtain ⟨z, hz, z1, z2, hs⟩ := sort_cases R hi
    have c5 := (R.2.2.2.2.2.2.2.2 i hi).2.2.2.2
    rcases place_cases W p1 p2 p3 v3 with ⟨p, hp, rfl, g1, g2⟩ | ⟨g1, g2⟩
    · have hp5 : p < 5 := by omega
      -- both flows, whichever is asked
      obtain ⟨J1, e1, f1, -, O1, -⟩ := settleY R I (fun _ _ => rfl)
      have asg : ∀ J, (∀ x, ¬ (a + 51 ≤ x ∧ x ≤ a + 93) → J x = I x) → ∃ J2 J3, fX7_asIs s (a + 110) J = some J2 ∧ fX7_go s (a + 110) J2 = some J3 ∧ (∀ x, ¬ scr1 a x → J3 x = I x) ∧ MO J3 a (stP I a) (stG I a w1) (stM I a w1) := fun J hJ => by
        obtain ⟨J2, e2, f2, C2', -⟩ := asIsY R J (scrC hJ)
        obtain ⟨J3, e3, f3, O3⟩ := goM W C2' (stGB R) p2 p3
        exact ⟨J2, J3, e2, e3, fun x hx => by
          unfold scr1 at hx
          rw [f3 x (by unfold goCells; omega), f2 x (by omega), hJ x (by omega)], O3⟩
      have mpre : ∀ J r, (∀ x, ¬ (a + 51 ≤ x ∧ x ≤ a + 93) → J x = I x) → (if I (a + 153) i < 0 then fX7_judge_b40 s L (a + 110) (nI i) v2 (nI p) J else if I (a + 153) i = 1 then fX7_judge_b40 s L (a + 110) (nI i) v2 (nI p) J else some (-12, J)) = r → fX7_judge s L (a + 110) (nI i) v2 (nI p) J = r := by
        intro J r hJ hr
        unfold fX7_judge
        refine if_f (isTape_y hi) ?_
        refine bs_eq (g2 J (by rw [hJ _ (by omega)]; exact p4)) ?_
        refine if_f (by decide) ?_
        simp only [e7_110_63 W, Option.bind_some, r153 W (j := i) hi, hJ (a + 153) (by omega)]
        exact hr
      have cpre : ∀ r, (if I (a + 98 + 2 * i) 0 = -1 then fX6_judge_b46 s L a v2 (nI p) (a + 98 + 2 * i) I else if I (a + 98 + 2 * i) 0 = 1 then fX6_judge_b46 s L a v2 (nI p) (a + 98 + 2 * i) I else some (-12, I)) = r → fX6_judge s L a (nI i) v2 (nI p) I = r := by
        intro r hr
        unfold fX6_judge
        refine bs_eq (tapeAt_y W hi) ?_
        refine oc_some ?_
        refine bs_eq (e6_0_0 W) ?_
        refine bs_eq (c2_1 W) ?_
        refine bs_eq g1 ?_
        refine if_f (by decide) ?_
        simp only [i3_0 W hi, Option.bind_some]
        exact hr
      -- the reference's answer, when nothing lies there
      have none' : ∀ J, (∀ x, ¬ (a + 51 ≤ x ∧ x ≤ a + 93) → J x = I x) → (I (a + 153) i < 0 ∨ v2 < 0 ∨ ¬ v2 ≤ nI z - 0 - 1) → ∃ J3, fX7_judge_b40 s L (a + 110) (nI i) v2 (nI p) J = some (100, J3) ∧ ∀ x, ¬ scr1 a x → J3 x = I x := by
        intro J hJ hc
        obtain ⟨J2, J3, e2, e3, f3, O3⟩ := asg J hJ
        refine ⟨J3, ?_, f3⟩
        unfold fX7_judge_b40
        rw [e2, Option.bind_some, e3, Option.bind_some, show (1000 : Nat) = 999 + 1 from rfl, fX7_judge_b51, if_neg (by decide), e7_110_63 W, Option.bind_some, r153 W hi, Option.bind_some, f3 _ (by unfold scr1; omega)]
        by_cases h1 : I (a + 153) i < 0
        · rw [if_pos h1]
          rfl
        · rw [if_neg h1]
          by_cases h2 : v2 < 0
          · rw [if_pos h2]
            rfl
          · rw [if_neg h2, e7_110_64 W, Option.bind_some, r154 W hi, Option.bind_some, f3 _ (by unfold scr1; omega), z2, if_neg (by rcases hc with h | h | h <;> first | exact absurd h h1 | exact absurd h h2 | exact h)]
            rfl
      have empty : I (a + 98 + 2 * i) 0 = -1 ∨ v2 < 0 → fX6_judge_b46 s L a v2 (nI p) (a + 98 + 2 * i) I = some (100, I) := by
        intro hc
        unfold fX6_judge_b46
        rw [i3_0 W hi, Option.bind_some]
        by_cases h1 : I (a + 98 + 2 * i) 0 = -1
        · rw [if_pos h1]
        · rw [if_neg h1, if_neg (fun h => by
            rcases hc with h9 | h9
            · exact h1 h9
            · exact Int32.lt_irrefl (Int32.lt_of_lt_of_le h9 h))]
      have kp : ∀ J3 : IH, (∀ x, ¬ scr1 a x → J3 x = I x) → Rel s J3 L n a w1 w2 := fun J3 h => R.kept (fun x _ hx => h x hx)
      rcases hs with ⟨q1, q2, q3⟩ | ⟨q, hq, q1, q2⟩
      · obtain ⟨J3, m1, m2⟩ := none' I (fun _ _ => rfl) (Or.inl (by rw [q2]; decide))
        exact ⟨100, I, J3, cpre _ (by rw [if_pos q1]; exact empty (Or.inl q1)), mpre I _ (fun _ _ => rfl) (by rw [if_pos (by rw [q2]; decide)]; exact m1), kp J3 m2⟩
      · have nq : ¬ I (a + 98 + 2 * i) 0 = -1 := by rw [q1]; exact ne_m1 hq
        have mq : ¬ I (a + 153) i < 0 := by rw [q2]; exact nI_pos (by omega)
        by_cases h1 : q = 1
        · subst h1
          replace q1 : I (a + 98 + 2 * i) 0 = 1 := q1
          replace q2 : I (a + 153) i = 1 := q2
          by_cases hv2 : v2 < 0
          · obtain ⟨J3, m1, m2⟩ := none' I (fun _ _ => rfl) (Or.inr (Or.inl hv2))
            exact ⟨100, I, J3, cpre _ (by rw [if_neg nq, if_pos q1]; exact empty (Or.inr hv2)), mpre I _ (fun _ _ => rfl) (by rw [if_neg mq, if_pos q2]; exact m1), kp J3 m2⟩
          · obtain ⟨y, hy, rfl⟩ := nI_of hv2
            have cgo : ∀ r, fX6_judge_b98 s L a (fX6_judge_b134 s L a) 1000 (nI y) (a + 98 + 2 * i) (a + 63 + 1 + p) (fJ9_min_7cf53 48 (nI z - nI y)) 0 J1 = r → fX6_judge_b46 s L a (nI y) (nI p) (a + 98 + 2 * i) I = r := by
              intro r hr
              unfold fX6_judge_b46
              rw [i3_0 W hi, Option.bind_some, if_neg nq, if_pos (nI_pos' hy), e6_0_3 W, Option.bind_some, c5_50 W, Option.bind_some, e1, b2_some, Option.bind_some, e5_50_4 W, Option.bind_some, a63 W hp5, Option.bind_some, i3_1 W hi, Option.bind_some, f1 _ (by omega), z1]
              exact hr
            by_cases hyz : y < z
            · -- D hours are looked at
              obtain ⟨J2, J3, e2, e3, f3, O3⟩ := asg J1 f1
              have hD : fJ9_min_7cf53 48 (nI z - nI y) = nI (min 48 (z - y)) := by
                rw [nI_sub (by omega)]
                exact min_nI (x := 48) (by omega) (by omega)
              have key : ∀ mm h fu fu2, h + mm = min 48 (z - y) → mm < fu → mm < fu2 → ∃ x, fX6_judge_b98 s L a (fX6_judge_b134 s L a) fu (nI y) (a + 98 + 2 * i) (a + 63 + 1 + p) (nI (min 48 (z - y))) (nI h) J1 = some (x, J1) ∧ fX7_judge_b51 s L (a + 110) fu2 (nI i) (nI y) (nI p) (nI h) J3 = some (x, J3) := by
                intro mm
                induction mm with
                | zero =>
                  intro h fu fu2 g3 g4 g5
                  obtain ⟨u, rfl⟩ : ∃ u, fu = u + 1 := ⟨fu - 1, by omega⟩
                  obtain ⟨u2', rfl⟩ : ∃ u, fu2 = u + 1 := ⟨fu2 - 1, by omega⟩
                  obtain rfl : h = min 48 (z - y) := g3
                  rw [fX6_judge_b98, if_pos (nI_le (Nat.le_refl _) (by omega))]
                  unfold fX6_judge_b134
                  rw [fX7_judge_b51]
                  by_cases h48 : min 48 (z - y) = 48
                  · refine ⟨48, ?_, ?_⟩
                    · rw [if_pos (by rw [h48]; rfl)]
                    · rw [if_pos (show (48 : Int32) ≤ nI _ from nI_le (a := 48) (by omega) (by omega))]
                  · refine ⟨100 + nI (min 48 (z - y)), ?_, ?_⟩
                    · rw [if_neg (fun h9 => h48 ((nI_eq (by omega) (by omega)).mp (h9.trans (show (48 : Int32) = nI 48 from rfl)))), show fJ9_max_7cf53 (nI (min 48 (z - y))) 0 = nI (min 48 (z - y)) from (max_nI (y := 0) (by omega) (by omega)).trans (by rw [Nat.max_eq_left (Nat.zero_le _)])]
                    · rw [if_neg (show ¬ (48 : Int32) ≤ nI _ from nI_ge (b := 48) (by omega) (by omega)), e7_110_63 W, Option.bind_some, r153 W hi, Option.bind_some, f3 _ (by unfold scr1; omega), if_neg mq, if_neg hv2, e7_110_64 W, Option.bind_some, r154 W hi, Option.bind_some, f3 _ (by unfold scr1; omega), z2, nI_sub (by omega)]
                      rw [if_neg (fun h9 => by
                        have := (le_sub (p := z - min 48 (z - y)) (q := 1) (r := y) (by omega) (by omega) (by omega)).mp h9
                        omega)]
                | succ mm ih =>
                  intro h fu fu2 g3 g4 g5
                  obtain ⟨u, rfl⟩ : ∃ u, fu = u + 1 := ⟨fu - 1, by omega⟩
                  obtain ⟨u2', rfl⟩ : ∃ u, fu2 = u + 1 := ⟨fu2 - 1, by omega⟩
                  have hh : h < 48 := by omega
                  have hL : L (a + 155) (60 * i + y + h) = L (a + 99 + 2 * i) (y + h) := by
                    have := c5 (y + h) (by omega)
                    rw [← Nat.add_assoc] at this
                    exact this
                  have hc1 : J1 (a + 63 + 1 + p) h = nI (cmS (stP I a) (stG I a w1) (stM I a w1) p h) := (O1 p h hp hh).1
                  have hc3 := (O3 p h hp hh).1
                  obtain ⟨x, x1, x2⟩ := ih (h + 1) u u2' (by omega) (by omega) (by omega)
                  have hle : nI y ≤ nI z - nI h - 1 := by
                    rw [nI_sub (by omega)]
                    exact (le_sub (p := z - h) (q := 1) (r := y) (by omega) (by omega) (by omega)).mpr (by omega)
                  rw [fX6_judge_b98, if_neg (nI_ge (by omega) (by omega)), _root_.Jvm.Pilot.CMeltHoursLaw_law_r9302_7ad097.e3 W hi, Option.bind_some, nI_add, r99 W hi (j := y + h) (by omega), Option.bind_some, r63 W hp5 hh, Option.bind_some, hc1, nI_1]
                  rw [fX7_judge_b51, if_neg (show ¬ (48 : Int32) ≤ nI h from nI_ge (b := 48) hh (by omega)), e7_110_63 W, Option.bind_some, r153 W hi, Option.bind_some, f3 _ (by unfold scr1; omega), if_neg mq, if_neg hv2, e7_110_64 W, Option.bind_some, r154 W hi, Option.bind_some, f3 _ (by unfold scr1; omega), z2, if_pos hle, e7_110_65 W, Option.bind_some, m60, nI_add, r155 W (j := 60 * i + y + h) (by omega), Option.bind_some, e7_110_34 W, Option.bind_some, ix48, r133 W (j := 48 * p + h) (by omega), Option.bind_some, hc3, hL, nI_1]
                  by_cases hcmp : lg_cmp (L (a + 99 + 2 * i) (y + h)) (nI (cmS (stP I a) (stG I a w1) (stM I a w1) p h)).toInt64 = 0
                  · rw [if_pos hcmp, if_pos hcmp]
                    exact ⟨x, x1, x2⟩
                  · rw [if_neg hcmp, if_neg hcmp]
                    exact ⟨_, rfl, rfl⟩
              obtain ⟨x, x1, x2⟩ := key (min 48 (z - y)) 0 1000 1000 (by omega) (by omega) (by omega)
              refine ⟨x, J1, J3, cpre _ (by rw [if_neg nq, if_pos q1]; exact cgo _ (by rw [hD]; exact x1)), mpre J1 _ f1 (by
                rw [if_neg mq, if_pos q2]
                unfold fX7_judge_b40
                rw [e2, Option.bind_some, e3, Option.bind_some]
                exact x2), kp J3 f3⟩
            · have hle0 : ∃ t, fJ9_min_7cf53 48 (nI z - nI y) = t ∧ t ≤ 0 := by
                refine ⟨nI z - nI y, ?_, ?_⟩
                · unfold fJ9_min_7cf53
                  rw [if_pos]
                  refine Int32.lt_iff_toInt_lt.mpr ?_
                  rw [sub_toInt (by omega) hy]
                  have h48 : (48 : Int32).toInt = 48 := rfl
                  omega
                · refine Int32.le_iff_toInt_le.mpr ?_
                  rw [sub_toInt (by omega) hy]
                  have h0 : (0 : Int32).toInt = 0 := rfl
                  omega
              obtain ⟨t, ht, ht0⟩ := hle0
              obtain ⟨J3, m1, m2⟩ := none' J1 f1 (Or.inr (Or.inr (fun h9 => by
                rw [sub0] at h9
                have := (le_sub (p := z) (q := 1) (r := y) (by omega) (by omega) hy).mp h9
                omega)))
              refine ⟨100, J1, J3, cpre _ (by
                rw [if_neg nq, if_pos q1]
                refine cgo _ ?_
                rw [ht, show (1000 : Nat) = 999 + 1 from rfl, fX6_judge_b98, if_pos ht0]
                unfold fX6_judge_b134
                rw [if_neg (fun h9 => by rw [h9] at ht0; exact absurd ht0 (by decide))]
                have hmx : fJ9_max_7cf53 t 0 = 0 := by
                  unfold fJ9_max_7cf53
                  by_cases h9 : t < 0
                  · rw [if_pos h9]
                  · rw [if_neg h9]
                    exact Int32.le_antisymm ht0 (Int32.not_lt.mp h9)
                rw [hmx]
                rfl), mpre J1 _ f1 (by rw [if_neg mq, if_pos q2]; exact m1), kp J3 m2⟩
        · have n1 : ¬ nI q = 1 := fun h9 => h1 ((nI_eq (by omega) (by omega)).mp (h9.trans (show (1 : Int32) = nI 1 from rfl)))
          exact M2.same R (cpre _ (by rw [if_neg nq, if_neg (by rw [q1]; exact n1)])) (mpre I _ (fun _ _ => rfl) (by rw [if_neg mq, if_neg (by rw [q2]; exact n1)]))
    · refine M2.same R (x := -1) ?_ ?_
      · unfold fX6_judge
        refine bs_eq (tapeAt_y W hi) ?_
        refine oc_some ?_
        refine bs_eq (e6_0_0 W) ?_
        refine bs_eq (c2_1 W) ?_
        refine bs_eq g1 ?_
        exact if_t rfl rfl
      · show fX7_judge s L (a + 110) (nI i) v2 v3 I = _
        unfold fX7_judge
        refine if_f (isTape_y hi) ?_
        refine bs_eq (g2 I p4) ?_
        exact if_t rfl rfl
  · refine M2.same R (x := -1) ?_ ?_
    · unfold fX6_judge
      refine bs_eq (tapeAt_n W u1) ?_
      rfl
    · show fX7_judge s L (a + 110) v1 v2 v3 I = _
      unfold fX7_judge
      refine if_t u2 ?_
      rfl
end QUERY
