/-! LAYER 2: price, part, pond, wrong, spare -/
section TRIALS
variable {s : SH} {I : IH} {L : LH} {n a w1 w2 w P : Nat} {G : Nat → Nat → Nat} {m : Nat → Nat}
theorem GB.le (B : GB G m) {p : Nat} (hp : p < 5) {c : Nat} (hc : c ≤ 99) : arrS G p (min c (G 2 p)) ≤ 99 := by
  have := arrS_le (G := G) (p := p) (x := min c (G 2 p))
  omega
theorem goC (W : WW s a w1 w2) (B : GB G m) {p c : Nat} (hp : p < 5) (hc : c < 2 ^ 31) (h2 : I (a + 53 + 2) p = nI (G 2 p)) : fX5_going s I (a + 50) (nI p) (nI c) = some (nI (min c (G 2 p))) := by
  obtain ⟨b0, b1, b2', -⟩ := B.1 p hp
  unfold fX5_going
  rw [e5_50_2 W, Option.bind_some, show aR s 4 (a + 52) 2 = some (a + 53 + 2) from a52 W (p := 2) (by omega), Option.bind_some, r52 W (p := 2) (by omega) hp, Option.bind_some, h2, min_nI hc (by omega)]
theorem lessN (B : GB G m) {p x : Nat} (hp : p < 5) (hx : x ≤ 99) : nI x - nI x * nI (G 1 p) / 100 = nI (arrS G p x) := by
  obtain ⟨b0, b1, b2', -⟩ := B.1 p hp
  have hmul : x * G 1 p ≤ 99 * 99 := Nat.mul_le_mul hx b1
  have hle : x * G 1 p / 100 ≤ x := by
    have : x * G 1 p ≤ x * 100 := Nat.mul_le_mul_left _ (by omega)
    omega
  rw [nI_mul, show nI (x * G 1 p) / 100 = nI (x * G 1 p / 100) from pk_div (d := 100) (by omega) (by omega) (by omega), nI_sub hle]
  rfl
theorem arC (W : WW s a w1 w2) (B : GB G m) {p x : Nat} (hp : p < 5) (hx : x ≤ 99) (h1 : I (a + 53 + 1) p = nI (G 1 p)) : fX5_arriving s I (a + 50) (nI p) (nI x) = some (nI (arrS G p x)) := by
  unfold fX5_arriving
  rw [e5_50_2 W, Option.bind_some, show aR s 4 (a + 52) 1 = some (a + 53 + 1) from a52 W (p := 1) (by omega), Option.bind_some, r52 W (p := 1) (by omega) hp, Option.bind_some, h1, lessN B hp hx]
theorem m_price (R : Rel s I L n a w1 w2) (v1 : Int32) : M2 s L n a w1 w2 (fX6_price s a v1 I) (fun I1 => fX7_price s (a + 110) v1 I1) := by
  have W := R.1
  obtain ⟨p1, p2, p3, p4⟩ := stP_y R
  rcases under_cases v1 48 (by omega) (by omega) with ⟨h, hh, rfl⟩ | ⟨-, u1, u2⟩
  · obtain ⟨J1, e1, f1, C1', O1, -⟩ := settleY R I (fun _ _ => rfl)
    have hB1 : ∀ x, x < 48 → stM I a w1 x ≤ 1188 := fun x hx => (stB R).2 _ _ x (skyC R.2.2.1 (d := 0) (by omega)).2.2 (skyC R.2.2.1 (d := 1) (by omega)).2.2 hx
    have B' : GB (stG I a w1) (fun x => if x = h then stM I a w1 h + 1 else stM I a w1 x) := ⟨(stGB R).1, fun x hx => by
      have := hB1 x hx
      have := hB1 h hh
      show (if x = h then _ else _) ≤ 1189
      split <;> omega⟩
    have C2 : CI (wr J1 (a + 51) h (nI (stM I a w1 h + 1))) a (stP I a) (stG I a w1) (fun x => if x = h then stM I a w1 h + 1 else stM I a w1 x) := by
      obtain ⟨c1, c2, c3, c4⟩ := C1'
      refine ⟨by rw [wr_ne (by omega)]; exact c1, fun q p hq hp => by rw [wr_ne (by omega)]; exact c2 q p hq hp, fun p i hp hi => by rw [wr_ne (by omega)]; exact c3 p i hp hi, fun x hx => ?_⟩
      by_cases hxh : x = h
      · subst hxh
        rw [wr_at]
        show _ = nI (if x = x then _ else _)
        rw [if_pos rfl]
      · rw [wr_nj hxh]
        show _ = nI (if x = h then _ else _)
        rw [if_neg hxh]
        exact c4 x hx
    have X2 := (stX R).1.kept (I1 := wr J1 (a + 51) h (nI (stM I a w1 h + 1))) (fun x hx => by rw [wr_ne (by omega), f1 x (by omega)])
    obtain ⟨J2, e2, f2, -, -⟩ := runC (q := 0) W B' p2 p3 (Nat.zero_le _) X2 C2 CO0
    have fJ2 : ∀ x, ¬ (a + 51 ≤ x ∧ x ≤ a + 93) → J2 x = I x := fun x hx => by rw [f2 x (by omega), wr_ne (by omega), f1 x hx]
    obtain ⟨J3, e3, f3, C3', X3⟩ := asIsY R J2 (scrC fJ2)
    obtain ⟨J4, e4, f4, -, -⟩ := runM W (stGB R) p2 p3 X3 C3'
    have C4' : MI J4 a (stP I a) (stG I a w1) (stM I a w1) := C3'.kept (fun x hx => f4 x (by unfold goCells; omega))
    have C5' : MI (wr J4 (a + 126) h (nI (stM I a w1 h + 1))) a (stP I a) (stG I a w1) (fun x => if x = h then stM I a w1 h + 1 else stM I a w1 x) := by
      obtain ⟨c1, c2, c3⟩ := C4'
      refine ⟨by rw [wr_ne (by omega)]; exact c1, fun x hx => ?_, fun p hp => ?_⟩
      · by_cases hxh : x = h
        · subst hxh
          rw [wr_at]
          show _ = nI (if x = x then _ else _)
          rw [if_pos rfl]
        · rw [wr_nj hxh]
          show _ = nI (if x = h then _ else _)
          rw [if_neg hxh]
          exact c2 x hx
      · rw [wr_ne (by omega), wr_ne (by omega), wr_ne (by omega), wr_ne (by omega), wr_ne (by omega), wr_ne (by omega), wr_ne (by omega)]
        exact c3 p hp
    have X5 := X3.kept (I1 := wr J4 (a + 126) h (nI (stM I a w1 h + 1))) (fun x hx => by rw [wr_ne (by omega), f4 x (by unfold goCells; omega)])
    obtain ⟨J5, e5, f5, -, -⟩ := runM W B' p2 p3 X5 C5'
    refine ⟨nI (stWorth I a (stG I a w1) (fun x => if x = h then stM I a w1 h + 1 else stM I a w1 x)) - nI (stWorth I a (stG I a w1) (stM I a w1)), J2, J5, ?_, ?_, R.kept (fun x _ hx => ?_)⟩
    · unfold fX6_price
      refine if_f (un (N := 48) hh (by omega)) ?_
      refine bs_eq (e6_0_3 W) ?_
      refine bs_eq (c5_50 W) ?_
      refine b2_eq e1 ?_
      refine bs_eq (e6_0_3 W) ?_
      refine bs_eq (e5_50_1 W) ?_
      refine bs_eq (r51 W hh) ?_
      rw [C1'.2.2.2 h hh, nI_1]
      refine bs_eq (s51 W hh) ?_
      refine bs_eq (e6_0_3 W) ?_
      refine bs_eq (c5_50 W) ?_
      exact b2_eq e2 rfl
    · show fX7_price s (a + 110) (nI h) J2 = _
      unfold fX7_price
      refine if_f (inn (N := 48) hh (by omega)) ?_
      refine bs_eq e3 ?_
      refine b2_eq e4 ?_
      refine bs_eq (e7_110_27 W) ?_
      refine bs_eq (r126 W hh) ?_
      rw [C4'.2.1 h hh, nI_1]
      refine bs_eq (s126 W hh) ?_
      exact b2_eq e5 rfl
    · unfold scr1 at hx
      rw [f5 x (by unfold goCells; omega), wr_ne (by omega), f4 x (by unfold goCells; omega), f3 x (by omega), fJ2 x (by omega)]
  · refine M2.same R (x := -1001) ?_ ?_
    · unfold fX6_price
      exact if_t u1 rfl
    · show fX7_price s (a + 110) v1 I = _
      unfold fX7_price
      exact if_t u2 rfl
/-- a part of c cups, after k places -/
def ptS (G : Nat → Nat → Nat) (c : Nat) : Nat → Nat
  | 0 => c
  | k + 1 => arrS G k (min (ptS G c k) (G 2 k))
def ptT (G : Nat → Nat → Nat) (h : Nat) : Nat → Nat
  | 0 => h
  | k + 1 => ptT G h k + G 0 k
theorem ptS_le {c : Nat} (hc : c ≤ 99) : ∀ k, ptS G c k ≤ 99
  | 0 => hc
  | k + 1 => by
    have h1 := ptS_le hc k
    have h2 := arrS_le (G := G) (p := k) (x := min (ptS G c k) (G 2 k))
    show arrS G k (min (ptS G c k) (G 2 k)) ≤ 99
    omega
theorem ptT_le (B : GB G m) {h : Nat} (hh : h < 48) : ∀ k, k ≤ 5 → ptT G h k ≤ 47 + 21 * k
  | 0, _ => by
    show h ≤ _
    omega
  | k + 1, hk => by
    have h1 := ptT_le B hh k (by omega)
    have h2 := (B.1 k (by omega)).1
    show ptT G h k + G 0 k ≤ _
    omega
theorem m_part (R : Rel s I L n a w1 w2) (v1 v2 v3 v4 : Int32) : M2 s L n a w1 w2 (fX6_part s a v1 v2 v3 v4 I) (fun I1 => fX7_part s (a + 110) v1 v2 v3 v4 I1) := by
  have W := R.1
  obtain ⟨p1, p2, p3, p4⟩ := stP_y R
  have B := stGB R
  rcases place_cases W p1 p2 p3 v1 with ⟨p, hp, rfl, g1, g2⟩ | ⟨g1, g2⟩
  · rcases under_cases v2 48 (by omega) (by omega) with ⟨h, hh, rfl⟩ | ⟨-, u1, u2⟩
    · rcases under_cases v4 2 (by omega) (by omega) with ⟨q, hq, rfl⟩ | ⟨-, u3, u4⟩
      · have cpre : ∀ r, (if v3 < 1 then some (-2, I) else if v3 ≤ 99 then ((fX5_load s (a + 50) I).bind fun i6 => fX6_part_b61 s a (fX6_part_b112 s a) 1000 (nI p) (nI q) v3 (nI h) 0 i6) else some (-2, I)) = r → fX6_part s a (nI p) (nI h) v3 (nI q) I = r := by
          intro r hr
          unfold fX6_part
          refine bs_eq (e6_0_0 W) ?_
          refine bs_eq (c2_1 W) ?_
          refine bs_eq g1 ?_
          refine if_f (by decide) ?_
          refine if_f (un (N := 48) hh (by omega)) ?_
          refine if_f (un (N := 2) hq (by omega)) ?_
          simp only [e6_0_3 W, c5_50 W, Option.bind_some]
          exact hr
        have mpre : ∀ J r, J (a + 110) 0 = nI (stP I a) → (if fX7_in v3 1 99 = 0 then some (-2, J) else ((fX7_asIs s (a + 110) J).bind fun i2 => fX7_part_b56 s (a + 110) (fX7_part_b101 s (a + 110)) 1000 (nI p) (nI q) v3 (nI h) 0 i2)) = r → fX7_part s (a + 110) (nI p) (nI h) v3 (nI q) J = r := by
          intro J r hJ hr
          unfold fX7_part
          refine bs_eq (g2 J hJ) ?_
          refine if_f (by decide) ?_
          refine if_f (inn (N := 48) hh (by omega)) ?_
          refine if_f (inn (N := 2) hq (by omega)) ?_
          exact hr
        rcases rng v3 1 99 (by omega) (by omega) with ⟨c, h1, h2, rfl⟩ | ⟨u5, u6⟩ | ⟨u5, -, u7, u8⟩
        · obtain ⟨J1, e1, f1, v1', -⟩ := loadY R I (fun _ _ => rfl)
          have fJ1 : ∀ x, ¬ (a + 51 ≤ x ∧ x ≤ a + 93) → J1 x = I x := fun x hx => f1 x (by omega)
          obtain ⟨J2, e2, f2, C2', -⟩ := asIsY R J1 (scrC fJ1)
          have cloop : ∀ mm k fuel, k + mm = p + 1 → mm < fuel → fX6_part_b61 s a (fX6_part_b112 s a) fuel (nI p) (nI q) (nI (ptS (stG I a w1) c k)) (nI (ptT (stG I a w1) h k)) (nI k) J1 = fX6_part_b112 s a (nI q) (nI (ptS (stG I a w1) c (p + 1))) (nI (ptT (stG I a w1) h (p + 1))) J1 := by
            intro mm
            induction mm with
            | zero =>
              intro k fuel g3 g4
              obtain ⟨u, rfl⟩ : ∃ u, fuel = u + 1 := ⟨fuel - 1, by omega⟩
              obtain rfl : k = p + 1 := g3
              rw [fX6_part_b61, if_pos (nI_lt (by omega) (by omega))]
            | succ mm ih =>
              intro k fuel g3 g4
              obtain ⟨u, rfl⟩ : ∃ u, fuel = u + 1 := ⟨fuel - 1, by omega⟩
              have hk : k < 5 := by omega
              have hs := ptS_le (G := stG I a w1) h2 k
              rw [fX6_part_b61, if_neg (nI_nlt (by omega) (by omega)), e6_0_3 W, Option.bind_some, Option.bind_some, c5_50 W, Option.bind_some, goC W B hk (by omega) (v1' 2 k (by omega) hk), Option.bind_some, Option.bind_some, arC W B hk (by omega) (v1' 1 k (by omega) hk), Option.bind_some, Option.bind_some, e5_50_2 W, Option.bind_some, show aR s 4 (a + 52) 0 = some (a + 53 + 0) from a52 W (p := 0) (by omega), Option.bind_some, r52 W (p := 0) (by omega) hk, Option.bind_some, v1' 0 k (by omega) hk, nI_add, nI_1]
              exact ih (k + 1) u (by omega) (by omega)
          have mloop : ∀ mm k fuel, k + mm = p + 1 → mm < fuel → fX7_part_b56 s (a + 110) (fX7_part_b101 s (a + 110)) fuel (nI p) (nI q) (nI (ptS (stG I a w1) c k)) (nI (ptT (stG I a w1) h k)) (nI k) J2 = fX7_part_b101 s (a + 110) (nI q) (nI (ptS (stG I a w1) c (p + 1))) (nI (ptT (stG I a w1) h (p + 1))) J2 := by
            intro mm
            induction mm with
            | zero =>
              intro k fuel g3 g4
              obtain ⟨u, rfl⟩ : ∃ u, fuel = u + 1 := ⟨fuel - 1, by omega⟩
              obtain rfl : k = p + 1 := g3
              rw [fX7_part_b56, if_pos (nI_lt (by omega) (by omega))]
            | succ mm ih =>
              intro k fuel g3 g4
              obtain ⟨u, rfl⟩ : ∃ u, fuel = u + 1 := ⟨fuel - 1, by omega⟩
              have hk : k < 5 := by omega
              have hs := ptS_le (G := stG I a w1) h2 k
              obtain ⟨m0, m1, m2, -⟩ := C2'.2.2 k hk
              have hls : fX7_less s J2 (a + 110) (nI (min (ptS (stG I a w1) c k) (stG I a w1 2 k))) (nI k) = some (nI (ptS (stG I a w1) c (k + 1))) := by
                unfold fX7_less
                rw [e7_110_29 W, Option.bind_some, r128 W hk, Option.bind_some, m1, lessN B hk (by omega)]
                rfl
              obtain ⟨b0, b1, b2', -⟩ := B.1 k hk
              rw [fX7_part_b56, if_neg (nI_nlt (by omega) (by omega)), e7_110_30 W, Option.bind_some, r129 W hk, Option.bind_some, m2, min7 (by omega) (by omega), hls, Option.bind_some, e7_110_28 W, Option.bind_some, r127 W hk, Option.bind_some, m0, nI_add, nI_1]
              exact ih (k + 1) u (by omega) (by omega)
          have hT := ptT_le B hh (p + 1) (by omega)
          have hS := ptS_le (G := stG I a w1) h2 (p + 1)
          have RK : Rel s J2 L n a w1 w2 := R.kept (fun x _ hx => by
            unfold scr1 at hx
            rw [f2 x (by omega), f1 x (by omega)])
          have c0 := cloop (p + 1) 0 1000 (by omega) (by omega)
          have m0 := mloop (p + 1) 0 1000 (by omega) (by omega)
          have fin : ∃ x, fX6_part_b112 s a (nI q) (nI (ptS (stG I a w1) c (p + 1))) (nI (ptT (stG I a w1) h (p + 1))) J1 = some (x, J1) ∧ fX7_part_b101 s (a + 110) (nI q) (nI (ptS (stG I a w1) c (p + 1))) (nI (ptT (stG I a w1) h (p + 1))) J2 = some (x, J2) := by
            unfold fX6_part_b112 fX7_part_b101 fX6_part_b122 fX7_part_b113
            by_cases ht : ptT (stG I a w1) h (p + 1) < 48
            · rw [if_pos (show nI _ < (48 : Int32) from nI_lt (b := 48) ht (by omega)), if_neg (show ¬ (47 : Int32) < nI _ from nI_nlt (a := 47) (by omega) (by omega))]
              by_cases hz : ptS (stG I a w1) c (p + 1) = 0
              · rw [hz]
                by_cases hq0 : nI q = 0
                · rw [if_pos hq0, if_pos (show nI 0 = 0 from rfl), if_pos hq0]
                  exact ⟨_, rfl, rfl⟩
                · rw [if_neg hq0, if_pos (show nI 0 = 0 from rfl), if_pos (show nI 0 = 0 from rfl), if_neg hq0]
                  exact ⟨_, rfl, rfl⟩
              · have nz : ¬ nI (ptS (stG I a w1) c (p + 1)) = 0 := nI_ne0 (by omega) (by omega)
                by_cases hq0 : nI q = 0
                · rw [if_pos hq0, if_neg nz, if_pos hq0]
                  exact ⟨_, rfl, rfl⟩
                · rw [if_neg hq0, if_neg nz, if_neg nz, if_neg hq0]
                  exact ⟨_, rfl, rfl⟩
            · rw [if_neg (show ¬ nI _ < (48 : Int32) from nI_nlt (b := 48) (by omega) (by omega)), if_pos (show (47 : Int32) < nI _ from nI_lt (a := 47) (by omega) (by omega))]
              by_cases hq0 : nI q = 0
              · rw [if_pos hq0, if_pos hq0]
                exact ⟨_, rfl, rfl⟩
              · rw [if_neg hq0, if_neg hq0, if_pos rfl]
                exact ⟨_, rfl, rfl⟩
          obtain ⟨x, x1, x2⟩ := fin
          refine ⟨x, J1, J2, cpre _ ?_, mpre J1 _ (by rw [fJ1 _ (by omega)]; exact p4) ?_, RK⟩
          · rw [if_neg (show ¬ nI c < 1 from nI_nlt (b := 1) h1 (by omega)), if_pos (show nI c ≤ 99 from nI_le (b := 99) h2 (by omega)), e1, Option.bind_some]
            exact c0.trans x1
          · rw [if_neg (show ¬ fX7_in (nI c) 1 99 = 0 from in_ok (lo := 1) (hi := 99) h1 h2 (by omega)), e2, Option.bind_some]
            exact m0.trans x2
        · exact M2.same R (x := -2) (cpre _ (if_pos u5)) (mpre I _ p4 (if_pos u6))
        · exact M2.same R (x := -2) (cpre _ ((if_neg u5).trans (if_neg u7))) (mpre I _ p4 (if_pos u8))
      · refine M2.same R (x := -1) ?_ ?_
        · unfold fX6_part
          refine bs_eq (e6_0_0 W) ?_
          refine bs_eq (c2_1 W) ?_
          refine bs_eq g1 ?_
          refine if_f (by decide) ?_
          refine if_f (un (N := 48) hh (by omega)) ?_
          exact if_t u3 rfl
        · show fX7_part s (a + 110) (nI p) (nI h) v3 v4 I = _
          unfold fX7_part
          refine bs_eq (g2 I p4) ?_
          refine if_f (by decide) ?_
          refine if_f (inn (N := 48) hh (by omega)) ?_
          exact if_t u4 rfl
    · refine M2.same R (x := -1) ?_ ?_
      · unfold fX6_part
        refine bs_eq (e6_0_0 W) ?_
        refine bs_eq (c2_1 W) ?_
        refine bs_eq g1 ?_
        refine if_f (by decide) ?_
        exact if_t u1 rfl
      · show fX7_part s (a + 110) (nI p) v2 v3 v4 I = _
        unfold fX7_part
        refine bs_eq (g2 I p4) ?_
        refine if_f (by decide) ?_
        exact if_t u2 rfl
  · refine M2.same R (x := -1) ?_ ?_
    · unfold fX6_part
      refine bs_eq (e6_0_0 W) ?_
      refine bs_eq (c2_1 W) ?_
      refine bs_eq g1 ?_
      exact if_t rfl rfl
    · show fX7_part s (a + 110) v1 v2 v3 v4 I = _
      unfold fX7_part
      refine bs_eq (g2 I p4) ?_
      exact if_t rfl rfl
/-- a basin enlarged -/
def plusB (G : Nat → Nat → Nat) (p c : Nat) : Nat → Nat → Nat := fun i q => if i = 3 ∧ q = p then G 3 p + c else G i q
def pondS (I : IH) (a : Nat) (G : Nat → Nat → Nat) (m : Nat → Nat) (c : Nat) : Nat → Int32 × Int32
  | 0 => (-1, 0)
  | k + 1 => if nI (stWorth I a (plusB G k c) m) ≤ (pondS I a G m c k).1 then pondS I a G m c k else (nI (stWorth I a (plusB G k c) m), nI k)
theorem plusB_GB (R : Rel s I L n a w1 w2) {p c : Nat} (hc : c ≤ 50) {m : Nat → Nat} (hm : ∀ h, h < 48 → m h ≤ 1189) : GB (plusB (stG I a w1) p c) m := by
  refine ⟨fun q hq => ?_, hm⟩
  obtain ⟨g0, g1, g2, g3, g4, g5, g6⟩ := (stB R).1 q hq
  unfold plusB
  refine ⟨by rw [if_neg (by omega)]; omega, by rw [if_neg (by omega)]; exact g1, by rw [if_neg (by omega)]; exact g2, ?_, by rw [if_neg (by omega)]; exact g4, by rw [if_neg (by omega)]; exact g5, by rw [if_neg (by omega)]; exact g6⟩
  by_cases hqp : q = p
  · subst hqp
    rw [if_pos ⟨rfl, rfl⟩]
    omega
  · rw [if_neg (fun h => hqp h.2)]
    omega
theorem m_pond (R : Rel s I L n a w1 w2) (v1 : Int32) : M2 s L n a w1 w2 (fX6_pond s a v1 I) (fun I1 => fX7_pond s (a + 110) v1 I1) := by
  have W := R.1
  obtain ⟨p1, p2, p3, p4⟩ := stP_y R
  have B := stGB R
  rcases rng v1 1 50 (by omega) (by omega) with ⟨c, h1, h2, rfl⟩ | ⟨u1, u2⟩ | ⟨u1, -, u3, u4⟩
  · obtain ⟨J1, e1, f1, C1', -, -⟩ := settleY R I (fun _ _ => rfl)
    have cl : ∀ mm k fuel (J : IH), k + mm = stP I a → mm < fuel → CI J a (stP I a) (stG I a w1) (stM I a w1) → (∀ x, ¬ (a + 51 ≤ x ∧ x ≤ a + 93) → J x = I x) → ∃ J', fX6_pond_b29 s a fuel (nI c) (pondS I a (stG I a w1) (stM I a w1) c k).1 (pondS I a (stG I a w1) (stM I a w1) c k).2 (nI k) J = some ((pondS I a (stG I a w1) (stM I a w1) c (stP I a)).2, J') ∧ ∀ x, ¬ (a + 51 ≤ x ∧ x ≤ a + 93) → J' x = I x := by
      intro mm
      induction mm with
      | zero =>
        intro k fuel J g3 g4 C f
        obtain ⟨u, rfl⟩ : ∃ u, fuel = u + 1 := ⟨fuel - 1, by omega⟩
        obtain rfl : k = stP I a := g3
        refine ⟨J, ?_, f⟩
        rw [fX6_pond_b29, e6_0_0 W, Option.bind_some, i2_1_0 W, Option.bind_some, C.1, if_pos (nI_le (Nat.le_refl _) (by omega))]
      | succ mm ih =>
        intro k fuel J g3 g4 C f
        obtain ⟨u, rfl⟩ : ∃ u, fuel = u + 1 := ⟨fuel - 1, by omega⟩
        have hk : k < 5 := by omega
        have hB3 := ((stB R).1 k hk).2.2.2.1
        have C2 : CI (wr J (a + 53 + 3) k (nI (stG I a w1 3 k + c))) a (stP I a) (plusB (stG I a w1) k c) (stM I a w1) := by
          obtain ⟨c1, c2, c3, c4⟩ := C
          refine ⟨by rw [wr_ne (by omega)]; exact c1, fun q p hq hp => ?_, fun p i hp hi => ?_, fun x hx => by rw [wr_ne (by omega)]; exact c4 x hx⟩
          · unfold plusB
            by_cases hqk : q = 3 ∧ p = k
            · obtain ⟨rfl, rfl⟩ := hqk
              rw [wr_at, if_pos ⟨rfl, rfl⟩]
            · rw [wr_or (by omega), if_neg hqk]
              exact c2 q p hq hp
          · unfold plusB
            rw [wr_ne (by omega), if_neg (by omega)]
            exact c3 p i hp hi
        have X2 := (stX R).1.kept (I1 := wr J (a + 53 + 3) k (nI (stG I a w1 3 k + c))) (fun x hx => by rw [wr_ne (by omega), f x (by omega)])
        obtain ⟨J2, e2, f2, -, -⟩ := runC (q := 0) W (plusB_GB R h2 B.2) p2 p3 (Nat.zero_le _) X2 C2 CO0
        have C2' := C2.kept (I1 := J2) (fun x hx => f2 x (by omega))
        have C3 : CI (wr J2 (a + 53 + 3) k (nI (stG I a w1 3 k))) a (stP I a) (stG I a w1) (stM I a w1) := by
          obtain ⟨c1, c2, c3, c4⟩ := C2'
          refine ⟨by rw [wr_ne (by omega)]; exact c1, fun q p hq hp => ?_, fun p i hp hi => ?_, fun x hx => by rw [wr_ne (by omega)]; exact c4 x hx⟩
          · by_cases hqk : q = 3 ∧ p = k
            · obtain ⟨rfl, rfl⟩ := hqk
              rw [wr_at]
            · rw [wr_or (by omega), c2 q p hq hp]
              unfold plusB
              rw [if_neg hqk]
          · rw [wr_ne (by omega), c3 p i hp hi]
            unfold plusB
            rw [if_neg (by omega)]
        obtain ⟨J3, e3, f3⟩ := ih (k + 1) u (wr J2 (a + 53 + 3) k (nI (stG I a w1 3 k))) (by omega) (by omega) C3 (fun x hx => by rw [wr_ne (by omega), f2 x (by omega), wr_ne (by omega), f x hx])
        refine ⟨J3, ?_, f3⟩
        have hb3 : plusB (stG I a w1) k c 3 k = stG I a w1 3 k + c := by
          unfold plusB
          rw [if_pos ⟨rfl, rfl⟩]
        have a3 : aR s 4 (a + 52) 3 = some (a + 53 + 3) := a52 W (p := 3) (by omega)
        rw [fX6_pond_b29, e6_0_0 W, Option.bind_some, i2_1_0 W, Option.bind_some, C.1, if_neg (nI_ge (by omega) (by omega)), e6_0_3 W, Option.bind_some, e5_50_2 W, Option.bind_some, a3, Option.bind_some, r52 W (p := 3) (by omega) hk, Option.bind_some, C.2.1 3 k (by omega) hk, nI_add, show sI s J (a + 53 + 3) (nI k) _ = _ from s52 W (p := 3) (by omega) hk, Option.bind_some, Option.bind_some, c5_50 W, Option.bind_some, show fX5_again s (a + 50) 0 _ = _ from e2, b2_some, Option.bind_some, e5_50_2 W, Option.bind_some, a3, Option.bind_some, r52 W (p := 3) (by omega) hk, Option.bind_some, C2'.2.1 3 k (by omega) hk, hb3, nI_sub (by omega), show stG I a w1 3 k + c - c = stG I a w1 3 k by omega, show sI s J2 (a + 53 + 3) (nI k) _ = _ from s52 W (p := 3) (by omega) hk, Option.bind_some, nI_1]
        have hp1 : pondS I a (stG I a w1) (stM I a w1) c (k + 1) = if nI (stWorth I a (plusB (stG I a w1) k c) (stM I a w1)) ≤ (pondS I a (stG I a w1) (stM I a w1) c k).1 then pondS I a (stG I a w1) (stM I a w1) c k else (nI (stWorth I a (plusB (stG I a w1) k c) (stM I a w1)), nI k) := rfl
        rw [hp1] at e3
        show (if nI (stWorth I a (plusB (stG I a w1) k c) (stM I a w1)) ≤ _ then _ else _) = _
        by_cases hle : nI (stWorth I a (plusB (stG I a w1) k c) (stM I a w1)) ≤ (pondS I a (stG I a w1) (stM I a w1) c k).1
        · rw [if_pos hle] at e3 ⊢
          exact e3
        · rw [if_neg hle] at e3 ⊢
          exact e3
    have ml : ∀ mm k fuel (J : IH), k + mm = stP I a → mm < fuel → MI J a (stP I a) (stG I a w1) (stM I a w1) → (∀ x, ¬ scr1 a x → J x = I x) → ∃ J', fX7_pond_b25 s (a + 110) fuel (nI c) (pondS I a (stG I a w1) (stM I a w1) c k).2 (pondS I a (stG I a w1) (stM I a w1) c k).1 (nI k) J = some ((pondS I a (stG I a w1) (stM I a w1) c (stP I a)).2, J') ∧ ∀ x, ¬ scr1 a x → J' x = I x := by
      intro mm
      induction mm with
      | zero =>
        intro k fuel J g3 g4 C f
        obtain ⟨u, rfl⟩ : ∃ u, fuel = u + 1 := ⟨fuel - 1, by omega⟩
        obtain rfl : k = stP I a := g3
        refine ⟨J, ?_, f⟩
        rw [fX7_pond_b25, i7_110_0 W, Option.bind_some, C.1, if_pos (nI_le (Nat.le_refl _) (by omega))]
      | succ mm ih =>
        intro k fuel J g3 g4 C f
        obtain ⟨u, rfl⟩ : ∃ u, fuel = u + 1 := ⟨fuel - 1, by omega⟩
        have hk : k < 5 := by omega
        have hB3 := ((stB R).1 k hk).2.2.2.1
        have upd3 : ∀ (K : IH) (G1 G2 : Nat → Nat → Nat), MI K a (stP I a) G1 (stM I a w1) → (∀ i q, ¬ (i = 3 ∧ q = k) → G2 i q = G1 i q) → MI (wr K (a + 130) k (nI (G2 3 k))) a (stP I a) G2 (stM I a w1) := fun K G1 G2 h hg => by
          obtain ⟨c1, c2, c3⟩ := h
          refine ⟨by rw [wr_ne (by omega)]; exact c1, fun x hx => by rw [wr_ne (by omega)]; exact c2 x hx, fun p hp => ?_⟩
          obtain ⟨m0, m1, m2, m3, m4, m5, m6⟩ := c3 p hp
          rw [wr_ne (by omega), wr_ne (by omega), wr_ne (by omega), wr_ne (x := a + 130) (y := a + 131) (by omega), wr_ne (x := a + 130) (y := a + 113) (by omega), wr_ne (x := a + 130) (y := a + 132) (by omega), hg 0 p (by omega), hg 1 p (by omega), hg 2 p (by omega), hg 4 p (by omega), hg 5 p (by omega), hg 6 p (by omega)]
          refine ⟨m0, m1, m2, ?_, m4, m5, m6⟩
          by_cases hpk : p = k
          · subst hpk
            exact wr_at
          · rw [wr_nj hpk, hg 3 p (fun h => hpk h.2)]
            exact m3
        have hb3 : plusB (stG I a w1) k c 3 k = stG I a w1 3 k + c := by
          unfold plusB
          rw [if_pos ⟨rfl, rfl⟩]
        have C2 := upd3 J (stG I a w1) (plusB (stG I a w1) k c) C (fun i q h => by unfold plusB; rw [if_neg h])
        rw [hb3] at C2
        have X2 := (stX R).2.kept (I1 := wr J (a + 130) k (nI (stG I a w1 3 k + c))) (fun x hx => by rw [wr_ne (by omega), f x (by unfold scr1; omega)])
        obtain ⟨J2, e2, f2, -, -⟩ := runM W (plusB_GB R h2 B.2) p2 p3 X2 C2
        have C2' := C2.kept (I1 := J2) (fun x hx => f2 x (by unfold goCells; omega))
        have C3 := upd3 J2 (plusB (stG I a w1) k c) (stG I a w1) C2' (fun i q h => by unfold plusB; rw [if_neg h])
        obtain ⟨J3, e3, f3⟩ := ih (k + 1) u (wr J2 (a + 130) k (nI (stG I a w1 3 k))) (by omega) (by omega) C3 (fun x hx => by
          have hx' := hx
          unfold scr1 at hx'
          rw [wr_ne (by omega), f2 x (by unfold goCells; omega), wr_ne (by omega), f x hx])
        refine ⟨J3, ?_, f3⟩
        obtain ⟨-, -, -, m3, -⟩ := C.2.2 k hk
        obtain ⟨-, -, -, m3', -⟩ := C2'.2.2 k hk
        rw [fX7_pond_b25, i7_110_0 W, Option.bind_some, C.1, if_neg (nI_ge (by omega) (by omega)), e7_110_31 W, Option.bind_some, r130 W hk, Option.bind_some, m3, nI_add, s130 W hk, Option.bind_some, e2, b2_some, Option.bind_some, r130 W hk, Option.bind_some, m3', hb3, nI_sub (by omega), show stG I a w1 3 k + c - c = stG I a w1 3 k by omega, s130 W hk, Option.bind_some, nI_1]
        have hp1 : pondS I a (stG I a w1) (stM I a w1) c (k + 1) = if nI (stWorth I a (plusB (stG I a w1) k c) (stM I a w1)) ≤ (pondS I a (stG I a w1) (stM I a w1) c k).1 then pondS I a (stG I a w1) (stM I a w1) c k else (nI (stWorth I a (plusB (stG I a w1) k c) (stM I a w1)), nI k) := rfl
        rw [hp1] at e3
        show (if _ < nI (stWorth I a (plusB (stG I a w1) k c) (stM I a w1)) then _ else _) = _
        by_cases hle : nI (stWorth I a (plusB (stG I a w1) k c) (stM I a w1)) ≤ (pondS I a (stG I a w1) (stM I a w1) c k).1
        · rw [if_pos hle] at e3
          rw [if_neg (Int32.not_lt.mpr hle)]
          exact e3
        · rw [if_neg hle] at e3
          rw [if_pos (Int32.not_le.mp hle)]
          exact e3
    obtain ⟨J2, e2, f2⟩ := cl (stP I a) 0 1000 J1 (by omega) (by omega) C1' f1
    obtain ⟨J3, e3, f3, C3', -⟩ := asIsY R J2 (scrC f2)
    obtain ⟨J4, e4, f4⟩ := ml (stP I a) 0 1000 J3 (by omega) (by omega) C3' (fun x hx => by
      have hx' := hx
      unfold scr1 at hx'
      rw [f3 x (by omega), f2 x (by omega)])
    refine ⟨(pondS I a (stG I a w1) (stM I a w1) c (stP I a)).2, J2, J4, ?_, ?_, R.kept (fun x _ hx => f4 x hx)⟩
    · unfold fX6_pond
      refine if_f (nI_nlt (b := 1) h1 (by omega)) ?_
      refine if_t (nI_le (b := 50) h2 (by omega)) ?_
      refine bs_eq (e6_0_3 W) ?_
      refine bs_eq (c5_50 W) ?_
      exact b2_eq e1 e2
    · show fX7_pond s (a + 110) (nI c) J2 = _
      unfold fX7_pond
      refine if_f (in_ok (lo := 1) (hi := 50) h1 h2 (by omega)) ?_
      exact bs_eq e3 e4
  · refine M2.same R (x := -2) ?_ ?_
    · unfold fX6_pond
      exact if_t u1 rfl
    · show fX7_pond s (a + 110) v1 I = _
      unfold fX7_pond
      exact if_t u2 rfl
  · refine M2.same R (x := -2) ?_ ?_
    · unfold fX6_pond
      refine if_f u1 ?_
      exact if_f u3 rfl
    · show fX7_pond s (a + 110) v1 I = _
      unfold fX7_pond
      exact if_t u4 rfl
/-- all lags one hour longer, for the first k places -/
def plusL (G : Nat → Nat → Nat) (k : Nat) : Nat → Nat → Nat := fun i q => if i = 0 ∧ q < k then G 0 q + 1 else G i q
theorem m_wrong (R : Rel s I L n a w1 w2) : M2 s L n a w1 w2 (fX6_wrong s a I) (fun I1 => fX7_wrong s (a + 110) I1) := by
  have W := R.1
  obtain ⟨p1, p2, p3, p4⟩ := stP_y R
  have B := stGB R
  have B' : GB (plusL (stG I a w1) 5) (stM I a w1) := by
    refine ⟨fun q hq => ?_, B.2⟩
    obtain ⟨g0, g1, g2, g3, g4, g5, g6⟩ := (stB R).1 q hq
    unfold plusL
    exact ⟨by rw [if_pos ⟨rfl, hq⟩]; omega, by rw [if_neg (by omega)]; exact g1, by rw [if_neg (by omega)]; exact g2, by rw [if_neg (by omega)]; omega, by rw [if_neg (by omega)]; exact g4, by rw [if_neg (by omega)]; exact g5, by rw [if_neg (by omega)]; exact g6⟩
  obtain ⟨J1, e1, f1, C1', -, -⟩ := settleY R I (fun _ _ => rfl)
  have step0 : ∀ k, plusL (stG I a w1) k 0 k = stG I a w1 0 k := fun k => by
    unfold plusL
    rw [if_neg (by omega)]
  have step1 : ∀ k, plusL (stG I a w1) (k + 1) 0 k = stG I a w1 0 k + 1 := fun k => by
    unfold plusL
    rw [if_pos ⟨rfl, by omega⟩]
  have step2 : ∀ k i q, ¬ (i = 0 ∧ q = k) → plusL (stG I a w1) (k + 1) i q = plusL (stG I a w1) k i q := fun k i q h => by
    unfold plusL
    by_cases h1 : i = 0 ∧ q < k
    · rw [if_pos h1, if_pos ⟨h1.1, by omega⟩]
    · rw [if_neg h1, if_neg (by omega)]
  have G0 : plusL (stG I a w1) 0 = stG I a w1 := by
    funext i q
    unfold plusL
    rw [if_neg (by omega)]
  have cl : ∀ (K : Int32 → IH → Option (Int32 × IH)) (z : Int32) mm k fuel (J : IH), k + mm = 5 → mm < fuel → CI J a (stP I a) (plusL (stG I a w1) k) (stM I a w1) → (∀ x, ¬ (a + 51 ≤ x ∧ x ≤ a + 93) → J x = I x) → ∃ J', fX6_wrong_b20 s a K fuel z (a + 53 + 0) (nI k) J = K z J' ∧ CI J' a (stP I a) (plusL (stG I a w1) 5) (stM I a w1) ∧ ∀ x, ¬ (a + 51 ≤ x ∧ x ≤ a + 93) → J' x = I x := by
    intro K z mm
    induction mm with
    | zero =>
      intro k fuel J g3 g4 C f
      obtain ⟨u, rfl⟩ : ∃ u, fuel = u + 1 := ⟨fuel - 1, by omega⟩
      obtain rfl : k = 5 := g3
      refine ⟨J, ?_, C, f⟩
      rw [fX6_wrong_b20, show aL s (a + 53 + 0) = some (nI 5) from lr52 W (p := 0) (by omega), Option.bind_some, if_pos (nI_le (Nat.le_refl _) (by omega))]
    | succ mm ih =>
      intro k fuel J g3 g4 C f
      obtain ⟨u, rfl⟩ : ∃ u, fuel = u + 1 := ⟨fuel - 1, by omega⟩
      have hk : k < 5 := by omega
      obtain ⟨J3, e3, C3, f3⟩ := ih (k + 1) u (wr J (a + 53 + 0) k (nI (stG I a w1 0 k + 1))) (by omega) (by omega) (by
        obtain ⟨c1, c2, c3, c4⟩ := C
        refine ⟨by rw [wr_ne (by omega)]; exact c1, fun q p hq hp => ?_, fun p i hp hi => ?_, fun x hx => by rw [wr_ne (by omega)]; exact c4 x hx⟩
        · by_cases hqk : q = 0 ∧ p = k
          · obtain ⟨rfl, rfl⟩ := hqk
            rw [wr_at, step1]
          · rw [wr_or (by omega), step2 k q p hqk]
            exact c2 q p hq hp
        · rw [wr_ne (by omega), step2 k (4 + i) p (by omega)]
          exact c3 p i hp hi) (fun x hx => by rw [wr_ne (by omega), f x hx])
      refine ⟨J3, ?_, C3, f3⟩
      rw [fX6_wrong_b20, show aL s (a + 53 + 0) = some (nI 5) from lr52 W (p := 0) (by omega), Option.bind_some, if_neg (nI_ge (by omega) (by omega)), show aI s J 0 (a + 53 + 0) (nI k) = _ from r52 W (p := 0) (by omega) hk, Option.bind_some, C.2.1 0 k (by omega) hk, step0, nI_1, show sI s J (a + 53 + 0) (nI k) _ = _ from s52 W (p := 0) (by omega) hk, Option.bind_some, nI_1]
      exact e3
  have ml : ∀ (K : Int32 → IH → Option (Int32 × IH)) (z : Int32) mm k fuel (J : IH), k + mm = 5 → mm < fuel → MI J a (stP I a) (plusL (stG I a w1) k) (stM I a w1) → (∀ x, ¬ scr1 a x → J x = I x) → ∃ J', fX7_wrong_b11 s (a + 110) K fuel z (nI k) J = K z J' ∧ MI J' a (stP I a) (plusL (stG I a w1) 5) (stM I a w1) ∧ ∀ x, ¬ scr1 a x → J' x = I x := by
    intro K z mm
    induction mm with
    | zero =>
      intro k fuel J g3 g4 C f
      obtain ⟨u, rfl⟩ : ∃ u, fuel = u + 1 := ⟨fuel - 1, by omega⟩
      obtain rfl : k = 5 := g3
      refine ⟨J, ?_, C, f⟩
      rw [fX7_wrong_b11, if_pos (show (5 : Int32) ≤ nI 5 by decide)]
    | succ mm ih =>
      intro k fuel J g3 g4 C f
      obtain ⟨u, rfl⟩ : ∃ u, fuel = u + 1 := ⟨fuel - 1, by omega⟩
      have hk : k < 5 := by omega
      obtain ⟨J3, e3, C3, f3⟩ := ih (k + 1) u (wr J (a + 127) k (nI (stG I a w1 0 k + 1))) (by omega) (by omega) (by
        obtain ⟨c1, c2, c3⟩ := C
        refine ⟨by rw [wr_ne (by omega)]; exact c1, fun x hx => by rw [wr_ne (by omega)]; exact c2 x hx, fun p hp => ?_⟩
        obtain ⟨m0, m1, m2, m3, m4, m5, m6⟩ := c3 p hp
        rw [wr_ne (x := a + 127) (y := a + 128) (by omega), wr_ne (x := a + 127) (y := a + 129) (by omega), wr_ne (x := a + 127) (y := a + 130) (by omega), wr_ne (x := a + 127) (y := a + 131) (by omega), wr_ne (x := a + 127) (y := a + 113) (by omega), wr_ne (x := a + 127) (y := a + 132) (by omega), step2 k 1 p (by omega), step2 k 2 p (by omega), step2 k 3 p (by omega), step2 k 4 p (by omega), step2 k 5 p (by omega), step2 k 6 p (by omega)]
        refine ⟨?_, m1, m2, m3, m4, m5, m6⟩
        by_cases hpk : p = k
        · subst hpk
          rw [wr_at, step1]
        · rw [wr_nj hpk, step2 k 0 p (fun h => hpk h.2)]
          exact m0) (fun x hx => by
          have hx' := hx
          unfold scr1 at hx'
          rw [wr_ne (by omega), f x hx])
      refine ⟨J3, ?_, C3, f3⟩
      rw [fX7_wrong_b11, if_neg (show ¬ (5 : Int32) ≤ nI k from nI_ge (b := 5) hk (by omega)), e7_110_28 W, Option.bind_some, r127 W hk, Option.bind_some, (C.2.2 k hk).1, step0, nI_1, s127 W hk, Option.bind_some, nI_1]
      exact e3
  obtain ⟨J2, e2, C2, f2⟩ := cl (fX6_wrong_b39 s a) (nI (stWorth I a (stG I a w1) (stM I a w1))) 5 0 1000 J1 rfl (by omega) (by rw [G0]; exact C1') f1
  have X2 := (stX R).1.kept (I1 := J2) (fun x hx => f2 x (by omega))
  obtain ⟨J3, e3, f3, -, -⟩ := runC (q := 0) W B' p2 p3 (Nat.zero_le _) X2 C2 CO0
  have fJ3 : ∀ x, ¬ (a + 51 ≤ x ∧ x ≤ a + 93) → J3 x = I x := fun x hx => by rw [f3 x (by omega), f2 x hx]
  obtain ⟨J4, e4, f4, C4, X4⟩ := asIsY R J3 (scrC fJ3)
  obtain ⟨J5, e5, f5, -, -⟩ := runM W B p2 p3 X4 C4
  have fJ5 : ∀ x, ¬ scr1 a x → J5 x = I x := fun x hx => by
    unfold scr1 at hx
    rw [f5 x (by unfold goCells; omega), f4 x (by omega), fJ3 x (by omega)]
  obtain ⟨J6, e6, C6, f6⟩ := ml (fX7_wrong_b32 s (a + 110)) (nI (stWorth I a (stG I a w1) (stM I a w1))) 5 0 1000 J5 rfl (by omega) (by rw [G0]; exact C4.kept (fun x hx => f5 x (by unfold goCells; omega))) fJ5
  have X6 := (stX R).2.kept (I1 := J6) (fun x hx => f6 x (by unfold scr1; omega))
  obtain ⟨J7, e7, f7, -, -⟩ := runM W B' p2 p3 X6 C6
  refine ⟨nI (stWorth I a (stG I a w1) (stM I a w1)) - nI (stWorth I a (plusL (stG I a w1) 5) (stM I a w1)), J3, J7, ?_, ?_, R.kept (fun x _ hx => ?_)⟩
  · unfold fX6_wrong
    refine bs_eq (e6_0_3 W) ?_
    refine bs_eq (c5_50 W) ?_
    refine b2_eq e1 ?_
    refine bs_eq (e6_0_3 W) ?_
    refine bs_eq (e5_50_2 W) ?_
    refine bs_eq (show aR s 4 (a + 52) 0 = some (a + 53 + 0) from a52 W (p := 0) (by omega)) ?_
    refine Eq.trans e2 ?_
    unfold fX6_wrong_b39
    refine bs_eq (e6_0_3 W) ?_
    refine bs_eq (c5_50 W) ?_
    exact b2_eq e3 rfl
  · show fX7_wrong s (a + 110) J3 = _
    unfold fX7_wrong
    refine bs_eq e4 ?_
    refine b2_eq e5 ?_
    refine Eq.trans e6 ?_
    unfold fX7_wrong_b32
    exact b2_eq e7 rfl
  · have hx' := hx
    unfold scr1 at hx'
    rw [f7 x (by unfold goCells; omega), f6 x hx]
end TRIALS
