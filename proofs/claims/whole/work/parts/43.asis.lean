/-! LAYER 2: told and melts; all as it is told -/
theorem min7 {x y : Nat} (hx : x < 2 ^ 31) (hy : y < 2 ^ 31) : fX7_min (nI x) (nI y) = nI (min x y) := by
  unfold fX7_min
  by_cases h : y ≤ x
  · rw [if_pos (nI_le h hx), Nat.min_eq_right h]
  · rw [if_neg (nI_ge (by omega) hy), Nat.min_eq_left (by omega)]
theorem lastN_le {wd sp nu : Nat → Nat} {W p d : Nat} (hd : d ≤ 99) : ∀ C, (∀ c, c < C → nu c ≤ 99) → lastN wd sp nu W p d C ≤ 99
  | 0, _ => hd
  | C + 1, h => by
    show (if wd C = W ∧ sp C = p then nu C else lastN wd sp nu W p d C) ≤ 99
    split
    · exact h C (by omega)
    · exact lastN_le hd C (fun c hc => h c (by omega))
/-- a reading call of the class, one of the reference that writes its scratch cells -/
def MQ1 (s : SH) (L : LH) (n a w1 w2 : Nat) (c : Option Int32) (m : Option (Int32 × IH)) : Prop := ∃ x I2, c = some x ∧ m = some (x, I2) ∧ Rel s I2 L n a w1 w2
section ASIS
variable {s : SH} {I : IH} {L : LH} {n a w1 w2 w : Nat}
theorem VR.way {f : Int32} (V : VR I a w f) {p : Nat} (hp : p < 5) : Bd (I (w + 2 + 0) p) 0 20 ∧ Bd (I (w + 2 + 1) p) 0 99 ∧ Bd (I (w + 2 + 2) p) 0 99 ∧ Bd (I (w + 2 + 3) p) 0 99 := by
  obtain ⟨C, wd, sp, nu, M, -, h2, -, h4⟩ := V
  obtain ⟨g0, g1, g2, g3⟩ := h2 p hp
  have b : ∀ W d, d ≤ 99 → lastN wd sp nu W p d C ≤ 99 := fun W d hd => lastN_le hd C h4
  exact ⟨Bd_of g0 (Nat.zero_le _) (Nat.min_le_left _ _) (by omega), Bd_of g1 (Nat.zero_le _) (b _ _ (by omega)) (by omega), Bd_of g2 (Nat.zero_le _) (b _ _ (by omega)) (by omega), Bd_of g3 (Nat.zero_le _) (b _ _ (by omega)) (by omega)⟩
theorem lastM (W : WW s a w1 w2) {F C : Nat} {wd sp nu : Nat → Nat} {M : Nat → Nat → Nat → Bool} {w p d : Nat} (hF : F < 5) (hC12 : C ≤ 12) (I' : IH) (h8 : I' (a + 110) 8 = nI F) (hC : I' (a + 116) F = nI C) (cl : ∀ c, c < C → CLs I a F c (wd c) (sp c) (nu c) (M c)) (fr : ∀ x, a + 117 ≤ x → x ≤ a + 119 → I' x = I x) (hw : 0 < w) (hw5 : w < 5) (hp : p < 5) : ∀ m c fuel, c + m = C → m < fuel → fX7_last_b9 s I' (a + 110) fuel (nI w) (nI p) (nI (lastN wd sp nu w p d c)) (nI (12 * F + c)) = some (nI (lastN wd sp nu w p d C)) := by
  have hb := ((first_y W I' h8).2 F C rfl hF hC).2
  intro m
  induction m with
  | zero =>
    intro c fuel h1 h2
    obtain ⟨u, rfl⟩ : ∃ u, fuel = u + 1 := ⟨fuel - 1, by omega⟩
    obtain rfl : c = C := h1
    rw [fX7_last_b9, hb, Option.bind_some, if_pos (nI_le (Nat.le_refl _) (by omega))]
  | succ m ih =>
    intro c fuel h1 h2
    obtain ⟨u, rfl⟩ : ∃ u, fuel = u + 1 := ⟨fuel - 1, by omega⟩
    obtain ⟨q1, q2, q3, q4, q5, q6⟩ := cl c (by omega)
    have hidx : 12 * F + c < 60 := by omega
    have hs : lastN wd sp nu w p d (c + 1) = if wd c = w ∧ sp c = p then nu c else lastN wd sp nu w p d c := rfl
    have go := ih (c + 1) u (by omega) (by omega)
    rw [fX7_last_b9, hb, Option.bind_some, if_neg (nI_ge (by omega) (by omega)), e7_110_14 W, Option.bind_some, r117 W hidx, Option.bind_some, fr _ (by omega) (by omega), q1]
    by_cases hwd : wd c = w
    · obtain ⟨g1, g2⟩ := q3 (by omega)
      rw [if_pos (by rw [hwd]), e7_110_15 W, Option.bind_some, r118 W hidx, Option.bind_some, fr _ (by omega) (by omega), g1]
      by_cases hsp : sp c = p
      · rw [if_pos (by rw [hsp]), e7_110_16 W, Option.bind_some, r119 W hidx, Option.bind_some, fr _ (by omega) (by omega), q4, nI_1, show nu c = lastN wd sp nu w p d (c + 1) by rw [hs, if_pos ⟨hwd, hsp⟩]]
        exact go
      · rw [if_neg (fun h => hsp ((nI_eq (by omega) (by omega)).mp h)), nI_1, show lastN wd sp nu w p d c = lastN wd sp nu w p d (c + 1) by rw [hs, if_neg (fun h => hsp h.2)]]
        exact go
    · rw [if_neg (fun h => hwd ((nI_eq (by omega) (by omega)).mp h)), nI_1, show lastN wd sp nu w p d c = lastN wd sp nu w p d (c + 1) by rw [hs, if_neg (fun h => hwd h.1)]]
      exact go
theorem toldM (W : WW s a w1 w2) (V : VR I a w1 (I (a + 110) 8)) {p q : Nat} (hp : p < 5) (hq : q < 4) (I' : IH) (fr : ∀ x, x = a + 110 ∨ (a + 116 ≤ x ∧ x ≤ a + 119) → I' x = I x) : fX7_told s I' (a + 110) (nI p) (nI q) = some (I (w1 + 2 + q) p) := by
  obtain ⟨C, wd, sp, nu, M, h1, h2, -, h4⟩ := V
  have key : ∀ w d, 0 < w → w < 5 → fX7_last s I' (a + 110) (nI w) (nI p) (nI d) = some (nI (lastN wd sp nu w p d C)) := by
    intro w d hw hw5
    unfold fX7_last
    rcases h1 with ⟨h1, rfl⟩ | ⟨F, q1, q2, q3, q4, q5, q6⟩
    · obtain ⟨g1, g2⟩ := (first_y W I' (by rw [fr _ (by omega)])).1 h1
      rw [g1, Option.bind_some, show (1000 : Nat) = 999 + 1 from rfl, fX7_last_b9, g2, Option.bind_some, if_pos (nI_le (Nat.le_refl _) (by omega))]
      rfl
    · have e8 : I' (a + 110) 8 = nI F := by rw [fr _ (by omega)]; exact q1
      have eC : I' (a + 116) F = nI C := by rw [fr _ (by omega)]; exact q4
      obtain ⟨g1, g2⟩ := (first_y W I' e8).2 F C rfl q2 eC
      rw [g1, Option.bind_some]
      exact lastM (d := d) W q2 q5 I' e8 eC q6 (fun x g3 g4 => fr x (by omega)) hw hw5 hp C 0 1000 (by omega) (by omega)
  obtain ⟨g0, g1, g2, g3⟩ := h2 p hp
  have b : ∀ W d, d ≤ 99 → lastN wd sp nu W p d C ≤ 99 := fun W d hd => lastN_le hd C h4
  unfold fX7_told
  rw [if_neg (show ¬ fX7_isGate (nI p) = 0 from inn (N := 5) hp (by omega))]
  have k1' : fX7_last s I' (a + 110) 1 (nI p) 1 = some (nI (lastN wd sp nu 1 p 1 C)) := key 1 1 (by omega) (by omega)
  have k2' : fX7_last s I' (a + 110) 2 (nI p) 0 = some (nI (lastN wd sp nu 2 p 0 C)) := key 2 0 (by omega) (by omega)
  have k3' : fX7_last s I' (a + 110) 3 (nI p) 99 = some (nI (lastN wd sp nu 3 p 99 C)) := key 3 99 (by omega) (by omega)
  have k4' : fX7_last s I' (a + 110) 4 (nI p) 0 = some (nI (lastN wd sp nu 4 p 0 C)) := key 4 0 (by omega) (by omega)
  obtain rfl | rfl | rfl | rfl : q = 0 ∨ q = 1 ∨ q = 2 ∨ q = 3 := by omega
  · have hb := b 1 1 (by omega)
    refine if_t rfl ?_
    refine bs_eq k1' ?_
    rw [g0]
    congr 1
    exact min7 (x := 20) (by omega) (by omega)
  · refine if_f (by decide) ?_
    refine if_t rfl ?_
    refine bs_eq k2' ?_
    rw [g1]
  · refine if_f (by decide) ?_
    refine if_f (by decide) ?_
    refine if_t rfl ?_
    refine bs_eq k3' ?_
    rw [g2]
  · refine if_f (by decide) ?_
    refine if_f (by decide) ?_
    refine if_f (by decide) ?_
    refine if_t rfl ?_
    refine bs_eq k4' ?_
    rw [g3]
theorem m_told (R : Rel s I L n a w1 w2) (v1 v2 : Int32) : M1 (fX6_told s I a v1 v2) (fX7_told s I (a + 110) v1 v2) := by
  have W := R.1
  have V := W.2.2.2.2.2.2.2.2.2.2.2.1
  rcases under_cases v1 5 (by omega) (by omega) with ⟨p, hp, rfl⟩ | ⟨-, u1, u2⟩
  · rcases under_cases v2 4 (by omega) (by omega) with ⟨q, hq, rfl⟩ | ⟨-, u3, u4⟩
    · refine M1.i ?_ (toldM W R.2.2.2.2.1.2.1 hp hq I (fun _ _ => rfl))
      unfold fX6_told
      refine if_f (un (N := 5) hp (by omega)) ?_
      refine if_f (un (N := 4) hq (by omega)) ?_
      refine bs_eq (e6_0_0 W) ?_
      refine bs_eq (e2_1_8 W) ?_
      refine bs_eq (v_R0 V) ?_
      refine bs_eq (v_a V hq) ?_
      exact bs_eq (v_r V hq hp) rfl
    · refine M1.i (x := -1) ?_ ?_
      · unfold fX6_told
        refine if_f (un (N := 5) hp (by omega)) ?_
        refine if_t u3 ?_
        rfl
      · unfold fX7_told
        refine if_f (inn (N := 5) hp (by omega)) ?_
        refine if_f (by rintro rfl; exact absurd u3 (by decide)) ?_
        refine if_f (by rintro rfl; exact absurd u3 (by decide)) ?_
        refine if_f (by rintro rfl; exact absurd u3 (by decide)) ?_
        refine if_f (by rintro rfl; exact absurd u3 (by decide)) ?_
        rfl
  · refine M1.i (x := -1) ?_ ?_
    · unfold fX6_told
      refine if_t u1 ?_
      rfl
    · unfold fX7_told
      refine if_t u2 ?_
      rfl
/-- the sky of an hour's day -/
def skyN (I : IH) (a d : Nat) : Nat := nv (I (a + 9) d)
theorem skyC (S : SRnow I a) {d : Nat} (hd : d < 2) : I (a + 9) d = nI (skyN I a d) ∧ I (a + 111) d = nI (skyN I a d) ∧ skyN I a d < 3 := by
  obtain ⟨h1, h2⟩ := S.2.1 d hd
  exact ⟨h2.1, by rw [h1]; exact h2.1, by have := h2.2.2; unfold skyN; omega⟩
theorem m_melts (R : Rel s I L n a w1 w2) (v1 : Int32) : MQ1 s L n a w1 w2 (fX6_melts s I a v1) (fX7_melts s (a + 110) v1 I) := by
  have W := R.1
  have S := R.2.2.1
  rcases under_cases v1 48 (by omega) (by omega) with ⟨h, hh, rfl⟩ | ⟨-, u1, u2⟩
  · have hd : h / 24 < 2 := by omega
    obtain ⟨k1', k2', k3'⟩ := skyC S hd
    have e24 : nI h / 24 = nI (h / 24) := pk_div (d := 24) (by omega) (by omega) (by omega)
    obtain ⟨I2, e2, f2⟩ := meltM W S R.2.2.2.2.1.2.1 hh k3' I (fun _ _ _ => rfl)
    refine ⟨nI (mlt I a w1 h (skyN I a (h / 24))), I2, ?_, ?_, R.kept (fun x _ hs => funext fun j => f2 x j (by unfold scr1 at hs; omega))⟩
    · unfold fX6_melts
      refine if_f (un (N := 48) hh (by omega)) ?_
      refine bs_eq (e6_0_0 W) ?_
      refine bs_eq (e6_0_0 W) ?_
      refine bs_eq (e2_1_1 W) ?_
      rw [e24]
      refine bs_eq (r9 W hd) ?_
      refine bs_eq (c2_1 W) ?_
      rw [k1']
      exact bs_eq (meltC W S R.2.2.2.2.1.2.1 hh k3' I (fun _ _ => rfl)) rfl
    · unfold fX7_melts
      refine if_f (inn (N := 48) hh (by omega)) ?_
      refine bs_eq (e7_110_3 W) ?_
      rw [e24]
      refine bs_eq (r111 W hd) ?_
      rw [k2']
      exact b2_eq e2 rfl
  · refine ⟨-1, I, ?_, ?_, R⟩
    · unfold fX6_melts
      refine if_t u1 ?_
      rfl
    · unfold fX7_melts
      refine if_t u2 ?_
      rfl
/-- the class copies ways and gates -/
theorem loadC (W : WW s a w1 w2) (ho1 : w1 = a + 2 ∨ a + 157 ≤ w1) (I' : IH) : ∃ I1, fX5_load s (a + 50) I' = some I1 ∧ (∀ x, ¬ ((a + 53 ≤ x ∧ x < a + 57) ∨ (a + 58 ≤ x ∧ x < a + 63)) → I1 x = I' x) ∧ (∀ q p, q < 4 → p < 5 → I1 (a + 53 + q) p = I' (w1 + 2 + q) p) ∧ ∀ p j, p < 5 → j < 3 → I1 (a + 58 + p) j = I' (a + 12 + p) j := by
  have V := W.2.2.2.2.2.2.2.2.2.2.2.1
  obtain ⟨J1, c1, f1, v1⟩ := copyRows_y (I := I') (s := s) (x := w1 + 1) (y := a + 52) (xr := w1 + 2) (yr := a + 53) (N := 4) (K := 5) (v_l V) (l52 W) (fun p hp => v_a V hp) (fun p hp => a52 W hp) (fun p hp => v_g V hp) (fun p hp => g52 W hp) (by omega) (by omega) (by omega)
  obtain ⟨J2, c2, f2, v2⟩ := copyRows_y (I := J1) (s := s) (l11 W) (l57 W) (fun p hp => a11 W hp) (fun p hp => a57 W hp) (fun p hp => g11 W hp) (fun p hp => g57 W hp) (by omega) (by omega) (by omega)
  refine ⟨J2, ?_, fun x hx => ?_, fun q p hq hp => ?_, fun p j hp hj => ?_⟩
  · unfold fX5_load
    refine bs_eq (e5_50_0 W) ?_
    refine bs_eq (e2_1_8 W) ?_
    refine bs_eq (v_R0 V) ?_
    refine bs_eq (e5_50_2 W) ?_
    refine bs_eq c1 ?_
    refine bs_eq (e5_50_0 W) ?_
    refine bs_eq (e2_1_3 W) ?_
    refine bs_eq (e5_50_3 W) ?_
    exact bs_eq c2 rfl
  · rw [f2 x (by omega), f1 x (by omega)]
  · rw [f2 _ (by omega), v1 q p hq hp]
  · rw [v2 p j hp hj, f1 _ (by omega)]
/-- the class's melts under skies -/
theorem underC (W : WW s a w1 w2) (S : SRnow I a) {f : Int32} (V : VR I a w1 f) (ho1 : w1 = a + 2 ∨ a + 157 ≤ w1) {k1 k2 : Nat} (hk1 : k1 < 3) (hk2 : k2 < 3) (I' : IH) (fr : ∀ x, x = a + 1 ∨ x = a + 28 ∨ x = w1 + 6 → I' x = I x) : ∃ I1, fX5_meltUnder s (a + 50) (nI k1) (nI k2) I' = some I1 ∧ (∀ x, x ≠ a + 51 → I1 x = I' x) ∧ ∀ h, h < 48 → I1 (a + 51) h = nI (mlt I a w1 h (if h < 24 then k1 else k2)) := by
  have key : ∀ m q fuel (I0 : IH), q + m = 48 → m < fuel → (∀ x, x ≠ a + 51 → I0 x = I' x) → (∀ h, h < q → I0 (a + 51) h = nI (mlt I a w1 h (if h < 24 then k1 else k2))) → ∃ I1, fX5_meltUnder_b2 s (a + 50) fuel (nI k1) (nI k2) (nI q) I0 = some I1 ∧ (∀ x, x ≠ a + 51 → I1 x = I' x) ∧ ∀ h, h < 48 → I1 (a + 51) h = nI (mlt I a w1 h (if h < 24 then k1 else k2)) := by
    intro m
    induction m with
    | zero =>
      intro q fuel I0 h1 h2 f0 v0
      obtain ⟨u, rfl⟩ : ∃ u, fuel = u + 1 := ⟨fuel - 1, by omega⟩
      obtain rfl : q = 48 := h1
      refine ⟨I0, ?_, f0, v0⟩
      rw [fX5_meltUnder_b2, e5_50_1 W, Option.bind_some, l51 W, Option.bind_some, if_pos (nI_le (Nat.le_refl _) (by omega))]
    | succ m ih =>
      intro q fuel I0 h1 h2 f0 v0
      obtain ⟨u, rfl⟩ : ∃ u, fuel = u + 1 := ⟨fuel - 1, by omega⟩
      have fr0 : ∀ x, x = a + 1 ∨ x = a + 28 ∨ x = w1 + 6 → I0 x = I x := fun x hx => (f0 x (by omega)).trans (fr x hx)
      have step : ∀ k, k < 3 → k = (if q < 24 then k1 else k2) → ∃ I1, fX5_meltUnder_b32 s (a + 50) (fX5_meltUnder_b2 s (a + 50) u) (nI k1) (nI k2) (nI q) (a + 51) (nI q) (a + 1) (nI q) (nI k) I0 = some I1 ∧ (∀ x, x ≠ a + 51 → I1 x = I' x) ∧ ∀ h, h < 48 → I1 (a + 51) h = nI (mlt I a w1 h (if h < 24 then k1 else k2)) := by
        intro k hk hkq
        unfold fX5_meltUnder_b32
        rw [c2_1 W, Option.bind_some, meltC W S V (by omega) hk I0 fr0, Option.bind_some, s51 W (j := q) (by omega), Option.bind_some, nI_1]
        refine ih (q + 1) u _ (by omega) (by omega) (fun x hx => by rw [wr_ne hx, f0 x hx]) (fun h hh => ?_)
        by_cases hhq : h = q
        · subst hhq
          rw [wr_at, hkq]
        · rw [wr_nj hhq]
          exact v0 h (by omega)
      rw [fX5_meltUnder_b2, e5_50_1 W, Option.bind_some, l51 W, Option.bind_some, if_neg (nI_ge (by omega) (by omega)), Option.bind_some, e5_50_0 W, Option.bind_some]
      by_cases h24 : q < 24
      · rw [if_neg (show ¬ (24 : Int32) ≤ nI q from nI_ge (b := 24) h24 (by omega))]
        exact step k1 hk1 (by rw [if_pos h24])
      · rw [if_pos (show (24 : Int32) ≤ nI q from nI_le (a := 24) (by omega) (by omega))]
        exact step k2 hk2 (by rw [if_neg h24])
  exact key 48 0 1000 I' rfl (by omega) (fun _ _ => rfl) (fun h hh => absurd hh (by omega))
/-- the reference's melts, under the skies k of its two days -/
theorem asIsM (W : WW s a w1 w2) (S : SRnow I a) (V : VR I a w1 (I (a + 110) 8)) (ho1 : w1 = a + 2 ∨ a + 157 ≤ w1) (I' : IH) (fr : ∀ x, ¬ scr1 a x → I' x = I x) : ∃ I1, fX7_asIs s (a + 110) I' = some I1 ∧ (∀ x, ¬ (x = a + 124 ∨ (a + 126 ≤ x ∧ x ≤ a + 132)) → I1 x = I' x) ∧ (∀ h, h < 48 → I1 (a + 126) h = nI (mlt I a w1 h (if h < 24 then skyN I a 0 else skyN I a 1))) ∧ ∀ p, p < 5 → I1 (a + 127) p = I (w1 + 2 + 0) p ∧ I1 (a + 128) p = I (w1 + 2 + 1) p ∧ I1 (a + 129) p = I (w1 + 2 + 2) p ∧ I1 (a + 130) p = I (w1 + 2 + 3) p ∧ I1 (a + 131) p = I (a + 12 + p) 0 ∧ I1 (a + 132) p = I (a + 12 + p) 2 := by
  have key2 : ∀ m q fuel (I0 : IH), q + m = 5 → m < fuel → (∀ x, ¬ (x = a + 124 ∨ (a + 126 ≤ x ∧ x ≤ a + 132)) → I0 x = I' x) → (∀ h, h < 48 → I0 (a + 126) h = nI (mlt I a w1 h (if h < 24 then skyN I a 0 else skyN I a 1))) → (∀ p, p < q → I0 (a + 127) p = I (w1 + 2 + 0) p ∧ I0 (a + 128) p = I (w1 + 2 + 1) p ∧ I0 (a + 129) p = I (w1 + 2 + 2) p ∧ I0 (a + 130) p = I (w1 + 2 + 3) p ∧ I0 (a + 131) p = I (a + 12 + p) 0 ∧ I0 (a + 132) p = I (a + 12 + p) 2) → ∃ I1, fX7_asIs_b36 s (a + 110) fuel (nI q) I0 = some I1 ∧ (∀ x, ¬ (x = a + 124 ∨ (a + 126 ≤ x ∧ x ≤ a + 132)) → I1 x = I' x) ∧ (∀ h, h < 48 → I1 (a + 126) h = nI (mlt I a w1 h (if h < 24 then skyN I a 0 else skyN I a 1))) ∧ ∀ p, p < 5 → I1 (a + 127) p = I (w1 + 2 + 0) p ∧ I1 (a + 128) p = I (w1 + 2 + 1) p ∧ I1 (a + 129) p = I (w1 + 2 + 2) p ∧ I1 (a + 130) p = I (w1 + 2 + 3) p ∧ I1 (a + 131) p = I (a + 12 + p) 0 ∧ I1 (a + 132) p = I (a + 12 + p) 2 := by
    intro m
    induction m with
    | zero =>
      intro q fuel I0 h1 h2 f0 g0 v0
      obtain ⟨u, rfl⟩ : ∃ u, fuel = u + 1 := ⟨fuel - 1, by omega⟩
      obtain rfl : q = 5 := h1
      refine ⟨I0, ?_, f0, g0, v0⟩
      rw [fX7_asIs_b36, if_pos (show (5 : Int32) ≤ nI 5 by decide)]
    | succ m ih =>
      intro q fuel I0 h1 h2 f0 g0 v0
      obtain ⟨u, rfl⟩ : ∃ u, fuel = u + 1 := ⟨fuel - 1, by omega⟩
      have hq : q < 5 := by omega
      have frI : ∀ x, ¬ scr1 a x → I0 x = I x := fun x hx => (f0 x (by unfold scr1 at hx; omega)).trans (fr x hx)
      have S4 := S.2.2.2.1 q hq
      have T0 := toldM W V hq (q := 0) (by omega) I0 (fun x hx => frI x (by unfold scr1; omega))
      have T1 := fun (I2 : IH) (h : ∀ x, x = a + 110 ∨ (a + 116 ≤ x ∧ x ≤ a + 119) → I2 x = I0 x) => toldM W V hq (q := 1) (by omega) I2 (fun x hx => (h x hx).trans (frI x (by unfold scr1; omega)))
      have T2 := fun (I2 : IH) (h : ∀ x, x = a + 110 ∨ (a + 116 ≤ x ∧ x ≤ a + 119) → I2 x = I0 x) => toldM W V hq (q := 2) (by omega) I2 (fun x hx => (h x hx).trans (frI x (by unfold scr1; omega)))
      have T3 := fun (I2 : IH) (h : ∀ x, x = a + 110 ∨ (a + 116 ≤ x ∧ x ≤ a + 119) → I2 x = I0 x) => toldM W V hq (q := 3) (by omega) I2 (fun x hx => (h x hx).trans (frI x (by unfold scr1; omega)))
      replace T0 : fX7_told s I0 (a + 110) (nI q) 0 = _ := T0
      rw [fX7_asIs_b36, if_neg (show ¬ (5 : Int32) ≤ nI q from nI_ge (b := 5) hq (by omega)), e7_110_28 W, Option.bind_some, T0, Option.bind_some, s127 W hq, Option.bind_some, e7_110_29 W, Option.bind_some]
      generalize hJ1 : wr I0 (a + 127) q (I (w1 + 2 + 0) q) = J1
      have j1 : ∀ x j, (x ≠ a + 127 ∨ j ≠ q) → J1 x j = I0 x j := fun x j h => by rw [← hJ1, wr_or h]
      have y1 : J1 (a + 127) q = I (w1 + 2 + 0) q := by rw [← hJ1, wr_at]
      have t1 : fX7_told s J1 (a + 110) (nI q) 1 = _ := T1 J1 (fun x hx => funext fun j => j1 x j (by omega))
      rw [t1, Option.bind_some, s128 W hq, Option.bind_some, e7_110_30 W, Option.bind_some]
      generalize hJ2 : wr J1 (a + 128) q (I (w1 + 2 + 1) q) = J2
      have j2 : ∀ x j, (x ≠ a + 128 ∨ j ≠ q) → J2 x j = J1 x j := fun x j h => by rw [← hJ2, wr_or h]
      have y2 : J2 (a + 128) q = I (w1 + 2 + 1) q := by rw [← hJ2, wr_at]
      have t2 : fX7_told s J2 (a + 110) (nI q) 2 = _ := T2 J2 (fun x hx => funext fun j => by rw [j2 x j (by omega), j1 x j (by omega)])
      rw [t2, Option.bind_some, s129 W hq, Option.bind_some, e7_110_31 W, Option.bind_some]
      generalize hJ3 : wr J2 (a + 129) q (I (w1 + 2 + 2) q) = J3
      have j3 : ∀ x j, (x ≠ a + 129 ∨ j ≠ q) → J3 x j = J2 x j := fun x j h => by rw [← hJ3, wr_or h]
      have y3 : J3 (a + 129) q = I (w1 + 2 + 2) q := by rw [← hJ3, wr_at]
      have t3 : fX7_told s J3 (a + 110) (nI q) 3 = _ := T3 J3 (fun x hx => funext fun j => by rw [j3 x j (by omega), j2 x j (by omega), j1 x j (by omega)])
      rw [t3, Option.bind_some, s130 W hq, Option.bind_some, e7_110_32 W, Option.bind_some, e7_110_4 W, Option.bind_some, r112 W hq, Option.bind_some]
      generalize hJ4 : wr J3 (a + 130) q (I (w1 + 2 + 3) q) = J4
      have j4 : ∀ x j, (x ≠ a + 130 ∨ j ≠ q) → J4 x j = J3 x j := fun x j h => by rw [← hJ4, wr_or h]
      have y4 : J4 (a + 130) q = I (w1 + 2 + 3) q := by rw [← hJ4, wr_at]
      have e112 : J4 (a + 112) q = I (a + 12 + q) 0 := by rw [j4 _ _ (by omega), j3 _ _ (by omega), j2 _ _ (by omega), j1 _ _ (by omega), frI _ (by unfold scr1; omega)]; exact S4.1
      rw [e112, s131 W hq, Option.bind_some, e7_110_33 W, Option.bind_some, e7_110_6 W, Option.bind_some, r114 W hq, Option.bind_some]
      generalize hJ5 : wr J4 (a + 131) q (I (a + 12 + q) 0) = J5
      have j5 : ∀ x j, (x ≠ a + 131 ∨ j ≠ q) → J5 x j = J4 x j := fun x j h => by rw [← hJ5, wr_or h]
      have y5 : J5 (a + 131) q = I (a + 12 + q) 0 := by rw [← hJ5, wr_at]
      have e114 : J5 (a + 114) q = I (a + 12 + q) 2 := by rw [j5 _ _ (by omega), j4 _ _ (by omega), j3 _ _ (by omega), j2 _ _ (by omega), j1 _ _ (by omega), frI _ (by unfold scr1; omega)]; exact S4.2.2.1
      rw [e114, s132 W hq, Option.bind_some, nI_1]
      generalize hJ6 : wr J5 (a + 132) q (I (a + 12 + q) 2) = J6
      have j6 : ∀ x j, (x ≠ a + 132 ∨ j ≠ q) → J6 x j = J5 x j := fun x j h => by rw [← hJ6, wr_or h]
      have y6 : J6 (a + 132) q = I (a + 12 + q) 2 := by rw [← hJ6, wr_at]
      have all : ∀ x j, (x < a + 127 ∨ a + 132 < x ∨ j ≠ q) → J6 x j = I0 x j := fun x j h => by rw [j6 _ _ (by omega), j5 _ _ (by omega), j4 _ _ (by omega), j3 _ _ (by omega), j2 _ _ (by omega), j1 _ _ (by omega)]
      refine ih (q + 1) u J6 (by omega) (by omega) (fun x hx => funext fun j => ?_) (fun h hh => ?_) (fun p hp => ?_)
      · rw [all x j (by omega), f0 x hx]
      · rw [all _ _ (by omega)]
        exact g0 h hh
      · by_cases hpq : p = q
        · subst hpq
          refine ⟨?_, ?_, ?_, ?_, ?_, y6⟩
          · rw [j6 _ _ (by omega), j5 _ _ (by omega), j4 _ _ (by omega), j3 _ _ (by omega), j2 _ _ (by omega), y1]
          · rw [j6 _ _ (by omega), j5 _ _ (by omega), j4 _ _ (by omega), j3 _ _ (by omega), y2]
          · rw [j6 _ _ (by omega), j5 _ _ (by omega), j4 _ _ (by omega), y3]
          · rw [j6 _ _ (by omega), j5 _ _ (by omega), y4]
          · rw [j6 _ _ (by omega), y5]
        · rw [all _ _ (by omega), all _ _ (by omega), all _ _ (by omega), all _ _ (by omega), all _ _ (by omega), all _ _ (by omega)]
          exact v0 p (by omega)
  have key1 : ∀ m q fuel (I0 : IH), q + m = 48 → m < fuel → (∀ x, ¬ (x = a + 124 ∨ (a + 126 ≤ x ∧ x ≤ a + 132)) → I0 x = I' x) → (∀ h, h < q → I0 (a + 126) h = nI (mlt I a w1 h (if h < 24 then skyN I a 0 else skyN I a 1))) → ∃ I1, fX7_asIs_b2 s (a + 110) (fX7_asIs_b36 s (a + 110) 1000) fuel (nI q) I0 = some I1 ∧ (∀ x, ¬ (x = a + 124 ∨ (a + 126 ≤ x ∧ x ≤ a + 132)) → I1 x = I' x) ∧ (∀ h, h < 48 → I1 (a + 126) h = nI (mlt I a w1 h (if h < 24 then skyN I a 0 else skyN I a 1))) ∧ ∀ p, p < 5 → I1 (a + 127) p = I (w1 + 2 + 0) p ∧ I1 (a + 128) p = I (w1 + 2 + 1) p ∧ I1 (a + 129) p = I (w1 + 2 + 2) p ∧ I1 (a + 130) p = I (w1 + 2 + 3) p ∧ I1 (a + 131) p = I (a + 12 + p) 0 ∧ I1 (a + 132) p = I (a + 12 + p) 2 := by
    intro m
    induction m with
    | zero =>
      intro q fuel I0 h1 h2 f0 g0
      obtain ⟨u, rfl⟩ : ∃ u, fuel = u + 1 := ⟨fuel - 1, by omega⟩
      obtain rfl : q = 48 := h1
      rw [fX7_asIs_b2, if_pos (show (48 : Int32) ≤ nI 48 by decide)]
      exact key2 5 0 1000 I0 rfl (by omega) f0 g0 (fun p hp => absurd hp (by omega))
    | succ m ih =>
      intro q fuel I0 h1 h2 f0 g0
      obtain ⟨u, rfl⟩ : ∃ u, fuel = u + 1 := ⟨fuel - 1, by omega⟩
      have hq : q < 48 := by omega
      have frI : ∀ x, ¬ scr1 a x → I0 x = I x := fun x hx => (f0 x (by unfold scr1 at hx; omega)).trans (fr x hx)
      have hd : q / 24 < 2 := by omega
      obtain ⟨-, k2', k3'⟩ := skyC S hd
      have e24 : nI q / 24 = nI (q / 24) := pk_div (d := 24) (by omega) (by omega) (by omega)
      obtain ⟨I2, e2, f2⟩ := meltM W S V hq k3' I0 (fun x j hx => by rw [frI x (by unfold scr1; omega)])
      rw [fX7_asIs_b2, if_neg (show ¬ (48 : Int32) ≤ nI q from nI_ge (b := 48) hq (by omega)), e7_110_27 W, Option.bind_some, e7_110_3 W, Option.bind_some, e24, r111 W hd, Option.bind_some, frI _ (by unfold scr1; omega), k2', e2, b2_some, s126 W hq, Option.bind_some, nI_1]
      refine ih (q + 1) u _ (by omega) (by omega) (fun x hx => funext fun j => ?_) (fun h hh => ?_)
      · rw [wr_ne (by omega), f2 x j (by omega), f0 x hx]
      · by_cases hhq : h = q
        · subst hhq
          rw [wr_at]
          by_cases h24 : h < 24
          · rw [if_pos h24, show h / 24 = 0 by omega]
          · rw [if_neg h24, show h / 24 = 1 by omega]
        · rw [wr_nj hhq, f2 _ _ (by omega)]
          exact g0 h (by omega)
  exact key1 48 0 1000 I' rfl (by omega) (fun _ _ => rfl) (fun h hh => absurd hh (by omega))
end ASIS
