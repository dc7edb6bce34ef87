/-! LAYER 2: the class's water passes, and wants are served -/
/-- what wants of lower numbers have had of one place and hour -/
def hadS (PL HO sv : Nat → Nat) (pl ho : Nat) : Nat → Nat
  | 0 => 0
  | o + 1 => hadS PL HO sv pl ho o + (if PL o = pl ∧ HO o = ho then sv o else 0)
def svF (PL HO CU : Nat → Nat) (T : Nat → Nat → Nat) (P : Nat) : Nat → Nat → Nat
  | 0 => fun _ => 0
  | w + 1 => fun x => if x = w then (if PL w < P then min (CU w) (T (PL w) (HO w) - hadS PL HO (svF PL HO CU T P w) (PL w) (HO w) w) else 0) else svF PL HO CU T P w x
def SV (PL HO CU : Nat → Nat) (T : Nat → Nat → Nat) (P o : Nat) : Nat := svF PL HO CU T P (o + 1) o
def wthS (PL HO CU EA : Nat → Nat) (T : Nat → Nat → Nat) (P : Nat) : Nat → Nat
  | 0 => 0
  | w + 1 => wthS PL HO CU EA T P w + SV PL HO CU T P w * EA w
section SPEC
variable {PL HO CU EA : Nat → Nat} {T : Nat → Nat → Nat} {P : Nat}
theorem svF_lt : ∀ w o, o < w → svF PL HO CU T P w o = SV PL HO CU T P o
  | w + 1, o, h => by
    by_cases ho : o = w
    · subst ho
      rfl
    · have h2 := svF_lt w o (by omega)
      rw [← h2]
      show (if o = w then _ else svF PL HO CU T P w o) = _
      rw [if_neg ho]
theorem hadS_congr {sv sv' : Nat → Nat} {pl ho : Nat} : ∀ w, (∀ o, o < w → sv o = sv' o) → hadS PL HO sv pl ho w = hadS PL HO sv' pl ho w
  | 0, _ => rfl
  | w + 1, h => by
    show hadS PL HO sv pl ho w + _ = hadS PL HO sv' pl ho w + _
    rw [hadS_congr w (fun o ho => h o (by omega)), h w (by omega)]
theorem SV_eq (w : Nat) : SV PL HO CU T P w = if PL w < P then min (CU w) (T (PL w) (HO w) - hadS PL HO (SV PL HO CU T P) (PL w) (HO w) w) else 0 := by
  show (if w = w then (if PL w < P then min (CU w) (T (PL w) (HO w) - hadS PL HO (svF PL HO CU T P w) (PL w) (HO w) w) else 0) else svF PL HO CU T P w w) = _
  rw [if_pos rfl, hadS_congr w (fun o ho => svF_lt w o ho)]
theorem SV_le (w : Nat) : SV PL HO CU T P w ≤ CU w := by
  rw [SV_eq]
  split
  · exact Nat.min_le_left _ _
  · exact Nat.zero_le _
theorem hadS_le {pl ho : Nat} : ∀ w, hadS PL HO (SV PL HO CU T P) pl ho w ≤ if pl < P then T pl ho else 0
  | 0 => Nat.zero_le _
  | w + 1 => by
    have h := hadS_le (pl := pl) (ho := ho) w
    show hadS PL HO (SV PL HO CU T P) pl ho w + (if PL w = pl ∧ HO w = ho then SV PL HO CU T P w else 0) ≤ _
    by_cases hm : PL w = pl ∧ HO w = ho
    · rw [if_pos hm]
      obtain ⟨rfl, rfl⟩ := hm
      have e := SV_eq (PL := PL) (HO := HO) (CU := CU) (T := T) (P := P) w
      by_cases hP : PL w < P
      · rw [if_pos hP] at h e ⊢
        rw [e]
        have := Nat.min_le_right (CU w) (T (PL w) (HO w) - hadS PL HO (SV PL HO CU T P) (PL w) (HO w) w)
        omega
      · rw [if_neg hP] at h e ⊢
        omega
    · rw [if_neg hm]
      exact h
theorem hadS_mono {sv : Nat → Nat} {pl ho : Nat} : ∀ w v, w ≤ v → hadS PL HO sv pl ho w ≤ hadS PL HO sv pl ho v
  | w, 0, h => by rw [show w = 0 by omega]; exact Nat.le_refl _
  | w, v + 1, h => by
    by_cases hw : w = v + 1
    · subst hw
      exact Nat.le_refl _
    · have := hadS_mono (sv := sv) (pl := pl) (ho := ho) w v (by omega)
      show _ ≤ hadS PL HO sv pl ho v + _
      omega
theorem wthS_le {N : Nat} (h : ∀ w, w < N → CU w ≤ 30 ∧ EA w ≤ 9) : ∀ w, w ≤ N → wthS PL HO CU EA T P w ≤ 270 * w
  | 0, _ => Nat.le_refl _
  | w + 1, hw => by
    have h1 := wthS_le h w (by omega)
    obtain ⟨h2, h3⟩ := h w (by omega)
    have h4 := SV_le (PL := PL) (HO := HO) (CU := CU) (T := T) (P := P) w
    have h5 : SV PL HO CU T P w * EA w ≤ 30 * 9 := Nat.mul_le_mul (by omega) h3
    show wthS PL HO CU EA T P w + SV PL HO CU T P w * EA w ≤ 270 * (w + 1)
    omega
end SPEC
section SERVE
variable {s : SH} {I : IH} {L : LH} {n a w1 w2 w P : Nat} {G : Nat → Nat → Nat} {m : Nat → Nat}
theorem isPlaceC (W : WW s a w1 w2) (hP : I (a + 1) 0 = nI P) (hP5 : P ≤ 5) {q : Nat} (hq : q < 5) : fX2_isPlace s I (a + 1) (nI q) = some (if q < P then 1 else 0) := by
  unfold fX2_isPlace
  rw [if_neg (show ¬ fX6_isUnder (nI q) 5 = 0 from un (N := 5) hq (by omega)), i2_1_0 W, Option.bind_some, hP]
  by_cases h : q < P
  · rw [if_neg (nI_ge h (by omega)), if_pos h]
  · rw [if_pos (nI_le (by omega) (by omega)), if_neg h]
theorem passC (W : WW s a w1 w2) (C : CI I a P G m) (B : GB G m) (hP : 1 ≤ P) (hP5 : P ≤ 5) {p : Nat} {c : Nat → Nat} (hp : p < 5) (hc : ∀ h, h < 48 → I (a + 64 + p) h = nI (c h) ∧ c h ≤ 99) : ∃ I1, fX5_pass s (a + 50) (nI p) I = some I1 ∧ (∀ x, x ≠ a + 70 + p → x ≠ a + 76 + p → x ≠ a + 82 + p → I1 x = I x) ∧ ∀ h, h < 48 → I1 (a + 70 + p) h = nI (tknS P G p c h) ∧ I1 (a + 76 + p) h = nI (byS P G p c h) ∧ I1 (a + 82 + p) h = nI (hdS P G p c (h + 1)) := by
  obtain ⟨b0, b1, b2', b3, b4, b5, b6⟩ := B.1 p hp
  have hbas : basS G p ≤ 149 := by
    unfold basS
    split <;> omega
  have key : ∀ mm q fuel (J : IH), q + mm = 48 → mm < fuel → (∀ x, x ≠ a + 70 + p → x ≠ a + 76 + p → x ≠ a + 82 + p → J x = I x) → (∀ h, h < q → J (a + 70 + p) h = nI (tknS P G p c h) ∧ J (a + 76 + p) h = nI (byS P G p c h) ∧ J (a + 82 + p) h = nI (hdS P G p c (h + 1))) → ∃ I1, fX5_pass_b41 s (a + 50) fuel (nI p) (a + 57 + 1 + p) (nI (basS G p)) (nI (hdS P G p c q)) (nI q) J = some I1 ∧ (∀ x, x ≠ a + 70 + p → x ≠ a + 76 + p → x ≠ a + 82 + p → I1 x = I x) ∧ ∀ h, h < 48 → I1 (a + 70 + p) h = nI (tknS P G p c h) ∧ I1 (a + 76 + p) h = nI (byS P G p c h) ∧ I1 (a + 82 + p) h = nI (hdS P G p c (h + 1)) := by
    intro mm
    induction mm with
    | zero =>
      intro q fuel J h1 h2 f v
      obtain ⟨u, rfl⟩ : ∃ u, fuel = u + 1 := ⟨fuel - 1, by omega⟩
      obtain rfl : q = 48 := h1
      refine ⟨J, ?_, f, v⟩
      rw [fX5_pass_b41, if_pos (show (48 : Int32) ≤ nI 48 by decide)]
    | succ mm ih =>
      intro q fuel J h1 h2 f v
      obtain ⟨u, rfl⟩ : ∃ u, fuel = u + 1 := ⟨fuel - 1, by omega⟩
      have hq : q < 48 := by omega
      obtain ⟨c1, c2⟩ := hc q hq
      have hh := hdS_le (P := P) B hp c q
      have hC : CI J a P G m := C.kept (fun x hx => f x (by omega) (by omega) (by omega))
      have tk := takesC W hC B hP hP5 hp hq (t := c q + hdS P G p c q) (by omega)
      have htk : tknS P G p c q ≤ c q + hdS P G p c q := tkS_le (P := P) (h := q) (t := c q + hdS P G p c q) B hp
      have hs1 : nI (c q + hdS P G p c q) - nI (tknS P G p c q) = nI (c q + hdS P G p c q - tknS P G p c q) := nI_sub htk
      have hhd : hdS P G p c (q + 1) = min (c q + hdS P G p c q - tknS P G p c q) (basS G p) := rfl
      have hmn : fJ9_min_7cf53 (nI (c q + hdS P G p c q - tknS P G p c q)) (nI (basS G p)) = nI (hdS P G p c (q + 1)) := by rw [hhd, min_nI (by omega) (by omega)]
      have hby : nI (c q + hdS P G p c q - tknS P G p c q) - nI (hdS P G p c (q + 1)) = nI (byS P G p c q) := nI_sub (by rw [hhd]; exact Nat.min_le_left _ _)
      rw [fX5_pass_b41, if_neg (show ¬ (48 : Int32) ≤ nI q from nI_ge (b := 48) hq (by omega)), e5_50_4 W, Option.bind_some, a63 W hp, Option.bind_some, r63 W hp hq, Option.bind_some, f (a + 63 + 1 + p) (by omega) (by omega) (by omega), show I (a + 63 + 1 + p) q = nI (c q) from c1, nI_add, tk, Option.bind_some]
      replace hs1 : nI (c q + hdS P G p c q) - nI (tkS P G p q (c q + hdS P G p c q)) = nI (c q + hdS P G p c q - tknS P G p c q) := hs1
      rw [hs1, hmn, hby, e5_50_5 W, Option.bind_some, a69 W hp, Option.bind_some, s69 W hp hq, Option.bind_some, e5_50_7 W, Option.bind_some, a81 W hp, Option.bind_some, s81 W hp hq, Option.bind_some, e5_50_6 W, Option.bind_some, a75 W hp, Option.bind_some, s75 W hp hq, Option.bind_some, nI_1]
      refine ih (q + 1) u _ (by omega) (by omega) (fun x hx1 hx2 hx3 => ?_) (fun h hh2 => ?_)
      · rw [wr_ne (by omega), wr_ne (by omega), wr_ne (by omega), f x hx1 hx2 hx3]
      · by_cases hhq : h = q
        · subst hhq
          refine ⟨?_, ?_, ?_⟩
          · rw [wr_ne (by omega), wr_ne (by omega)]
            exact wr_at
          · exact wr_at
          · rw [wr_ne (by omega)]
            exact wr_at
        · obtain ⟨v1, v2, v3⟩ := v h (by omega)
          exact ⟨by rw [wr_or (by omega), wr_or (by omega), wr_or (by omega)]; exact v1, by rw [wr_or (by omega), wr_or (by omega), wr_or (by omega)]; exact v2, by rw [wr_or (by omega), wr_or (by omega), wr_or (by omega)]; exact v3⟩
  have go := key 48 0 1000 I rfl (by omega) (fun _ _ _ _ => rfl) (fun h hh => absurd hh (by omega))
  have g0 : I (a + 58 + p) 0 = nI (G 4 p) := C.2.2.1 p 0 hp (by omega)
  have q0 : aI s I 0 (a + 57 + 1 + p) 0 = some (nI (G 4 p)) := (r57 W hp (j := 0) (by omega)).trans (by rw [g0])
  have q3 : I (a + 53 + 3) p = nI (G 3 p) := C.2.1 3 p (by omega) hp
  have h22 : (G 4 p = 3 ∨ G 4 p = 6) → fX5_pass_b22 s (a + 50) (nI p) (a + 57 + 1 + p) I = fX5_pass_b41 s (a + 50) 1000 (nI p) (a + 57 + 1 + p) (nI (basS G p)) 0 0 I := fun hk => by
    unfold fX5_pass_b22
    rw [e5_50_2 W, Option.bind_some, show aR s 4 (a + 52) 3 = some (a + 53 + 3) from a52 W (p := 3) (by omega), Option.bind_some, r52 W (p := 3) (by omega) hp, Option.bind_some, q3]
    unfold basS
    rw [if_pos hk]
  unfold fX5_pass
  rw [e5_50_3 W, Option.bind_some, a57 W hp, Option.bind_some, q0, Option.bind_some]
  by_cases k3 : G 4 p = 3
  · rw [if_pos (show nI (G 4 p) = 3 by rw [k3]; rfl), h22 (Or.inl k3)]
    exact go
  · rw [if_neg (show ¬ nI (G 4 p) = 3 from fun h9 => k3 ((nI_eq (by omega) (by omega)).mp (h9.trans (show (3 : Int32) = nI 3 from rfl)))), Option.bind_some]
    by_cases k6 : G 4 p = 6
    · rw [if_pos (show nI (G 4 p) = 6 by rw [k6]; rfl), h22 (Or.inr k6)]
      exact go
    · rw [if_neg (show ¬ nI (G 4 p) = 6 from fun h9 => k6 ((nI_eq (by omega) (by omega)).mp (h9.trans (show (6 : Int32) = nI 6 from rfl))))]
      have hb0 : basS G p = 0 := by
        unfold basS
        rw [if_neg (by omega)]
      rw [hb0] at go
      exact go
def flowCells (a x : Nat) : Prop := (a + 64 ≤ x ∧ x < a + 69) ∨ (a + 70 ≤ x ∧ x < a + 75) ∨ (a + 76 ≤ x ∧ x < a + 81) ∨ (a + 82 ≤ x ∧ x < a + 87) ∨ (a + 88 ≤ x ∧ x < a + 93)
/-- from a place on, all flows again -/
theorem againC (W : WW s a w1 w2) (B : GB G m) (hP : 1 ≤ P) (hP5 : P ≤ 5) (K : IH → Option (Int32 × IH)) : ∀ mm q fuel (J : IH), q + mm = 5 → mm < fuel → q ≤ P → CI J a P G m → CO J a P G m q → ∃ J1, fX5_again_b2 s (a + 50) K fuel (nI q) J = K J1 ∧ (∀ x, ¬ flowCells a x → J1 x = J x) ∧ CO J1 a P G m P := by
  intro mm
  induction mm with
  | zero =>
    intro q fuel J h1 h2 hqP hC hO
    obtain ⟨u, rfl⟩ : ∃ u, fuel = u + 1 := ⟨fuel - 1, by omega⟩
    obtain rfl : q = 5 := h1
    obtain rfl : P = 5 := by omega
    refine ⟨J, ?_, fun _ _ => rfl, hO⟩
    rw [fX5_again_b2, if_pos (show (5 : Int32) ≤ nI 5 by decide)]
  | succ mm ih =>
    intro q fuel J h1 h2 hqP hC hO
    obtain ⟨u, rfl⟩ : ∃ u, fuel = u + 1 := ⟨fuel - 1, by omega⟩
    have hq : q < 5 := by omega
    rw [fX5_again_b2, if_neg (show ¬ (5 : Int32) ≤ nI q from nI_ge (b := 5) hq (by omega)), e5_50_0 W, Option.bind_some, c2_1 W, Option.bind_some, isPlaceC W hC.1 hP5 hq, Option.bind_some]
    by_cases hqP2 : q < P
    · rw [if_pos hqP2, if_neg (by decide)]
      have step : ∀ r, (r < a + 64 ∨ (a + 76 ≤ r ∧ r < a + 81)) → (∀ (J : IH) h, h < 48 → aI s J 0 r (nI h) = some (J r h)) → (∀ h, h < 48 → J r h = nI (inS P G m q h) ∧ inS P G m q h ≤ 1189) → ∃ J1, fX5_again_b39 s (a + 50) (fX5_again_b2 s (a + 50) K u) (nI q) (nI q) r J = K J1 ∧ (∀ x, ¬ flowCells a x → J1 x = J x) ∧ CO J1 a P G m P := by
        intro r hr hrr hi
        obtain ⟨J1, e1, f1, v1⟩ := comeC W hC B hq hr hrr hi
        have hC1 : CI J1 a P G m := hC.kept (fun x hx => f1 x (by omega) (by omega))
        obtain ⟨J2, e2, f2, v2⟩ := passC W hC1 B hP hP5 hq (c := comS G q (inS P G m q)) (fun h hh => ⟨(v1 h hh).1, comS_le B hq _ h⟩)
        have hC2 : CI J2 a P G m := hC1.kept (fun x hx => f2 x (by omega) (by omega) (by omega))
        obtain ⟨J3, e3, f3, v3⟩ := ih (q + 1) u J2 (by omega) (by omega) (by omega) hC2 (fun p h hp hh => by
          by_cases hpq : p = q
          · subst hpq
            obtain ⟨g1, g2⟩ := v1 h hh
            obtain ⟨g3, g4, g5⟩ := v2 h hh
            exact ⟨by rw [f2 _ (by omega) (by omega) (by omega)]; exact g1, g3, g4, g5, by rw [f2 _ (by omega) (by omega) (by omega)]; exact g2⟩
          · obtain ⟨o1, o2, o3, o4, o5⟩ := hO p h (by omega) hh
            exact ⟨by rw [f2 _ (by omega) (by omega) (by omega), f1 _ (by omega) (by omega)]; exact o1, by rw [f2 _ (by omega) (by omega) (by omega), f1 _ (by omega) (by omega)]; exact o2, by rw [f2 _ (by omega) (by omega) (by omega), f1 _ (by omega) (by omega)]; exact o3, by rw [f2 _ (by omega) (by omega) (by omega), f1 _ (by omega) (by omega)]; exact o4, by rw [f2 _ (by omega) (by omega) (by omega), f1 _ (by omega) (by omega)]; exact o5⟩)
        refine ⟨J3, ?_, fun x hx => ?_, v3⟩
        · unfold fX5_again_b39
          rw [e1, Option.bind_some, e2, Option.bind_some, nI_1]
          exact e3
        · rw [f3 x hx]
          unfold flowCells at hx
          rw [f2 x (by omega) (by omega) (by omega), f1 x (by omega) (by omega)]
      by_cases hq0 : q = 0
      · subst hq0
        rw [if_pos (show nI 0 = 0 from rfl), e5_50_1 W, Option.bind_some]
        exact step (a + 51) (Or.inl (by omega)) (fun J h hh => r51 W hh) (fun h hh => ⟨hC.2.2.2 h hh, B.2 h hh⟩)
      · obtain ⟨k, rfl⟩ : ∃ k, q = k + 1 := ⟨q - 1, by omega⟩
        rw [if_neg (nI_ne0 (by omega) (by omega)), e5_50_6 W, Option.bind_some, nI_pred, a75 W (p := k) (by omega), Option.bind_some]
        exact step (a + 75 + 1 + k) (Or.inr (by omega)) (fun J h hh => r75 W (by omega) hh) (fun h hh => ⟨(hO k h (by omega) hh).2.2.1, inS_le B (by omega) hh⟩)
    · obtain rfl : q = P := by omega
      rw [if_neg hqP2, if_pos rfl]
      exact ⟨J, rfl, fun _ _ => rfl, hO⟩
/-- wants, as the class has them -/
def WI (I : IH) (a N : Nat) (PL HO CU EA : Nat → Nat) : Prop := I (a + 1) 5 = nI N ∧ N ≤ 10 ∧ ∀ w, w < N → (I (a + 18 + w) 0 = nI (PL w) ∧ PL w ≤ 4) ∧ (I (a + 18 + w) 1 = nI (HO w) ∧ HO w ≤ 47) ∧ (I (a + 18 + w) 2 = nI (CU w) ∧ CU w ≤ 30) ∧ I (a + 18 + w) 3 = nI (EA w) ∧ EA w ≤ 9
theorem WI.kept {I1 : IH} {N : Nat} {PL HO CU EA : Nat → Nat} (h : WI I a N PL HO CU EA) (e : ∀ x, x = a + 1 ∨ (a + 18 ≤ x ∧ x < a + 28) → I1 x = I x) : WI I1 a N PL HO CU EA := by
  obtain ⟨h1, h2, h3⟩ := h
  refine ⟨by rw [e _ (by omega)]; exact h1, h2, fun w hw => ?_⟩
  rw [e _ (by omega)]
  exact h3 w hw
theorem isWantC (W : WW s a w1 w2) {N : Nat} (hN : I (a + 1) 5 = nI N) (hN10 : N ≤ 10) {q : Nat} (hq : q < 10) : fX2_isWant s I (a + 1) (nI q) = some (if q < N then 1 else 0) := by
  unfold fX2_isWant
  rw [if_neg (show ¬ fX6_isUnder (nI q) 10 = 0 from un (N := 10) hq (by omega)), i2_1_5 W, Option.bind_some, hN]
  by_cases h : q < N
  · rw [if_neg (nI_ge h (by omega)), if_pos h]
  · rw [if_pos (nI_le (by omega) (by omega)), if_neg h]
theorem beforeC (W : WW s a w1 w2) {N : Nat} {PL HO CU EA sv : Nat → Nat} (X : WI I a N PL HO CU EA) {w : Nat} (hw : w < N) (hs : ∀ o, o < w → I (a + 93) o = nI (sv o)) : fX5_servedBefore s I (a + 50) (nI w) = some (nI (hadS PL HO sv (PL w) (HO w) w)) := by
  obtain ⟨x1, x2, x3⟩ := X
  have hw10 : w < 10 := by omega
  have rows : ∀ q, q < N → aR s 4 (a + 17) (nI q) = some (a + 17 + 1 + q) ∧ aI s I 0 (a + 17 + 1 + q) 0 = some (nI (PL q)) ∧ aI s I 0 (a + 17 + 1 + q) 1 = some (nI (HO q)) := fun q hq => by
    obtain ⟨⟨y1, -⟩, ⟨y2, -⟩, -⟩ := x3 q hq
    have z0 := r17 (I := I) W (p := q) (by omega) (j := 0) (by omega)
    have z1 := r17 (I := I) W (p := q) (by omega) (j := 1) (by omega)
    rw [show I (a + 17 + 1 + q) 0 = nI (PL q) from y1] at z0
    rw [show I (a + 17 + 1 + q) 1 = nI (HO q) from y2] at z1
    exact ⟨a17 W (by omega), z0, z1⟩
  have key : ∀ mm q fuel, q + mm = w → mm < fuel → fX5_servedBefore_b4 s I (a + 50) fuel (nI w) (nI (hadS PL HO sv (PL w) (HO w) q)) (nI q) = some (nI (hadS PL HO sv (PL w) (HO w) w)) := by
    intro mm
    induction mm with
    | zero =>
      intro q fuel h1 h2
      obtain ⟨u, rfl⟩ : ∃ u, fuel = u + 1 := ⟨fuel - 1, by omega⟩
      obtain rfl : q = w := h1
      rw [fX5_servedBefore_b4, if_pos (nI_le (Nat.le_refl _) (by omega))]
    | succ mm ih =>
      intro q fuel h1 h2
      obtain ⟨u, rfl⟩ : ∃ u, fuel = u + 1 := ⟨fuel - 1, by omega⟩
      obtain ⟨rq, pq, hq⟩ := rows q (by omega)
      obtain ⟨rw', pw, hw'⟩ := rows w hw
      obtain ⟨⟨-, p1⟩, ⟨-, p2⟩, -⟩ := x3 q (by omega)
      obtain ⟨⟨-, p3⟩, ⟨-, p4⟩, -⟩ := x3 w hw
      have go := ih (q + 1) u (by omega) (by omega)
      have hs1 : hadS PL HO sv (PL w) (HO w) (q + 1) = hadS PL HO sv (PL w) (HO w) q + (if PL q = PL w ∧ HO q = HO w then sv q else 0) := rfl
      rw [fX5_servedBefore_b4, if_neg (nI_ge (by omega) (by omega))]
      simp only [e5_50_0 W, e2_1_4 W, e5_50_9 W, Option.bind_some, rq, rw', pq, hq, pw, hw', r93 W (j := q) (show q < 10 by omega), hs q (by omega)]
      by_cases hpl : PL q = PL w
      · rw [if_pos (by rw [hpl])]
        by_cases hho : HO q = HO w
        · rw [if_pos (by rw [hho]), nI_add, nI_1, show hadS PL HO sv (PL w) (HO w) q + sv q = hadS PL HO sv (PL w) (HO w) (q + 1) by rw [hs1, if_pos ⟨hpl, hho⟩]]
          exact go
        · rw [if_neg (fun h => hho ((nI_eq (by omega) (by omega)).mp h)), nI_1, show hadS PL HO sv (PL w) (HO w) q = hadS PL HO sv (PL w) (HO w) (q + 1) by rw [hs1, if_neg (fun h => hho h.2)]; rfl]
          exact go
      · rw [if_neg (fun h => hpl ((nI_eq (by omega) (by omega)).mp h)), nI_1, show hadS PL HO sv (PL w) (HO w) q = hadS PL HO sv (PL w) (HO w) (q + 1) by rw [hs1, if_neg (fun h => hpl h.1)]; rfl]
        exact go
  exact key w 0 1000 (by omega) (by omega)
theorem serveC (W : WW s a w1 w2) {N : Nat} {PL HO CU EA : Nat → Nat} {T : Nat → Nat → Nat} (hP0 : I (a + 1) 0 = nI P) (hP5 : P ≤ 5) (X : WI I a N PL HO CU EA) (hT : ∀ p h, p < P → h < 48 → I (a + 70 + p) h = nI (T p h) ∧ T p h ≤ 300) : ∃ I1, fX5_serve s (a + 50) I = some (nI (wthS PL HO CU EA T P N), I1) ∧ (∀ x, x ≠ a + 93 → I1 x = I x) ∧ ∀ w, w < N → I1 (a + 93) w = nI (SV PL HO CU T P w) := by
  have X0 := X
  obtain ⟨x1, x2, x3⟩ := X
  have hws := wthS_le (PL := PL) (HO := HO) (CU := CU) (EA := EA) (T := T) (P := P) (N := N) (fun w hw => ⟨(x3 w hw).2.2.1.2, (x3 w hw).2.2.2.2⟩)
  have key : ∀ mm q fuel (J : IH), q + mm = N → mm < fuel → (∀ x, x ≠ a + 93 → J x = I x) → (∀ w, w < q → J (a + 93) w = nI (SV PL HO CU T P w)) → ∃ I1, fX5_serve_b4 s (a + 50) fuel (nI (wthS PL HO CU EA T P q)) (nI q) J = some (nI (wthS PL HO CU EA T P N), I1) ∧ (∀ x, x ≠ a + 93 → I1 x = I x) ∧ ∀ w, w < N → I1 (a + 93) w = nI (SV PL HO CU T P w) := by
    intro mm
    induction mm with
    | zero =>
      intro q fuel J h1 h2 f v
      obtain ⟨u, rfl⟩ : ∃ u, fuel = u + 1 := ⟨fuel - 1, by omega⟩
      obtain rfl : q = N := h1
      refine ⟨J, ?_, f, v⟩
      by_cases h10 : q = 10
      · subst h10
        rw [fX5_serve_b4, if_pos (show (10 : Int32) ≤ nI 10 by decide)]
      · rw [fX5_serve_b4, if_neg (show ¬ (10 : Int32) ≤ nI q from nI_ge (b := 10) (by omega) (by omega)), e5_50_0 W, Option.bind_some, c2_1 W, Option.bind_some, isWantC W (by rw [f _ (by omega)]; exact x1) x2 (by omega), Option.bind_some, if_neg (Nat.lt_irrefl _), if_pos rfl]
    | succ mm ih =>
      intro q fuel J h1 h2 f v
      obtain ⟨u, rfl⟩ : ∃ u, fuel = u + 1 := ⟨fuel - 1, by omega⟩
      have hqN : q < N := by omega
      have hq : q < 10 := by omega
      obtain ⟨⟨y0, z0⟩, ⟨y1, z1⟩, ⟨y2, z2⟩, y3, z3⟩ := x3 q hqN
      have XJ : WI J a N PL HO CU EA := X0.kept (fun x hx => f x (by omega))
      have jr : ∀ (J' : IH), (∀ x, x ≠ a + 93 → J' x = I x) → aI s J' 0 (a + 17 + 1 + q) 0 = some (nI (PL q)) ∧ aI s J' 0 (a + 17 + 1 + q) 1 = some (nI (HO q)) ∧ aI s J' 0 (a + 17 + 1 + q) 2 = some (nI (CU q)) ∧ aI s J' 0 (a + 17 + 1 + q) 3 = some (nI (EA q)) := fun J' fJ => by
        have t0 := r17 (I := J') W (p := q) hq (j := 0) (by omega)
        have t1 := r17 (I := J') W (p := q) hq (j := 1) (by omega)
        have t2 := r17 (I := J') W (p := q) hq (j := 2) (by omega)
        have t3 := r17 (I := J') W (p := q) hq (j := 3) (by omega)
        rw [fJ (a + 17 + 1 + q) (by omega)] at t0 t1 t2 t3
        rw [show I (a + 17 + 1 + q) 0 = nI (PL q) from y0] at t0
        rw [show I (a + 17 + 1 + q) 1 = nI (HO q) from y1] at t1
        rw [show I (a + 17 + 1 + q) 2 = nI (CU q) from y2] at t2
        rw [show I (a + 17 + 1 + q) 3 = nI (EA q) from y3] at t3
        exact ⟨t0, t1, t2, t3⟩
      obtain ⟨t0, t1, t2, t3⟩ := jr J f
      have hsv := SV_le (PL := PL) (HO := HO) (CU := CU) (T := T) (P := P) q
      have hmul : SV PL HO CU T P q * EA q ≤ 30 * 9 := Nat.mul_le_mul (by omega) z3
      have hw1 := hws q (by omega)
      have step : ∀ x, x = nI (SV PL HO CU T P q) → ∃ I1, fX5_serve_b106 s (a + 50) (fX5_serve_b4 s (a + 50) u) (nI (wthS PL HO CU EA T P q)) (nI q) (a + 17 + 1 + q) (a + 93) (nI q) x J = some (nI (wthS PL HO CU EA T P N), I1) ∧ (∀ x, x ≠ a + 93 → I1 x = I x) ∧ ∀ w, w < N → I1 (a + 93) w = nI (SV PL HO CU T P w) := by
        intro x hx
        subst hx
        unfold fX5_serve_b106
        have fJ : ∀ x, x ≠ a + 93 → wr J (a + 93) q (nI (SV PL HO CU T P q)) x = I x := fun x hx => by rw [wr_ne hx, f x hx]
        rw [s93 W hq, Option.bind_some, e5_50_9 W, Option.bind_some, r93 W hq, Option.bind_some, wr_at, (jr _ fJ).2.2.2, Option.bind_some, nI_mul, nI_add, nI_1]
        refine ih (q + 1) u _ (by omega) (by omega) fJ (fun w hw => ?_)
        by_cases hwq : w = q
        · subst hwq
          exact wr_at
        · rw [wr_nj hwq]
          exact v w (by omega)
      rw [fX5_serve_b4, if_neg (show ¬ (10 : Int32) ≤ nI q from nI_ge (b := 10) (by omega) (by omega)), e5_50_0 W, Option.bind_some, c2_1 W, Option.bind_some, isWantC W (by rw [f _ (by omega)]; exact x1) x2 (by omega), Option.bind_some, if_pos hqN, if_neg (by decide), Option.bind_some, e2_1_4 W, Option.bind_some, a17 W hq, Option.bind_some, t0, Option.bind_some, t1, Option.bind_some, Option.bind_some, c2_1 W, Option.bind_some, isPlaceC W (by rw [f _ (by omega)]; exact hP0) hP5 (by omega), Option.bind_some]
      have e := SV_eq (PL := PL) (HO := HO) (CU := CU) (T := T) (P := P) q
      by_cases hpl : PL q < P
      · rw [if_pos hpl] at e
        have hb := hadS_le (PL := PL) (HO := HO) (CU := CU) (T := T) (P := P) (pl := PL q) (ho := HO q) q
        rw [if_pos hpl] at hb
        obtain ⟨g1, g2⟩ := hT (PL q) (HO q) hpl (by omega)
        have r69' := r69 (I := J) W (p := PL q) (by omega) (j := HO q) (by omega)
        rw [f _ (by omega), show I (a + 69 + 1 + PL q) (HO q) = nI (T (PL q) (HO q)) from g1] at r69'
        rw [if_pos hpl, if_neg (by decide), if_neg (show ¬ fX6_isUnder (nI (HO q)) 48 = 0 from un (N := 48) (by omega) (by omega))]
        unfold fX5_serve_b68
        rw [e5_50_9 W, Option.bind_some, if_neg (by decide), t2, Option.bind_some, e5_50_5 W, Option.bind_some, a69 W (by omega), Option.bind_some, r69', Option.bind_some, beforeC W XJ hqN v, Option.bind_some]
        exact step _ (by rw [nI_sub hb, min_nI (by omega) (by omega), e])
      · rw [if_neg hpl] at e
        rw [if_neg hpl, if_pos rfl]
        unfold fX5_serve_b68
        rw [e5_50_9 W, Option.bind_some, if_pos rfl]
        exact step _ (by rw [e]; rfl)
  exact key N 0 1000 I (by omega) (by omega) (fun _ _ => rfl) (fun w hw => absurd hw (by omega))
end SERVE
