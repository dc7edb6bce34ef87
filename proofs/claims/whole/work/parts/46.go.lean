/-! LAYER 2: the reference's way to the same flow -/
section GO
variable {s : SH} {I : IH} {L : LH} {n a w1 w2 w P : Nat} {G : Nat → Nat → Nat} {m : Nat → Nat}
def MI (I : IH) (a P : Nat) (G : Nat → Nat → Nat) (m : Nat → Nat) : Prop := I (a + 110) 0 = nI P ∧ (∀ h, h < 48 → I (a + 126) h = nI (m h)) ∧ ∀ p, p < 5 → I (a + 127) p = nI (G 0 p) ∧ I (a + 128) p = nI (G 1 p) ∧ I (a + 129) p = nI (G 2 p) ∧ I (a + 130) p = nI (G 3 p) ∧ I (a + 131) p = nI (G 4 p) ∧ I (a + 113) p = nI (G 5 p) ∧ I (a + 132) p = nI (G 6 p)
theorem MI.kept {I1 : IH} (h : MI I a P G m) (e : ∀ x, x = a + 110 ∨ x = a + 113 ∨ (a + 126 ≤ x ∧ x ≤ a + 132) → I1 x = I x) : MI I1 a P G m := by
  obtain ⟨h1, h2, h3⟩ := h
  refine ⟨by rw [e _ (by omega)]; exact h1, fun h hh => by rw [e _ (by omega)]; exact h2 h hh, fun p hp => ?_⟩
  rw [e (a + 127) (by omega), e (a + 128) (by omega), e (a + 129) (by omega), e (a + 130) (by omega), e (a + 131) (by omega), e (a + 113) (by omega), e (a + 132) (by omega)]
  exact h3 p hp
def MO (I : IH) (a P : Nat) (G : Nat → Nat → Nat) (m : Nat → Nat) : Prop := ∀ p h, p < P → h < 48 → I (a + 133) (48 * p + h) = nI (cmS P G m p h) ∧ I (a + 134) (48 * p + h) = nI (takS P G m p h) ∧ I (a + 135) (48 * p + h) = nI (inS P G m (p + 1) h) ∧ I (a + 136) (48 * p + h) = nI (helS P G m p h) ∧ I (a + 137) (48 * p + h) = nI (fldS P G m p h)
theorem has_nI {S q : Nat} (hS : S < 2 ^ 31) (hq : q < 32) : fX7_has (nI S) (nI q) = if S / 2 ^ q % 2 = 1 then 1 else 0 := by
  unfold fX7_has
  rw [bit_nI hS hq]
  have hm : S / 2 ^ q % 2 < 2 := Nat.mod_lt _ (by omega)
  by_cases h : S / 2 ^ q % 2 = 1
  · rw [if_pos h, if_pos (show nI (S / 2 ^ q % 2) = 1 by rw [h]; rfl)]
  · rw [if_neg h, if_neg (fun h9 => h ((nI_eq (by omega) (by omega)).mp (h9.trans (show (1 : Int32) = nI 1 from rfl))))]
theorem takesM (W : WW s a w1 w2) (C : MI I a P G m) (B : GB G m) (hP : 1 ≤ P) (hP5 : P ≤ 5) {p h c d : Nat} (hp : p < 5) (hh : h < 48) (hc : c ≤ 99) (hd : d ≤ 149) (hd0 : ¬ (G 4 p = 3 ∨ G 4 p = 6) → d = 0) : fX7_takes s I (a + 110) (nI p) (nI h) (nI c) (nI d) = some (nI (tkS P G p h (c + d))) := by
  obtain ⟨b0, b1, b2', b3, b4, b5, b6⟩ := B.1 p hp
  obtain ⟨m0, m1, m2, m3, m4, m5, m6⟩ := C.2.2 p hp
  have e24 : nI h - nI h / 24 * 24 = nI (h % 24) := mod_nI (d := 24) (by omega) (by omega) (by omega)
  have e5 : (5 : Int32) * nI (G 5 p) = nI (5 * G 5 p) := nI_mul 5 _
  have hm10 : c * G 5 p ≤ 300 * 10 := Nat.mul_le_mul (by omega) b5
  have e10 : nI c * nI (G 5 p) / 10 = nI (c * G 5 p / 10) := by
    rw [nI_mul]
    exact pk_div (d := 10) (by omega) (by omega) (by omega)
  have hbit := has_nI (S := G 6 p) (q := h % 24) (by omega) (by omega)
  have eK : ∀ k, k < 7 → (nI (G 4 p) = nI k ↔ G 4 p = k) := fun k hk => nI_eq (by omega) (by omega)
  have ho1 : opnS G p h = true → ¬ fX7_has (nI (G 6 p)) (nI (h % 24)) = 0 := fun h1 => by
    unfold opnS at h1
    rw [hbit, if_pos (by simpa using h1)]
    decide
  have ho2 : ¬ opnS G p h = true → fX7_has (nI (G 6 p)) (nI (h % 24)) = 0 := fun h1 => by
    unfold opnS at h1
    rw [hbit, if_neg (by simpa using h1)]
  unfold fX7_takes
  simp only [e7_110_33 W, e7_110_5 W, e7_110_32 W, r132 W (j := p) hp, r113 W (j := p) hp, r131 W (j := p) hp, Option.bind_some, m4, m5, m6, e24, e5, e10, i7_110_0 W, C.1]
  unfold tkS
  by_cases k1 : G 4 p = 1
  · have hd1 := hd0 (by omega)
    subst hd1
    rw [if_pos (show nI (G 4 p) = 1 by rw [k1]; rfl), if_pos (Or.inl k1)]
    by_cases ho : opnS G p h = true
    · rw [if_neg (ho1 ho), if_pos ho, min7 (by omega) (by omega), Nat.min_comm]
      rfl
    · rw [if_pos (ho2 ho), if_neg ho]
      rfl
  rw [if_neg (show ¬ nI (G 4 p) = 1 from fun h9 => k1 ((eK 1 (by omega)).mp h9))]
  by_cases k2 : G 4 p = 2
  · have hd1 := hd0 (by omega)
    subst hd1
    rw [if_pos (show nI (G 4 p) = 2 by rw [k2]; rfl), if_neg (by omega), if_pos k2]
    rfl
  rw [if_neg (show ¬ nI (G 4 p) = 2 from fun h9 => k2 ((eK 2 (by omega)).mp h9))]
  by_cases k3 : G 4 p = 3
  · rw [if_pos (show nI (G 4 p) = 3 by rw [k3]; rfl), if_pos (Or.inr k3)]
    by_cases ho : opnS G p h = true
    · rw [if_neg (ho1 ho), if_pos ho, nI_add, min7 (by omega) (by omega), Nat.min_comm]
    · rw [if_pos (ho2 ho), if_neg ho]
      rfl
  rw [if_neg (show ¬ nI (G 4 p) = 3 from fun h9 => k3 ((eK 3 (by omega)).mp h9)), if_neg (show ¬ (G 4 p = 1 ∨ G 4 p = 3) by omega), if_neg k2]
  by_cases k4 : G 4 p = 4
  · have hd1 := hd0 (by omega)
    subst hd1
    rw [if_pos (show nI (G 4 p) = 4 by rw [k4]; rfl), if_pos k4]
    by_cases ho : opnS G p h = true
    · rw [if_neg (ho1 ho), if_pos ho, min7 (by omega) (by omega), Nat.min_comm]
      rfl
    · rw [if_pos (ho2 ho), if_neg ho]
      by_cases hlt : c ≤ 5 * G 5 p
      · rw [if_pos (nI_le hlt (by omega)), show c + 0 - 5 * G 5 p = 0 by omega]
        rfl
      · rw [if_neg (nI_ge (by omega) (by omega)), nI_sub (by omega)]
        rfl
  rw [if_neg (show ¬ nI (G 4 p) = 4 from fun h9 => k4 ((eK 4 (by omega)).mp h9)), if_neg k4]
  by_cases k5' : G 4 p = 5
  · have hd1 := hd0 (by omega)
    subst hd1
    have hr : rmI (nI h) (nI P) = some (nI (h % P)) := by
      unfold rmI
      rw [if_neg (nI_ne0 (by omega) (by omega)), mod_nI (by omega) (by omega) (by omega)]
    rw [if_pos (show nI (G 4 p) = 5 by rw [k5']; rfl), if_pos k5', hr, Option.bind_some]
    have hmod : h % P < P := Nat.mod_lt _ (by omega)
    by_cases hhp : h % P = p
    · rw [if_pos (by rw [hhp]), if_pos hhp]
      rfl
    · rw [if_neg (fun h9 => hhp ((nI_eq (by omega) (by omega)).mp h9)), if_neg hhp]
      rfl
  rw [if_neg (show ¬ nI (G 4 p) = 5 from fun h9 => k5' ((eK 5 (by omega)).mp h9)), if_neg k5']
  by_cases k6' : G 4 p = 6
  · rw [if_pos (show nI (G 4 p) = 6 by rw [k6']; rfl), if_pos k6']
    by_cases ho : opnS G p h = true
    · rw [if_neg (ho1 ho), if_pos ho, nI_add, nI_1, show nI (c + d + 1) / 2 = nI ((c + d + 1) / 2) from pk_div (d := 2) (by omega) (by omega) (by omega), min7 (by omega) (by omega), Nat.min_comm]
    · rw [if_pos (ho2 ho), if_neg ho]
      rfl
  · rw [if_neg (show ¬ nI (G 4 p) = 6 from fun h9 => k6' ((eK 6 (by omega)).mp h9)), if_neg k6']
    rfl
/-- how many hours are done of a place -/
def dn (p h q : Nat) : Nat := if q < p then h + 1 else h
def Gi (I : IH) (a P : Nat) (G : Nat → Nat → Nat) (m : Nat → Nat) (h p : Nat) : Prop := (∀ q j, q < P → j < 48 → I (a + 133) (48 * q + j) = nI (if G 0 q ≤ j ∧ j - G 0 q < dn p h q then cmS P G m q j else 0)) ∧ ∀ q j, q < P → j < 48 → j < dn p h q → I (a + 134) (48 * q + j) = nI (takS P G m q j) ∧ I (a + 135) (48 * q + j) = nI (inS P G m (q + 1) j) ∧ I (a + 136) (48 * q + j) = nI (helS P G m q j) ∧ I (a + 137) (48 * q + j) = nI (fldS P G m q j)
def goCells (a x : Nat) : Prop := a + 133 ≤ x ∧ x ≤ a + 137
theorem ix48 (p h : Nat) : (48 : Int32) * nI p + nI h = nI (48 * p + h) := by rw [show (48 : Int32) * nI p = nI (48 * p) from nI_mul 48 p, nI_add]
theorem setsM (W : WW s a w1 w2) (C : MI I a P G m) (B : GB G m) (hP5 : P ≤ 5) {p h : Nat} (hp : p < P) (hh : h < 48) (X : Gi I a P G m h p) : ∃ I1, fX7_sets s (a + 110) (nI (inS P G m p h)) (nI p) (nI h) I = some I1 ∧ (∀ x, x ≠ a + 133 → x ≠ a + 137 → I1 x = I x) ∧ (∀ q j, q < P → j < 48 → I1 (a + 133) (48 * q + j) = nI (if G 0 q ≤ j ∧ j - G 0 q < dn (p + 1) h q then cmS P G m q j else 0)) ∧ (∀ q j, q < P → j < 48 → (q ≠ p ∨ j ≠ h) → I1 (a + 137) (48 * q + j) = I (a + 137) (48 * q + j)) ∧ I1 (a + 137) (48 * p + h) = nI (fldS P G m p h) := by
  have hp5 : p < 5 := by omega
  obtain ⟨b0, b1, b2', -⟩ := B.1 p hp5
  obtain ⟨m0, m1, m2, m3, m4, m5, m6⟩ := C.2.2 p hp5
  have hi := inS_le (P := P) B (p := p) (h := h) (by omega) hh
  have hmin : min (inS P G m p h) (G 2 p) ≤ 99 := by omega
  have hfl : nI (inS P G m p h) - fX7_min (nI (inS P G m p h)) (nI (G 2 p)) = nI (fldS P G m p h) := by
    rw [min7 (by omega) (by omega), nI_sub (Nat.min_le_left _ _)]
    rfl
  have sd : ∀ q j, q < P → j < 48 → (q ≠ p) → (if G 0 q ≤ j ∧ j - G 0 q < dn (p + 1) h q then cmS P G m q j else 0) = (if G 0 q ≤ j ∧ j - G 0 q < dn p h q then cmS P G m q j else 0) := fun q j hq hj hqp => by
    have e9 : dn (p + 1) h q = dn p h q := by
      unfold dn
      by_cases h1 : q < p
      · rw [if_pos h1, if_pos (show q < p + 1 by omega)]
      · rw [if_neg h1, if_neg (show ¬ q < p + 1 by omega)]
    rw [e9]
  have dnp : dn (p + 1) h p = h + 1 ∧ dn p h p = h := by
    unfold dn
    exact ⟨if_pos (by omega), if_neg (by omega)⟩
  unfold fX7_sets
  simp only [e7_110_30 W, e7_110_38 W, e7_110_28 W, r129 W (j := p) hp5, Option.bind_some, m2, hfl, ix48, s137 W (j := 48 * p + h) (by omega), r127 W (j := p) hp5]
  generalize hJ : wr I (a + 137) (48 * p + h) (nI (fldS P G m p h)) = J
  have j1 : ∀ x j, (x ≠ a + 137 ∨ j ≠ 48 * p + h) → J x j = I x j := fun x j h => by rw [← hJ, wr_or h]
  have j2 : J (a + 137) (48 * p + h) = nI (fldS P G m p h) := by rw [← hJ, wr_at]
  rw [j1 _ _ (by omega), m0, nI_add]
  by_cases hw : h + G 0 p < 48
  · have hx : J (a + 133) (48 * p + h + G 0 p) = nI 0 := by
      rw [j1 _ _ (by omega), Nat.add_assoc, X.1 p (h + G 0 p) hp hw, if_neg (by rw [dnp.2]; omega)]
    have hmul : min (inS P G m p h) (G 2 p) * G 1 p ≤ 99 * 99 := Nat.mul_le_mul hmin b1
    have hle : min (inS P G m p h) (G 2 p) * G 1 p / 100 ≤ min (inS P G m p h) (G 2 p) := by
      have : min (inS P G m p h) (G 2 p) * G 1 p ≤ min (inS P G m p h) (G 2 p) * 100 := Nat.mul_le_mul_left _ (by omega)
      omega
    have hls : fX7_less s J (a + 110) (fX7_min (nI (inS P G m p h)) (nI (G 2 p))) (nI p) = some (nI (arrS G p (min (inS P G m p h) (G 2 p)))) := by
      unfold fX7_less
      rw [e7_110_29 W, Option.bind_some, r128 W hp5, Option.bind_some, j1 _ _ (by omega), m1, min7 (by omega) (by omega), nI_mul, show nI (min (inS P G m p h) (G 2 p) * G 1 p) / 100 = nI (min (inS P G m p h) (G 2 p) * G 1 p / 100) from pk_div (d := 100) (by omega) (by omega) (by omega), nI_sub hle]
      rfl
    have hcm : cmS P G m p (h + G 0 p) = arrS G p (min (inS P G m p h) (G 2 p)) := by
      unfold cmS comS
      rw [if_pos (by omega), show h + G 0 p - G 0 p = h by omega]
    rw [if_neg (show ¬ (48 : Int32) ≤ nI (h + G 0 p) from nI_ge (b := 48) hw (by omega)), e7_110_34 W, Option.bind_some, nI_add, r133 W (j := 48 * p + h + G 0 p) (by omega), Option.bind_some, hx, hls, Option.bind_some, nI_add, s133 W (j := 48 * p + h + G 0 p) (by omega), Option.bind_some]
    refine ⟨_, rfl, fun x h1 h2 => by rw [wr_ne h1, ← hJ, wr_ne h2], fun q j hq hj => ?_, fun q j hq hj hn => by rw [wr_ne (by omega), j1 _ _ (by omega)], by rw [wr_ne (by omega), j2]⟩
    by_cases hc : q = p ∧ j = h + G 0 p
    · obtain ⟨rfl, rfl⟩ := hc
      rw [← Nat.add_assoc, wr_at, if_pos (by rw [dnp.1]; omega), hcm, Nat.zero_add]
    · rw [wr_nj (by omega), j1 _ _ (by omega), X.1 q j hq hj]
      congr 1
      by_cases hqp : q = p
      · subst hqp
        rw [dnp.1, dnp.2]
        by_cases h1 : G 0 q ≤ j ∧ j - G 0 q < h
        · rw [if_pos h1, if_pos (by omega)]
        · rw [if_neg h1, if_neg (by omega)]
      · rw [sd q j hq hj hqp]
  · rw [if_pos (show (48 : Int32) ≤ nI (h + G 0 p) from nI_le (a := 48) (by omega) (by omega))]
    refine ⟨J, rfl, fun x h1 h2 => by rw [← hJ, wr_ne h2], fun q j hq hj => ?_, fun q j hq hj hn => by rw [j1 _ _ (by omega)], j2⟩
    rw [j1 _ _ (by omega), X.1 q j hq hj]
    congr 1
    by_cases hqp : q = p
    · subst hqp
      rw [dnp.1, dnp.2]
      by_cases h1 : G 0 q ≤ j ∧ j - G 0 q < h
      · rw [if_pos h1, if_pos (by omega)]
      · rw [if_neg h1, if_neg (by omega)]
    · rw [sd q j hq hj hqp]
theorem placeM (W : WW s a w1 w2) (B : GB G m) (hP : 1 ≤ P) (hP5 : P ≤ 5) (K38 : Int32 → IH → Option IH) {h : Nat} (hh : h < 48) : ∀ mm p fuel (J : IH), p + mm = P → mm < fuel → MI J a P G m → Gi J a P G m h p → ∃ J1, fX7_go_b53 s (a + 110) K38 fuel (nI h) (nI (inS P G m p h)) (nI p) J = K38 (nI (h + 1)) J1 ∧ (∀ x, ¬ goCells a x → J1 x = J x) ∧ Gi J1 a P G m h P := by
  intro mm
  induction mm with
  | zero =>
    intro p fuel J h1 h2 hM X
    obtain ⟨u, rfl⟩ : ∃ u, fuel = u + 1 := ⟨fuel - 1, by omega⟩
    obtain rfl : p = P := h1
    refine ⟨J, ?_, fun _ _ => rfl, X⟩
    rw [fX7_go_b53, i7_110_0 W, Option.bind_some, hM.1, if_pos (nI_le (Nat.le_refl _) (by omega)), nI_1]
  | succ mm ih =>
    intro p fuel J h1 h2 hM X
    obtain ⟨u, rfl⟩ : ∃ u, fuel = u + 1 := ⟨fuel - 1, by omega⟩
    have hp : p < P := by omega
    have hp5 : p < 5 := by omega
    obtain ⟨b0, b1, b2', b3, b4, b5, b6⟩ := B.1 p hp5
    obtain ⟨J1, e1, f1, v1, v2, v3⟩ := setsM W hM B hP5 hp hh X
    have hM1 : MI J1 a P G m := hM.kept (fun x hx => f1 x (by omega) (by omega))
    have hcm : J1 (a + 133) (48 * p + h) = nI (cmS P G m p h) := by
      rw [v1 p h hp hh]
      congr 1
      unfold dn
      rw [if_pos (show p < p + 1 by omega)]
      by_cases hg : G 0 p ≤ h
      · rw [if_pos ⟨hg, by omega⟩]
      · rw [if_neg (fun h9 => hg h9.1)]
        unfold cmS comS
        rw [if_neg hg]
    have hc99 : cmS P G m p h ≤ 99 := comS_le B hp5 _ h
    have hd149 := hdS_le (P := P) B hp5 (comS G p (inS P G m p)) h
    have hd0 : ¬ (G 4 p = 3 ∨ G 4 p = 6) → hdS P G p (comS G p (inS P G m p)) h = 0 := fun hk => by
      cases h with
      | zero => rfl
      | succ h =>
        show min _ (basS G p) = 0
        have : basS G p = 0 := by
          unfold basS
          rw [if_neg hk]
        omega
    have body : fX7_go_b93 s (a + 110) (fX7_go_b53 s (a + 110) K38 u) (nI h) (nI p) (nI (48 * p + h)) (nI (hdS P G p (comS G p (inS P G m p)) h)) J1 = fX7_go_b53 s (a + 110) K38 u (nI h) (nI (inS P G m (p + 1) h)) (nI (p + 1)) (wr (wr (wr J1 (a + 134) (48 * p + h) (nI (takS P G m p h))) (a + 136) (48 * p + h) (nI (helS P G m p h))) (a + 135) (48 * p + h) (nI (inS P G m (p + 1) h))) := by
      have hidx : 48 * p + h < 240 := by omega
      have tk := takesM W hM1 B hP hP5 hp5 hh hc99 hd149 hd0
      replace tk : fX7_takes s J1 (a + 110) (nI p) (nI h) (nI (cmS P G m p h)) (nI (hdS P G p (comS G p (inS P G m p)) h)) = some (nI (takS P G m p h)) := tk
      have htk : takS P G m p h ≤ cmS P G m p h + hdS P G p (comS G p (inS P G m p)) h := tkS_le (P := P) (h := h) (t := cmS P G m p h + hdS P G p (comS G p (inS P G m p)) h) B hp5
      have hlf : nI (cmS P G m p h) + nI (hdS P G p (comS G p (inS P G m p)) h) - nI (takS P G m p h) = nI (cmS P G m p h + hdS P G p (comS G p (inS P G m p)) h - takS P G m p h) := by rw [nI_add, nI_sub htk]
      have hhel : helS P G m p h = min (cmS P G m p h + hdS P G p (comS G p (inS P G m p)) h - takS P G m p h) (basS G p) := rfl
      have hby : nI (cmS P G m p h + hdS P G p (comS G p (inS P G m p)) h - takS P G m p h) - nI (helS P G m p h) = nI (inS P G m (p + 1) h) := by
        rw [nI_sub (by rw [hhel]; exact Nat.min_le_left _ _)]
        rfl
      obtain ⟨m0, m1, m2, m3, m4, m5, m6⟩ := hM1.2.2 p hp5
      unfold fX7_go_b93
      rw [e7_110_34 W, Option.bind_some, r133 W hidx, Option.bind_some, hcm, tk, Option.bind_some, Option.bind_some, r133 W hidx, Option.bind_some, hcm, e7_110_35 W, Option.bind_some, s134 W hidx, Option.bind_some, e7_110_37 W, Option.bind_some, e7_110_32 W, Option.bind_some, r131 W hp5, Option.bind_some, wr_ne (by omega), m4, hlf]
      have b179 : ∀ z, z = nI (helS P G m p h) → fX7_go_b179 s (a + 110) (fX7_go_b53 s (a + 110) K38 u) (nI h) (nI p) (nI (48 * p + h)) (nI (cmS P G m p h + hdS P G p (comS G p (inS P G m p)) h - takS P G m p h)) (a + 136) (nI (48 * p + h)) z (wr J1 (a + 134) (48 * p + h) (nI (takS P G m p h))) = fX7_go_b53 s (a + 110) K38 u (nI h) (nI (inS P G m (p + 1) h)) (nI (p + 1)) (wr (wr (wr J1 (a + 134) (48 * p + h) (nI (takS P G m p h))) (a + 136) (48 * p + h) (nI (helS P G m p h))) (a + 135) (48 * p + h) (nI (inS P G m (p + 1) h))) := by
        intro z hz
        subst hz
        unfold fX7_go_b179
        rw [s136 W hidx, Option.bind_some, e7_110_36 W, Option.bind_some, e7_110_37 W, Option.bind_some, r136 W hidx, Option.bind_some, wr_at, hby, s135 W hidx, Option.bind_some, Option.bind_some, r135 W hidx, Option.bind_some, wr_at, nI_1]
      have b163 : (G 4 p = 3 ∨ G 4 p = 6) → fX7_go_b163 s (a + 110) (fX7_go_b53 s (a + 110) K38 u) (nI h) (nI p) (nI (48 * p + h)) (nI (cmS P G m p h + hdS P G p (comS G p (inS P G m p)) h - takS P G m p h)) (a + 136) (nI (48 * p + h)) (wr J1 (a + 134) (48 * p + h) (nI (takS P G m p h))) = fX7_go_b53 s (a + 110) K38 u (nI h) (nI (inS P G m (p + 1) h)) (nI (p + 1)) (wr (wr (wr J1 (a + 134) (48 * p + h) (nI (takS P G m p h))) (a + 136) (48 * p + h) (nI (helS P G m p h))) (a + 135) (48 * p + h) (nI (inS P G m (p + 1) h))) := by
        intro hk
        unfold fX7_go_b163
        rw [e7_110_31 W, Option.bind_some, r130 W hp5, Option.bind_some, wr_ne (by omega), m3, min7 (by omega) (by omega)]
        refine b179 _ ?_
        rw [hhel]
        unfold basS
        rw [if_pos hk]
      by_cases k3 : G 4 p = 3
      · rw [if_pos (show nI (G 4 p) = 3 by rw [k3]; rfl)]
        exact b163 (Or.inl k3)
      · rw [if_neg (show ¬ nI (G 4 p) = 3 from fun h9 => k3 ((nI_eq (by omega) (by omega)).mp (h9.trans (show (3 : Int32) = nI 3 from rfl)))), Option.bind_some, r131 W hp5, Option.bind_some, wr_ne (by omega), m4]
        by_cases k6 : G 4 p = 6
        · rw [if_pos (show nI (G 4 p) = 6 by rw [k6]; rfl)]
          exact b163 (Or.inr k6)
        · rw [if_neg (show ¬ nI (G 4 p) = 6 from fun h9 => k6 ((nI_eq (by omega) (by omega)).mp (h9.trans (show (6 : Int32) = nI 6 from rfl))))]
          refine b179 0 ?_
          rw [hhel]
          unfold basS
          rw [if_neg (by omega), Nat.min_zero]
          rfl
    generalize hJ2 : wr (wr (wr J1 (a + 134) (48 * p + h) (nI (takS P G m p h))) (a + 136) (48 * p + h) (nI (helS P G m p h))) (a + 135) (48 * p + h) (nI (inS P G m (p + 1) h)) = J2 at body
    have j1 : ∀ x j, (x < a + 134 ∨ a + 136 < x ∨ j ≠ 48 * p + h) → J2 x j = J1 x j := fun x j hx => by rw [← hJ2, wr_or (by omega), wr_or (by omega), wr_or (by omega)]
    have y4 : J2 (a + 134) (48 * p + h) = nI (takS P G m p h) := by rw [← hJ2, wr_ne (by omega), wr_ne (by omega), wr_at]
    have y6 : J2 (a + 136) (48 * p + h) = nI (helS P G m p h) := by rw [← hJ2, wr_ne (by omega), wr_at]
    have y5 : J2 (a + 135) (48 * p + h) = nI (inS P G m (p + 1) h) := by rw [← hJ2, wr_at]
    have hM2 : MI J2 a P G m := hM1.kept (fun x hx => funext fun j => j1 x j (by omega))
    obtain ⟨J3, e3, f3, X3⟩ := ih (p + 1) u J2 (by omega) (by omega) hM2 ⟨fun q j hq hj => by rw [j1 _ _ (by omega)]; exact v1 q j hq hj, fun q j hq hj hd => by
      by_cases hqj : q = p ∧ j = h
      · obtain ⟨rfl, rfl⟩ := hqj
        exact ⟨y4, y5, y6, by rw [j1 _ _ (by omega)]; exact v3⟩
      · have hd' : j < dn p h q := by
          unfold dn at hd ⊢
          by_cases h1 : q < p
          · rw [if_pos h1]
            rw [if_pos (by omega)] at hd
            exact hd
          · rw [if_neg h1]
            by_cases h2 : q < p + 1
            · rw [if_pos h2] at hd
              omega
            · rw [if_neg h2] at hd
              exact hd
        obtain ⟨x4, x5, x6, x7⟩ := X.2 q j hq hj hd'
        have hne : 48 * q + j ≠ 48 * p + h := by omega
        exact ⟨by rw [j1 _ _ (by omega), f1 _ (by omega) (by omega)]; exact x4, by rw [j1 _ _ (by omega), f1 _ (by omega) (by omega)]; exact x5, by rw [j1 _ _ (by omega), f1 _ (by omega) (by omega)]; exact x6, by rw [j1 _ _ (by omega), v2 q j hq hj (by omega)]; exact x7⟩⟩
    refine ⟨J3, ?_, fun x hx => ?_, X3⟩
    · rw [fX7_go_b53, i7_110_0 W, Option.bind_some, hM.1, if_neg (nI_ge hp (by omega)), e1, Option.bind_some, ix48]
      by_cases h0 : h = 0
      · subst h0
        rw [if_pos (show nI 0 = 0 from rfl)]
        exact body.trans e3
      · obtain ⟨k, rfl⟩ : ∃ k, h = k + 1 := ⟨h - 1, by omega⟩
        rw [if_neg (nI_ne0 (by omega) (by omega)), e7_110_37 W, Option.bind_some, show nI (48 * p + (k + 1)) - 1 = nI (48 * p + k) from nI_pred (48 * p + k), r136 W (j := 48 * p + k) (by omega), Option.bind_some, f1 _ (by omega) (by omega), (X.2 p k hp (by omega) (by unfold dn; rw [if_neg (Nat.lt_irrefl _)]; omega)).2.2.1]
        exact body.trans e3
    · rw [f3 x hx]
      unfold goCells at hx
      rw [← hJ2, wr_ne (by omega), wr_ne (by omega), wr_ne (by omega), f1 x (by omega) (by omega)]
theorem goM (W : WW s a w1 w2) (C : MI I a P G m) (B : GB G m) (hP : 1 ≤ P) (hP5 : P ≤ 5) : ∃ I1, fX7_go s (a + 110) I = some I1 ∧ (∀ x, ¬ goCells a x → I1 x = I x) ∧ MO I1 a P G m := by
  have hours : ∀ mm h fuel (J : IH), h + mm = 48 → mm < fuel → (∀ x, ¬ goCells a x → J x = I x) → Gi J a P G m h 0 → ∃ I1, fX7_go_b38 s (a + 110) fuel (nI h) J = some I1 ∧ (∀ x, ¬ goCells a x → I1 x = I x) ∧ MO I1 a P G m := by
    intro mm
    induction mm with
    | zero =>
      intro h fuel J h1 h2 f X
      obtain ⟨u, rfl⟩ : ∃ u, fuel = u + 1 := ⟨fuel - 1, by omega⟩
      obtain rfl : h = 48 := h1
      refine ⟨J, ?_, f, fun p j hp hj => ?_⟩
      · rw [fX7_go_b38, if_pos (show (48 : Int32) ≤ nI 48 by decide)]
      · have hd : dn 0 48 p = 48 := if_neg (by omega)
        obtain ⟨x4, x5, x6, x7⟩ := X.2 p j hp hj (by rw [hd]; exact hj)
        refine ⟨?_, x4, x5, x6, x7⟩
        rw [X.1 p j hp hj, hd]
        congr 1
        by_cases hg : G 0 p ≤ j
        · rw [if_pos ⟨hg, by omega⟩]
        · rw [if_neg (fun h9 => hg h9.1)]
          unfold cmS comS
          rw [if_neg hg]
    | succ mm ih =>
      intro h fuel J h1 h2 f X
      obtain ⟨u, rfl⟩ : ∃ u, fuel = u + 1 := ⟨fuel - 1, by omega⟩
      have hh : h < 48 := by omega
      have hM : MI J a P G m := C.kept (fun x hx => f x (by unfold goCells; omega))
      obtain ⟨J1, e1, f1, X1⟩ := placeM W B hP hP5 (fX7_go_b38 s (a + 110) u) hh P 0 1000 J (by omega) (by omega) hM X
      have hdn : ∀ q, q < P → dn P h q = dn 0 (h + 1) q := fun q hq => by
        unfold dn
        rw [if_pos hq, if_neg (by omega)]
      obtain ⟨I1, e2, f2, O2⟩ := ih (h + 1) u J1 (by omega) (by omega) (fun x hx => (f1 x hx).trans (f x hx)) ⟨fun q j hq hj => by rw [← hdn q hq]; exact X1.1 q j hq hj, fun q j hq hj hd => X1.2 q j hq hj (by rw [hdn q hq]; exact hd)⟩
      refine ⟨I1, ?_, f2, O2⟩
      rw [fX7_go_b38, if_neg (show ¬ (48 : Int32) ≤ nI h from nI_ge (b := 48) hh (by omega)), e7_110_27 W, Option.bind_some, r126 W hh, Option.bind_some, hM.2.1 h hh]
      exact e1.trans e2
  have zero : ∀ mm k fuel (J : IH), k + mm = 240 → mm < fuel → (∀ x, ¬ goCells a x → J x = I x) → (∀ j, j < k → J (a + 133) j = 0) → ∃ I1, fX7_go_b2 s (a + 110) (fX7_go_b38 s (a + 110) 1000) fuel (nI k) J = some I1 ∧ (∀ x, ¬ goCells a x → I1 x = I x) ∧ MO I1 a P G m := by
    intro mm
    induction mm with
    | zero =>
      intro k fuel J h1 h2 f v
      obtain ⟨u, rfl⟩ : ∃ u, fuel = u + 1 := ⟨fuel - 1, by omega⟩
      obtain rfl : k = 240 := h1
      rw [fX7_go_b2, if_pos (show (240 : Int32) ≤ nI 240 by decide)]
      have hd : ∀ q, dn 0 0 q = 0 := fun q => if_neg (by omega)
      exact hours 48 0 1000 J rfl (by omega) f ⟨fun q j hq hj => by rw [v _ (by omega), hd, if_neg (by omega)]; rfl, fun q j hq hj hlt => by rw [hd] at hlt; omega⟩
    | succ mm ih =>
      intro k fuel J h1 h2 f v
      obtain ⟨u, rfl⟩ : ∃ u, fuel = u + 1 := ⟨fuel - 1, by omega⟩
      have hk : k < 240 := by omega
      rw [fX7_go_b2, if_neg (show ¬ (240 : Int32) ≤ nI k from nI_ge (b := 240) hk (by omega)), e7_110_34 W, Option.bind_some, s133 W hk, Option.bind_some, e7_110_37 W, Option.bind_some, s136 W hk, Option.bind_some, e7_110_38 W, Option.bind_some, s137 W hk, Option.bind_some, nI_1]
      refine ih (k + 1) u _ (by omega) (by omega) (fun x hx => ?_) (fun j hj => ?_)
      · have hx' := hx
        unfold goCells at hx'
        rw [wr_ne (by omega), wr_ne (by omega), wr_ne (by omega), f x hx]
      · rw [wr_ne (by omega), wr_ne (by omega)]
        by_cases hjk : j = k
        · subst hjk
          exact wr_at
        · rw [wr_nj hjk]
          exact v j (by omega)
  exact zero 240 0 1000 I rfl (by omega) (fun _ _ => rfl) (fun j hj => absurd hj (by omega))
end GO
