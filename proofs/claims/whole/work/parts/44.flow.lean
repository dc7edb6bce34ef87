/-! LAYER 2: the flow of water, and the class's way to it -/
/-- places' numbers: 0 lag, 1 leak, 2 most, 3 basin, 4 kind, 5 might, 6 open -/
def arrS (G : Nat → Nat → Nat) (p x : Nat) : Nat := x - x * G 1 p / 100
def comS (G : Nat → Nat → Nat) (p : Nat) (i : Nat → Nat) (h : Nat) : Nat := if G 0 p ≤ h then arrS G p (min (i (h - G 0 p)) (G 2 p)) else 0
def opnS (G : Nat → Nat → Nat) (p h : Nat) : Bool := G 6 p / 2 ^ (h % 24) % 2 = 1
def tkS (P : Nat) (G : Nat → Nat → Nat) (p h t : Nat) : Nat :=
  if G 4 p = 1 ∨ G 4 p = 3 then (if opnS G p h then min (5 * G 5 p) t else 0)
  else if G 4 p = 2 then t * G 5 p / 10
  else if G 4 p = 4 then (if opnS G p h then min (5 * G 5 p) t else t - 5 * G 5 p)
  else if G 4 p = 5 then (if h % P = p then t * G 5 p / 10 else 0)
  else if G 4 p = 6 then (if opnS G p h then min (5 * G 5 p) ((t + 1) / 2) else 0)
  else 0
def basS (G : Nat → Nat → Nat) (p : Nat) : Nat := if G 4 p = 3 ∨ G 4 p = 6 then G 3 p else 0
def hdS (P : Nat) (G : Nat → Nat → Nat) (p : Nat) (c : Nat → Nat) : Nat → Nat
  | 0 => 0
  | h + 1 => min (c h + hdS P G p c h - tkS P G p h (c h + hdS P G p c h)) (basS G p)
def tknS (P : Nat) (G : Nat → Nat → Nat) (p : Nat) (c : Nat → Nat) (h : Nat) : Nat := tkS P G p h (c h + hdS P G p c h)
def byS (P : Nat) (G : Nat → Nat → Nat) (p : Nat) (c : Nat → Nat) (h : Nat) : Nat := c h + hdS P G p c h - tknS P G p c h - hdS P G p c (h + 1)
/-- what is set out before a place -/
def inS (P : Nat) (G : Nat → Nat → Nat) (m : Nat → Nat) : Nat → Nat → Nat
  | 0 => m
  | p + 1 => byS P G p (comS G p (inS P G m p))
def fldS (P : Nat) (G : Nat → Nat → Nat) (m : Nat → Nat) (p h : Nat) : Nat := inS P G m p h - min (inS P G m p h) (G 2 p)
def cmS (P : Nat) (G : Nat → Nat → Nat) (m : Nat → Nat) (p h : Nat) : Nat := comS G p (inS P G m p) h
def takS (P : Nat) (G : Nat → Nat → Nat) (m : Nat → Nat) (p h : Nat) : Nat := tknS P G p (comS G p (inS P G m p)) h
def helS (P : Nat) (G : Nat → Nat → Nat) (m : Nat → Nat) (p h : Nat) : Nat := hdS P G p (comS G p (inS P G m p)) (h + 1)
/-- bounds -/
def GB (G : Nat → Nat → Nat) (m : Nat → Nat) : Prop := (∀ p, p < 5 → G 0 p ≤ 21 ∧ G 1 p ≤ 99 ∧ G 2 p ≤ 99 ∧ G 3 p ≤ 149 ∧ G 4 p ≤ 6 ∧ G 5 p ≤ 10 ∧ G 6 p ≤ 16777215) ∧ ∀ h, h < 48 → m h ≤ 1189
theorem tkS_le {P : Nat} {G : Nat → Nat → Nat} {m : Nat → Nat} (B : GB G m) {p h t : Nat} (hp : p < 5) : tkS P G p h t ≤ t := by
  obtain ⟨-, -, -, -, -, h5, -⟩ := B.1 p hp
  have h10 : t * G 5 p / 10 ≤ t := by
    have : t * G 5 p ≤ t * 10 := Nat.mul_le_mul_left _ h5
    omega
  unfold tkS
  split
  · split <;> omega
  split
  · exact h10
  split
  · split <;> omega
  split
  · split
    · exact h10
    · omega
  split
  · split <;> omega
  · omega
theorem hdS_le {P : Nat} {G : Nat → Nat → Nat} {m : Nat → Nat} (B : GB G m) {p : Nat} (hp : p < 5) (c : Nat → Nat) : ∀ h, hdS P G p c h ≤ 149
  | 0 => Nat.zero_le _
  | h + 1 => by
    obtain ⟨-, -, -, h3, -, -, -⟩ := B.1 p hp
    show min _ (basS G p) ≤ 149
    have : basS G p ≤ 149 := by
      unfold basS
      split <;> omega
    omega
theorem arrS_le {G : Nat → Nat → Nat} {p x : Nat} : arrS G p x ≤ x := Nat.sub_le _ _
theorem comS_le {G : Nat → Nat → Nat} {m : Nat → Nat} (B : GB G m) {p : Nat} (hp : p < 5) (i : Nat → Nat) (h : Nat) : comS G p i h ≤ 99 := by
  obtain ⟨-, -, h2, -⟩ := B.1 p hp
  unfold comS
  split
  · have := arrS_le (G := G) (p := p) (x := min (i (h - G 0 p)) (G 2 p))
    omega
  · omega
theorem byS_le {P : Nat} {G : Nat → Nat → Nat} {m : Nat → Nat} (B : GB G m) {p : Nat} (hp : p < 5) (i : Nat → Nat) (h : Nat) : byS P G p (comS G p i) h ≤ 248 := by
  have h1 := comS_le B hp i h
  have h2 := hdS_le (P := P) B hp (comS G p i) h
  unfold byS
  omega
theorem inS_le {P : Nat} {G : Nat → Nat → Nat} {m : Nat → Nat} (B : GB G m) {p h : Nat} (hp : p < 6) (hh : h < 48) : inS P G m p h ≤ 1189 := by
  cases p with
  | zero => exact B.2 h hh
  | succ p =>
    have := byS_le (P := P) B (p := p) (by omega) (inS P G m p) h
    show byS P G p (comS G p (inS P G m p)) h ≤ 1189
    omega
theorem and1 {x : Nat} (h : x < 2 ^ 31) : nI x &&& 1 = nI (x % 2) := by
  apply Int32.toBitVec_inj.mp
  apply BitVec.eq_of_toNat_eq
  show (BitVec.ofNat 32 x &&& 1#32).toNat = (BitVec.ofNat 32 (x % 2)).toNat
  have h1 : (1#32).toNat = 1 := rfl
  rw [BitVec.toNat_and, BitVec.toNat_ofNat, h1, BitVec.toNat_ofNat, Nat.mod_eq_of_lt (by omega : x < 2 ^ 32), Nat.mod_eq_of_lt (by omega : x % 2 < 2 ^ 32)]
  exact Nat.and_one_is_mod x
theorem bit31 : ∀ q : Fin 32, ((nI q.1 &&& 31).toBitVec.smod 32).toNat = q.1 := by decide
theorem bit_nI {S q : Nat} (hS : S < 2 ^ 31) (hq : q < 32) : (nI S >>> (nI q &&& 31)) &&& 1 = nI (S / 2 ^ q % 2) := by
  rw [pk_shrN hS _ q (bit31 ⟨q, hq⟩)]
  have : S / 2 ^ q ≤ S := Nat.div_le_self _ _
  exact and1 (by omega)
section FLOW
variable {s : SH} {I : IH} {L : LH} {n a w1 w2 w P : Nat} {G : Nat → Nat → Nat} {m : Nat → Nat}
/-- the class's copy of ways, gates and melts -/
def CI (I : IH) (a P : Nat) (G : Nat → Nat → Nat) (m : Nat → Nat) : Prop := I (a + 1) 0 = nI P ∧ (∀ q p, q < 4 → p < 5 → I (a + 53 + q) p = nI (G q p)) ∧ (∀ p i, p < 5 → i < 3 → I (a + 58 + p) i = nI (G (4 + i) p)) ∧ ∀ h, h < 48 → I (a + 51) h = nI (m h)
theorem CI.kept {I1 : IH} (h : CI I a P G m) (e : ∀ x, x = a + 1 ∨ x = a + 51 ∨ (a + 53 ≤ x ∧ x < a + 57) ∨ (a + 58 ≤ x ∧ x < a + 63) → I1 x = I x) : CI I1 a P G m := by
  obtain ⟨h1, h2, h3, h4⟩ := h
  refine ⟨?_, fun q p hq hp => ?_, fun p i hp hi => ?_, fun h hh => ?_⟩
  · rw [e _ (by omega)]; exact h1
  · rw [e _ (by omega)]; exact h2 q p hq hp
  · rw [e _ (by omega)]; exact h3 p i hp hi
  · rw [e _ (by omega)]; exact h4 h hh
/-- what has flowed through the first K places -/
def CO (I : IH) (a P : Nat) (G : Nat → Nat → Nat) (m : Nat → Nat) (K : Nat) : Prop := ∀ p h, p < K → h < 48 → I (a + 64 + p) h = nI (cmS P G m p h) ∧ I (a + 70 + p) h = nI (takS P G m p h) ∧ I (a + 76 + p) h = nI (inS P G m (p + 1) h) ∧ I (a + 82 + p) h = nI (helS P G m p h) ∧ I (a + 88 + p) h = nI (fldS P G m p h)
theorem takesC (W : WW s a w1 w2) (C : CI I a P G m) (B : GB G m) (hP : 1 ≤ P) (hP5 : P ≤ 5) {p h t : Nat} (hp : p < 5) (hh : h < 48) (ht : t ≤ 300) : fX5_takes s I (a + 50) (a + 57 + 1 + p) (nI p) (nI h) (nI t) = some (nI (tkS P G p h t)) := by
  obtain ⟨b0, b1, b2', b3, b4, b5, b6⟩ := B.1 p hp
  have hp5 : (p : Nat) < 5 := hp
  have g0 : I (a + 58 + p) 0 = nI (G 4 p) := C.2.2.1 p 0 hp (by omega)
  have g1 : I (a + 58 + p) 1 = nI (G 5 p) := C.2.2.1 p 1 hp (by omega)
  have g2 : I (a + 58 + p) 2 = nI (G 6 p) := C.2.2.1 p 2 hp (by omega)
  have q0 : aI s I 0 (a + 57 + 1 + p) 0 = some (nI (G 4 p)) := (r57 W hp (j := 0) (by omega)).trans (by rw [g0])
  have q1 : aI s I 0 (a + 57 + 1 + p) 1 = some (nI (G 5 p)) := (r57 W hp (j := 1) (by omega)).trans (by rw [g1])
  have q2 : aI s I 0 (a + 57 + 1 + p) 2 = some (nI (G 6 p)) := (r57 W hp (j := 2) (by omega)).trans (by rw [g2])
  have e24 : nI h - nI h / 24 * 24 = nI (h % 24) := mod_nI (d := 24) (by omega) (by omega) (by omega)
  have e5 : (5 : Int32) * nI (G 5 p) = nI (5 * G 5 p) := nI_mul 5 _
  have hm10 : t * G 5 p ≤ 300 * 10 := Nat.mul_le_mul ht b5
  have e10 : nI t * nI (G 5 p) / 10 = nI (t * G 5 p / 10) := by
    rw [nI_mul]
    exact pk_div (d := 10) (by omega) (by omega) (by omega)
  have hbit := bit_nI (S := G 6 p) (q := h % 24) (by omega) (by omega)
  have body : ∀ z : Int32, (z = 0 ↔ opnS G p h = false) → fX5_takes_b36 s I (a + 50) (a + 57 + 1 + p) (nI p) (nI h) (nI t) (nI (5 * G 5 p)) (nI (t * G 5 p / 10)) z = some (nI (tkS P G p h t)) := by
    intro z hz
    have eK : ∀ k, k < 7 → (nI (G 4 p) = nI k ↔ G 4 p = k) := fun k hk => nI_eq (by omega) (by omega)
    have hz0 : opnS G p h = true → ¬ z = 0 := fun h1 h2 => by rw [hz.mp h2] at h1; cases h1
    have hz1 : ¬ opnS G p h = true → z = 0 := fun h1 => hz.mpr (by simpa using h1)
    unfold fX5_takes_b36
    rw [q0, Option.bind_some]
    unfold tkS
    by_cases k1 : G 4 p = 1
    · rw [if_pos (show nI (G 4 p) = 1 by rw [k1]; rfl), if_pos (Or.inl k1)]
      by_cases ho : opnS G p h = true
      · rw [if_neg (hz0 ho), if_pos ho, min_nI (by omega) (by omega)]
      · rw [if_pos (hz1 ho), if_neg ho]
        rfl
    rw [if_neg (show ¬ nI (G 4 p) = 1 from fun h9 => k1 ((eK 1 (by omega)).mp h9))]
    by_cases k2 : G 4 p = 2
    · rw [if_pos (show nI (G 4 p) = 2 by rw [k2]; rfl), if_neg (by omega), if_pos k2]
    rw [if_neg (show ¬ nI (G 4 p) = 2 from fun h9 => k2 ((eK 2 (by omega)).mp h9))]
    by_cases k3 : G 4 p = 3
    · rw [if_pos (show nI (G 4 p) = 3 by rw [k3]; rfl), if_pos (Or.inr k3)]
      by_cases ho : opnS G p h = true
      · rw [if_neg (hz0 ho), if_pos ho, min_nI (by omega) (by omega)]
      · rw [if_pos (hz1 ho), if_neg ho]
        rfl
    rw [if_neg (show ¬ nI (G 4 p) = 3 from fun h9 => k3 ((eK 3 (by omega)).mp h9)), if_neg (show ¬ (G 4 p = 1 ∨ G 4 p = 3) by omega), if_neg k2]
    by_cases k4 : G 4 p = 4
    · rw [if_pos (show nI (G 4 p) = 4 by rw [k4]; rfl), if_pos k4]
      by_cases ho : opnS G p h = true
      · rw [if_neg (hz0 ho), if_pos ho, min_nI (by omega) (by omega)]
      · rw [if_pos (hz1 ho), if_neg ho]
        congr 1
        unfold fJ9_max_7cf53
        by_cases hlt : t < 5 * G 5 p
        · rw [if_pos (show nI t - nI (5 * G 5 p) < 0 from (sub_lt (r := 0) (by omega) (by omega) (by omega)).mpr (by omega)), show t - 5 * G 5 p = 0 by omega]
          rfl
        · rw [if_neg (show ¬ nI t - nI (5 * G 5 p) < 0 from fun h9 => hlt (by have := (sub_lt (r := 0) (by omega) (by omega) (by omega)).mp h9; omega)), nI_sub (by omega)]
    rw [if_neg (show ¬ nI (G 4 p) = 4 from fun h9 => k4 ((eK 4 (by omega)).mp h9)), if_neg k4]
    by_cases k5' : G 4 p = 5
    · rw [if_pos (show nI (G 4 p) = 5 by rw [k5']; rfl), if_pos k5', e5_50_0 W, Option.bind_some, i2_1_0 W, Option.bind_some, C.1, if_neg (show ¬ nI P ≤ 0 from nI_nle (by omega) (by omega)), Option.bind_some, i2_1_0 W, Option.bind_some, C.1]
      have hr : rmI (nI h) (nI P) = some (nI (h % P)) := by
        unfold rmI
        rw [if_neg (nI_ne0 (by omega) (by omega)), mod_nI (by omega) (by omega) (by omega)]
      rw [hr, Option.bind_some]
      have hmod : h % P < P := Nat.mod_lt _ (by omega)
      by_cases hhp : h % P = p
      · rw [if_pos (by rw [hhp]), if_pos hhp]
      · rw [if_neg (fun h9 => hhp ((nI_eq (by omega) (by omega)).mp h9)), if_neg hhp]
        rfl
    rw [if_neg (show ¬ nI (G 4 p) = 5 from fun h9 => k5' ((eK 5 (by omega)).mp h9)), if_neg k5']
    by_cases k6' : G 4 p = 6
    · rw [if_pos (show nI (G 4 p) = 6 by rw [k6']; rfl), if_pos k6']
      by_cases ho : opnS G p h = true
      · rw [if_neg (hz0 ho), if_pos ho, nI_1, show nI (t + 1) / 2 = nI ((t + 1) / 2) from pk_div (d := 2) (by omega) (by omega) (by omega), min_nI (by omega) (by omega)]
      · rw [if_pos (hz1 ho), if_neg ho]
        rfl
    · rw [if_neg (show ¬ nI (G 4 p) = 6 from fun h9 => k6' ((eK 6 (by omega)).mp h9)), if_neg k6']
      rfl
  unfold fX5_takes
  rw [q1, Option.bind_some, Option.bind_some, q2, Option.bind_some, e24, hbit, e5, e10]
  have hm2 : G 6 p / 2 ^ (h % 24) % 2 < 2 := Nat.mod_lt _ (by omega)
  by_cases h1 : G 6 p / 2 ^ (h % 24) % 2 = 0
  · rw [if_pos (by rw [h1]; rfl)]
    refine body 0 ⟨fun _ => ?_, fun _ => rfl⟩
    unfold opnS
    rw [h1]
    rfl
  · rw [if_neg (fun h9 => h1 ((nI_eq (by omega) (by omega)).mp (h9.trans (show (0 : Int32) = nI 0 from rfl))))]
    refine body 1 ⟨fun h9 => absurd h9 (by decide), fun h9 => ?_⟩
    unfold opnS at h9
    have : G 6 p / 2 ^ (h % 24) % 2 = 1 := by omega
    rw [this] at h9
    exact absurd h9 (by decide)
/-- water comes to a place -/
theorem comeC (W : WW s a w1 w2) (C : CI I a P G m) (B : GB G m) {p r : Nat} {i : Nat → Nat} (hp : p < 5) (hr : r < a + 64 ∨ (a + 76 ≤ r ∧ r < a + 81)) (hrr : ∀ (J : IH) h, h < 48 → aI s J 0 r (nI h) = some (J r h)) (hi : ∀ h, h < 48 → I r h = nI (i h) ∧ i h ≤ 1189) : ∃ I1, fX5_come s (a + 50) (nI p) r I = some I1 ∧ (∀ x, x ≠ a + 64 + p → x ≠ a + 88 + p → I1 x = I x) ∧ ∀ h, h < 48 → I1 (a + 64 + p) h = nI (comS G p i h) ∧ I1 (a + 88 + p) h = nI (i h - min (i h) (G 2 p)) := by
  obtain ⟨b0, b1, b2', -⟩ := B.1 p hp
  have key : ∀ mm q fuel (J : IH), q + mm = 48 → mm < fuel → (∀ x, x ≠ a + 64 + p → x ≠ a + 88 + p → J x = I x) → (∀ h, h < 48 → J (a + 64 + p) h = nI (if G 0 p ≤ h ∧ h - G 0 p < q then comS G p i h else 0)) → (∀ h, h < q → J (a + 88 + p) h = nI (i h - min (i h) (G 2 p))) → ∃ I1, fX5_come_b15 s (a + 50) fuel (nI p) r (a + 63 + 1 + p) (nI q) J = some I1 ∧ (∀ x, x ≠ a + 64 + p → x ≠ a + 88 + p → I1 x = I x) ∧ ∀ h, h < 48 → I1 (a + 64 + p) h = nI (comS G p i h) ∧ I1 (a + 88 + p) h = nI (i h - min (i h) (G 2 p)) := by
    intro mm
    induction mm with
    | zero =>
      intro q fuel J h1 h2 f v1 v2
      obtain ⟨u, rfl⟩ : ∃ u, fuel = u + 1 := ⟨fuel - 1, by omega⟩
      obtain rfl : q = 48 := h1
      refine ⟨J, ?_, f, fun h hh => ⟨?_, v2 h hh⟩⟩
      · rw [fX5_come_b15, if_pos (show (48 : Int32) ≤ nI 48 by decide)]
      · rw [v1 h hh]
        congr 1
        by_cases hl : G 0 p ≤ h
        · rw [if_pos ⟨hl, by omega⟩]
        · rw [if_neg (fun h9 => hl h9.1)]
          unfold comS
          rw [if_neg hl]
    | succ mm ih =>
      intro q fuel J h1 h2 f v1 v2
      obtain ⟨u, rfl⟩ : ∃ u, fuel = u + 1 := ⟨fuel - 1, by omega⟩
      have hq : q < 48 := by omega
      obtain ⟨i1, i2⟩ := hi q hq
      have hmin : min (i q) (G 2 p) ≤ 99 := by omega
      have jr : J r q = nI (i q) := by rw [f r (by omega) (by omega)]; exact i1
      have c2 : J (a + 53 + 2) p = nI (G 2 p) := by rw [f _ (by omega) (by omega)]; exact C.2.1 2 p (by omega) hp
      have hgo : fX5_going s J (a + 50) (nI p) (nI (i q)) = some (nI (min (i q) (G 2 p))) := by
        unfold fX5_going
        rw [e5_50_2 W, Option.bind_some, show aR s 4 (a + 52) 2 = some (a + 53 + 2) from a52 W (p := 2) (by omega), Option.bind_some, r52 W (p := 2) (by omega) hp, Option.bind_some, c2, min_nI (by omega) (by omega)]
      rw [fX5_come_b15, if_neg (show ¬ (48 : Int32) ≤ nI q from nI_ge (b := 48) hq (by omega)), hrr J q hq, Option.bind_some, jr, hgo, Option.bind_some, e5_50_8 W, Option.bind_some, a87 W hp, Option.bind_some, Option.bind_some, s87 W hp hq, Option.bind_some, e5_50_2 W, Option.bind_some, show aR s 4 (a + 52) 0 = some (a + 53 + 0) from a52 W (p := 0) (by omega), Option.bind_some, r52 W (p := 0) (by omega) hp, Option.bind_some, show aL s (a + 63 + 1 + p) = some (nI 48) from lr63 W hp, Option.bind_some, nI_sub (Nat.min_le_left _ _)]
      have c0 : wr J (a + 88 + p) q (nI (i q - min (i q) (G 2 p))) (a + 53 + 0) p = nI (G 0 p) := by rw [wr_ne (by omega), f _ (by omega) (by omega)]; exact C.2.1 0 p (by omega) hp
      rw [c0, nI_add, nI_1]
      have fl : ∀ (J2 : IH), (∀ x j, x ≠ a + 64 + p → J2 x j = wr J (a + 88 + p) q (nI (i q - min (i q) (G 2 p))) x j) → (∀ h, h < q + 1 → J2 (a + 88 + p) h = nI (i h - min (i h) (G 2 p))) := by
        intro J2 hJ h hh
        rw [hJ _ _ (by omega)]
        by_cases hhq : h = q
        · subst hhq
          rw [wr_at]
        · rw [wr_nj hhq]
          exact v2 h (by omega)
      by_cases hw : q + G 0 p < 48
      · have c1 : wr J (a + 88 + p) q (nI (i q - min (i q) (G 2 p))) (a + 53 + 1) p = nI (G 1 p) := by rw [wr_ne (by omega), f _ (by omega) (by omega)]; exact C.2.1 1 p (by omega) hp
        have hmul : min (i q) (G 2 p) * G 1 p ≤ 99 * 99 := Nat.mul_le_mul hmin b1
        have har : fX5_arriving s (wr J (a + 88 + p) q (nI (i q - min (i q) (G 2 p)))) (a + 50) (nI p) (nI (min (i q) (G 2 p))) = some (nI (arrS G p (min (i q) (G 2 p)))) := by
          unfold fX5_arriving
          rw [e5_50_2 W, Option.bind_some, show aR s 4 (a + 52) 1 = some (a + 53 + 1) from a52 W (p := 1) (by omega), Option.bind_some, r52 W (p := 1) (by omega) hp, Option.bind_some, c1, nI_mul, show nI (min (i q) (G 2 p) * G 1 p) / 100 = nI (min (i q) (G 2 p) * G 1 p / 100) from pk_div (d := 100) (by omega) (by omega) (by omega), nI_sub (by
            have : min (i q) (G 2 p) * G 1 p ≤ min (i q) (G 2 p) * 100 := Nat.mul_le_mul_left _ (by omega)
            omega)]
          rfl
        rw [if_neg (un hw (by omega)), har, Option.bind_some, show sI s (wr J (a + 88 + p) q (nI (i q - min (i q) (G 2 p)))) (a + 63 + 1 + p) (nI (q + G 0 p)) _ = _ from s63 W hp hw, Option.bind_some]
        refine ih (q + 1) u _ (by omega) (by omega) (fun x hx1 hx2 => by rw [wr_ne hx1, wr_ne hx2, f x hx1 hx2]) (fun h hh => ?_) (fl _ (fun x j hx => by rw [wr_ne hx]))
        by_cases hhq : h = q + G 0 p
        · subst hhq
          rw [wr_at, if_pos ⟨by omega, by omega⟩]
          congr 1
          unfold comS
          rw [if_pos (by omega), show q + G 0 p - G 0 p = q by omega]
        · rw [wr_nj hhq, wr_ne (by omega), v1 h hh]
          congr 1
          by_cases hc : G 0 p ≤ h ∧ h - G 0 p < q
          · rw [if_pos hc, if_pos ⟨hc.1, by omega⟩]
          · rw [if_neg hc, if_neg (by omega)]
      · rw [if_pos (un_ge (nI_le (by omega) (by omega)))]
        refine ih (q + 1) u _ (by omega) (by omega) (fun x hx1 hx2 => by rw [wr_ne hx2, f x hx1 hx2]) (fun h hh => ?_) (fl _ (fun x j hx => rfl))
        rw [wr_ne (by omega), v1 h hh]
        congr 1
        by_cases hc : G 0 p ≤ h ∧ h - G 0 p < q
        · rw [if_pos hc, if_pos ⟨hc.1, by omega⟩]
        · rw [if_neg hc, if_neg (by omega)]
  unfold fX5_come
  have hfill := ok_fill (I := I) (v := 0) (W.2.2.2.2.2.2.1 (13 + p) _ (d63 hp)) (by omega)
  rw [← q63] at hfill
  rw [e5_50_4 W, Option.bind_some, a63 W hp, Option.bind_some, hfill, Option.bind_some]
  refine key 48 0 1000 _ rfl (by omega) (fun x h1 h2 => upR_ne h1) (fun h hh => ?_) (fun h hh => absurd hh (by omega))
  rw [upR_same, if_pos hh, if_neg (by omega)]
  rfl
end FLOW
