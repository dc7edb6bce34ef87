/-! LAYER 2: best -/
section CONGR
variable {G G' : Nat → Nat → Nat} {P q : Nat}
theorem tkS_congr (hq : ∀ i, G' i q = G i q) (h t : Nat) : tkS P G' q h t = tkS P G q h t := by
  unfold tkS opnS
  simp only [hq]
theorem hdS_congr (hq : ∀ i, G' i q = G i q) (c : Nat → Nat) : ∀ h, hdS P G' q c h = hdS P G q c h
  | 0 => rfl
  | h + 1 => by
    have e : basS G' q = basS G q := by
      unfold basS
      simp only [hq]
    rw [hdS, hdS, hdS_congr hq c h, tkS_congr hq, e]
theorem comS_congr (hq : ∀ i, G' i q = G i q) (i : Nat → Nat) : comS G' q i = comS G q i := by
  funext h
  unfold comS arrS
  simp only [hq]
theorem tknS_congr (hq : ∀ i, G' i q = G i q) (c : Nat → Nat) : tknS P G' q c = tknS P G q c := by
  funext h
  unfold tknS
  rw [hdS_congr hq, tkS_congr hq]
theorem byS_congr (hq : ∀ i, G' i q = G i q) (c : Nat → Nat) : byS P G' q c = byS P G q c := by
  funext h
  unfold byS
  rw [hdS_congr hq, hdS_congr hq, tknS_congr hq]
theorem inS_congr {m : Nat → Nat} {p : Nat} (hg : ∀ i q, q < p → G' i q = G i q) : ∀ q, q ≤ p → inS P G' m q = inS P G m q
  | 0, _ => rfl
  | q + 1, h => by
    show byS P G' q (comS G' q (inS P G' m q)) = byS P G q (comS G q (inS P G m q))
    rw [inS_congr hg q (by omega), comS_congr (fun i => hg i q (by omega)), byS_congr (fun i => hg i q (by omega))]
theorem takS_congr {m : Nat → Nat} {p : Nat} (hg : ∀ i q, q < p → G' i q = G i q) {q : Nat} (hq : q < p) (h : Nat) : takS P G' m q h = takS P G m q h := by
  unfold takS
  rw [inS_congr hg q (by omega), comS_congr (fun i => hg i q hq), tknS_congr (fun i => hg i q hq)]
theorem CO_congr {I : IH} {a : Nat} {m : Nat → Nat} {p : Nat} (hg : ∀ i q, q < p → G' i q = G i q) (h : CO I a P G m p) : CO I a P G' m p := by
  intro q j hq hj
  obtain ⟨h1, h2, h3, h4, h5⟩ := h q j hq hj
  have e0 := inS_congr (P := P) (m := m) hg q (by omega)
  have e1 := inS_congr (P := P) (m := m) hg (q + 1) (by omega)
  have e2 := comS_congr (G := G) (G' := G') (fun i => hg i q hq) (inS P G m q)
  refine ⟨?_, by rw [takS_congr hg hq]; exact h2, by rw [e1]; exact h3, ?_, ?_⟩
  · unfold cmS at h1 ⊢
    rw [e0, e2]
    exact h1
  · unfold helS at h4 ⊢
    rw [e0, e2, hdS_congr (fun i => hg i q hq)]
    exact h4
  · unfold fldS at h5 ⊢
    rw [e0, hg 2 q hq]
    exact h5
end CONGR
section UTM
variable {PL HO CU EA : Nat → Nat} {T T' : Nat → Nat → Nat} {P p : Nat}
theorem hadS_congr2 {sv sv' : Nat → Nat} {pl ho : Nat} : ∀ w, (∀ o, o < w → PL o = pl → sv o = sv' o) → hadS PL HO sv pl ho w = hadS PL HO sv' pl ho w
  | 0, _ => rfl
  | w + 1, h => by
    show hadS PL HO sv pl ho w + _ = hadS PL HO sv' pl ho w + _
    rw [hadS_congr2 w (fun o ho => h o (by omega))]
    by_cases hm : PL w = pl ∧ HO w = ho
    · rw [if_pos hm, if_pos hm, h w (by omega) hm.1]
    · rw [if_neg hm, if_neg hm]
theorem SV_congr (hT : ∀ pl ho, pl < p → T' pl ho = T pl ho) : ∀ n w, w < n → PL w < p → SV PL HO CU T' P w = SV PL HO CU T P w
  | n + 1, w, hw, hp => by
    rw [SV_eq, SV_eq, hT _ _ hp, hadS_congr2 (sv' := SV PL HO CU T P) w (fun o ho hpl => SV_congr hT n o (by omega) (by rw [hpl]; exact hp))]
def utmS (PL HO CU EA : Nat → Nat) (T : Nat → Nat → Nat) (P p : Nat) : Nat → Nat
  | 0 => 0
  | w + 1 => utmS PL HO CU EA T P p w + (if p ≤ PL w ∧ PL w < P then CU w else SV PL HO CU T P w) * EA w
theorem wth_utm (hp : p < P) (hT : ∀ pl ho, pl < p → T' pl ho = T pl ho) : ∀ w, wthS PL HO CU EA T' P w ≤ utmS PL HO CU EA T P p w
  | 0 => Nat.le_refl _
  | w + 1 => by
    have h := wth_utm hp hT w
    show wthS PL HO CU EA T' P w + SV PL HO CU T' P w * EA w ≤ utmS PL HO CU EA T P p w + _
    have h2 : SV PL HO CU T' P w ≤ (if p ≤ PL w ∧ PL w < P then CU w else SV PL HO CU T P w) := by
      by_cases hr : p ≤ PL w ∧ PL w < P
      · rw [if_pos hr]
        exact SV_le w
      · rw [if_neg hr]
        by_cases hlt : PL w < p
        · rw [SV_congr hT (w + 1) w (by omega) hlt]
          exact Nat.le_refl _
        · rw [SV_eq, if_neg (by omega)]
          exact Nat.zero_le _
    have := Nat.mul_le_mul_right (EA w) h2
    omega
theorem utm_le {N : Nat} (h : ∀ w, w < N → CU w ≤ 30 ∧ EA w ≤ 9) : ∀ w, w ≤ N → utmS PL HO CU EA T P p w ≤ 270 * w
  | 0, _ => Nat.le_refl _
  | w + 1, hw => by
    have h1 := utm_le h w (by omega)
    obtain ⟨h2, h3⟩ := h w (by omega)
    have h4 := SV_le (PL := PL) (HO := HO) (CU := CU) (T := T) (P := P) w
    have h5 : (if p ≤ PL w ∧ PL w < P then CU w else SV PL HO CU T P w) * EA w ≤ 30 * 9 := Nat.mul_le_mul (by split <;> omega) h3
    show utmS PL HO CU EA T P p w + _ ≤ 270 * (w + 1)
    omega
end UTM
/-- sets of hours, as the reference builds them -/
def mst (h : Nat) : Nat → Int32
  | 0 => 0
  | k + 1 => mst h k ||| ((1 : Int32) <<< (nI ((h + k) % 24) &&& 31))
theorem mst_T : ∀ h : Fin 24, ∀ b : Fin 25, fX6_span (nI h.1) (nI b.1) = mst h.1 b.1 ∧ mst h.1 b.1 = nI (nv (mst h.1 b.1)) ∧ nv (mst h.1 b.1) ≤ 16777215 := by decide +kernel
def setB (G : Nat → Nat → Nat) (p S : Nat) : Nat → Nat → Nat := updG (updG G 4 p 1) 6 p S
theorem setB_6 {G : Nat → Nat → Nat} {p S : Nat} : setB G p S 6 p = S := updG_eq
theorem setB_4 {G : Nat → Nat → Nat} {p S : Nat} : setB G p S 4 p = 1 := (updG_ne (by omega)).trans updG_eq
theorem setB_ne {G : Nat → Nat → Nat} {p S i q : Nat} (h : q ≠ p ∨ (i ≠ 4 ∧ i ≠ 6)) : setB G p S i q = G i q := (updG_ne (by omega)).trans (updG_ne (by omega))
theorem setB_GB {G : Nat → Nat → Nat} {m : Nat → Nat} (B : GB G m) {p S : Nat} (hS : S ≤ 16777215) : GB (setB G p S) m := by
  refine ⟨fun q hq => ?_, B.2⟩
  obtain ⟨g0, g1, g2, g3, g4, g5, g6⟩ := B.1 q hq
  refine ⟨by rw [setB_ne (by omega)]; exact g0, by rw [setB_ne (by omega)]; exact g1, by rw [setB_ne (by omega)]; exact g2, by rw [setB_ne (by omega)]; exact g3, ?_, by rw [setB_ne (by omega)]; exact g5, ?_⟩
  · by_cases hqp : q = p
    · subst hqp
      rw [setB_4]
      omega
    · rw [setB_ne (Or.inl hqp)]
      exact g4
  · by_cases hqp : q = p
    · subst hqp
      rw [setB_6]
      exact hS
    · rw [setB_ne (Or.inl hqp)]
      exact g6
/-- the best of the trials so far: greatest, from, many -/
def bsI (Wt : Nat → Nat → Nat) (b : Nat) (st : Int32 × Int32 × Int32) : Nat → Int32 × Int32 × Int32
  | 0 => st
  | k + 1 => if nI (Wt k b) ≤ (bsI Wt b st k).1 then bsI Wt b st k else (nI (Wt k b), nI k, nI b)
def bsO (Wt : Nat → Nat → Nat) : Nat → Int32 × Int32 × Int32
  | 0 => (-1, 0, 0)
  | b + 1 => bsI Wt b (bsO Wt b) 24
theorem bsI_0 (Wt : Nat → Nat → Nat) (b : Nat) (st : Int32 × Int32 × Int32) : bsI Wt b st 0 = st := rfl
theorem bsO_s (Wt : Nat → Nat → Nat) (b : Nat) : bsO Wt (b + 1) = bsI Wt b (bsO Wt b) 24 := by rw [bsO]
theorem bsI_add (Wt : Nat → Nat → Nat) (b : Nat) (st : Int32 × Int32 × Int32) {U : Nat} (hU : U < 2 ^ 31) (hW : ∀ h b, Wt h b ≤ U) {k : Nat} (hk : nI U ≤ (bsI Wt b st k).1) : ∀ j, bsI Wt b st (k + j) = bsI Wt b st k
  | 0 => rfl
  | j + 1 => by
    have ih := bsI_add Wt b st hU hW hk j
    show (if nI (Wt (k + j) b) ≤ (bsI Wt b st (k + j)).1 then bsI Wt b st (k + j) else _) = _
    rw [ih, if_pos (Int32.le_trans (nI_le (hW _ _) hU) hk)]
theorem bsO_add (Wt : Nat → Nat → Nat) {U : Nat} (hU : U < 2 ^ 31) (hW : ∀ h b, Wt h b ≤ U) {b : Nat} (hb : nI U ≤ (bsO Wt b).1) : ∀ j, bsO Wt (b + j) = bsO Wt b
  | 0 => rfl
  | j + 1 => by
    have ih := bsO_add Wt hU hW hb j
    show bsI Wt (b + j) (bsO Wt (b + j)) 24 = _
    rw [ih]
    exact bsI_add Wt (b + j) (bsO Wt b) hU hW (k := 0) hb 24
section BEST
variable {s : SH} {I : IH} {L : LH} {n a w1 w2 w P : Nat} {G : Nat → Nat → Nat} {m : Nat → Nat}
theorem utmostC (W : WW s a w1 w2) {N : Nat} {PL HO CU EA : Nat → Nat} {T : Nat → Nat → Nat} (hP0 : I (a + 1) 0 = nI P) (hP5 : P ≤ 5) (X : WI I a N PL HO CU EA) (hs : ∀ w, w < N → I (a + 93) w = nI (SV PL HO CU T P w)) {p : Nat} (hp : p < 5) : fX5_utmost s I (a + 50) (nI p) = some (nI (utmS PL HO CU EA T P p N)) := by
  obtain ⟨x1, x2, x3⟩ := X
  have key : ∀ mm q fuel, q + mm = N → mm < fuel → fX5_utmost_b4 s I (a + 50) fuel (nI p) (nI (utmS PL HO CU EA T P p q)) (nI q) = some (nI (utmS PL HO CU EA T P p N)) := by
    intro mm
    induction mm with
    | zero =>
      intro q fuel h1 h2
      obtain ⟨u, rfl⟩ : ∃ u, fuel = u + 1 := ⟨fuel - 1, by omega⟩
      obtain rfl : q = N := h1
      by_cases h10 : q = 10
      · subst h10
        rw [fX5_utmost_b4, if_pos (show (10 : Int32) ≤ nI 10 by decide)]
      · rw [fX5_utmost_b4, if_neg (show ¬ (10 : Int32) ≤ nI q from nI_ge (b := 10) (by omega) (by omega)), e5_50_0 W, Option.bind_some, c2_1 W, Option.bind_some, isWantC W x1 x2 (by omega), Option.bind_some, if_neg (Nat.lt_irrefl _), if_pos rfl]
    | succ mm ih =>
      intro q fuel h1 h2
      obtain ⟨u, rfl⟩ : ∃ u, fuel = u + 1 := ⟨fuel - 1, by omega⟩
      have hq : q < 10 := by omega
      obtain ⟨⟨y0, z0⟩, ⟨y1, z1⟩, ⟨y2, z2⟩, y3, z3⟩ := x3 q (by omega)
      have t0 := r17 (I := I) W (p := q) hq (j := 0) (by omega)
      have t2 := r17 (I := I) W (p := q) hq (j := 2) (by omega)
      have t3 := r17 (I := I) W (p := q) hq (j := 3) (by omega)
      rw [show I (a + 17 + 1 + q) 0 = nI (PL q) from y0] at t0
      rw [show I (a + 17 + 1 + q) 2 = nI (CU q) from y2] at t2
      rw [show I (a + 17 + 1 + q) 3 = nI (EA q) from y3] at t3
      replace t0 : aI s I 0 (a + 17 + 1 + q) 0 = some (nI (PL q)) := t0
      replace t2 : aI s I 0 (a + 17 + 1 + q) 2 = some (nI (CU q)) := t2
      replace t3 : aI s I 0 (a + 17 + 1 + q) 3 = some (nI (EA q)) := t3
      have go := ih (q + 1) u (by omega) (by omega)
      have hs1 : utmS PL HO CU EA T P p (q + 1) = utmS PL HO CU EA T P p q + (if p ≤ PL q ∧ PL q < P then CU q else SV PL HO CU T P q) * EA q := rfl
      have f0 : ¬ (p ≤ PL q ∧ PL q < P) → fX5_utmost_b59 s I (a + 50) (fX5_utmost_b4 s I (a + 50) u) (nI p) (nI (utmS PL HO CU EA T P p q)) (nI q) (a + 17 + 1 + q) 0 = some (nI (utmS PL HO CU EA T P p N)) := fun hn => by
        unfold fX5_utmost_b59
        rw [if_pos rfl, e5_50_9 W, Option.bind_some, r93 W hq, Option.bind_some, hs q (by omega)]
        unfold fX5_utmost_b80
        rw [t3, Option.bind_some, nI_mul, nI_add, nI_1]
        rw [hs1, if_neg hn] at go
        exact go
      have f1 : (p ≤ PL q ∧ PL q < P) → fX5_utmost_b59 s I (a + 50) (fX5_utmost_b4 s I (a + 50) u) (nI p) (nI (utmS PL HO CU EA T P p q)) (nI q) (a + 17 + 1 + q) 1 = some (nI (utmS PL HO CU EA T P p N)) := fun hn => by
        unfold fX5_utmost_b59
        rw [if_neg (by decide), t2, Option.bind_some]
        unfold fX5_utmost_b80
        rw [t3, Option.bind_some, nI_mul, nI_add, nI_1]
        rw [hs1, if_pos hn] at go
        exact go
      rw [fX5_utmost_b4, if_neg (show ¬ (10 : Int32) ≤ nI q from nI_ge (b := 10) (by omega) (by omega)), e5_50_0 W, Option.bind_some, c2_1 W, Option.bind_some, isWantC W x1 x2 hq, Option.bind_some, if_pos (show q < N by omega), if_neg (by decide), Option.bind_some, e2_1_4 W, Option.bind_some, a17 W hq, Option.bind_some, t0, Option.bind_some]
      by_cases hlt : PL q < p
      · rw [if_pos (nI_lt hlt (by omega))]
        exact f0 (by omega)
      · rw [if_neg (nI_nlt (by omega) (by omega)), Option.bind_some, Option.bind_some, c2_1 W, Option.bind_some, isPlaceC W hP0 hP5 (by omega), Option.bind_some]
        by_cases hPq : PL q < P
        · rw [if_pos hPq, if_neg (by decide)]
          exact f1 ⟨by omega, hPq⟩
        · rw [if_neg hPq, if_pos rfl]
          exact f0 (fun h => hPq h.2)
  exact key N 0 1000 (by omega) (by omega)
theorem m_best (R : Rel s I L n a w1 w2) (v1 v2 : Int32) : M2 s L n a w1 w2 (fX6_best s a v1 v2 I) (fun I1 => fX7_best s (a + 110) v1 v2 I1) := by
  have W := R.1
  obtain ⟨p1, p2, p3, p4⟩ := stP_y R
  have B := stGB R
  rcases place_cases W p1 p2 p3 v1 with ⟨p, hp, rfl, g1, g2⟩ | ⟨g1, g2⟩
  · rcases under_cases v2 3 (by omega) (by omega) with ⟨q, hq, rfl⟩ | ⟨-, u1, u2⟩
    · have hp5 : p < 5 := by omega
      have hWt : ∃ Wt : Nat → Nat → Nat, Wt = fun h b => stWorth I a (setB (stG I a w1) p (nv (mst h b))) (stM I a w1) := ⟨_, rfl⟩
      obtain ⟨Wt, hWt⟩ := hWt
      have hU : ∃ U, U = utmS (stW I a 0) (stW I a 1) (stW I a 2) (stW I a 3) (takS (stP I a) (stG I a w1) (stM I a w1)) (stP I a) p (stN I a) := ⟨_, rfl⟩
      obtain ⟨U, hU⟩ := hU
      have hU31 : U ≤ 2700 := by
        obtain ⟨-, h2, h3⟩ := (stX R).1
        have := utm_le (PL := stW I a 0) (HO := stW I a 1) (CU := stW I a 2) (EA := stW I a 3) (T := takS (stP I a) (stG I a w1) (stM I a w1)) (P := stP I a) (p := p) (N := stN I a) (fun w hw => ⟨(h3 w hw).2.2.1.2, (h3 w hw).2.2.2.2⟩) (stN I a) (Nat.le_refl _)
        have h4 : 270 * stN I a ≤ 270 * 10 := Nat.mul_le_mul_left _ h2
        omega
      have hWU : ∀ h b, Wt h b ≤ U := fun h b => by
        rw [hWt, hU]
        exact wth_utm hp (fun pl ho hpl => takS_congr (p := p) (fun i q hq => setB_ne (by omega)) hpl ho) _
      have hms : ∀ h b, h < 24 → b ≤ 24 → fX6_span (nI h) (nI b) = nI (nv (mst h b)) ∧ mst h b = nI (nv (mst h b)) ∧ nv (mst h b) ≤ 16777215 := fun h b hh hb => by
        obtain ⟨q1, q2, q3⟩ := mst_T ⟨h, hh⟩ ⟨b, by omega⟩
        exact ⟨q1.trans q2, q2, q3⟩
      -- one trial of the class
      have trial : ∀ (J : IH) (S h b : Nat), h < 24 → b ≤ 24 → (∀ x, ¬ (a + 51 ≤ x ∧ x ≤ a + 93) → J x = I x) → CI J a (stP I a) (setB (stG I a w1) p S) (stM I a w1) → CO J a (stP I a) (stG I a w1) (stM I a w1) p → ∃ J', (sI s J (a + 57 + 1 + p) 2 (fX6_span (nI h) (nI b))) = some (wr J (a + 58 + p) 2 (nI (nv (mst h b)))) ∧ fX5_again s (a + 50) (nI p) (wr J (a + 58 + p) 2 (nI (nv (mst h b)))) = some (nI (Wt h b), J') ∧ (∀ x, ¬ (a + 51 ≤ x ∧ x ≤ a + 93) → J' x = I x) ∧ CI J' a (stP I a) (setB (stG I a w1) p (nv (mst h b))) (stM I a w1) ∧ CO J' a (stP I a) (stG I a w1) (stM I a w1) p := by
        intro J S h b hh hb f C O
        obtain ⟨m1, m2, m3⟩ := hms h b hh hb
        have C2 : CI (wr J (a + 58 + p) 2 (nI (nv (mst h b)))) a (stP I a) (setB (stG I a w1) p (nv (mst h b))) (stM I a w1) := by
          obtain ⟨c1, c2, c3, c4⟩ := C
          refine ⟨by rw [wr_ne (by omega)]; exact c1, fun r q2 hr hq2 => ?_, fun q2 i hq2 hi => ?_, fun x hx => by rw [wr_ne (by omega)]; exact c4 x hx⟩
          · rw [wr_ne (by omega), c2 r q2 hr hq2, setB_ne (by omega), setB_ne (by omega)]
          · by_cases hc : q2 = p ∧ i = 2
            · obtain ⟨rfl, rfl⟩ := hc
              rw [wr_at, show 4 + 2 = 6 from rfl, setB_6]
            · rw [wr_or (by omega), c3 q2 i hq2 hi]
              congr 1
              by_cases hq2p : q2 = p
              · subst hq2p
                have hi2 : i = 0 ∨ i = 1 := by omega
                rcases hi2 with rfl | rfl
                · rw [show 4 + 0 = 4 from rfl, setB_4, setB_4]
                · rw [setB_ne (by omega), setB_ne (by omega)]
              · rw [setB_ne (Or.inl hq2p), setB_ne (Or.inl hq2p)]
        have O2 : CO (wr J (a + 58 + p) 2 (nI (nv (mst h b)))) a (stP I a) (stG I a w1) (stM I a w1) p := fun q2 j hq2 hj => by
          rw [wr_ne (by omega), wr_ne (by omega), wr_ne (by omega), wr_ne (by omega), wr_ne (by omega)]
          exact O q2 j hq2 hj
        have X := (stX R).1.kept (I1 := wr J (a + 58 + p) 2 (nI (nv (mst h b)))) (fun x hx => by rw [wr_ne (by omega), f x (by omega)])
        obtain ⟨J', e', f', O', -⟩ := runC (q := p) W (setB_GB B m3) p2 p3 (by omega) X C2 (CO_congr (fun i q2 hq2 => setB_ne (by omega)) O2)
        refine ⟨J', ?_, ?_, fun x hx => by rw [f' x (by omega), wr_ne (by omega), f x hx], C2.kept (fun x hx => f' x (by omega)), CO_congr (G := setB (stG I a w1) p (nv (mst h b))) (fun i q2 hq2 => (setB_ne (by omega)).symm) (fun q2 j hq2 hj => O' q2 j (by omega) hj)⟩
        · rw [m1]
          exact s57 W hp5 (j := 2) (by omega)
        · rw [e', hWt]
          rfl
      have cin : ∀ (K : Int32 → Int32 → Int32 → Nat → Int32 → Int32 → Int32 → Int32 → IH → Option (Int32 × IH)) (b : Nat) (st : Int32 × Int32 × Int32), b ≤ 24 → ∀ mm k fuel (J : IH) (S : Nat), k + mm = 24 → mm < fuel → (∀ x, ¬ (a + 51 ≤ x ∧ x ≤ a + 93) → J x = I x) → CI J a (stP I a) (setB (stG I a w1) p S) (stM I a w1) → CO J a (stP I a) (stG I a w1) (stM I a w1) p → ∃ J' S', fX6_best_b82 s a K fuel (nI p) (nI q) (nI U) (a + 57 + 1 + p) (bsI Wt b st k).2.1 (bsI Wt b st k).2.2 (bsI Wt b st k).1 (nI b) (nI k) J = K (nI p) (nI q) (nI U) (a + 57 + 1 + p) (bsI Wt b st 24).2.1 (bsI Wt b st 24).2.2 (bsI Wt b st 24).1 (nI (b + 1)) J' ∧ (∀ x, ¬ (a + 51 ≤ x ∧ x ≤ a + 93) → J' x = I x) ∧ CI J' a (stP I a) (setB (stG I a w1) p S') (stM I a w1) ∧ CO J' a (stP I a) (stG I a w1) (stM I a w1) p := by
        intro K b st hb mm
        induction mm with
        | zero =>
          intro k fuel J S t1 t2 f C O
          obtain ⟨u, rfl⟩ : ∃ u, fuel = u + 1 := ⟨fuel - 1, by omega⟩
          obtain rfl : k = 24 := t1
          refine ⟨J, S, ?_, f, C, O⟩
          rw [fX6_best_b82, if_pos (show (24 : Int32) ≤ nI 24 by decide), nI_1]
        | succ mm ih =>
          intro k fuel J S t1 t2 f C O
          obtain ⟨u, rfl⟩ : ∃ u, fuel = u + 1 := ⟨fuel - 1, by omega⟩
          have hk : k < 24 := by omega
          rw [fX6_best_b82, if_neg (show ¬ (24 : Int32) ≤ nI k from nI_ge (b := 24) hk (by omega))]
          by_cases hx : nI U ≤ (bsI Wt b st k).1
          · refine ⟨J, S, ?_, f, C, O⟩
            have := bsI_add Wt b st (by omega) hWU hx (24 - k)
            rw [show k + (24 - k) = 24 by omega] at this
            rw [if_pos hx, this, nI_1]
          · obtain ⟨J1, e1, e2, f1, C1', O1⟩ := trial J S k b hk hb f C O
            obtain ⟨J2, S2, e3, f3, C3, O3⟩ := ih (k + 1) u J1 _ (by omega) (by omega) f1 C1' O1
            refine ⟨J2, S2, ?_, f3, C3, O3⟩
            have hstep : bsI Wt b st (k + 1) = if nI (Wt k b) ≤ (bsI Wt b st k).1 then bsI Wt b st k else (nI (Wt k b), nI k, nI b) := rfl
            rw [if_neg hx, e1, Option.bind_some, e6_0_3 W, Option.bind_some, c5_50 W, Option.bind_some, e2, b2_some, nI_1]
            rw [hstep] at e3
            by_cases hle : nI (Wt k b) ≤ (bsI Wt b st k).1
            · rw [if_pos hle] at e3 ⊢
              exact e3
            · rw [if_neg hle] at e3 ⊢
              exact e3
      have cout : ∀ (K : Int32 → Int32 → Int32 → Int32 → IH → Option (Int32 × IH)) mm b fuel (J : IH) (S : Nat), b + mm = 25 → mm < fuel → (∀ x, ¬ (a + 51 ≤ x ∧ x ≤ a + 93) → J x = I x) → CI J a (stP I a) (setB (stG I a w1) p S) (stM I a w1) → CO J a (stP I a) (stG I a w1) (stM I a w1) p → ∃ J', fX6_best_b66 s a K fuel (nI p) (nI q) (nI U) (a + 57 + 1 + p) (bsO Wt b).2.1 (bsO Wt b).2.2 (bsO Wt b).1 (nI b) J = K (nI q) (bsO Wt 25).2.1 (bsO Wt 25).2.2 (bsO Wt 25).1 J' ∧ ∀ x, ¬ (a + 51 ≤ x ∧ x ≤ a + 93) → J' x = I x := by
        intro K mm
        induction mm with
        | zero =>
          intro b fuel J S t1 t2 f C O
          obtain ⟨u, rfl⟩ : ∃ u, fuel = u + 1 := ⟨fuel - 1, by omega⟩
          obtain rfl : b = 25 := t1
          refine ⟨J, ?_, f⟩
          rw [fX6_best_b66, if_pos (show (24 : Int32) < nI 25 by decide)]
        | succ mm ih =>
          intro b fuel J S t1 t2 f C O
          obtain ⟨u, rfl⟩ : ∃ u, fuel = u + 1 := ⟨fuel - 1, by omega⟩
          have hb : b ≤ 24 := by omega
          rw [fX6_best_b66, if_neg (show ¬ (24 : Int32) < nI b from nI_nlt (a := 24) hb (by omega))]
          by_cases hx : nI U ≤ (bsO Wt b).1
          · refine ⟨J, ?_, f⟩
            have := bsO_add Wt (by omega) hWU hx (25 - b)
            rw [show b + (25 - b) = 25 by omega] at this
            rw [if_pos hx, this]
          · obtain ⟨J1, S1, e1, f1, C1', O1⟩ := cin (fX6_best_b66 s a K u) b (bsO Wt b) hb 24 0 1000 J S rfl (by omega) f C O
            obtain ⟨J2, e2, f2⟩ := ih (b + 1) u J1 S1 (by omega) (by omega) f1 C1' O1
            refine ⟨J2, ?_, f2⟩
            rw [bsI_0] at e1
            rw [bsO_s] at e2
            rw [if_neg hx]
            exact Eq.trans e1 e2
      -- the reference's trials
      have bset : ∀ (K : Int32 → Int32 → Int32 → Int32 → Int32 → Int32 → Int32 → Int32 → IH → Option (Int32 × IH)) (y1 y2 y3 y4 y5 : Int32) (J : IH) (h b : Nat), h < 24 → b ≤ 24 → ∀ mm k fuel, k + mm = b → mm < fuel → fX7_best_b65 s (a + 110) K fuel y1 y2 y3 y4 y5 (nI b) (nI h) (mst h k) (nI k) J = K y1 y2 y3 y4 y5 (nI b) (nI h) (mst h b) J := by
        intro K y1 y2 y3 y4 y5 J h b hh hb mm
        induction mm with
        | zero =>
          intro k fuel t1 t2
          obtain ⟨u, rfl⟩ : ∃ u, fuel = u + 1 := ⟨fuel - 1, by omega⟩
          obtain rfl : k = b := t1
          rw [fX7_best_b65, if_pos (nI_le (Nat.le_refl _) (by omega))]
        | succ mm ih =>
          intro k fuel t1 t2
          obtain ⟨u, rfl⟩ : ∃ u, fuel = u + 1 := ⟨fuel - 1, by omega⟩
          rw [fX7_best_b65, if_neg (nI_ge (by omega) (by omega)), nI_add, show nI (h + k) - nI (h + k) / 24 * 24 = nI ((h + k) % 24) from mod_nI (d := 24) (by omega) (by omega) (by omega), nI_1]
          exact ih (k + 1) u (by omega) (by omega)
      have mtrial : ∀ (J : IH) (S h b : Nat), h < 24 → b ≤ 24 → (∀ x, ¬ scr1 a x → J x = I x) → MI J a (stP I a) (setB (stG I a w1) p S) (stM I a w1) → ∃ J', fX7_worthNow s (a + 110) (wr J (a + 132) p (nI (nv (mst h b)))) = some (nI (Wt h b), J') ∧ (∀ x, ¬ scr1 a x → J' x = I x) ∧ MI J' a (stP I a) (setB (stG I a w1) p (nv (mst h b))) (stM I a w1) := by
        intro J S h b hh hb f C
        obtain ⟨m1, m2, m3⟩ := hms h b hh hb
        have C2 : MI (wr J (a + 132) p (nI (nv (mst h b)))) a (stP I a) (setB (stG I a w1) p (nv (mst h b))) (stM I a w1) := by
          obtain ⟨c1, c2, c3⟩ := C
          refine ⟨by rw [wr_ne (by omega)]; exact c1, fun x hx => by rw [wr_ne (by omega)]; exact c2 x hx, fun q2 hq2 => ?_⟩
          obtain ⟨d0, d1, d2, d3, d4, d5, d6⟩ := c3 q2 hq2
          rw [wr_ne (x := a + 132) (y := a + 127) (by omega), wr_ne (x := a + 132) (y := a + 128) (by omega), wr_ne (x := a + 132) (y := a + 129) (by omega), wr_ne (x := a + 132) (y := a + 130) (by omega), wr_ne (x := a + 132) (y := a + 131) (by omega), wr_ne (x := a + 132) (y := a + 113) (by omega)]
          rw [setB_ne (by omega)] at d0 d1 d2 d3 d5
          rw [setB_ne (i := 0) (by omega), setB_ne (i := 1) (by omega), setB_ne (i := 2) (by omega), setB_ne (i := 3) (by omega), setB_ne (i := 5) (by omega)]
          refine ⟨d0, d1, d2, d3, ?_, d5, ?_⟩
          · rw [d4]
            congr 1
          · by_cases hqp : q2 = p
            · subst hqp
              rw [wr_at, setB_6]
            · rw [wr_nj hqp, d6, setB_ne (Or.inl hqp), setB_ne (Or.inl hqp)]
        have X := (stX R).2.kept (I1 := wr J (a + 132) p (nI (nv (mst h b)))) (fun x hx => by rw [wr_ne (by omega), f x (by unfold scr1; omega)])
        obtain ⟨J', e', f', -, -⟩ := runM W (setB_GB B m3) p2 p3 X C2
        refine ⟨J', ?_, fun x hx => ?_, C2.kept (fun x hx => f' x (by unfold goCells; omega))⟩
        · rw [e', hWt]
          rfl
        · have hx' := hx
          unfold scr1 at hx'
          rw [f' x (by unfold goCells; omega), wr_ne (by omega), f x hx]
      have min' : ∀ (K : Int32 → Int32 → Int32 → Int32 → Int32 → Int32 → IH → Option (Int32 × IH)) (b : Nat) (st : Int32 × Int32 × Int32), b ≤ 24 → ∀ mm k fuel (J : IH) (S : Nat), k + mm = 24 → mm < fuel → (∀ x, ¬ scr1 a x → J x = I x) → MI J a (stP I a) (setB (stG I a w1) p S) (stM I a w1) → ∃ J' S', fX7_best_b52 s (a + 110) K fuel (nI p) (nI q) (bsI Wt b st k).2.1 (bsI Wt b st k).2.2 (bsI Wt b st k).1 (nI b) (nI k) J = K (nI p) (nI q) (bsI Wt b st 24).2.1 (bsI Wt b st 24).2.2 (bsI Wt b st 24).1 (nI (b + 1)) J' ∧ (∀ x, ¬ scr1 a x → J' x = I x) ∧ MI J' a (stP I a) (setB (stG I a w1) p S') (stM I a w1) := by
        intro K b st hb mm
        induction mm with
        | zero =>
          intro k fuel J S t1 t2 f C
          obtain ⟨u, rfl⟩ : ∃ u, fuel = u + 1 := ⟨fuel - 1, by omega⟩
          obtain rfl : k = 24 := t1
          refine ⟨J, S, ?_, f, C⟩
          rw [fX7_best_b52, if_pos (show (24 : Int32) ≤ nI 24 by decide), nI_1]
        | succ mm ih =>
          intro k fuel J S t1 t2 f C
          obtain ⟨u, rfl⟩ : ∃ u, fuel = u + 1 := ⟨fuel - 1, by omega⟩
          have hk : k < 24 := by omega
          obtain ⟨m1, m2, m3⟩ := hms k b hk hb
          obtain ⟨J1, e1, f1, C1'⟩ := mtrial J S k b hk hb f C
          obtain ⟨J2, S2, e3, f3, C3⟩ := ih (k + 1) u J1 _ (by omega) (by omega) f1 C1'
          refine ⟨J2, S2, ?_, f3, C3⟩
          have hstep : bsI Wt b st (k + 1) = if nI (Wt k b) ≤ (bsI Wt b st k).1 then bsI Wt b st k else (nI (Wt k b), nI k, nI b) := rfl
          rw [fX7_best_b52, if_neg (show ¬ (24 : Int32) ≤ nI k from nI_ge (b := 24) hk (by omega)), show fX7_best_b65 s (a + 110) (fX7_best_b93 s (a + 110) (fX7_best_b52 s (a + 110) K u)) 1000 (nI p) (nI q) (bsI Wt b st k).2.1 (bsI Wt b st k).2.2 (bsI Wt b st k).1 (nI b) (nI k) 0 0 J = _ from bset _ _ _ _ _ _ J k b hk hb b 0 1000 (by omega) (by omega)]
          unfold fX7_best_b93
          rw [e7_110_33 W, Option.bind_some, m2, s132 W hp5, Option.bind_some, e1, b2_some, nI_1]
          rw [hstep] at e3
          by_cases hle : nI (Wt k b) ≤ (bsI Wt b st k).1
          · rw [if_pos hle] at e3
            rw [if_neg (Int32.not_lt.mpr hle)]
            exact e3
          · rw [if_neg hle] at e3
            rw [if_pos (Int32.not_le.mp hle)]
            exact e3
      have mout : ∀ (K : Int32 → Int32 → Int32 → Int32 → IH → Option (Int32 × IH)) mm b fuel (J : IH) (S : Nat), b + mm = 25 → mm < fuel → (∀ x, ¬ scr1 a x → J x = I x) → MI J a (stP I a) (setB (stG I a w1) p S) (stM I a w1) → ∃ J', fX7_best_b42 s (a + 110) K fuel (nI p) (nI q) (bsO Wt b).2.1 (bsO Wt b).2.2 (bsO Wt b).1 (nI b) J = K (nI q) (bsO Wt 25).2.1 (bsO Wt 25).2.2 (bsO Wt 25).1 J' ∧ ∀ x, ¬ scr1 a x → J' x = I x := by
        intro K mm
        induction mm with
        | zero =>
          intro b fuel J S t1 t2 f C
          obtain ⟨u, rfl⟩ : ∃ u, fuel = u + 1 := ⟨fuel - 1, by omega⟩
          obtain rfl : b = 25 := t1
          refine ⟨J, ?_, f⟩
          rw [fX7_best_b42, if_pos (show (25 : Int32) ≤ nI 25 by decide)]
        | succ mm ih =>
          intro b fuel J S t1 t2 f C
          obtain ⟨u, rfl⟩ : ∃ u, fuel = u + 1 := ⟨fuel - 1, by omega⟩
          have hb : b ≤ 24 := by omega
          obtain ⟨J1, S1, e1, f1, C1'⟩ := min' (fX7_best_b42 s (a + 110) K u) b (bsO Wt b) hb 24 0 1000 J S rfl (by omega) f C
          obtain ⟨J2, e2, f2⟩ := ih (b + 1) u J1 S1 (by omega) (by omega) f1 C1'
          refine ⟨J2, ?_, f2⟩
          rw [bsI_0] at e1
          rw [bsO_s] at e2
          rw [fX7_best_b42, if_neg (show ¬ (25 : Int32) ≤ nI b from nI_ge (b := 25) (by omega) (by omega))]
          exact e1.trans e2
      -- both, from their beginnings
      obtain ⟨J1, e1, f1, C1', O1, s1⟩ := settleY R I (fun _ _ => rfl)
      have hum : fX5_utmost s J1 (a + 50) (nI p) = some (nI U) := by
        rw [hU]
        exact utmostC W C1'.1 p3 ((stX R).1.kept (fun x hx => f1 x (by omega))) s1 hp5
      have G6 : ∀ i q2, setB (stG I a w1) p (stG I a w1 6 p) i q2 = if i = 4 ∧ q2 = p then 1 else stG I a w1 i q2 := fun i q2 => by
        by_cases h4 : i = 4 ∧ q2 = p
        · obtain ⟨rfl, rfl⟩ := h4
          rw [if_pos ⟨rfl, rfl⟩, setB_4]
        · rw [if_neg h4]
          by_cases h6 : i = 6 ∧ q2 = p
          · obtain ⟨rfl, rfl⟩ := h6
            rw [setB_6]
          · rw [setB_ne (by omega)]
      have C2 : CI (wr J1 (a + 58 + p) 0 1) a (stP I a) (setB (stG I a w1) p (stG I a w1 6 p)) (stM I a w1) := by
        obtain ⟨c1, c2, c3, c4⟩ := C1'
        refine ⟨by rw [wr_ne (by omega)]; exact c1, fun r q2 hr hq2 => ?_, fun q2 i hq2 hi => ?_, fun x hx => by rw [wr_ne (by omega)]; exact c4 x hx⟩
        · rw [wr_ne (by omega), c2 r q2 hr hq2, G6, if_neg (by omega)]
        · rw [G6]
          by_cases hc : q2 = p ∧ i = 0
          · obtain ⟨rfl, rfl⟩ := hc
            rw [wr_at, if_pos ⟨rfl, rfl⟩]
            rfl
          · rw [wr_or (by omega), if_neg (by omega)]
            exact c3 q2 i hq2 hi
      obtain ⟨J2, e2, f2⟩ := cout (fX6_best_b147 s a) 25 0 1000 (wr J1 (a + 58 + p) 0 1) _ rfl (by omega) (fun x hx => by rw [wr_ne (by omega), f1 x hx]) C2 (fun q2 j hq2 hj => by
        rw [wr_ne (by omega), wr_ne (by omega), wr_ne (by omega), wr_ne (by omega), wr_ne (by omega)]
        exact O1 q2 j (by omega) hj)
      obtain ⟨J3, e3, f3, C3', -⟩ := asIsY R J2 (scrC f2)
      have C4 : MI (wr J3 (a + 131) p 1) a (stP I a) (setB (stG I a w1) p (stG I a w1 6 p)) (stM I a w1) := by
        obtain ⟨c1, c2, c3⟩ := C3'
        refine ⟨by rw [wr_ne (by omega)]; exact c1, fun x hx => by rw [wr_ne (by omega)]; exact c2 x hx, fun q2 hq2 => ?_⟩
        obtain ⟨d0, d1, d2, d3, d4, d5, d6⟩ := c3 q2 hq2
        rw [wr_ne (x := a + 131) (y := a + 127) (by omega), wr_ne (x := a + 131) (y := a + 128) (by omega), wr_ne (x := a + 131) (y := a + 129) (by omega), wr_ne (x := a + 131) (y := a + 130) (by omega), wr_ne (x := a + 131) (y := a + 113) (by omega), wr_ne (x := a + 131) (y := a + 132) (by omega), G6, G6, G6, G6, G6, G6, G6]
        refine ⟨by rw [if_neg (by omega)]; exact d0, by rw [if_neg (by omega)]; exact d1, by rw [if_neg (by omega)]; exact d2, by rw [if_neg (by omega)]; exact d3, ?_, by rw [if_neg (by omega)]; exact d5, by rw [if_neg (by omega)]; exact d6⟩
        by_cases hqp : q2 = p
        · subst hqp
          rw [wr_at, if_pos ⟨rfl, rfl⟩]
          rfl
        · rw [wr_nj hqp, if_neg (fun h => hqp h.2)]
          exact d4
      obtain ⟨J4, e4, f4⟩ := mout (fX7_best_b140 s (a + 110)) 25 0 1000 (wr J3 (a + 131) p 1) _ rfl (by omega) (fun x hx => by
        have hx' := hx
        unfold scr1 at hx'
        rw [wr_ne (by omega), f3 x (by omega), f2 x (by omega)]) C4
      have fin : ∃ x, fX6_best_b147 s a (nI q) (bsO Wt 25).2.1 (bsO Wt 25).2.2 (bsO Wt 25).1 J2 = some (x, J2) ∧ fX7_best_b140 s (a + 110) (nI q) (bsO Wt 25).2.1 (bsO Wt 25).2.2 (bsO Wt 25).1 J4 = some (x, J4) := by
        unfold fX6_best_b147 fX7_best_b140
        by_cases h0 : nI q = 0
        · rw [if_pos h0, if_pos h0]
          exact ⟨_, rfl, rfl⟩
        · rw [if_neg h0, if_neg h0]
          by_cases h1 : nI q = 1
          · rw [if_pos h1, if_pos h1]
            exact ⟨_, rfl, rfl⟩
          · rw [if_neg h1, if_neg h1]
            exact ⟨_, rfl, rfl⟩
      obtain ⟨x, x1, x2⟩ := fin
      refine ⟨x, J2, J4, ?_, ?_, R.kept (fun x _ hx => f4 x hx)⟩
      · unfold fX6_best
        refine bs_eq (e6_0_0 W) ?_
        refine bs_eq (c2_1 W) ?_
        refine bs_eq g1 ?_
        refine if_f (by decide) ?_
        refine if_f (un (N := 3) hq (by omega)) ?_
        refine bs_eq (e6_0_3 W) ?_
        refine bs_eq (c5_50 W) ?_
        refine b2_eq e1 ?_
        refine bs_eq (e6_0_3 W) ?_
        refine bs_eq (c5_50 W) ?_
        refine bs_eq hum ?_
        refine bs_eq (e6_0_3 W) ?_
        refine bs_eq (e5_50_3 W) ?_
        refine bs_eq (a57 W hp5) ?_
        refine bs_eq (s57 W hp5 (j := 0) (by omega)) ?_
        exact e2.trans x1
      · show fX7_best s (a + 110) (nI p) (nI q) J2 = _
        unfold fX7_best
        refine bs_eq (g2 J2 (by rw [f2 _ (by omega)]; exact p4)) ?_
        refine if_f (by decide) ?_
        refine if_f (inn (N := 3) hq (by omega)) ?_
        refine bs_eq e3 ?_
        refine bs_eq (e7_110_32 W) ?_
        refine bs_eq (s131 W hp5) ?_
        exact e4.trans x2
    · refine M2.same R (x := -1) ?_ ?_
      · unfold fX6_best
        refine bs_eq (e6_0_0 W) ?_
        refine bs_eq (c2_1 W) ?_
        refine bs_eq g1 ?_
        refine if_f (by decide) ?_
        exact if_t u1 rfl
      · show fX7_best s (a + 110) (nI p) v2 I = _
        unfold fX7_best
        refine bs_eq (g2 I p4) ?_
        refine if_f (by decide) ?_
        exact if_t u2 rfl
  · refine M2.same R (x := -1) ?_ ?_
    · unfold fX6_best
      refine bs_eq (e6_0_0 W) ?_
      refine bs_eq (c2_1 W) ?_
      refine bs_eq g1 ?_
      exact if_t rfl rfl
    · show fX7_best s (a + 110) v1 v2 I = _
      unfold fX7_best
      refine bs_eq (g2 I p4) ?_
      exact if_t rfl rfl
end BEST
