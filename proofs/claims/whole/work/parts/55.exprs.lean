/-! LAYER 2: the class's expressions, to their end -/
section EXPRS
variable {a r N : Nat} {tx : Nat → Nat}
theorem Pst.cells {s : SH} {I I' : IH} {n i : Nat} {snd : Bool} (h : Pst s I n a r N tx i snd) (g1 : I' r = I r) (g2 : I' (a + 96) = I (a + 96)) : Pst s I' n a r N tx i snd := by
  obtain ⟨h1, h2, h3, ⟨h4, h5⟩, h6, ⟨h7, h8⟩, h9⟩ := h
  exact ⟨h1, h2, h3, ⟨by rw [g1]; exact h4, h5⟩, by rw [g1]; exact h6, ⟨by rw [g1]; exact h7, h8⟩, by rw [g2]; exact h9⟩
theorem bE4_y {α β δ ε ρ : Type} {c k : Nat} {x : α} {y : β} {z : δ} {w : ε} {f : α → β → δ → ε → Option ((Nat × Nat) × ρ)} {c2 k2 : Nat} {u : ρ} (h : f x y z w = some ((c2, k2), u)) : bE4 (some ((c, k), (x, y, z, w))) f = some ((c + c2, k + k2), u) := by
  show addE c k (f x y z w) = _
  rw [h]
  rfl
theorem len1 {s : SH} {I : IH} {n i : Nat} {snd : Bool} (h : Pst s I n a r N tx i snd) : gI s I 1 r 1 = some (nI N) := (gI_L (Lay.one h.1) 0 1 rfl rfl).trans (by rw [show I (r + 0) 1 = nI N from h.2.2.2.1.1])
theorem bothL {rc : Nat → Int32 → SH → IH → Nat → Option ((Nat × Nat) × (Nat × SH × IH × Nat))} {w : Nat} {F : Nat → PRes} (hF : PC a r N tx (fun s I n => rc r (nI w) s I n) F) : ∀ (fuel v3 : Nat) (s : SH) (I : IH) (n j : Nat) (snd : Bool) (x : Nat) (p : List Int32) (M : Nat → Bool), v3 + fuel = 1000 → v3 ≤ 101 → Pst s I n a r N tx j snd → isD s x bo → r < x → x < n → (snd = true → v3 < j ∧ ∀ q, q < 144 → I x q = bI (M q)) → ∃ A s' I', fX1_both_b8 r rc fuel (nI w) x (nI v3) s I n = some ((A, 144 * A), (x, s', I', n + A)) ∧ isD s' x bo ∧ (∀ y, y < n → s' y = s y) ∧ (∀ y, y < n → y ≠ r → y ≠ x → I' y = I y) ∧ (snd = false → A = 0 ∧ Pst s' I' (n + A) a r N tx j false) ∧ (snd = true → match pLoop (bt N tx) F 38 (-38) and fuel j p M with
  | .inl e => j ≤ e ∧ j + 2 * A ≤ e + 2 ∧ Pst s' I' (n + A) a r N tx e false
  | .inr (j', p', M') => j + 2 * A ≤ j' ∧ Pst s' I' (n + A) a r N tx j' true ∧ ∀ q, q < 144 → I' x q = bI (M' q)) := by
  intro fuel
  induction fuel with
  | zero =>
    intro v3 s I n j snd x p M h1 h2
    omega
  | succ fuel ih =>
    intro v3 s I n j snd x p M h1 h2 hP hx hrx hxn hv
    have hck : ck s 1 r = some () := ck_L (Lay.one hP.1) 0 rfl
    have hN100 : N ≤ 100 := hP.2.2.2.1.2
    obtain ⟨q1, q2⟩ := passesC (k := 38) hP (by omega)
    have stay : fX1_both_b8 r rc (fuel + 1) (nI w) x (nI v3) s I n = some ((0, 144 * 0), (x, s, I, n + 0)) → ∃ A s' I', fX1_both_b8 r rc (fuel + 1) (nI w) x (nI v3) s I n = some ((A, 144 * A), (x, s', I', n + A)) ∧ A = 0 ∧ s' = s ∧ I' = I := fun h => ⟨0, s, I, h, rfl, rfl, rfl⟩
    cases snd with
    | false =>
      have h0 : fX1_both_b8 r rc (fuel + 1) (nI w) x (nI v3) s I n = some ((0, 144 * 0), (x, s, I, n + 0)) := by
        rw [fX1_both_b8, len1 hP, Option.bind_some]
        by_cases hN : nI N ≤ nI v3
        · rw [if_pos hN]
          rfl
        · have hp0 : fX1_passes s r 38 I = some (0, I) := q2 (by unfold cb; rw [if_neg (by decide)]; decide)
          rw [if_neg hN, hck, Option.bind_some, hp0, b2_some, if_pos rfl]
          rfl
      exact ⟨0, s, I, h0, hx, fun _ _ => rfl, fun _ _ _ _ => rfl, fun _ => ⟨rfl, hP⟩, fun h => absurd h (by decide)⟩
    | true =>
      obtain ⟨hv1, hv2⟩ := hv rfl
      have hjN : j ≤ N := hP.2.2.2.2.2.1.2
      have hcb : cb N tx true j = bt N tx j := if_pos rfl
      by_cases hc : bt N tx j = 38
      · obtain ⟨I1, e1, f1, g1⟩ := q1 (by rw [hcb]; exact hc)
        have e1 : fX1_passes s r 38 I = some (1, I1) := e1
        obtain ⟨A1, x1, s1, I2, e2, ⟨hx1, hx1'⟩, b1, k1', m1, -, t1⟩ := hF s I1 n (j + 1) true g1
        have e2 : rc r (nI w) s I1 n = some ((A1, 144 * A1), (x1, s1, I2, n + A1)) := e2
        have hxx : x ≠ x1 := by omega
        have bx : isD s1 x bo := isD_same (k1' x hxn) hx
        obtain ⟨I3, e3, f3, v3'⟩ := andC (r := r) (n := n + A1) (I := I2) rc (fX1_both_b8 r rc fuel) bx b1 hxx (nI w) (nI v3)
        have hrn : r < n := hP.2.2.1.1
        have ha96 : a + 96 < r := hP.2.2.1.2
        have P3 : ∀ e b, Pst s1 I2 (n + A1) a r N tx e b → Pst s1 I3 (n + A1) a r N tx e b := fun e b h => h.cells (f3 r (by omega)) (f3 _ (by omega))
        have I3f : ∀ y, y < n → y ≠ r → y ≠ x → I3 y = I y := fun y hy hyr hyx => by rw [f3 y hyx, m1 y hy hyr, f1 y hyr]
        have T1 := t1 rfl
        have go : ∀ (A2 : Nat) (s' : SH) (I' : IH), fX1_both_b8 r rc fuel (nI w) x (nI (v3 + 1)) s1 I3 (n + A1) = some ((A2, 144 * A2), (x, s', I', n + A1 + A2)) → fX1_both_b8 r rc (fuel + 1) (nI w) x (nI v3) s I n = some ((A1 + A2, 144 * (A1 + A2)), (x, s', I', n + (A1 + A2))) := fun A2 s' I' h => by
          rw [fX1_both_b8, len1 hP, Option.bind_some, if_neg (nI_ge (by omega) (by omega)), hck, Option.bind_some, e1, b2_some, if_neg (by decide), e2, Nat.mul_add, ← Nat.add_assoc]
          refine bE4_y ?_
          rw [← nI_1] at h
          exact e3.trans h
        have hpl : pLoop (bt N tx) F 38 (-38) and (fuel + 1) j p M = (match F (j + 1) with
          | .inl e => .inl e
          | .inr (j2, p2, M2) => pLoop (bt N tx) F 38 (-38) and fuel j2 (p ++ p2 ++ [-38]) (fun q => and (M q) (M2 q))) := by
          show (if bt N tx j = 38 then _ else _) = _
          rw [if_pos hc]
          all_goals rfl
        rw [hpl]
        cases hFj : F (j + 1) with
        | inl e =>
          rw [hFj] at T1
          obtain ⟨t2, t3, t4⟩ := T1
          obtain ⟨A2, s', I', e4, b4, k4, m4, u4, -⟩ := ih (v3 + 1) s1 I3 (n + A1) e false x p M (by omega) (by omega) (P3 _ _ t4) bx hrx (by omega) (fun h => absurd h (by decide))
          obtain ⟨rfl, P4⟩ := u4 rfl
          refine ⟨A1 + 0, s', I', go 0 s' I' e4, b4, fun y hy => (k4 y (by omega)).trans (k1' y hy), fun y hy hyr hyx => (m4 y (by omega) hyr hyx).trans (I3f y hy hyr hyx), fun h => absurd h (by decide), fun _ => ⟨by omega, by omega, P4⟩⟩
        | inr jpm =>
          obtain ⟨j2, p2, M2⟩ := jpm
          rw [hFj] at T1
          obtain ⟨t2, t3, t4⟩ := T1
          have hI2x : ∀ q, q < 144 → I2 x q = bI (M q) := fun q hq => by rw [m1 x hxn (by omega), f1 x (by omega)]; exact hv2 q hq
          obtain ⟨A2, s', I', e4, b4, k4, m4, -, u4⟩ := ih (v3 + 1) s1 I3 (n + A1) j2 true x (p ++ p2 ++ [-38]) (fun q => and (M q) (M2 q)) (by omega) (by omega) (P3 _ _ t3) bx hrx (by omega) (fun _ => ⟨by omega, v3' M M2 hI2x t4⟩)
          refine ⟨A1 + A2, s', I', go A2 s' I' e4, b4, fun y hy => (k4 y (by omega)).trans (k1' y hy), fun y hy hyr hyx => (m4 y (by omega) hyr hyx).trans (I3f y hy hyr hyx), fun h => absurd h (by decide), fun _ => ?_⟩
          have U := u4 rfl
          show (match pLoop (bt N tx) F 38 (-38) and fuel j2 (p ++ p2 ++ [-38]) (fun q => and (M q) (M2 q)) with
            | .inl e => j ≤ e ∧ j + 2 * (A1 + A2) ≤ e + 2 ∧ Pst s' I' (n + (A1 + A2)) a r N tx e false
            | .inr (j', p', M') => j + 2 * (A1 + A2) ≤ j' ∧ Pst s' I' (n + (A1 + A2)) a r N tx j' true ∧ ∀ q, q < 144 → I' x q = bI (M' q))
          cases hpl2 : pLoop (bt N tx) F 38 (-38) and fuel j2 (p ++ p2 ++ [-38]) (fun q => and (M q) (M2 q)) with
          | inl e =>
            rw [hpl2] at U
            obtain ⟨w1, w2, w3⟩ := U
            rw [Nat.add_assoc] at w3
            exact ⟨by omega, by omega, w3⟩
          | inr jpm3 =>
            obtain ⟨j3, p3, M3⟩ := jpm3
            rw [hpl2] at U
            obtain ⟨w1, w2, w3⟩ := U
            rw [Nat.add_assoc] at w2
            exact ⟨by omega, w2, w3⟩
      · have h0 : fX1_both_b8 r rc (fuel + 1) (nI w) x (nI v3) s I n = some ((0, 144 * 0), (x, s, I, n + 0)) := by
          have hp0 : fX1_passes s r 38 I = some (0, I) := q2 (by rw [hcb]; exact hc)
          rw [fX1_both_b8, len1 hP, Option.bind_some, if_neg (nI_ge (by omega) (by omega)), hck, Option.bind_some, hp0, b2_some, if_pos rfl]
          rfl
        refine ⟨0, s, I, h0, hx, fun _ _ => rfl, fun _ _ _ _ => rfl, fun h => absurd h (by decide), fun _ => ?_⟩
        have hpl : pLoop (bt N tx) F 38 (-38) and (fuel + 1) j p M = .inr (j, p, M) := by
          show (if bt N tx j = 38 then _ else _) = _
          rw [if_neg hc]
        rw [hpl]
        exact ⟨by omega, hP, hv2⟩
theorem bothC {rc : Nat → Int32 → SH → IH → Nat → Option ((Nat × Nat) × (Nat × SH × IH × Nat))} {w : Nat} {F : Nat → PRes} (hF : PC a r N tx (fun s I n => rc r (nI w) s I n) F) : PC a r N tx (fun s I n => fX1_both r rc (nI w) s I n) (fun i => match F i with
  | .inl e => .inl e
  | .inr (j, p, M) => pLoop (bt N tx) F 38 (-38) and 1000 j p M) := by
  intro s I n i snd hP
  obtain ⟨A1, x, s1, I1, e1, ⟨hx1, hx1'⟩, b1, k1', m1, u1, t1⟩ := hF s I n i snd hP
  have hrn : r < n := hP.2.2.1.1
  have go : ∀ (A2 : Nat) (s' : SH) (I' : IH), fX1_both_b8 r rc 1000 (nI w) x (nI 0) s1 I1 (n + A1) = some ((A2, 144 * A2), (x, s', I', n + A1 + A2)) → fX1_both r rc (nI w) s I n = some ((A1 + A2, 144 * (A1 + A2)), (x, s', I', n + (A1 + A2))) := fun A2 s' I' h => by
    unfold fX1_both fX1_both_b0
    have e1 : rc r (nI w) s I n = _ := e1
    rw [e1, Nat.mul_add, ← Nat.add_assoc]
    exact bE4_y h
  have mk : ∀ (A2 : Nat) (s' : SH) (I' : IH), (∀ y, y < n + A1 → s' y = s1 y) → (∀ y, y < n + A1 → y ≠ r → y ≠ x → I' y = I1 y) → (∀ y, y < n → s' y = s y) ∧ (∀ y, y < n → y ≠ r → I' y = I y) := fun A2 s' I' h1 h2 => ⟨fun y hy => (h1 y (by omega)).trans (k1' y hy), fun y hy hyr => (h2 y (by omega) hyr (by omega)).trans (m1 y hy hyr)⟩
  cases snd with
  | false =>
    obtain ⟨rfl, P1⟩ := u1 rfl
    obtain ⟨A2, s', I', e4, b4, k4, m4, u4, -⟩ := bothL hF 1000 0 s1 I1 (n + 1) i false x [] (fun _ => false) (by omega) (by omega) P1 b1 (by omega) hx1' (fun h => absurd h (by decide))
    obtain ⟨rfl, P4⟩ := u4 rfl
    obtain ⟨z1, z2⟩ := mk 0 s' I' k4 m4
    exact ⟨1 + 0, x, s', I', go 0 s' I' e4, ⟨hx1, by omega⟩, b4, z1, z2, fun _ => ⟨rfl, P4⟩, fun h => absurd h (by decide)⟩
  | true =>
    have T1 := t1 rfl
    cases hFi : F i with
    | inl e =>
      rw [hFi] at T1
      obtain ⟨t2, t3, t4⟩ := T1
      obtain ⟨A2, s', I', e4, b4, k4, m4, u4, -⟩ := bothL hF 1000 0 s1 I1 (n + A1) e false x [] (fun _ => false) (by omega) (by omega) t4 b1 (by omega) hx1' (fun h => absurd h (by decide))
      obtain ⟨rfl, P4⟩ := u4 rfl
      obtain ⟨z1, z2⟩ := mk 0 s' I' k4 m4
      refine ⟨A1 + 0, x, s', I', go 0 s' I' e4, ⟨hx1, by omega⟩, b4, z1, z2, fun h => absurd h (by decide), fun _ => ?_⟩
      simp only [hFi]
      exact ⟨by omega, by omega, P4⟩
    | inr jpm =>
      obtain ⟨j, p, M⟩ := jpm
      rw [hFi] at T1
      obtain ⟨t2, t3, t4⟩ := T1
      obtain ⟨A2, s', I', e4, b4, k4, m4, -, u4⟩ := bothL hF 1000 0 s1 I1 (n + A1) j true x p M (by omega) (by omega) t3 b1 (by omega) hx1' (fun _ => ⟨by omega, t4⟩)
      obtain ⟨z1, z2⟩ := mk A2 s' I' k4 m4
      refine ⟨A1 + A2, x, s', I', go A2 s' I' e4, ⟨hx1, by omega⟩, b4, z1, z2, fun h => absurd h (by decide), fun _ => ?_⟩
      have U := u4 rfl
      simp only [hFi]
      cases hpl2 : pLoop (bt N tx) F 38 (-38) and 1000 j p M with
      | inl e =>
        rw [hpl2] at U
        obtain ⟨w1, w2, w3⟩ := U
        rw [Nat.add_assoc] at w3
        exact ⟨by omega, by omega, w3⟩
      | inr jpm3 =>
        obtain ⟨j3, p3, M3⟩ := jpm3
        rw [hpl2] at U
        obtain ⟨w1, w2, w3⟩ := U
        rw [Nat.add_assoc] at w2
        exact ⟨by omega, w2, w3⟩
theorem eithL {rc : Nat → Int32 → SH → IH → Nat → Option ((Nat × Nat) × (Nat × SH × IH × Nat))} {w : Nat} {F : Nat → PRes} (hF : PC a r N tx (fun s I n => fX1_both r rc (nI w) s I n) F) : ∀ (fuel v3 : Nat) (s : SH) (I : IH) (n j : Nat) (snd : Bool) (x : Nat) (p : List Int32) (M : Nat → Bool), v3 + fuel = 1000 → v3 ≤ 101 → Pst s I n a r N tx j snd → isD s x bo → r < x → x < n → (snd = true → v3 < j ∧ ∀ q, q < 144 → I x q = bI (M q)) → ∃ A s' I', fX1_either_b8 r rc fuel (nI w) x (nI v3) s I n = some ((A, 144 * A), (x, s', I', n + A)) ∧ isD s' x bo ∧ (∀ y, y < n → s' y = s y) ∧ (∀ y, y < n → y ≠ r → y ≠ x → I' y = I y) ∧ (snd = false → A = 0 ∧ Pst s' I' (n + A) a r N tx j false) ∧ (snd = true → match pLoop (bt N tx) F 124 (-124) or fuel j p M with
  | .inl e => j ≤ e ∧ j + 2 * A ≤ e + 2 ∧ Pst s' I' (n + A) a r N tx e false
  | .inr (j', p', M') => j + 2 * A ≤ j' ∧ Pst s' I' (n + A) a r N tx j' true ∧ ∀ q, q < 144 → I' x q = bI (M' q)) := by
  intro fuel
  induction fuel with
  | zero =>
    intro v3 s I n j snd x p M h1 h2
    omega
  | succ fuel ih =>
    intro v3 s I n j snd x p M h1 h2 hP hx hrx hxn hv
    have hck : ck s 1 r = some () := ck_L (Lay.one hP.1) 0 rfl
    have hN100 : N ≤ 100 := hP.2.2.2.1.2
    obtain ⟨q1, q2⟩ := passesC (k := 124) hP (by omega)
    have stay : fX1_either_b8 r rc (fuel + 1) (nI w) x (nI v3) s I n = some ((0, 144 * 0), (x, s, I, n + 0)) → ∃ A s' I', fX1_either_b8 r rc (fuel + 1) (nI w) x (nI v3) s I n = some ((A, 144 * A), (x, s', I', n + A)) ∧ A = 0 ∧ s' = s ∧ I' = I := fun h => ⟨0, s, I, h, rfl, rfl, rfl⟩
    cases snd with
    | false =>
      have h0 : fX1_either_b8 r rc (fuel + 1) (nI w) x (nI v3) s I n = some ((0, 144 * 0), (x, s, I, n + 0)) := by
        rw [fX1_either_b8, len1 hP, Option.bind_some]
        by_cases hN : nI N ≤ nI v3
        · rw [if_pos hN]
          rfl
        · have hp0 : fX1_passes s r 124 I = some (0, I) := q2 (by unfold cb; rw [if_neg (by decide)]; decide)
          rw [if_neg hN, hck, Option.bind_some, hp0, b2_some, if_pos rfl]
          rfl
      exact ⟨0, s, I, h0, hx, fun _ _ => rfl, fun _ _ _ _ => rfl, fun _ => ⟨rfl, hP⟩, fun h => absurd h (by decide)⟩
    | true =>
      obtain ⟨hv1, hv2⟩ := hv rfl
      have hjN : j ≤ N := hP.2.2.2.2.2.1.2
      have hcb : cb N tx true j = bt N tx j := if_pos rfl
      by_cases hc : bt N tx j = 124
      · obtain ⟨I1, e1, f1, g1⟩ := q1 (by rw [hcb]; exact hc)
        have e1 : fX1_passes s r 124 I = some (1, I1) := e1
        obtain ⟨A1, x1, s1, I2, e2, ⟨hx1, hx1'⟩, b1, k1', m1, -, t1⟩ := hF s I1 n (j + 1) true g1
        have e2 : fX1_both r rc (nI w) s I1 n = some ((A1, 144 * A1), (x1, s1, I2, n + A1)) := e2
        have hxx : x ≠ x1 := by omega
        have bx : isD s1 x bo := isD_same (k1' x hxn) hx
        obtain ⟨I3, e3, f3, v3'⟩ := orC (r := r) (n := n + A1) (I := I2) rc (fX1_either_b8 r rc fuel) bx b1 hxx (nI w) (nI v3)
        have hrn : r < n := hP.2.2.1.1
        have ha96 : a + 96 < r := hP.2.2.1.2
        have P3 : ∀ e b, Pst s1 I2 (n + A1) a r N tx e b → Pst s1 I3 (n + A1) a r N tx e b := fun e b h => h.cells (f3 r (by omega)) (f3 _ (by omega))
        have I3f : ∀ y, y < n → y ≠ r → y ≠ x → I3 y = I y := fun y hy hyr hyx => by rw [f3 y hyx, m1 y hy hyr, f1 y hyr]
        have T1 := t1 rfl
        have go : ∀ (A2 : Nat) (s' : SH) (I' : IH), fX1_either_b8 r rc fuel (nI w) x (nI (v3 + 1)) s1 I3 (n + A1) = some ((A2, 144 * A2), (x, s', I', n + A1 + A2)) → fX1_either_b8 r rc (fuel + 1) (nI w) x (nI v3) s I n = some ((A1 + A2, 144 * (A1 + A2)), (x, s', I', n + (A1 + A2))) := fun A2 s' I' h => by
          rw [fX1_either_b8, len1 hP, Option.bind_some, if_neg (nI_ge (by omega) (by omega)), hck, Option.bind_some, e1, b2_some, if_neg (by decide), e2, Nat.mul_add, ← Nat.add_assoc]
          refine bE4_y ?_
          rw [← nI_1] at h
          exact e3.trans h
        have hpl : pLoop (bt N tx) F 124 (-124) or (fuel + 1) j p M = (match F (j + 1) with
          | .inl e => .inl e
          | .inr (j2, p2, M2) => pLoop (bt N tx) F 124 (-124) or fuel j2 (p ++ p2 ++ [-124]) (fun q => or (M q) (M2 q))) := by
          show (if bt N tx j = 124 then _ else _) = _
          rw [if_pos hc]
          all_goals rfl
        rw [hpl]
        cases hFj : F (j + 1) with
        | inl e =>
          rw [hFj] at T1
          obtain ⟨t2, t3, t4⟩ := T1
          obtain ⟨A2, s', I', e4, b4, k4, m4, u4, -⟩ := ih (v3 + 1) s1 I3 (n + A1) e false x p M (by omega) (by omega) (P3 _ _ t4) bx hrx (by omega) (fun h => absurd h (by decide))
          obtain ⟨rfl, P4⟩ := u4 rfl
          refine ⟨A1 + 0, s', I', go 0 s' I' e4, b4, fun y hy => (k4 y (by omega)).trans (k1' y hy), fun y hy hyr hyx => (m4 y (by omega) hyr hyx).trans (I3f y hy hyr hyx), fun h => absurd h (by decide), fun _ => ⟨by omega, by omega, P4⟩⟩
        | inr jpm =>
          obtain ⟨j2, p2, M2⟩ := jpm
          rw [hFj] at T1
          obtain ⟨t2, t3, t4⟩ := T1
          have hI2x : ∀ q, q < 144 → I2 x q = bI (M q) := fun q hq => by rw [m1 x hxn (by omega), f1 x (by omega)]; exact hv2 q hq
          obtain ⟨A2, s', I', e4, b4, k4, m4, -, u4⟩ := ih (v3 + 1) s1 I3 (n + A1) j2 true x (p ++ p2 ++ [-124]) (fun q => or (M q) (M2 q)) (by omega) (by omega) (P3 _ _ t3) bx hrx (by omega) (fun _ => ⟨by omega, v3' M M2 hI2x t4⟩)
          refine ⟨A1 + A2, s', I', go A2 s' I' e4, b4, fun y hy => (k4 y (by omega)).trans (k1' y hy), fun y hy hyr hyx => (m4 y (by omega) hyr hyx).trans (I3f y hy hyr hyx), fun h => absurd h (by decide), fun _ => ?_⟩
          have U := u4 rfl
          show (match pLoop (bt N tx) F 124 (-124) or fuel j2 (p ++ p2 ++ [-124]) (fun q => or (M q) (M2 q)) with
            | .inl e => j ≤ e ∧ j + 2 * (A1 + A2) ≤ e + 2 ∧ Pst s' I' (n + (A1 + A2)) a r N tx e false
            | .inr (j', p', M') => j + 2 * (A1 + A2) ≤ j' ∧ Pst s' I' (n + (A1 + A2)) a r N tx j' true ∧ ∀ q, q < 144 → I' x q = bI (M' q))
          cases hpl2 : pLoop (bt N tx) F 124 (-124) or fuel j2 (p ++ p2 ++ [-124]) (fun q => or (M q) (M2 q)) with
          | inl e =>
            rw [hpl2] at U
            obtain ⟨w1, w2, w3⟩ := U
            rw [Nat.add_assoc] at w3
            exact ⟨by omega, by omega, w3⟩
          | inr jpm3 =>
            obtain ⟨j3, p3, M3⟩ := jpm3
            rw [hpl2] at U
            obtain ⟨w1, w2, w3⟩ := U
            rw [Nat.add_assoc] at w2
            exact ⟨by omega, w2, w3⟩
      · have h0 : fX1_either_b8 r rc (fuel + 1) (nI w) x (nI v3) s I n = some ((0, 144 * 0), (x, s, I, n + 0)) := by
          have hp0 : fX1_passes s r 124 I = some (0, I) := q2 (by rw [hcb]; exact hc)
          rw [fX1_either_b8, len1 hP, Option.bind_some, if_neg (nI_ge (by omega) (by omega)), hck, Option.bind_some, hp0, b2_some, if_pos rfl]
          rfl
        refine ⟨0, s, I, h0, hx, fun _ _ => rfl, fun _ _ _ _ => rfl, fun h => absurd h (by decide), fun _ => ?_⟩
        have hpl : pLoop (bt N tx) F 124 (-124) or (fuel + 1) j p M = .inr (j, p, M) := by
          show (if bt N tx j = 124 then _ else _) = _
          rw [if_neg hc]
        rw [hpl]
        exact ⟨by omega, hP, hv2⟩
theorem eithC {rc : Nat → Int32 → SH → IH → Nat → Option ((Nat × Nat) × (Nat × SH × IH × Nat))} {w : Nat} {F : Nat → PRes} (hF : PC a r N tx (fun s I n => fX1_both r rc (nI w) s I n) F) : PC a r N tx (fun s I n => fX1_either r rc (nI w) s I n) (fun i => match F i with
  | .inl e => .inl e
  | .inr (j, p, M) => pLoop (bt N tx) F 124 (-124) or 1000 j p M) := by
  intro s I n i snd hP
  obtain ⟨A1, x, s1, I1, e1, ⟨hx1, hx1'⟩, b1, k1', m1, u1, t1⟩ := hF s I n i snd hP
  have hrn : r < n := hP.2.2.1.1
  have go : ∀ (A2 : Nat) (s' : SH) (I' : IH), fX1_either_b8 r rc 1000 (nI w) x (nI 0) s1 I1 (n + A1) = some ((A2, 144 * A2), (x, s', I', n + A1 + A2)) → fX1_either r rc (nI w) s I n = some ((A1 + A2, 144 * (A1 + A2)), (x, s', I', n + (A1 + A2))) := fun A2 s' I' h => by
    unfold fX1_either fX1_either_b0
    have e1 : fX1_both r rc (nI w) s I n = _ := e1
    rw [e1, Nat.mul_add, ← Nat.add_assoc]
    exact bE4_y h
  have mk : ∀ (A2 : Nat) (s' : SH) (I' : IH), (∀ y, y < n + A1 → s' y = s1 y) → (∀ y, y < n + A1 → y ≠ r → y ≠ x → I' y = I1 y) → (∀ y, y < n → s' y = s y) ∧ (∀ y, y < n → y ≠ r → I' y = I y) := fun A2 s' I' h1 h2 => ⟨fun y hy => (h1 y (by omega)).trans (k1' y hy), fun y hy hyr => (h2 y (by omega) hyr (by omega)).trans (m1 y hy hyr)⟩
  cases snd with
  | false =>
    obtain ⟨rfl, P1⟩ := u1 rfl
    obtain ⟨A2, s', I', e4, b4, k4, m4, u4, -⟩ := eithL hF 1000 0 s1 I1 (n + 1) i false x [] (fun _ => false) (by omega) (by omega) P1 b1 (by omega) hx1' (fun h => absurd h (by decide))
    obtain ⟨rfl, P4⟩ := u4 rfl
    obtain ⟨z1, z2⟩ := mk 0 s' I' k4 m4
    exact ⟨1 + 0, x, s', I', go 0 s' I' e4, ⟨hx1, by omega⟩, b4, z1, z2, fun _ => ⟨rfl, P4⟩, fun h => absurd h (by decide)⟩
  | true =>
    have T1 := t1 rfl
    cases hFi : F i with
    | inl e =>
      rw [hFi] at T1
      obtain ⟨t2, t3, t4⟩ := T1
      obtain ⟨A2, s', I', e4, b4, k4, m4, u4, -⟩ := eithL hF 1000 0 s1 I1 (n + A1) e false x [] (fun _ => false) (by omega) (by omega) t4 b1 (by omega) hx1' (fun h => absurd h (by decide))
      obtain ⟨rfl, P4⟩ := u4 rfl
      obtain ⟨z1, z2⟩ := mk 0 s' I' k4 m4
      refine ⟨A1 + 0, x, s', I', go 0 s' I' e4, ⟨hx1, by omega⟩, b4, z1, z2, fun h => absurd h (by decide), fun _ => ?_⟩
      simp only [hFi]
      exact ⟨by omega, by omega, P4⟩
    | inr jpm =>
      obtain ⟨j, p, M⟩ := jpm
      rw [hFi] at T1
      obtain ⟨t2, t3, t4⟩ := T1
      obtain ⟨A2, s', I', e4, b4, k4, m4, -, u4⟩ := eithL hF 1000 0 s1 I1 (n + A1) j true x p M (by omega) (by omega) t3 b1 (by omega) hx1' (fun _ => ⟨by omega, t4⟩)
      obtain ⟨z1, z2⟩ := mk A2 s' I' k4 m4
      refine ⟨A1 + A2, x, s', I', go A2 s' I' e4, ⟨hx1, by omega⟩, b4, z1, z2, fun h => absurd h (by decide), fun _ => ?_⟩
      have U := u4 rfl
      simp only [hFi]
      cases hpl2 : pLoop (bt N tx) F 124 (-124) or 1000 j p M with
      | inl e =>
        rw [hpl2] at U
        obtain ⟨w1, w2, w3⟩ := U
        rw [Nat.add_assoc] at w3
        exact ⟨by omega, by omega, w3⟩
      | inr jpm3 =>
        obtain ⟨j3, p3, M3⟩ := jpm3
        rw [hpl2] at U
        obtain ⟨w1, w2, w3⟩ := U
        rw [Nat.add_assoc] at w2
        exact ⟨by omega, w2, w3⟩
theorem exprC {rc : Nat → Int32 → SH → IH → Nat → Option ((Nat × Nat) × (Nat × SH × IH × Nat))} {w : Nat} {F : Nat → PRes} (hF : PC a r N tx (fun s I n => rc r (nI w) s I n) F) : PC a r N tx (fun s I n => fX1_either r rc (nI w) s I n) (pE (bt N tx) F) := eithC (bothC hF)
theorem factorC : ∀ (d w : Nat), 4 < w + d → w ≤ 4 → PC a r N tx (fun s I n => fX1_factor d r (nI w) s I n) (pF (bt N tx) d w) := by
  intro d
  induction d with
  | zero =>
    intro w h1 h2
    omega
  | succ d ih =>
    intro w h1 h2
    intro s I n i snd hP
    have hck : ck s 1 r = some () := ck_L (Lay.one hP.1) 0 rfl
    have hrn : r < n := hP.2.2.1.1
    obtain ⟨q1, q2⟩ := passesC (k := 33) hP (by omega)
    obtain ⟨q3, q4⟩ := passesC (k := 40) hP (by omega)
    have tst := testC (a := a) (r := r) (N := N) (tx := tx) (fX1_factor d) s I n i snd hP
    -- no sign ahead: a test
    have plain : (¬ (w < 4 ∧ cb N tx snd i = 33)) → (¬ (w < 4 ∧ cb N tx snd i = 40)) → fX1_factor (d + 1) r (nI w) s I n = fX1_factor_b83 r (fX1_factor d) s I n := by
      intro n33 n40
      rw [fX1_factor]
      unfold fX1_factor_b0 fX1_factor_b53
      by_cases hw : w < 4
      · have e33 : fX1_passes s r 33 I = some (0, I) := q2 (fun h => n33 ⟨hw, h⟩)
        have e40 : fX1_passes s r 40 I = some (0, I) := q4 (fun h => n40 ⟨hw, h⟩)
        have nw : ¬ (4 : Int32) ≤ nI w := nI_ge (b := 4) hw (by omega)
        rw [if_neg nw, e33, b2_some, if_pos rfl, if_neg nw, hck, Option.bind_some, e40, b2_some, if_pos rfl]
      · have yw : (4 : Int32) ≤ nI w := nI_le (a := 4) (by omega) (by omega)
        rw [if_pos yw, if_pos yw]
    cases snd with
    | false =>
      have hcb : cb N tx false i = 255 := if_neg (by decide)
      obtain ⟨A, x, s', I', e1, hx, b1, k1', m1, u1, -⟩ := tst
      refine ⟨A, x, s', I', ?_, hx, b1, k1', m1, u1, fun h => absurd h (by decide)⟩
      show fX1_factor (d + 1) r (nI w) s I n = _
      rw [plain (by rw [hcb]; omega) (by rw [hcb]; omega)]
      exact e1
    | true =>
      have hcb : cb N tx true i = bt N tx i := if_pos rfl
      by_cases h33 : w < 4 ∧ bt N tx i = 33
      · obtain ⟨hw, hc⟩ := h33
        obtain ⟨I1, e1, f1, g1⟩ := q1 (by rw [hcb]; exact hc)
        have e1 : fX1_passes s r 33 I = some (1, I1) := e1
        obtain ⟨A, x, s1, I2, e2, hx, b1, k1', m1, -, t1⟩ := ih (w + 1) (by omega) (by omega) s I1 n (i + 1) true g1
        have e2 : fX1_factor d r (nI (w + 1)) s I1 n = _ := e2
        obtain ⟨I3, e3, f3, v3⟩ := notC (r := r) (n := n + A) (I := I2) (fX1_factor d) b1
        have ha96 : a + 96 < r := hP.2.2.1.2
        have hpf : pF (bt N tx) (d + 1) w i = (match pF (bt N tx) d (w + 1) (i + 1) with
          | .inl e => .inl e
          | .inr (j, p, M) => .inr (j, p ++ [-33], fun q => !(M q))) := by
          rw [pF, if_pos ⟨hw, hc⟩]
          all_goals rfl
        have P3 : ∀ e b, Pst s1 I2 (n + A) a r N tx e b → Pst s1 I3 (n + A) a r N tx e b := fun e b h => h.cells (f3 r (by omega)) (f3 _ (by omega))
        refine ⟨A, x, s1, I3, ?_, hx, b1, k1', fun y hy hyr => by rw [f3 y (by omega), m1 y hy hyr, f1 y hyr], fun h => absurd h (by decide), fun _ => ?_⟩
        · show fX1_factor (d + 1) r (nI w) s I n = _
          rw [fX1_factor]
          unfold fX1_factor_b0
          rw [if_neg (show ¬ (4 : Int32) ≤ nI w from nI_ge (b := 4) hw (by omega)), e1, b2_some, if_neg (by decide), nI_1, e2]
          exact (bE4_y e3).trans (by simp)
        · have T := t1 rfl
          rw [hpf]
          cases hF : pF (bt N tx) d (w + 1) (i + 1) with
          | inl e =>
            rw [hF] at T
            obtain ⟨t2, t3, t4⟩ := T
            exact ⟨by omega, by omega, P3 _ _ t4⟩
          | inr jpm =>
            obtain ⟨j, p, M⟩ := jpm
            rw [hF] at T
            obtain ⟨t2, t3, t4⟩ := T
            exact ⟨by omega, P3 _ _ t3, v3 M t4⟩
      · by_cases h40 : w < 4 ∧ bt N tx i = 40
        · obtain ⟨hw, hc⟩ := h40
          obtain ⟨I1, e1, f1, g1⟩ := q3 (by rw [hcb]; exact hc)
          have e1 : fX1_passes s r 40 I = some (1, I1) := e1
          have e33 : fX1_passes s r 33 I = some (0, I) := q2 (by rw [hcb, hc]; decide)
          obtain ⟨A, x, s1, I2, e2, hx, b1, k1', m1, -, t1⟩ := exprC (ih (w + 1) (by omega) (by omega)) s I1 n (i + 1) true g1
          have e2 : fX1_either r (fX1_factor d) (nI (w + 1)) s I1 n = _ := e2
          have hpf : pF (bt N tx) (d + 1) w i = (match pE (bt N tx) (pF (bt N tx) d (w + 1)) (i + 1) with
            | .inl e => .inl e
            | .inr (j, p, M) => if bt N tx j = 41 then .inr (j + 1, p, M) else .inl j) := by
            rw [pF, if_neg h33, if_pos ⟨hw, hc⟩]
            all_goals rfl
          have T := t1 rfl
          rw [hpf]
          have ha96 : a + 96 < r := hP.2.2.1.2
          have run : ∀ (e : Nat) (b : Bool), Pst s1 I2 (n + A) a r N tx e b → ∃ I3, fX1_factor (d + 1) r (nI w) s I n = some ((A, 144 * A), (x, s1, I3, n + A)) ∧ Fr1 I2 I3 r ∧ (if cb N tx b e = 41 then Pst s1 I3 (n + A) a r N tx (e + 1) b else Pst s1 I3 (n + A) a r N tx e false) := fun e b hPb => by
            obtain ⟨I3, e3, f3, g3⟩ := expectC (k := 41) hPb (by omega)
            have e3 : fX1_expect s1 r 41 I2 = some I3 := e3
            have hck1 : ck s1 1 r = some () := ck_L (Lay.one hPb.1) 0 rfl
            refine ⟨I3, ?_, f3, g3⟩
            rw [fX1_factor]
            unfold fX1_factor_b0 fX1_factor_b53
            have nw : ¬ (4 : Int32) ≤ nI w := nI_ge (b := 4) hw (by omega)
            rw [if_neg nw, e33, b2_some, if_pos rfl, if_neg nw, hck, Option.bind_some, e1, b2_some, if_neg (by decide), nI_1, e2]
            refine (bE4_y (c2 := 0) (k2 := 0) (u := (x, s1, I3, n + A)) ?_).trans (by simp)
            rw [hck1, Option.bind_some, e3, Option.bind_some]
          cases hE : pE (bt N tx) (pF (bt N tx) d (w + 1)) (i + 1) with
          | inl e =>
            rw [hE] at T
            obtain ⟨t2, t3, t4⟩ := T
            obtain ⟨I3, e3, f3, g3⟩ := run e false t4
            rw [show cb N tx false e = 255 from if_neg (by decide), if_neg (by decide)] at g3
            exact ⟨A, x, s1, I3, e3, hx, b1, k1', fun y hy hyr => by rw [f3 y hyr, m1 y hy hyr, f1 y hyr], fun h => absurd h (by decide), fun _ => ⟨by omega, by omega, g3⟩⟩
          | inr jpm =>
            obtain ⟨j, p, M⟩ := jpm
            rw [hE] at T
            obtain ⟨t2, t3, t4⟩ := T
            obtain ⟨I3, e3, f3, g3⟩ := run j true t3
            rw [show cb N tx true j = bt N tx j from if_pos rfl] at g3
            refine ⟨A, x, s1, I3, e3, hx, b1, k1', fun y hy hyr => by rw [f3 y hyr, m1 y hy hyr, f1 y hyr], fun h => absurd h (by decide), fun _ => ?_⟩
            show (match (if bt N tx j = 41 then (Sum.inr (j + 1, p, M) : PRes) else .inl j) with
              | .inl e => i ≤ e ∧ i + 2 * A ≤ e + 2 ∧ Pst s1 I3 (n + A) a r N tx e false
              | .inr (j', p', M') => i + 2 * A + 1 ≤ j' ∧ Pst s1 I3 (n + A) a r N tx j' true ∧ ∀ q, q < 144 → I3 x q = bI (M' q))
            by_cases h41 : bt N tx j = 41
            · rw [if_pos h41] at g3 ⊢
              exact ⟨by omega, g3, fun q hq => by rw [f3 x (by omega)]; exact t4 q hq⟩
            · rw [if_neg h41] at g3 ⊢
              exact ⟨by omega, by omega, g3⟩
        · obtain ⟨A, x, s', I', e1, hx, b1, k1', m1, u1, t1⟩ := tst
          refine ⟨A, x, s', I', ?_, hx, b1, k1', m1, u1, fun _ => ?_⟩
          · show fX1_factor (d + 1) r (nI w) s I n = _
            rw [plain (by rw [hcb]; exact h33) (by rw [hcb]; exact h40)]
            exact e1
          · have hpf : pF (bt N tx) (d + 1) w i = pTst (bt N tx) i := by rw [pF, if_neg h33, if_neg h40]
            rw [hpf]
            exact t1 rfl
end EXPRS
