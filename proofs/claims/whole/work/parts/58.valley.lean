/-! LAYER 2: the class's valley -/
section TEXT2
variable {a r N : Nat} {tx : Nat → Nat}
def cOK (c : Cl) : Prop := c.1 ≤ 4 ∧ c.2.1 < 5 ∧ c.2.2.1 ≤ 99
theorem bt_lt {i k : Nat} (h : bt N tx i = k) (hk : k < 128) : i < N := by
  unfold bt at h
  by_cases hi : i < N ∧ tx i < 128
  · exact hi.1
  · rw [if_neg hi] at h
    omega
theorem bE3_e {α β δ ρ : Type} {c k : Nat} {x : α} {y : β} {z : δ} {f : α → β → δ → Option ((Nat × Nat) × ρ)} : bE3 (some ((c, k), (x, y, z))) f = addE c k (f x y z) := rfl
theorem textEnd {s : SH} {I : IH} {n i : Nat} {snd : Bool} (h : Pst s I n a r N tx i snd) : fX1_isValley_b24 r s I n = some ((0, 0), ((if snd = true ∧ i = N then 1 else 0), s, I, n)) := by
  have g1 : gI s I 1 r 1 = some (nI N) := (gI_L (Lay.one h.1) 0 1 rfl rfl).trans (by rw [show I (r + 0) 1 = nI N from h.2.2.2.1.1])
  have g2 : gI s I 1 r 2 = some (bI snd) := (gI_L (Lay.one h.1) 0 2 rfl rfl).trans (by rw [show I (r + 0) 2 = bI snd from h.2.2.2.2.1])
  have g3 : gI s I 1 r 3 = some (nI i) := (gI_L (Lay.one h.1) 0 3 rfl rfl).trans (by rw [show I (r + 0) 3 = nI i from h.2.2.2.2.2.1.1])
  have h5 := h.2.2.2.1.2
  have h8 := h.2.2.2.2.2.1.2
  unfold fX1_isValley_b24
  rw [g2, Option.bind_some]
  cases snd with
  | false => rw [if_pos (show bI false = 0 from rfl), if_neg (fun h9 => absurd h9.1 (by decide))]
  | true =>
    rw [if_neg (show ¬ bI true = 0 by decide), g3, Option.bind_some, g1, Option.bind_some]
    by_cases hi : i = N
    · rw [if_pos (show nI i = nI N by rw [hi]), if_pos ⟨rfl, hi⟩]
    · rw [if_neg (fun h9 => hi ((nI_eq (by omega) (by omega)).mp h9)), if_neg (fun h9 => hi h9.2)]
/-- what a text comes to, from a clause on -/
def TRes (I I' : IH) (s' : SH) (n' i A : Nat) (z : Int32) (k : Nat) (N r : Nat) : Nat ⊕ List Cl → Prop
  | .inl e => z = 0 ∧ i ≤ e ∧ e ≤ N ∧ I' r 3 = nI e
  | .inr l => z = 1 ∧ l.length ≤ k ∧ (∀ c ∈ l, cOK c) ∧ ∀ l0, VT I (r + 1) l0 → VT I' (r + 1) (l0 ++ l)
theorem textL : ∀ (k C fuel : Nat) (s : SH) (I : IH) (n i : Nat), C + k = 12 → 1 ≤ k → k ≤ fuel → Pst s I n a r N tx i true → VW s (r + 1) → r + 8 ≤ n → ∃ A z s' I', fX1_isValley_b2 r (fX1_isValley_b24 r) fuel (nI C) s I n = some ((A, 144 * A), (z, s', I', n + A)) ∧ i + 2 * A ≤ N + 2 ∧ (∀ y, y < n → s' y = s y) ∧ (∀ y, y < n → y ≠ r → ¬ (r + 3 ≤ y ∧ y ≤ r + 7) → I' y = I y) ∧ TRes I I' s' (n + A) i A z k N r (pTx (bt N tx) N k i) := by
  intro k
  induction k with
  | zero => intros; omega
  | succ k ih =>
    intro C fuel s I n i hC h1 hf h V hn
    obtain ⟨u, rfl⟩ : ∃ u, fuel = u + 1 := ⟨fuel - 1, by omega⟩
    obtain ⟨A, s1, I1, e1, f1, f2, T⟩ := clauseC h V hn
    have hrn : r < n := h.2.2.1.1
    have cr : ck s 1 r = some () := ck_L (Lay.one h.1) 0 rfl
    have cr1 : ck s1 1 r = some () := ck_L (Lay.one (isD_same (f1 r hrn) h.1)) 0 rfl
    have hc1 : nI C + 1 = nI (C + 1) := nI_1 C
    rw [fX1_isValley_b2, cr, Option.bind_some, e1]
    -- the end of the loop, by the state behind the clause
    have stop : ∀ j sn, Pst s1 I1 (n + A) a r N tx j sn → (12 ≤ C + 1 ∨ cb N tx sn j ≠ 59) → bE3 (some ((A, 144 * A), (s1, I1, n + A))) (fun h2 i3 n4 => if 12 ≤ (nI C + 1) then fX1_isValley_b24 r h2 i3 n4 else (ck h2 1 r).bind fun u9 => b2 (fX1_passes h2 r 59 i3) fun x10 i11 => if x10 = 0 then fX1_isValley_b24 r h2 i11 n4 else fX1_isValley_b2 r (fX1_isValley_b24 r) u (nI C + 1) h2 i11 n4) = some ((A, 144 * A), ((if sn = true ∧ j = N then 1 else 0), s1, I1, n + A)) := fun j sn hP hw => by
      rw [bE3_e]
      have hend := textEnd hP
      by_cases h12 : 12 ≤ C + 1
      · rw [if_pos (show (12 : Int32) ≤ nI C + 1 by rw [hc1]; exact nI_le h12 (by omega)), hend]
        rfl
      · have hne : cb N tx sn j ≠ 59 := by rcases hw with h9 | h9 <;> first | omega | exact h9
        rw [if_neg (show ¬ (12 : Int32) ≤ nI C + 1 by rw [hc1]; exact nI_ge (b := 12) (by omega) (by omega)), cr1, Option.bind_some, show fX1_passes s1 r 59 I1 = some (0, I1) from (passesC (k := 59) hP (by omega)).2 hne, b2_some, if_pos rfl, hend]
        rfl
    rw [pTx]
    cases hcl : pCl (bt N tx) i with
    | inl e =>
      rw [hcl] at T
      obtain ⟨t1, t2, t3⟩ := T
      have he : e ≤ N := t3.2.2.2.2.2.1.2
      refine ⟨A, 0, s1, I1, ?_, by omega, f1, f2, rfl, t1, he, t3.2.2.2.2.2.1.1⟩
      rw [stop e false t3 (Or.inr (by rw [cb, if_neg (by decide)]; omega)), if_neg (fun h9 => absurd h9.1 (by decide))]
    | inr jc =>
      obtain ⟨j, c⟩ := jc
      rw [hcl] at T
      obtain ⟨t1, t2, t3, t4, t5⟩ := T
      have hj : j ≤ N := t3.2.2.2.2.2.1.2
      have hcb : cb N tx true j = bt N tx j := if_pos rfl
      show ∃ A z s' I', _ ∧ _ ∧ _ ∧ _ ∧ TRes I I' s' (n + A) i A z (k + 1) N r (if j = N then .inr [c] else if k = 0 then .inl j else if bt N tx j = 59 then (match pTx (bt N tx) N k (j + 1) with
      | .inl e => .inl e
      | .inr l => .inr (c :: l)) else .inl j)
      by_cases hjN : j = N
      · have hne : cb N tx true j ≠ 59 := fun h9 => by
          have := bt_lt (hcb.symm.trans h9) (by omega)
          omega
        refine ⟨A, 1, s1, I1, ?_, by omega, f1, f2, ?_⟩
        · rw [stop j true t3 (Or.inr hne), if_pos ⟨rfl, hjN⟩]
        · rw [if_pos hjN]
          refine ⟨rfl, by show 1 ≤ k + 1; omega, fun c' hc' => ?_, t5⟩
          rw [List.mem_singleton] at hc'
          rw [hc']
          exact t4
      · rw [if_neg hjN]
        have out : (12 ≤ C + 1 ∨ cb N tx true j ≠ 59) → bE3 (some ((A, 144 * A), (s1, I1, n + A))) (fun h2 i3 n4 => if 12 ≤ (nI C + 1) then fX1_isValley_b24 r h2 i3 n4 else (ck h2 1 r).bind fun u9 => b2 (fX1_passes h2 r 59 i3) fun x10 i11 => if x10 = 0 then fX1_isValley_b24 r h2 i11 n4 else fX1_isValley_b2 r (fX1_isValley_b24 r) u (nI C + 1) h2 i11 n4) = some ((A, 144 * A), ((0 : Int32), s1, I1, n + A)) := fun hw => by
          rw [stop j true t3 hw, if_neg (fun h9 => hjN h9.2)]
        by_cases hk0 : k = 0
        · rw [if_pos hk0]
          exact ⟨A, 0, s1, I1, out (Or.inl (by omega)), by omega, f1, f2, rfl, by omega, hj, t3.2.2.2.2.2.1.1⟩
        · rw [if_neg hk0]
          by_cases h59 : bt N tx j = 59
          · rw [if_pos h59]
            obtain ⟨I2, p1, p2, p3⟩ := (passesC (k := 59) t3 (by omega)).1 (hcb.trans h59)
            have hjl := bt_lt h59 (by omega)
            have V1 : VW s1 (r + 1) := Lay.kept V (fun y h1 h2 => f1 y (by have h3 : y < r + 1 + 7 := h2; omega))
            obtain ⟨A2, z, s2, I3, q1, q2, q3, q4, q5⟩ := ih (C + 1) u s1 I2 (n + A) (j + 1) (by omega) (by omega) (by omega) p3 V1 (by omega)
            refine ⟨A + A2, z, s2, I3, ?_, by omega, fun y hy => by rw [q3 y (by omega), f1 y hy], fun y hy hyr hnw => by rw [q4 y (by omega) hyr hnw, p2 y hyr, f2 y hy hyr hnw], ?_⟩
            · rw [bE3_e, if_neg (show ¬ (12 : Int32) ≤ nI C + 1 by rw [hc1]; exact nI_ge (b := 12) (by omega) (by omega)), cr1, Option.bind_some, show fX1_passes s1 r 59 I1 = some (1, I2) from p1, b2_some, if_neg (by decide), hc1, q1]
              show some ((A + A2, 144 * A + 144 * A2), (z, s2, I3, n + A + A2)) = _
              rw [Nat.mul_add, Nat.add_assoc]
            · cases htx : pTx (bt N tx) N k (j + 1) with
              | inl e =>
                rw [htx] at q5
                obtain ⟨w1, w2, w3, w4⟩ := q5
                exact ⟨w1, by omega, w3, w4⟩
              | inr l =>
                rw [htx] at q5
                obtain ⟨w1, w2, w3, w4⟩ := q5
                refine ⟨w1, by show l.length + 1 ≤ k + 1; omega, fun c' hc' => ?_, fun l0 hl0 => ?_⟩
                · rcases List.mem_cons.mp hc' with h9 | h9
                  · rw [h9]
                    exact t4
                  · exact w3 c' h9
                · have hv : VT I2 (r + 1) (l0 ++ [c]) := by
                    have h9 := t5 l0 hl0
                    unfold VT at h9 ⊢
                    rw [p2 _ (by omega), p2 _ (by omega), p2 _ (by omega), p2 _ (by omega), p2 _ (by omega)]
                    exact h9
                  have h9 := w4 _ hv
                  rw [List.append_assoc] at h9
                  exact h9
          · rw [if_neg h59]
            exact ⟨A, 0, s1, I1, out (Or.inr (fun h9 => h59 (hcb.symm.trans h9))), by omega, f1, f2, rfl, by omega, hj, t3.2.2.2.2.2.1.1⟩
end TEXT2
