/-! LAYER 2: the reference's texts over the cells, and valley() -/
section MTEXT
variable {s : SH} {I : IH} {a w1 w2 N i g c : Nat} {tx : Nat → Nat}
def OT (a F C g x k : Nat) : Prop := (x = a + 110 ∧ (k = 10 ∨ k = 11 ∨ k = 21 ∨ k = 22 ∨ k = 23)) ∨ (x = a + 116 ∧ k = F) ∨ (x = a + 122 ∧ g ≤ k) ∨ x = a + 123 ∨ ((a + 117 ≤ x ∧ x ≤ a + 121) ∧ 12 * F + C ≤ k)
theorem OC_OT {F C x k : Nat} (h : OC a g (12 * F + C) x k) : OT a F C g x k := by
  unfold OC at h
  unfold OT
  omega
theorem OT_OT {F C g' x k : Nat} (hg : g ≤ g') (h : OT a F (C + 1) g' x k) : OT a F C g x k := by
  unfold OT at h ⊢
  omega
theorem CLx.kept {G F C : Nat} {cl : Cl} {I' : IH} (h : CLx I a G (12 * F + C) cl) (f : Off (OT a F (C + 1) g) I I') (hf : ∀ f, cl.1 = 0 → I (a + 120) (12 * F + C) = nI f → f < 2 ^ 31 → f + cl.2.2.2.1.length ≤ g) (hG : G + 100 ≤ 500) : CLx I' a G (12 * F + C) cl := by
  obtain ⟨q1, q2, q3, q4⟩ := h
  have k : ∀ x, a + 117 ≤ x → x ≤ a + 121 → I' x (12 * F + C) = I x (12 * F + C) := fun x h1 h2 => f x _ (by unfold OT; omega)
  refine ⟨by rw [k _ (by omega) (by omega)]; exact q1, fun h9 => by rw [k _ (by omega) (by omega)]; exact q2 h9, by rw [k _ (by omega) (by omega)]; exact q3, fun h9 => ?_⟩
  obtain ⟨u, r1, r2, r3, r4, r5, r6, r7⟩ := q4 h9
  have hu := hf u h9 r1 (by omega)
  exact ⟨u, by rw [k _ (by omega) (by omega)]; exact r1, by rw [k _ (by omega) (by omega)]; exact r2, r3, r4, r5.kept (fun q h1 h2 => f _ _ (by unfold OT; omega)), r6, r7⟩
theorem textM (W : WW s a w1 w2) {F : Nat} (hF : F < 5) : ∀ (k C fuel i g : Nat) (I : IH), C + k = 12 → 1 ≤ k → k ≤ fuel → Mst I a N tx i → I (a + 110) 21 = nI g → 100 * F ≤ g → g ≤ 100 * F + i → match pTx (bt N tx) N k i with
  | .inl e => ∃ I', fX7_goesText_b15 s (a + 110) fuel (nI F) (nI C) I = some (0, I') ∧ I' (a + 110) 10 = nI e ∧ Off (OT a F C g) I I'
  | .inr l => ∃ I', fX7_goesText_b15 s (a + 110) fuel (nI F) (nI C) I = some (1, I') ∧ I' (a + 116) F = nI (C + l.length) ∧ (∀ q, q < l.length → CLx I' a (100 * F) (12 * F + (C + q)) (l.getD q cl0)) ∧ Off (OT a F C g) I I' := by
  intro k
  induction k with
  | zero => intros; omega
  | succ k ih =>
    intro C fuel i g I hC h1 hf h h21 hg hb
    obtain ⟨u, rfl⟩ : ∃ u, fuel = u + 1 := ⟨fuel - 1, by omega⟩
    have hN := h.1.2
    have X := clauseM (c := 12 * F + C) W (by omega) (G := 100 * F) (by omega) hg h h21 hb
    have hcn : (12 : Int32) * nI F + nI C = nI (12 * F + C) := by
      rw [show (12 : Int32) * nI F = nI (12 * F) from nI_mul 12 F, nI_add]
    rw [pTx]
    cases hcl : pCl (bt N tx) i with
    | inl e =>
      rw [hcl] at X
      obtain ⟨I', x1, x2, x3⟩ := X
      refine ⟨I', ?_, x2, x3.mono (fun x k hx => OC_OT hx)⟩
      rw [fX7_goesText_b15, hcn]
      exact b2_eq x1 (if_t rfl rfl)
    | inr jc =>
      obtain ⟨j, cl⟩ := jc
      rw [hcl] at X
      obtain ⟨I1, g', x1, x2, x3, x4, x5, x6, x7, x8⟩ := X
      have hjN := x2.2.1.2
      have m2 : Mst (wr I1 (a + 116) F (nI (C + 1))) a N tx j := x2.of (by rw [wr_ne (by omega)]) (by rw [wr_ne (by omega)]; exact x2.2.1.1) hjN (by rw [wr_ne (by omega)])
      have f2 : Off (OT a F C g) I (wr I1 (a + 116) F (nI (C + 1))) := (x8.mono (fun x k hx => OC_OT hx)).wr (Or.inr (Or.inl ⟨rfl, rfl⟩))
      have k2 : ∀ x k, x ≠ a + 116 → wr I1 (a + 116) F (nI (C + 1)) x k = I1 x k := fun x k hx => by rw [wr_ne hx]
      have c2 : CLx (wr I1 (a + 116) F (nI (C + 1))) a (100 * F) (12 * F + C) cl := by
        obtain ⟨q1, q2, q3, q4⟩ := x7
        refine ⟨(k2 _ _ (by omega)).trans q1, fun h9 => (k2 _ _ (by omega)).trans (q2 h9), (k2 _ _ (by omega)).trans q3, fun h9 => ?_⟩
        obtain ⟨v, r1, r2, r3, r4, r5, r6, r7⟩ := q4 h9
        exact ⟨v, (k2 _ _ (by omega)).trans r1, (k2 _ _ (by omega)).trans r2, r3, r4, r5.kept (fun q _ _ => k2 _ _ (by omega)), r6, r7⟩
      have s2 : ∀ f, cl.1 = 0 → wr I1 (a + 116) F (nI (C + 1)) (a + 120) (12 * F + C) = nI f → f < 2 ^ 31 → f + cl.2.2.2.1.length ≤ g' := fun f h9 h8 h7 => x6 f h9 ((k2 _ _ (by omega)).symm.trans h8) h7
      have c21 : wr I1 (a + 116) F (nI (C + 1)) (a + 110) 21 = nI g' := (k2 _ _ (by omega)).trans x3
      have h116 : wr I1 (a + 116) F (nI (C + 1)) (a + 116) F = nI (C + 1) := wr_at
      have st : ∀ r, (if nI j = nI N then some (1, wr I1 (a + 116) F (nI (C + 1))) else if nI (C + 1) = 12 then some (0, wr I1 (a + 116) F (nI (C + 1))) else b2 (fX7_takesSign s (a + 110) 59 (wr I1 (a + 116) F (nI (C + 1)))) fun x7 i8 => if x7 = 0 then some (0, i8) else fX7_goesText_b15 s (a + 110) u (nI F) (nI (C + 1)) i8) = r → fX7_goesText_b15 s (a + 110) (u + 1) (nI F) (nI C) I = r := fun r hr => by
        rw [fX7_goesText_b15, hcn]
        refine b2_eq x1 (if_f (by decide) ?_)
        refine bs_eq (e7_110_13 W) ?_
        rw [nI_1]
        refine bs_eq (s116 W hF) ?_
        refine bs_eq (i7_110_10 W) ?_
        refine bs_eq (i7_110_9 W) ?_
        rw [m2.2.1.1, m2.1.1]
        exact hr
      generalize wr I1 (a + 116) F (nI (C + 1)) = I2 at *
      have hs : fX7_takesSign s (a + 110) 59 I2 = _ := signM W m2 (k := 59) (by omega)
      show match (if j = N then .inr [cl] else if k = 0 then .inl j else if bt N tx j = 59 then (match pTx (bt N tx) N k (j + 1) with
        | .inl e => .inl e
        | .inr l => .inr (cl :: l)) else .inl j : Nat ⊕ List Cl) with
        | .inl e => ∃ I', fX7_goesText_b15 s (a + 110) (u + 1) (nI F) (nI C) I = some (0, I') ∧ I' (a + 110) 10 = nI e ∧ Off (OT a F C g) I I'
        | .inr l => ∃ I', fX7_goesText_b15 s (a + 110) (u + 1) (nI F) (nI C) I = some (1, I') ∧ I' (a + 116) F = nI (C + l.length) ∧ (∀ q, q < l.length → CLx I' a (100 * F) (12 * F + (C + q)) (l.getD q cl0)) ∧ Off (OT a F C g) I I'
      by_cases hjn : j = N
      · rw [if_pos hjn]
        refine ⟨I2, st _ (if_t (by rw [hjn]) rfl), h116, fun q hq => ?_, f2⟩
        have hq : q < 1 := hq
        obtain rfl : q = 0 := by omega
        exact c2
      · rw [if_neg hjn]
        have nj : ¬ nI j = nI N := fun h9 => hjn ((nI_eq (by omega) (by omega)).mp h9)
        by_cases hk0 : k = 0
        · rw [if_pos hk0]
          exact ⟨I2, st _ (if_f nj (if_t (by rw [show C + 1 = 12 by omega]; rfl) rfl)), m2.2.1.1, f2⟩
        · rw [if_neg hk0]
          have n12 : ¬ nI (C + 1) = 12 := fun h9 => by
            have := (nI_eq (b := 12) (by omega) (by omega)).mp h9
            omega
          by_cases h59 : bt N tx j = 59
          · rw [if_pos h59] at hs ⊢
            have hjl : j < N := bt_in h59 (by omega)
            have m3 := stepM m2 hjl
            have f3 : Off (OT a F (C + 1) g') I2 (wr I2 (a + 110) 10 (nI (j + 1))) := Off.refl.wr (Or.inl ⟨rfl, Or.inl rfl⟩)
            have Y := ih (C + 1) u (j + 1) g' _ (by omega) (by omega) (by omega) m3 (by rw [wr_nj (by decide)]; exact c21) (by omega) (by omega)
            cases htx : pTx (bt N tx) N k (j + 1) with
            | inl e =>
              rw [htx] at Y
              obtain ⟨I4, y1, y2, y3⟩ := Y
              exact ⟨I4, st _ (if_f nj (if_f n12 (b2_eq hs (if_f (by decide) y1)))), y2, f2.trans ((f3.trans y3).mono (fun x k hx => OT_OT x4 hx))⟩
            | inr l =>
              rw [htx] at Y
              obtain ⟨I4, y1, y2, y3, y4⟩ := Y
              refine ⟨I4, st _ (if_f nj (if_f n12 (b2_eq hs (if_f (by decide) y1)))), ?_, fun q hq => ?_, f2.trans ((f3.trans y4).mono (fun x k hx => OT_OT x4 hx))⟩
              · rw [y2]
                show nI (C + 1 + l.length) = nI (C + (l.length + 1))
                congr 1
                omega
              · match q with
                | 0 =>
                  show CLx I4 a (100 * F) (12 * F + C) cl
                  exact c2.kept (f3.trans y4) s2 (by omega)
                | q + 1 =>
                  have hq : q + 1 < l.length + 1 := hq
                  have := y3 q (by omega)
                  rw [show C + (q + 1) = C + 1 + q by omega]
                  exact this
          · rw [if_neg h59] at hs ⊢
            exact ⟨I2, st _ (if_f nj (if_f n12 (b2_eq hs (if_t rfl rfl)))), m2.2.1.1, f2⟩
def OV (a F x k : Nat) : Prop := (x = a + 110 ∧ (k = 7 ∨ k = 8 ∨ k = 9 ∨ k = 10 ∨ k = 11 ∨ k = 21 ∨ k = 22 ∨ k = 23)) ∨ (x = a + 116 ∧ k = F) ∨ (x = a + 122 ∧ 100 * F ≤ k) ∨ x = a + 123 ∨ ((a + 117 ≤ x ∧ x ≤ a + 121) ∧ 12 * F ≤ k)
theorem OT_OV {F x k : Nat} (h : OT a F 0 (100 * F) x k) : OV a F x k := by
  unfold OT at h
  unfold OV
  omega
/-- the reference's valley(), where there is room for one more -/
theorem vl_ref (W : WW s a w1 w2) {F : Nat} (hF : F < 5) (h7 : I (a + 110) 7 = nI F) (h9 : I (a + 110) 9 = nI N) (hN : N ≤ 100) (ht : ∀ j, j < N → tx j < 256 ∧ (tx j < 128 → I (a + 115) j = nI (tx j)) ∧ (128 ≤ tx j → I (a + 115) j < 0)) : match pTx (bt N tx) N 12 0 with
  | .inl e => ∃ I', fX7_valley s (a + 110) I = some (-10 - nI e, I') ∧ Off (OV a F) I I' ∧ I' (a + 110) 9 = 0 ∧ I' (a + 110) 7 = nI F ∧ I' (a + 110) 8 = I (a + 110) 8
  | .inr l => ∃ I', fX7_valley s (a + 110) I = some (nI F, I') ∧ Off (OV a F) I I' ∧ I' (a + 110) 9 = 0 ∧ I' (a + 110) 7 = nI (F + 1) ∧ I' (a + 110) 8 = nI F ∧ I' (a + 116) F = nI l.length ∧ ∀ q, q < l.length → CLx I' a (100 * F) (12 * F + q) (l.getD q cl0) := by
  have h100 : (100 : Int32) * nI F = nI (100 * F) := nI_mul 100 F
  have k0 : ∀ x k, ¬ (x = a + 110 ∧ (k = 10 ∨ k = 21)) → wr (wr I (a + 110) 10 0) (a + 110) 21 (nI (100 * F)) x k = I x k := fun x k hx => by rw [wr_or (by omega), wr_or (by omega)]
  have m0 : Mst (wr (wr I (a + 110) 10 0) (a + 110) 21 (nI (100 * F))) a N tx 0 := by
    refine ⟨⟨(k0 _ _ (by omega)).trans h9, hN⟩, ⟨by rw [wr_nj (by decide), wr_at]; rfl, by omega⟩, fun j hj => ?_⟩
    rw [k0 _ _ (by omega)]
    exact ht j hj
  have f0 : Off (OT a F 0 (100 * F)) I (wr (wr I (a + 110) 10 0) (a + 110) 21 (nI (100 * F))) := (Off.refl.wr (Or.inl ⟨rfl, by omega⟩)).wr (Or.inl ⟨rfl, by omega⟩)
  have T := textM W hF 12 0 1000 0 (100 * F) _ (by omega) (by omega) (by omega) m0 wr_at (Nat.le_refl _) (by omega)
  have st : ∀ r, (b2 (fX7_goesText_b15 s (a + 110) 1000 (nI F) (nI 0) (wr (wr I (a + 110) 10 0) (a + 110) 21 (nI (100 * F)))) fun x3 i4 => (pI s i4 7 (a + 110) 9 0).bind fun i5 => if x3 = 0 then (gI s i5 7 (a + 110) 10).bind fun x11 => some (((-10) - x11), i5) else (gI s i5 7 (a + 110) 7).bind fun x6 => (pI s i5 7 (a + 110) 8 x6).bind fun i7 => (gI s i7 7 (a + 110) 7).bind fun x8 => (pI s i7 7 (a + 110) 7 (x8 + 1)).bind fun i9 => (gI s i9 7 (a + 110) 8).bind fun x10 => some (x10, i9)) = r → fX7_valley s (a + 110) I = r := fun r hr => by
    unfold fX7_valley
    refine bs_eq (i7_110_7 W) ?_
    rw [h7]
    refine if_f (fun h8 => by have := (nI_eq (b := 5) (by omega) (by omega)).mp h8; omega) ?_
    refine bs_eq (i7_110_7 W) ?_
    rw [h7]
    have hgo : fX7_goesText s (a + 110) (nI F) I = fX7_goesText_b15 s (a + 110) 1000 (nI F) (nI 0) (wr (wr I (a + 110) 10 0) (a + 110) 21 (nI (100 * F))) := by
      unfold fX7_goesText
      refine bs_eq (p7_110_10 W) ?_
      rw [h100]
      exact bs_eq (p7_110_21 W) rfl
    rw [hgo]
    exact hr
  generalize wr (wr I (a + 110) 10 0) (a + 110) 21 (nI (100 * F)) = I0 at *
  cases htx : pTx (bt N tx) N 12 0 with
  | inl e =>
    rw [htx] at T
    obtain ⟨I1, t1, t2, t3⟩ := T
    have t4 := (f0.trans t3).mono (fun x k hx => OT_OV (a := a) (F := F) hx)
    refine ⟨wr I1 (a + 110) 9 0, st _ (b2_eq t1 ?_), t4.wr (Or.inl ⟨rfl, by omega⟩), wr_at, ?_, ?_⟩
    · refine bs_eq (p7_110_9 W) ?_
      refine if_t rfl ?_
      refine bs_eq (i7_110_10 W) ?_
      rw [wr_nj (by decide), t2]
    · rw [wr_nj (by decide), (f0.trans t3) _ _ (by unfold OT; omega)]
      exact h7
    · rw [wr_nj (by decide), (f0.trans t3) _ _ (by unfold OT; omega)]
  | inr l =>
    rw [htx] at T
    obtain ⟨I1, t1, t2, t3, t4⟩ := T
    have t5 := (f0.trans t4).mono (fun x k hx => OT_OV (a := a) (F := F) hx)
    have h71 : I1 (a + 110) 7 = nI F := by rw [(f0.trans t4) _ _ (by unfold OT; omega)]; exact h7
    refine ⟨wr (wr (wr I1 (a + 110) 9 0) (a + 110) 8 (nI F)) (a + 110) 7 (nI (F + 1)), st _ (b2_eq t1 ?_), ((t5.wr (Or.inl ⟨rfl, by omega⟩)).wr (Or.inl ⟨rfl, by omega⟩)).wr (Or.inl ⟨rfl, by omega⟩), ?_, wr_at, ?_, ?_, fun q hq => ?_⟩
    · refine bs_eq (p7_110_9 W) ?_
      refine if_f (by decide) ?_
      refine bs_eq (i7_110_7 W) ?_
      rw [wr_nj (by decide), h71]
      refine bs_eq (p7_110_8 W) ?_
      refine bs_eq (i7_110_7 W) ?_
      rw [wr_nj (by decide), wr_nj (by decide), h71, nI_1]
      refine bs_eq (p7_110_7 W) ?_
      refine bs_eq (i7_110_8 W) ?_
      rw [wr_nj (by decide), wr_at]
    · rw [wr_nj (by decide), wr_nj (by decide), wr_at]
    · rw [wr_nj (by decide), wr_at]
    · rw [wr_ne (by omega), wr_ne (by omega), wr_ne (by omega), t2, Nat.zero_add]
    · have h8 := t3 q hq
      rw [Nat.zero_add] at h8
      unfold CLx at h8 ⊢
      rw [wr_ne (by omega), wr_ne (by omega), wr_ne (by omega), wr_ne (by omega), wr_ne (by omega), wr_ne (by omega), wr_ne (by omega), wr_ne (by omega), wr_ne (by omega), wr_ne (by omega), wr_ne (by omega), wr_ne (by omega), wr_ne (by omega), wr_ne (by omega), wr_ne (by omega), wr_ne (by omega), wr_ne (by omega), wr_ne (by omega)]
      exact h8
end MTEXT
