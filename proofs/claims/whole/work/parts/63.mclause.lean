/-! LAYER 2: the reference's clauses over the cells -/
/-- a word's letters, packed -/
def HW (w : Int32) : List Nat → Prop
  | [] => True
  | c :: m => 96 + ((w >>> ((5 * nI m.length) &&& 31)) &&& 31) = nI c ∧ c < 128 ∧ HW w m
theorem hw_most : HW 441972 [109, 111, 115, 116] := ⟨by decide +kernel, by decide, by decide +kernel, by decide, by decide +kernel, by decide, by decide +kernel, by decide, trivial⟩
theorem hw_melt : HW 431508 [109, 101, 108, 116] := ⟨by decide +kernel, by decide, by decide +kernel, by decide, by decide +kernel, by decide, by decide +kernel, by decide, trivial⟩
theorem hw_lag : HW 12327 [108, 97, 103] := ⟨by decide +kernel, by decide, by decide +kernel, by decide, by decide +kernel, by decide, trivial⟩
theorem hw_leak : HW 398379 [108, 101, 97, 107] := ⟨by decide +kernel, by decide, by decide +kernel, by decide, by decide +kernel, by decide, by decide +kernel, by decide, trivial⟩
theorem hw_pond : HW 540100 [112, 111, 110, 100] := ⟨by decide +kernel, by decide, by decide +kernel, by decide, by decide +kernel, by decide, by decide +kernel, by decide, trivial⟩
theorem bz_bI (b : Bool) : bz (bI b) = some (bI b) := by cases b <;> rfl
theorem nI_m1 (k : Nat) : nI k + (-1) = nI k - 1 := by rw [Int32.sub_eq_add_neg]
section MCLAUSE
variable {s : SH} {I : IH} {a w1 w2 N i g c : Nat} {tx : Nat → Nat}
def OA (a x k : Nat) : Prop := x = a + 110 ∧ k = 10
def OH (a c x k : Nat) : Prop := (x = a + 110 ∧ k = 10) ∨ (x = a + 117 ∧ k = c)
theorem OH_OC {x k : Nat} (h : OH a c x k) : OC a g c x k := by
  unfold OH at h
  unfold OC
  omega
theorem wordM (W : WW s a w1 w2) (w : Int32) : ∀ (m : List Nat) (fuel : Nat) (I : IH) (i : Nat), HW w m → m.length < fuel → m.length < 100 → Mst I a N tx i → ∃ I', fX7_takesWord_b4 s (a + 110) (fX7_takesWord_b34 s (a + 110)) fuel w (nI m.length - 1) I = some (bI (pSq (bt N tx) (m ++ [32]) i true).2, I') ∧ Off (OA a) I I' ∧ Mst I' a N tx (pSq (bt N tx) (m ++ [32]) i true).1 := by
  intro m
  induction m with
  | nil =>
    intro fuel I i _ hf _ h
    obtain ⟨u, rfl⟩ : ∃ u, fuel = u + 1 := ⟨fuel - 1, by omega⟩
    have hs := signM W h (k := 32) (by omega)
    have st : ∀ (b : Bool) (I' : IH), fX7_takesSign s (a + 110) (nI 32) I = some (bI b, I') → fX7_takesWord_b4 s (a + 110) (fX7_takesWord_b34 s (a + 110)) (u + 1) w (nI ([] : List Nat).length - 1) I = some (bI b, I') := fun b I' hb => by
      rw [fX7_takesWord_b4]
      refine if_t (show nI 0 - 1 < 0 by decide) ?_
      unfold fX7_takesWord_b34
      refine b2_eq hb ?_
      exact bs_eq (bz_bI b) rfl
    show ∃ I', _ = some (bI (pSq (bt N tx) [32] i true).2, I') ∧ _ ∧ Mst I' a N tx (pSq (bt N tx) [32] i true).1
    rw [pSq]
    by_cases hc : bt N tx i = 32
    · rw [if_pos hc] at hs
      rw [if_pos ⟨rfl, hc⟩]
      exact ⟨_, st true _ hs, Off.refl.wr ⟨rfl, rfl⟩, stepM h (bt_in hc (by omega))⟩
    · rw [if_neg hc] at hs
      rw [if_neg (fun h9 => hc h9.2)]
      exact ⟨I, st false _ hs, Off.refl, h⟩
  | cons q m ih =>
    intro fuel I i hw hf hl h
    obtain ⟨u, rfl⟩ : ∃ u, fuel = u + 1 := ⟨fuel - 1, by omega⟩
    have hlen : (q :: m).length = m.length + 1 := rfl
    rw [hlen] at hf hl
    have hs := signM W h (k := q) hw.2.1
    have st : ∀ r, (b2 (fX7_takesSign s (a + 110) (nI q) I) fun x1 i2 => if x1 = 0 then some (0, i2) else fX7_takesWord_b4 s (a + 110) (fX7_takesWord_b34 s (a + 110)) u w (nI m.length - 1) i2) = r → fX7_takesWord_b4 s (a + 110) (fX7_takesWord_b34 s (a + 110)) (u + 1) w (nI (q :: m).length - 1) I = r := fun r hr => by
      rw [fX7_takesWord_b4, hlen, nI_pred]
      refine if_f (nI_pos (by omega)) ?_
      rw [hw.1, nI_m1]
      exact hr
    rw [List.cons_append, pSq]
    by_cases hc : bt N tx i = q
    · rw [if_pos hc] at hs
      rw [if_pos ⟨rfl, hc⟩]
      obtain ⟨I', e1, f1, m1⟩ := ih u _ (i + 1) hw.2.2 (by omega) (by omega) (stepM h (bt_in hc (by have := hw.2.1; omega)))
      exact ⟨I', st _ (b2_eq hs (if_f (by decide) e1)), (Off.refl.wr ⟨rfl, rfl⟩ : Off (OA a) I _).trans f1, m1⟩
    · rw [if_neg hc] at hs
      rw [if_neg (fun h9 => hc h9.2), pSq_f]
      exact ⟨I, st _ (b2_eq hs (if_t rfl rfl)), Off.refl, h⟩
theorem headM (W : WW s a w1 w2) (hc : c < 60) (h : Mst I a N tx i) : ∃ I', fX7_takesHead s (a + 110) (nI c) I = some (bI (pSq (bt N tx) (hdL (bt N tx) i).1 i true).2, I') ∧ Off (OH a c) I I' ∧ Mst I' a N tx (pSq (bt N tx) (hdL (bt N tx) i).1 i true).1 ∧ I' (a + 117) c = nI (hdL (bt N tx) i).2 := by
  obtain ⟨x1, e1, hx1⟩ := secondM W h
  obtain ⟨x2, e2, hx2⟩ := nextM W h
  have q108 : x2 = 108 ↔ bt N tx i = 108 := hx2.2 108 (by omega)
  have q109 : x2 = 109 ↔ bt N tx i = 109 := hx2.2 109 (by omega)
  have q111 : x1 = 111 ↔ bt N tx (i + 1) = 111 := hx1.2 111 (by omega)
  have q97 : x1 = 97 ↔ bt N tx (i + 1) = 97 := hx1.2 97 (by omega)
  have mk : ∀ (v : Nat) (w : Int32) (m : List Nat), HW w m → m.length < 100 → hdL (bt N tx) i = (m ++ [32], v) → (∀ b J, fX7_takesWord_b4 s (a + 110) (fX7_takesWord_b34 s (a + 110)) 1000 w (nI m.length - 1) (wr I (a + 117) c (nI v)) = some (bI b, J) → fX7_takesHead s (a + 110) (nI c) I = some (bI b, J)) → ∃ I', fX7_takesHead s (a + 110) (nI c) I = some (bI (pSq (bt N tx) (hdL (bt N tx) i).1 i true).2, I') ∧ Off (OH a c) I I' ∧ Mst I' a N tx (pSq (bt N tx) (hdL (bt N tx) i).1 i true).1 ∧ I' (a + 117) c = nI (hdL (bt N tx) i).2 := fun v w m hw hl hh go => by
    have h0 : Mst (wr I (a + 117) c (nI v)) a N tx i := h.of (by rw [wr_ne (by omega)]) (by rw [wr_ne (by omega)]; exact h.2.1.1) h.2.1.2 (by rw [wr_ne (by omega)])
    obtain ⟨I', t1, t2, t3⟩ := wordM W w m 1000 _ i hw (by omega) hl h0
    rw [hh]
    refine ⟨I', go _ _ t1, ((Off.refl.wr (Or.inr ⟨rfl, rfl⟩) : Off (OH a c) I _)).trans (t2.mono (fun x k hx => Or.inl hx)), t3, ?_⟩
    rw [t2 (a + 117) c (by unfold OA; omega), wr_at]
  by_cases h109 : bt N tx i = 109
  · have n108 : ¬ x2 = 108 := fun h9 => by have := q108.mp h9; omega
    by_cases h111 : bt N tx (i + 1) = 111
    · refine mk 3 441972 [109, 111, 115, 116] hw_most (by decide) (by unfold hdL; rw [if_pos h109, if_pos h111]; rfl) (fun b J hb => ?_)
      unfold fX7_takesHead
      refine bs_eq e1 ?_
      refine bs_eq e2 ?_
      refine if_f n108 ?_
      refine if_t (q109.mpr h109) ?_
      refine bs_eq (e7_110_14 W) ?_
      refine if_t (q111.mpr h111) ?_
      unfold fX7_takesHead_b52
      refine bs_eq (s117 W hc) ?_
      refine if_t (q111.mpr h111) ?_
      refine b2_eq hb ?_
      exact bs_eq (bz_bI b) rfl
    · refine mk 0 431508 [109, 101, 108, 116] hw_melt (by decide) (by unfold hdL; rw [if_pos h109, if_neg h111]; rfl) (fun b J hb => ?_)
      unfold fX7_takesHead
      refine bs_eq e1 ?_
      refine bs_eq e2 ?_
      refine if_f n108 ?_
      refine if_t (q109.mpr h109) ?_
      refine bs_eq (e7_110_14 W) ?_
      refine if_f (fun h9 => h111 (q111.mp h9)) ?_
      unfold fX7_takesHead_b52
      refine bs_eq (s117 W hc) ?_
      refine if_f (fun h9 => h111 (q111.mp h9)) ?_
      refine b2_eq hb ?_
      exact bs_eq (bz_bI b) rfl
  · by_cases h108 : bt N tx i = 108
    · by_cases h97 : bt N tx (i + 1) = 97
      · refine mk 1 12327 [108, 97, 103] hw_lag (by decide) (by unfold hdL; rw [if_neg h109, if_pos h108, if_pos h97]; rfl) (fun b J hb => ?_)
        unfold fX7_takesHead
        refine bs_eq e1 ?_
        refine bs_eq e2 ?_
        refine if_t (q108.mpr h108) ?_
        refine bs_eq (e7_110_14 W) ?_
        refine if_t (q97.mpr h97) ?_
        unfold fX7_takesHead_b94
        refine bs_eq (s117 W hc) ?_
        refine if_t (q97.mpr h97) ?_
        refine b2_eq hb ?_
        exact bs_eq (bz_bI b) rfl
      · refine mk 2 398379 [108, 101, 97, 107] hw_leak (by decide) (by unfold hdL; rw [if_neg h109, if_pos h108, if_neg h97]; rfl) (fun b J hb => ?_)
        unfold fX7_takesHead
        refine bs_eq e1 ?_
        refine bs_eq e2 ?_
        refine if_t (q108.mpr h108) ?_
        refine bs_eq (e7_110_14 W) ?_
        refine if_f (fun h9 => h97 (q97.mp h9)) ?_
        unfold fX7_takesHead_b94
        refine bs_eq (s117 W hc) ?_
        refine if_f (fun h9 => h97 (q97.mp h9)) ?_
        refine b2_eq hb ?_
        exact bs_eq (bz_bI b) rfl
    · refine mk 4 540100 [112, 111, 110, 100] hw_pond (by decide) (by unfold hdL; rw [if_neg h109, if_neg h108]; rfl) (fun b J hb => ?_)
      unfold fX7_takesHead
      refine bs_eq e1 ?_
      refine bs_eq e2 ?_
      refine if_f (fun h9 => h108 (q108.mp h9)) ?_
      refine if_f (fun h9 => h109 (q109.mp h9)) ?_
      refine bs_eq (e7_110_14 W) ?_
      refine bs_eq (s117 W hc) ?_
      refine b2_eq hb ?_
      exact bs_eq (bz_bI b) rfl
/-- what a clause's cells say -/
def CLx (I : IH) (a G c : Nat) (cl : Cl) : Prop := I (a + 117) c = nI cl.1 ∧ (cl.1 ≠ 0 → I (a + 118) c = nI cl.2.1) ∧ I (a + 119) c = nI cl.2.2.1 ∧ (cl.1 = 0 → ∃ f, I (a + 120) c = nI f ∧ I (a + 121) c = nI (f + cl.2.2.2.1.length) ∧ G ≤ f ∧ f + cl.2.2.2.1.length ≤ G + 100 ∧ SS (I (a + 122)) f cl.2.2.2.1 ∧ LG cl.2.2.2.1 ∧ EV cl.2.2.2.1 cl.2.2.2.2)
theorem clauseM (W : WW s a w1 w2) (hc : c < 60) {G : Nat} (hG : G + 100 ≤ 500) (hg : G ≤ g) (h : Mst I a N tx i) (h21 : I (a + 110) 21 = nI g) (hb : g ≤ G + i) : match pCl (bt N tx) i with
  | .inl e => ∃ I', fX7_takesClause s (a + 110) (nI c) I = some (0, I') ∧ I' (a + 110) 10 = nI e ∧ Off (OC a g c) I I'
  | .inr (j, cl) => ∃ I' g', fX7_takesClause s (a + 110) (nI c) I = some (1, I') ∧ Mst I' a N tx j ∧ I' (a + 110) 21 = nI g' ∧ g ≤ g' ∧ g' ≤ G + j ∧ (∀ f, cl.1 = 0 → I' (a + 120) c = nI f → f < 2 ^ 31 → f + cl.2.2.2.1.length ≤ g') ∧ CLx I' a G c cl ∧ Off (OC a g c) I I' := by
  obtain ⟨I1, e1, f1, m1, v1⟩ := headM W hc h
  have hN := h.1.2
  have hle := (pSq_le (bt N tx) (hdL (bt N tx) i).1 i true).1
  have hw4 : (hdL (bt N tx) i).2 ≤ 4 := by
    unfold hdL
    split
    · split <;> decide
    · split
      · split <;> decide
      · decide
  unfold pCl
  generalize (pSq (bt N tx) (hdL (bt N tx) i).1 i true).1 = j0 at *
  generalize (pSq (bt N tx) (hdL (bt N tx) i).1 i true).2 = ok at *
  generalize (hdL (bt N tx) i).2 = wd at *
  have hj0 := m1.2.1.2
  have f1' : Off (OC a g c) I I1 := f1.mono (fun x k hx => OH_OC hx)
  have h21' : I1 (a + 110) 21 = nI g := by rw [f1 _ _ (by unfold OH; omega)]; exact h21
  cases ok with
  | false =>
    rw [if_neg (by decide)]
    refine ⟨I1, ?_, m1.2.1.1, f1'⟩
    unfold fX7_takesClause
    exact b2_eq e1 (if_t rfl rfl)
  | true =>
    rw [if_pos rfl]
    -- a number, and what is behind it
    have num : ∀ (I2 : IH) (j : Nat), Mst I2 a N tx j → Off (OC a g c) I I2 → I2 (a + 117) c = nI wd → I2 (a + 110) 21 = nI g → match pNum (bt N tx) j with
        | none => ∃ I', fX7_takesClause_b70 s (a + 110) (nI c) I2 = some (0, I') ∧ I' (a + 110) 10 = nI j ∧ Off (OC a g c) I I'
        | some (j', v) => ∃ I', (∀ r, (if nI wd = 0 then b2 (fX7_takesSign s (a + 110) 32 I') fun x8 i9 => if x8 = 0 then some (0, i9) else b2 (fX7_takesE s (a + 110) (nI c) i9) fun x10 i11 => if x10 = 0 then some (0, i11) else some (1, i11) else some (1, I')) = r → fX7_takesClause_b70 s (a + 110) (nI c) I2 = r) ∧ Mst I' a N tx j' ∧ I' (a + 117) c = nI wd ∧ I' (a + 110) 21 = nI g ∧ I' (a + 119) c = nI v ∧ (∀ k, I' (a + 118) k = I2 (a + 118) k) ∧ Off (OC a g c) I I' := fun I2 j hm hf hwd hsg => by
      have T := numM W hm
      cases hp : pNum (bt N tx) j with
      | none =>
        rw [hp] at T
        refine ⟨I2, ?_, hm.2.1.1, hf⟩
        unfold fX7_takesClause_b70
        exact b2_eq T (if_t rfl rfl)
      | some jv =>
        obtain ⟨j', v⟩ := jv
        rw [hp] at T
        obtain ⟨I3, t1, t2, t3, t4⟩ := T
        have k3 : ∀ x k, ¬ (x = a + 110 ∧ (k = 10 ∨ k = 11)) → I3 x k = I2 x k := t2
        refine ⟨wr I3 (a + 119) c (nI v), fun r hr => ?_, t3.of (by rw [wr_ne (by omega)]) (by rw [wr_ne (by omega)]; exact t3.2.1.1) t3.2.1.2 (by rw [wr_ne (by omega)]), by rw [wr_ne (by omega), k3 _ _ (by omega)]; exact hwd, by rw [wr_ne (by omega), k3 _ _ (by omega)]; exact hsg, wr_at, fun k => by rw [wr_ne (by omega), k3 _ _ (by omega)], (hf.trans (t2.mono (fun x k hx => O1_OC hx))).wr (Or.inr (Or.inr (Or.inr ⟨by omega, rfl⟩)))⟩
        unfold fX7_takesClause_b70
        refine b2_eq t1 (if_f (by decide) ?_)
        refine bs_eq (e7_110_16 W) ?_
        refine bs_eq (i7_110_11 W) ?_
        rw [t4]
        refine bs_eq (s119 W hc) ?_
        refine bs_eq (e7_110_14 W) ?_
        refine bs_eq (r117 W hc) ?_
        rw [wr_ne (by omega), k3 _ _ (by omega), hwd]
        exact hr
    by_cases hwd : wd = 0
    · rw [if_pos hwd]
      subst hwd
      have st : ∀ r, fX7_takesClause_b70 s (a + 110) (nI c) I1 = r → fX7_takesClause s (a + 110) (nI c) I = r := fun r hr => by
        unfold fX7_takesClause
        refine b2_eq e1 (if_f (by decide) ?_)
        refine bs_eq (e7_110_14 W) ?_
        refine bs_eq (r117 W hc) ?_
        rw [v1]
        exact if_t rfl hr
      have T := num I1 j0 m1 f1' v1 h21'
      cases hp : pNum (bt N tx) j0 with
      | none =>
        rw [hp] at T
        obtain ⟨I', t1, t2, t3⟩ := T
        exact ⟨I', st _ t1, t2, t3⟩
      | some jv =>
        obtain ⟨j, v⟩ := jv
        rw [hp] at T
        obtain ⟨n1, n2, n3, -⟩ := num_r (fun j hj => bt_out hj) hp
        obtain ⟨I2, t1, t2, t3, t4, t5, t6, t7⟩ := T
        have st2 : ∀ r, (b2 (fX7_takesSign s (a + 110) 32 I2) fun x8 i9 => if x8 = 0 then some (0, i9) else b2 (fX7_takesE s (a + 110) (nI c) i9) fun x10 i11 => if x10 = 0 then some (0, i11) else some (1, i11)) = r → fX7_takesClause s (a + 110) (nI c) I = r := fun r hr => st r (t1 r (if_t rfl hr))
        have hs : fX7_takesSign s (a + 110) 32 I2 = _ := signM W t2 (k := 32) (by omega)
        show match (if bt N tx j = 32 then (match pE (bt N tx) (pF (bt N tx) 8 0) (j + 1) with
          | .inl e => .inl e
          | .inr (j3, p, M) => .inr (j3, (0, 0, v, p, M))) else .inl j : CRes) with
          | .inl e => ∃ I', fX7_takesClause s (a + 110) (nI c) I = some (0, I') ∧ I' (a + 110) 10 = nI e ∧ Off (OC a g c) I I'
          | .inr (j, cl) => ∃ I' g', fX7_takesClause s (a + 110) (nI c) I = some (1, I') ∧ Mst I' a N tx j ∧ I' (a + 110) 21 = nI g' ∧ g ≤ g' ∧ g' ≤ G + j ∧ (∀ f, cl.1 = 0 → I' (a + 120) c = nI f → f < 2 ^ 31 → f + cl.2.2.2.1.length ≤ g') ∧ CLx I' a G c cl ∧ Off (OC a g c) I I'
        by_cases h32 : bt N tx j = 32
        · rw [if_pos h32] at hs ⊢
          have hjN : j < N := bt_in h32 (by omega)
          have m2 := stepM t2 hjN
          have f2 : Off (OC a g c) I (wr I2 (a + 110) 10 (nI (j + 1))) := t7.wr (Or.inl ⟨rfl, Or.inl rfl⟩)
          have X := exprM W hc hG hg m2 (by rw [wr_nj (by decide)]; exact t4) (by omega)
          have k2 : ∀ x k, ¬ (x = a + 110 ∧ k = 10) → wr I2 (a + 110) 10 (nI (j + 1)) x k = I2 x k := fun x k hx => wr_or (by omega)
          generalize wr I2 (a + 110) 10 (nI (j + 1)) = I3 at *
          cases hE : pE (bt N tx) (pF (bt N tx) 8 0) (j + 1) with
          | inl e =>
            rw [hE] at X
            obtain ⟨I4, x1, x2, x3⟩ := X
            exact ⟨I4, st2 _ (b2_eq hs (if_f (by decide) (b2_eq x1 (if_t rfl rfl)))), x2, f2.trans (x3.mono (fun x k hx => OX_OC hx))⟩
          | inr q =>
            obtain ⟨j3, p, M⟩ := q
            rw [hE] at X
            obtain ⟨I4, x1, x2, x3, x4, x5, x6, x7, x8, x9, x10, x11, x12⟩ := X
            refine ⟨I4, g + p.length, st2 _ (b2_eq hs (if_f (by decide) (b2_eq x1 (if_f (by decide) rfl)))), x2, x3, by omega, by omega, fun f _ hf hf31 => ?_, ⟨?_, fun h9 => absurd rfl h9, ?_, fun _ => ⟨g, x5, x6, hg, ?_, x4, x7, x8⟩⟩, f2.trans (x12.mono (fun x k hx => OX_OC hx))⟩
            · rw [x5] at hf
              have := (nI_eq (by omega) hf31).mp hf
              show f + p.length ≤ g + p.length
              omega
            · rw [x12 (a + 117) c (by unfold OX; omega), k2 _ _ (by omega)]
              exact t3
            · rw [x12 (a + 119) c (by unfold OX; omega), k2 _ _ (by omega)]
              exact t5
            · show g + p.length ≤ G + 100
              omega
        · rw [if_neg h32] at hs ⊢
          exact ⟨I2, st2 _ (b2_eq hs (if_t rfl rfl)), t2.2.1.1, t7⟩
    · rw [if_neg hwd]
      obtain ⟨x5, e5, hx5⟩ := nextM W m1
      have hin : fX7_in x5 48 52 = _ := NX_in (lo := 48) (hi := 52) hx5 (by omega) (by omega)
      have st : ∀ r, (if fX7_in x5 48 52 = 0 then some (0, I1) else (sI s I1 (a + 118) (nI c) (x5 - 48)).bind fun i8 => (gI s i8 7 (a + 110) 10).bind fun x9 => (pI s i8 7 (a + 110) 10 (x9 + 1)).bind fun i10 => b2 (fX7_takesSign s (a + 110) 32 i10) fun x11 i12 => if x11 = 0 then some (0, i12) else fX7_takesClause_b70 s (a + 110) (nI c) i12) = r → fX7_takesClause s (a + 110) (nI c) I = r := fun r hr => by
        unfold fX7_takesClause
        refine b2_eq e1 (if_f (by decide) ?_)
        refine bs_eq (e7_110_14 W) ?_
        refine bs_eq (r117 W hc) ?_
        rw [v1]
        refine if_f (nI_ne0 (by omega) (by omega)) ?_
        refine bs_eq e5 ?_
        rw [← hr]
        by_cases h9 : fX7_in x5 48 52 = 0
        · rw [if_pos h9, if_pos h9]
        · rw [if_neg h9, if_neg h9]
          refine bs_eq (e7_110_15 W) ?_
          exact bs_eq e5 rfl
      by_cases hf : 48 ≤ bt N tx j0 ∧ bt N tx j0 ≤ 52
      · rw [if_pos hf] at hin ⊢
        have hjN : j0 < N := bt_in (tx := tx) rfl (by omega)
        have hxe : x5 = nI (bt N tx j0) := (hx5.2 _ (by omega)).mpr rfl
        have m0 : Mst (wr I1 (a + 118) c (nI (bt N tx j0 - 48))) a N tx j0 := m1.of (by rw [wr_ne (by omega)]) (by rw [wr_ne (by omega)]; exact m1.2.1.1) m1.2.1.2 (by rw [wr_ne (by omega)])
        have m2 := stepM m0 hjN
        have f2 : Off (OC a g c) I (wr (wr I1 (a + 118) c (nI (bt N tx j0 - 48))) (a + 110) 10 (nI (j0 + 1))) := (f1'.wr (Or.inr (Or.inr (Or.inr ⟨by omega, rfl⟩)))).wr (Or.inl ⟨rfl, Or.inl rfl⟩)
        have st2 : ∀ r, (b2 (fX7_takesSign s (a + 110) 32 (wr (wr I1 (a + 118) c (nI (bt N tx j0 - 48))) (a + 110) 10 (nI (j0 + 1)))) fun x11 i12 => if x11 = 0 then some (0, i12) else fX7_takesClause_b70 s (a + 110) (nI c) i12) = r → fX7_takesClause s (a + 110) (nI c) I = r := fun r hr => by
          refine st r (if_f (by rw [hin]; decide) ?_)
          rw [hxe, show nI (bt N tx j0) - 48 = nI (bt N tx j0 - 48) from nI_sub (j := 48) (by omega)]
          refine bs_eq (s118 W hc) ?_
          exact incM W m0 hr
        have k2 : ∀ x k, ¬ (x = a + 110 ∧ k = 10) → ¬ (x = a + 118 ∧ k = c) → wr (wr I1 (a + 118) c (nI (bt N tx j0 - 48))) (a + 110) 10 (nI (j0 + 1)) x k = I1 x k := fun x k hx hy => by rw [wr_or (by omega), wr_or (by omega)]
        have v2 : wr (wr I1 (a + 118) c (nI (bt N tx j0 - 48))) (a + 110) 10 (nI (j0 + 1)) (a + 118) c = nI (bt N tx j0 - 48) := by rw [wr_ne (by omega), wr_at]
        generalize wr (wr I1 (a + 118) c (nI (bt N tx j0 - 48))) (a + 110) 10 (nI (j0 + 1)) = I2 at *
        have hs : fX7_takesSign s (a + 110) 32 I2 = _ := signM W m2 (k := 32) (by omega)
        by_cases h32 : bt N tx (j0 + 1) = 32
        · rw [if_pos h32] at hs ⊢
          have hj1 : j0 + 1 < N := bt_in h32 (by omega)
          have m3 := stepM m2 hj1
          have f3 : Off (OC a g c) I (wr I2 (a + 110) 10 (nI (j0 + 1 + 1))) := f2.wr (Or.inl ⟨rfl, Or.inl rfl⟩)
          have k3 : ∀ x k, ¬ (x = a + 110 ∧ k = 10) → wr I2 (a + 110) 10 (nI (j0 + 1 + 1)) x k = I2 x k := fun x k hx => wr_or (by omega)
          generalize wr I2 (a + 110) 10 (nI (j0 + 1 + 1)) = I3 at *
          have T := num I3 (j0 + 1 + 1) m3 f3 (by rw [k3 _ _ (by omega), k2 _ _ (by omega) (by omega)]; exact v1) (by rw [k3 _ _ (by omega), k2 _ _ (by omega) (by omega)]; exact h21')
          rw [show j0 + 2 = j0 + 1 + 1 from rfl]
          cases hp : pNum (bt N tx) (j0 + 1 + 1) with
          | none =>
            rw [hp] at T
            obtain ⟨I', t1, t2, t3⟩ := T
            exact ⟨I', st2 _ (b2_eq hs (if_f (by decide) t1)), t2, t3⟩
          | some jv =>
            obtain ⟨j, v⟩ := jv
            rw [hp] at T
            obtain ⟨n1, n2, n3, -⟩ := num_r (fun j hj => bt_out hj) hp
            obtain ⟨I4, t1, t2, t3, t4, t5, t6, t7⟩ := T
            refine ⟨I4, g, st2 _ (b2_eq hs (if_f (by decide) (t1 _ (if_f (nI_ne0 (by omega) (by omega)) rfl)))), t2, t4, Nat.le_refl _, by omega, fun f h9 => absurd h9 hwd, ⟨t3, fun _ => ?_, t5, fun h9 => absurd h9 hwd⟩, t7⟩
            rw [t6, k3 _ _ (by omega)]
            exact v2
        · rw [if_neg h32] at hs ⊢
          exact ⟨I2, st2 _ (b2_eq hs (if_t rfl rfl)), m2.2.1.1, f2⟩
      · rw [if_neg hf] at hin ⊢
        exact ⟨I1, st _ (if_t hin rfl), m1.2.1.1, f1'⟩
end MCLAUSE
