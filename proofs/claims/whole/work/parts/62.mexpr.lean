/-! LAYER 2: the reference's expressions over the cells -/
section MEXPR
variable {s : SH} {I : IH} {a w1 w2 N i g c : Nat} {tx : Nat → Nat}
theorem Yst.read {Q : List Nat} {S : List Int32} {I' : IH} {j : Nat} (h : Yst I a N tx i Q g S) (f : Off (O1 a) I I') (hm : Mst I' a N tx j) : Yst I' a N tx j Q g S := by
  obtain ⟨y1, y2, y3, y4, y5, y6⟩ := h
  have k : ∀ x k, ¬ (x = a + 110 ∧ (k = 10 ∨ k = 11)) → I' x k = I x k := f
  refine ⟨hm, (k _ _ (by omega)).trans y2, (k _ _ (by omega)).trans y3, y4.kept (fun q _ => k _ _ (by omega)), (k _ _ (by omega)).trans y5, y6.kept (fun q _ _ => k _ _ (by omega))⟩
theorem O1_OE {x k : Nat} (h : O1 a x k) : OE a g c x k := by
  unfold O1 at h
  unfold OE
  omega
theorem testM (W : WW s a w1 w2) {Q : List Nat} {S : List Int32} {G : Nat} (hG : G + 100 ≤ 500) (hg : G ≤ g) (hY : Yst I a N tx i Q g S) (hb : g + S.length + Q.length ≤ G + i) : match pTst (bt N tx) i with
  | .inl e => ∃ I', fX7_takesTest s (a + 110) I = some (0, I') ∧ I' (a + 110) 10 = nI e ∧ Off (OE a g c) I I'
  | .inr (j, p, _) => ∃ I', fX7_takesTest s (a + 110) I = some (1, I') ∧ Yst I' a N tx j (whl Q (S ++ p)).1 g (whl Q (S ++ p)).2 ∧ Off (OE a g c) I I' ∧ g + (whl Q (S ++ p)).2.length + (whl Q (S ++ p)).1.length ≤ G + j := by
  have h := hY.1
  have hN := h.1.2
  obtain ⟨x, e, hx⟩ := nextM W h
  have q104 : x = 104 ↔ bt N tx i = 104 := hx.2 104 (by omega)
  have q100 : x = 100 ↔ bt N tx i = 100 := hx.2 100 (by omega)
  have q107 : x = 107 ↔ bt N tx i = 107 := hx.2 107 (by omega)
  unfold pTst
  by_cases hl : ltr (bt N tx i) = 3
  · rw [if_pos hl]
    have hno : bt N tx i ≠ 104 ∧ bt N tx i ≠ 100 ∧ bt N tx i ≠ 107 := by
      unfold ltr at hl
      refine ⟨fun h9 => ?_, fun h9 => ?_, fun h9 => ?_⟩
      · rw [if_pos h9] at hl
        exact absurd hl (by decide)
      · rw [if_neg (by omega), if_pos h9] at hl
        exact absurd hl (by decide)
      · rw [if_neg (by omega), if_neg (by omega), if_pos h9] at hl
        exact absurd hl (by decide)
    refine ⟨I, ?_, h.2.1.1, Off.refl⟩
    unfold fX7_takesTest
    refine bs_eq e ?_
    refine if_f (fun h9 => hno.1 (q104.mp h9)) ?_
    refine bs_eq e ?_
    refine if_f (fun h9 => hno.2.1 (q100.mp h9)) ?_
    refine bs_eq e ?_
    refine if_f (fun h9 => hno.2.2 (q107.mp h9)) ?_
    unfold fX7_takesTest_b40
    exact if_f (by decide) rfl
  · rw [if_neg hl]
    have hl3 : ltr (bt N tx i) < 3 ∧ i < N ∧ ∀ r, fX7_takesTest_b40 s (a + 110) (nI (ltr (bt N tx i))) I = r → fX7_takesTest s (a + 110) I = r := by
      by_cases h1 : bt N tx i = 104
      · have hlt : ltr (bt N tx i) = 0 := by unfold ltr; rw [if_pos h1]
        rw [hlt]
        refine ⟨by omega, bt_in h1 (by omega), fun r hr => ?_⟩
        unfold fX7_takesTest
        refine bs_eq e ?_
        exact if_t (q104.mpr h1) hr
      · by_cases h2 : bt N tx i = 100
        · have hlt : ltr (bt N tx i) = 1 := by unfold ltr; rw [if_neg h1, if_pos h2]
          rw [hlt]
          refine ⟨by omega, bt_in h2 (by omega), fun r hr => ?_⟩
          unfold fX7_takesTest
          refine bs_eq e ?_
          refine if_f (fun h9 => h1 (q104.mp h9)) ?_
          refine bs_eq e ?_
          exact if_t (q100.mpr h2) hr
        · by_cases h3 : bt N tx i = 107
          · have hlt : ltr (bt N tx i) = 2 := by unfold ltr; rw [if_neg h1, if_neg h2, if_pos h3]
            rw [hlt]
            refine ⟨by omega, bt_in h3 (by omega), fun r hr => ?_⟩
            unfold fX7_takesTest
            refine bs_eq e ?_
            refine if_f (fun h9 => h1 (q104.mp h9)) ?_
            refine bs_eq e ?_
            refine if_f (fun h9 => h2 (q100.mp h9)) ?_
            refine bs_eq e ?_
            exact if_t (q107.mpr h3) hr
          · exfalso
            apply hl
            unfold ltr
            rw [if_neg h1, if_neg h2, if_neg h3]
    obtain ⟨hl3, hiN, go⟩ := hl3
    generalize ltr (bt N tx i) = l at *
    have h1 := stepM h hiN
    have f1 : Off (OE a g c) I (wr I (a + 110) 10 (nI (i + 1))) := Off.refl.wr (Or.inl ⟨rfl, Or.inl rfl⟩)
    obtain ⟨x3, e3, hx3⟩ := nextM W h1
    have st : ∀ r, (if fX7_in x3 60 62 = 0 then some (0, wr I (a + 110) 10 (nI (i + 1))) else (gI s (wr I (a + 110) 10 (nI (i + 1))) 7 (a + 110) 10).bind fun x4 => (pI s (wr I (a + 110) 10 (nI (i + 1))) 7 (a + 110) 10 (x4 + 1)).bind fun i5 => b2 (fX7_takesNumber s (a + 110) i5) fun x6 i7 => if x6 = 0 then some (0, i7) else (gI s i7 7 (a + 110) 11).bind fun x8 => (fX7_put s (a + 110) (((1000 * nI l) + (100 * (x3 - 60))) + x8) i7).bind fun i9 => (fX7_whole s (a + 110) i9).bind fun i10 => some (1, i10)) = r → fX7_takesTest s (a + 110) I = r := fun r hr => by
      refine go r ?_
      unfold fX7_takesTest_b40
      refine if_t (nI_pos' (by omega)) ?_
      refine bs_eq (i7_110_10 W) ?_
      rw [h.2.1.1, nI_1]
      refine bs_eq (p7_110_10 W) ?_
      exact bs_eq e3 hr
    have hin : fX7_in x3 60 62 = _ := NX_in (lo := 60) (hi := 62) hx3 (by omega) (by omega)
    by_cases h2 : bt N tx (i + 1) < 60 ∨ 62 < bt N tx (i + 1)
    · rw [if_pos h2]
      refine ⟨_, st _ (if_t ?_ rfl), wr_at, f1⟩
      rw [hin, if_neg (by omega)]
    · rw [if_neg h2]
      have hi1N : i + 1 < N := bt_in (tx := tx) rfl (by omega)
      have h2' := stepM h1 hi1N
      have f2 : Off (OE a g c) I (wr (wr I (a + 110) 10 (nI (i + 1))) (a + 110) 10 (nI (i + 1 + 1))) := f1.wr (Or.inl ⟨rfl, Or.inl rfl⟩)
      have hYr : Off (O1 a) I (wr (wr I (a + 110) 10 (nI (i + 1))) (a + 110) 10 (nI (i + 1 + 1))) := (Off.refl.wr ⟨rfl, Or.inl rfl⟩).wr ⟨rfl, Or.inl rfl⟩
      generalize hI2 : wr (wr I (a + 110) 10 (nI (i + 1))) (a + 110) 10 (nI (i + 1 + 1)) = I2 at h2' f2 hYr
      have st2 : ∀ r, (b2 (fX7_takesNumber s (a + 110) I2) fun x6 i7 => if x6 = 0 then some (0, i7) else (gI s i7 7 (a + 110) 11).bind fun x8 => (fX7_put s (a + 110) (((1000 * nI l) + (100 * (x3 - 60))) + x8) i7).bind fun i9 => (fX7_whole s (a + 110) i9).bind fun i10 => some (1, i10)) = r → fX7_takesTest s (a + 110) I = r := fun r hr => by
        refine st r (if_f (by rw [hin, if_pos (by omega)]; decide) ?_)
        refine bs_eq (i7_110_10 W) ?_
        rw [h1.2.1.1, nI_1]
        refine bs_eq (p7_110_10 W) ?_
        rw [hI2]
        exact hr
      have T := numM W h2'
      cases hp : pNum (bt N tx) (i + 2) with
      | none =>
        rw [show i + 1 + 1 = i + 2 from rfl, hp] at T
        exact ⟨I2, st2 _ (b2_eq T (if_t rfl rfl)), h2'.2.1.1, f2⟩
      | some jv =>
        obtain ⟨j, v⟩ := jv
        rw [show i + 1 + 1 = i + 2 from rfl, hp] at T
        obtain ⟨I3, e4, f4, m4, v4⟩ := T
        obtain ⟨n1, n2, n3, -⟩ := num_r (fun j hj => bt_out hj) hp
        have hY3 : Yst I3 a N tx j Q g S := hY.read (hYr.trans f4) m4
        have hx3e : x3 = nI (bt N tx (i + 1)) := (hx3.2 _ (by omega)).mpr rfl
        have hval : ((1000 : Int32) * nI l) + (100 * (x3 - 60)) + nI v = nI (1000 * l + 100 * (bt N tx (i + 1) - 60) + v) := by
          rw [hx3e, show nI (bt N tx (i + 1)) - 60 = nI (bt N tx (i + 1) - 60) from nI_sub (j := 60) (by omega), show (1000 : Int32) * nI l = nI (1000 * l) from nI_mul 1000 l, show (100 : Int32) * nI (bt N tx (i + 1) - 60) = nI (100 * (bt N tx (i + 1) - 60)) from nI_mul 100 _, nI_add, nI_add]
        have e5 := putM (S := S) W hY3.2.2.2.2.1 (by omega) (nI (1000 * l + 100 * (bt N tx (i + 1) - 60) + v))
        generalize hI4 : wr (wr I3 (a + 122) (g + S.length) (nI (1000 * l + 100 * (bt N tx (i + 1) - 60) + v))) (a + 110) 21 (nI (g + S.length + 1)) = I4 at e5
        have k4 : ∀ x k, ¬ (x = a + 122 ∧ k = g + S.length) → ¬ (x = a + 110 ∧ k = 21) → I4 x k = I3 x k := fun x k h1 h2 => by rw [← hI4, wr_or (by omega), wr_or (by omega)]
        have hY4 : Yst I4 a N tx j Q g (S ++ [nI (1000 * l + 100 * (bt N tx (i + 1) - 60) + v)]) := by
          obtain ⟨y1, y2, y3, y4, y5, y6⟩ := hY3
          refine ⟨y1.of (k4 _ _ (by omega) (by omega)) ((k4 _ _ (by omega) (by omega)).trans y1.2.1.1) y1.2.1.2 (funext fun k => k4 _ _ (by omega) (by omega)), (k4 _ _ (by omega) (by omega)).trans y2, (k4 _ _ (by omega) (by omega)).trans y3, y4.kept (fun k _ => k4 _ _ (by omega) (by omega)), ?_, SS.snoc (y6.kept (fun k k1' k2' => k4 _ _ (by omega) (by omega))) ?_⟩
          · rw [← hI4, wr_at]
            simp only [List.length_append, List.length_cons, List.length_nil]
            rfl
          · rw [← hI4, wr_ne (by omega), wr_at]
        have hop := opn_le Q
        have hls : (S ++ [nI (1000 * l + 100 * (bt N tx (i + 1) - 60) + v)]).length = S.length + 1 := by simp only [List.length_append, List.length_cons, List.length_nil]
        obtain ⟨I5, e6, y5, f5, n5⟩ := wholeM (c := c) W Q 1000 _ I4 (by omega) hY4 (by rw [hls]; omega) (by omega) (by omega)
        refine ⟨I5, st2 _ (b2_eq e4 (if_f (by decide) ?_)), y5, (f2.trans (f4.mono (fun x k h => O1_OE h))).trans (Off.trans (fun x k hx => ?_) f5), ?_⟩
        · refine bs_eq (i7_110_11 W) ?_
          rw [v4, hval]
          refine bs_eq e5 ?_
          exact bs_eq e6 rfl
        · unfold OE at hx
          exact k4 _ _ (by omega) (by omega)
        · rw [n5, hls]
          omega
/-- what an expression comes to over the cells -/
def ERes (I I' : IH) (a N : Nat) (tx : Nat → Nat) (g c : Nat) (z : Int32) : YRes → Prop
  | .inl e => z = 0 ∧ I' (a + 110) 10 = nI e ∧ Off (OE a g c) I I'
  | .inr (j, S) => z = 1 ∧ Mst I' a N tx j ∧ I' (a + 110) 21 = nI (g + S.length) ∧ SS (I' (a + 122)) g S ∧ I' (a + 121) c = nI (g + S.length) ∧ Off (OE a g c) I I'
theorem ERes.pre {I0 I1 I2 : IH} {z : Int32} {r : YRes} (f : Off (OE a g c) I0 I1) (h : ERes I1 I2 a N tx g c z r) : ERes I0 I2 a N tx g c z r := by
  cases r with
  | inl e => exact ⟨h.1, h.2.1, f.trans h.2.2⟩
  | inr q => exact ⟨h.1, h.2.1, h.2.2.1, h.2.2.2.1, h.2.2.2.2.1, f.trans h.2.2.2.2.2⟩
/-- a byte is put to what waits -/
theorem pushM (W : WW s a w1 w2) {Q : List Nat} {S : List Int32} {I1 : IH} {q : Nat} (hq : q < 128) (hi : i < N) (hQ : Q.length ≤ 100) (h : Yst I a N tx i Q g S) (hI1 : ∀ x k, ¬ (x = a + 110 ∧ k = 23) → I1 x k = I x k) (ho : I1 (a + 110) 23 = nI (opn (q :: Q))) : Yst (wr (wr (wr I1 (a + 123) Q.length (nI q)) (a + 110) 22 (nI (Q.length + 1))) (a + 110) 10 (nI (i + 1))) a N tx (i + 1) (q :: Q) g S := by
  obtain ⟨y1, y2, y3, y4, y5, y6⟩ := h
  refine ⟨y1.of ?_ wr_at (by omega) ?_, ?_, ?_, ⟨?_, hq, ?_⟩, ?_, ?_⟩
  · rw [wr_nj (by decide), wr_nj (by decide), wr_ne (by omega), hI1 _ _ (by omega)]
  · rw [wr_ne (by omega), wr_ne (by omega), wr_ne (by omega)]
    exact funext fun k => hI1 _ _ (by omega)
  · rw [wr_nj (by decide), wr_at]
    rfl
  · rw [wr_nj (by decide), wr_nj (by decide), wr_ne (by omega), ho]
  · rw [wr_ne (by omega), wr_ne (by omega), wr_at]
  · rw [wr_ne (by omega), wr_ne (by omega)]
    exact y4.kept (fun k hk => by rw [wr_nj (by omega), hI1 _ _ (by omega)])
  · rw [wr_nj (by decide), wr_nj (by decide), wr_ne (by omega), hI1 _ _ (by omega)]
    exact y5
  · rw [wr_ne (by omega), wr_ne (by omega), wr_ne (by omega)]
    exact y6.kept (fun k _ _ => hI1 _ _ (by omega))
theorem yrdM (W : WW s a w1 w2) (hc : c < 60) {G : Nat} (hG : G + 100 ≤ 500) (hg : G ≤ g) : ∀ (f : Nat) (wn : Bool) (i : Nat) (Q : List Nat) (S : List Int32) (I : IH) (r : YRes), Yst I a N tx i Q g S → g + S.length + Q.length ≤ G + i → yrd (bt N tx) f wn i Q S = some r → ∃ z I', fX7_takesE_b22 s (a + 110) f (nI c) (bI wn) I = some (z, I') ∧ ERes I I' a N tx g c z r := by
  intro f
  induction f with
  | zero =>
    intro wn i Q S I r hY hb hr
    rw [yrd] at hr
    cases hr
  | succ f ih =>
    intro wn i Q S I r hY hb hr
    have h := hY.1
    have hN := h.1.2
    have hiN := h.2.1.2
    obtain ⟨x, e, hx⟩ := nextM W h
    have q33 : x = 33 ↔ bt N tx i = 33 := hx.2 33 (by omega)
    have q40 : x = 40 ↔ bt N tx i = 40 := hx.2 40 (by omega)
    have q38 : x = 38 ↔ bt N tx i = 38 := hx.2 38 (by omega)
    have q124 : x = 124 ↔ bt N tx i = 124 := hx.2 124 (by omega)
    have q41 : x = 41 ↔ bt N tx i = 41 := hx.2 41 (by omega)
    have hop := opn_le Q
    cases wn with
    | true =>
      rw [yrd] at hr
      by_cases hb33 : bt N tx i = 33 ∨ bt N tx i = 40
      · rw [if_pos hb33] at hr
        have hxe : x = nI (bt N tx i) := (hx.2 _ (by omega)).mpr rfl
        have hi : i < N := bt_in (tx := tx) rfl (by omega)
        have st : ∀ r, fX7_takesE_b43 s (a + 110) (fX7_takesE_b22 s (a + 110) f) (nI c) (bI true) x I = r → fX7_takesE_b22 s (a + 110) (f + 1) (nI c) (bI true) I = r := fun r hr => by
          rw [fX7_takesE_b22]
          refine bs_eq e ?_
          refine if_f (by decide) ?_
          by_cases h33 : x = 33
          · exact if_t h33 hr
          · refine if_f h33 ?_
            have h40 : x = 40 := q40.mpr (by rcases hb33 with h9 | h9; exact absurd (q33.mpr h9) h33; exact h9)
            exact if_t h40 hr
        by_cases h4 : opn Q = 4
        · rw [if_pos h4] at hr
          obtain rfl := Option.some.inj hr
          refine ⟨0, I, st _ ?_, rfl, h.2.1.1, Off.refl⟩
          unfold fX7_takesE_b43
          refine bs_eq (i7_110_23 W) ?_
          rw [hY.2.2.1]
          exact if_t (by rw [h4]; rfl) rfl
        · rw [if_neg h4] at hr
          have ho1 : opn (bt N tx i :: Q) = opn Q + 1 := by rw [opn, if_pos hb33]
          have hP := pushM W (q := bt N tx i) (I1 := wr I (a + 110) 23 (nI (opn Q + 1))) (by omega) hi (by omega) hY (fun x k hk => wr_or (by omega)) (by rw [wr_at, ho1])
          obtain ⟨z, I', e2, r2⟩ := ih true (i + 1) (bt N tx i :: Q) S _ r hP (by rw [List.length_cons]; omega) hr
          refine ⟨z, I', st _ ?_, ERes.pre ((((Off.refl.wr (Or.inl ⟨rfl, by omega⟩)).wr (Or.inr (Or.inr (Or.inl rfl)))).wr (Or.inl ⟨rfl, by omega⟩)).wr (Or.inl ⟨rfl, by omega⟩)) r2⟩
          unfold fX7_takesE_b43
          refine bs_eq (i7_110_23 W) ?_
          rw [hY.2.2.1]
          refine if_f (fun h9 => h4 ((nI_eq (b := 4) (by omega) (by omega)).mp h9)) ?_
          refine bs_eq (i7_110_23 W) ?_
          rw [hY.2.2.1, nI_1]
          refine bs_eq (p7_110_23 W) ?_
          refine bs_eq (e7_110_20 W) ?_
          refine bs_eq (i7_110_22 W) ?_
          rw [wr_nj (by decide), hY.2.1]
          refine bs_eq (s123 W (by omega)) ?_
          refine bs_eq (i7_110_22 W) ?_
          rw [wr_ne (by omega), wr_nj (by decide), hY.2.1, nI_1]
          refine bs_eq (p7_110_22 W) ?_
          refine bs_eq (i7_110_10 W) ?_
          rw [wr_nj (by decide), wr_ne (by omega), wr_nj (by decide), h.2.1.1, nI_1]
          refine bs_eq (p7_110_10 W) ?_
          rw [hxe]
          exact e2
      · rw [if_neg hb33] at hr
        have T := testM (c := c) W hG hg hY hb
        have st : ∀ r, (b2 (fX7_takesTest s (a + 110) I) fun x14 i15 => if x14 = 0 then some (0, i15) else fX7_takesE_b22 s (a + 110) f (nI c) 0 i15) = r → fX7_takesE_b22 s (a + 110) (f + 1) (nI c) (bI true) I = r := fun r hr => by
          rw [fX7_takesE_b22]
          refine bs_eq e ?_
          refine if_f (by decide) ?_
          refine if_f (fun h9 => hb33 (Or.inl (q33.mp h9))) ?_
          exact if_f (fun h9 => hb33 (Or.inr (q40.mp h9))) hr
        cases hp : pTst (bt N tx) i with
        | inl e' =>
          rw [hp] at hr T
          obtain rfl := Option.some.inj hr
          obtain ⟨I', t1, t2, t3⟩ := T
          exact ⟨0, I', st _ (b2_eq t1 (if_t rfl rfl)), rfl, t2, t3⟩
        | inr q =>
          obtain ⟨j, p, M⟩ := q
          rw [hp] at hr T
          obtain ⟨I1, t1, t2, t3, t4⟩ := T
          obtain ⟨z, I', e2, r2⟩ := ih false j _ _ I1 r t2 t4 hr
          exact ⟨z, I', st _ (b2_eq t1 (if_f (by decide) e2)), ERes.pre t3 r2⟩
    | false =>
      rw [yrd] at hr
      by_cases hop2 : bt N tx i = 38 ∨ bt N tx i = 124
      · rw [if_pos hop2] at hr
        have hxe : x = nI (bt N tx i) := (hx.2 _ (by omega)).mpr rfl
        have hi : i < N := bt_in (tx := tx) rfl (by omega)
        have st : ∀ r, fX7_takesE_b122 s (a + 110) (fX7_takesE_b22 s (a + 110) f) (nI c) x I = r → fX7_takesE_b22 s (a + 110) (f + 1) (nI c) (bI false) I = r := fun r hr => by
          rw [fX7_takesE_b22]
          refine bs_eq e ?_
          refine if_t rfl ?_
          by_cases h38 : x = 38
          · exact if_t h38 hr
          · refine if_f h38 ?_
            have h124 : x = 124 := q124.mpr (by rcases hop2 with h9 | h9; exact absurd (q38.mpr h9) h38; exact h9)
            exact if_t h124 hr
        obtain ⟨I1, e1, y1, f1, n1⟩ := settleM (c := c) W hop2 Q 1000 S I (by omega) hY (by omega) (by omega)
        generalize hW' : (stl (bt N tx i) Q S).1 = Q' at *
        generalize hS' : (stl (bt N tx i) Q S).2 = S' at *
        have ho1 : opn (bt N tx i :: Q') = opn Q' := by rw [opn, if_neg (by omega), Nat.add_zero]
        have hP := pushM W (q := bt N tx i) (I1 := I1) (by omega) hi (by omega) y1 (fun _ _ _ => rfl) (by rw [ho1]; exact y1.2.2.1)
        obtain ⟨z, I', e2, r2⟩ := ih true (i + 1) (bt N tx i :: Q') S' _ r hP (by rw [List.length_cons]; omega) hr
        refine ⟨z, I', st _ ?_, ERes.pre (((f1.wr (Or.inr (Or.inr (Or.inl rfl)))).wr (Or.inl ⟨rfl, by omega⟩)).wr (Or.inl ⟨rfl, by omega⟩)) r2⟩
        unfold fX7_takesE_b122
        rw [hxe]
        refine bs_eq e1 ?_
        refine bs_eq (e7_110_20 W) ?_
        refine bs_eq (i7_110_22 W) ?_
        rw [y1.2.1]
        refine bs_eq (s123 W (by omega)) ?_
        refine bs_eq (i7_110_22 W) ?_
        rw [wr_ne (by omega), y1.2.1, nI_1]
        refine bs_eq (p7_110_22 W) ?_
        refine bs_eq (i7_110_10 W) ?_
        rw [wr_nj (by decide), wr_ne (by omega), y1.1.2.1.1, nI_1]
        refine bs_eq (p7_110_10 W) ?_
        exact e2
      · rw [if_neg hop2] at hr
        obtain ⟨I1, e1, y1, f1, n1⟩ := settleM (c := c) W (Or.inr rfl) Q 1000 S I (by omega) hY (by omega) (by omega)
        generalize hW' : (stl 124 Q S).1 = Q' at *
        generalize hS' : (stl 124 Q S).2 = S' at *
        have f2 : Off (OE a g c) I (wr I1 (a + 121) c (nI (g + S'.length))) := f1.wr (Or.inr (Or.inr (Or.inr ⟨rfl, rfl⟩)))
        have k2 : ∀ x k, x ≠ a + 121 → wr I1 (a + 121) c (nI (g + S'.length)) x k = I1 x k := fun x k hxx => by rw [wr_ne hxx]
        have hto : wr I1 (a + 121) c (nI (g + S'.length)) (a + 121) c = nI (g + S'.length) := wr_at
        have st : ∀ r, (if nI Q'.length = 0 then some (1, wr I1 (a + 121) c (nI (g + S'.length))) else if x = 41 then (gI s (wr I1 (a + 121) c (nI (g + S'.length))) 7 (a + 110) 22).bind fun x7 => (pI s (wr I1 (a + 121) c (nI (g + S'.length))) 7 (a + 110) 22 (x7 - 1)).bind fun i8 => (gI s i8 7 (a + 110) 23).bind fun x9 => (pI s i8 7 (a + 110) 23 (x9 - 1)).bind fun i10 => (gI s i10 7 (a + 110) 10).bind fun x11 => (pI s i10 7 (a + 110) 10 (x11 + 1)).bind fun i12 => (fX7_whole s (a + 110) i12).bind fun i13 => fX7_takesE_b22 s (a + 110) f (nI c) (bI false) i13 else some (0, wr I1 (a + 121) c (nI (g + S'.length)))) = r → fX7_takesE_b22 s (a + 110) (f + 1) (nI c) (bI false) I = r := fun r hr => by
          rw [fX7_takesE_b22]
          refine bs_eq e ?_
          refine if_t rfl ?_
          refine if_f (fun h9 => hop2 (Or.inl (q38.mp h9))) ?_
          refine if_f (fun h9 => hop2 (Or.inr (q124.mp h9))) ?_
          refine bs_eq e1 ?_
          refine bs_eq (e7_110_18 W) ?_
          refine bs_eq (i7_110_21 W) ?_
          rw [y1.2.2.2.2.1]
          refine bs_eq (s121 W hc) ?_
          refine bs_eq (i7_110_22 W) ?_
          rw [k2 _ _ (by omega), y1.2.1]
          exact hr
        generalize hI2 : wr I1 (a + 121) c (nI (g + S'.length)) = I2 at st f2 k2 hto
        have y2 : Yst I2 a N tx i Q' g S' := by
          obtain ⟨z1, z2, z3, z4, z5, z6⟩ := y1
          exact ⟨z1.of (k2 _ _ (by omega)) ((k2 _ _ (by omega)).trans z1.2.1.1) z1.2.1.2 (funext fun k => k2 _ _ (by omega)), (k2 _ _ (by omega)).trans z2, (k2 _ _ (by omega)).trans z3, z4.kept (fun k _ => k2 _ _ (by omega)), (k2 _ _ (by omega)).trans z5, z6.kept (fun k _ _ => k2 _ _ (by omega))⟩
        cases Q' with
        | nil =>
          obtain rfl := Option.some.inj hr
          exact ⟨1, I2, st _ (if_t (by decide) rfl), rfl, y2.1, y2.2.2.2.2.1, y2.2.2.2.2.2, hto, f2⟩
        | cons q Q2 =>
          have hlen : (q :: Q2).length = Q2.length + 1 := rfl
          have hQ0 : ¬ nI (q :: Q2).length = 0 := by rw [hlen]; exact nI_ne0 (by omega) (by rw [hlen] at n1; omega)
          rw [hlen] at n1
          have hr2 : (if bt N tx i = 41 then (if q = 40 then yrd (bt N tx) f false (i + 1) (whl Q2 S').1 (whl Q2 S').2 else none) else some (.inl i)) = some r := hr
          by_cases h41 : bt N tx i = 41
          · rw [if_pos h41] at hr2
            by_cases h40 : q = 40
            · rw [if_pos h40] at hr2
              subst h40
              have hi : i < N := bt_in h41 (by omega)
              obtain ⟨z1, z2, z3, z4, z5, z6⟩ := y2
              have ho1 : opn (40 :: Q2) = opn Q2 + 1 := by rw [opn, if_pos (Or.inr rfl)]
              have hop3 := opn_le Q2
              rw [ho1] at z3
              rw [hlen] at z2
              have hY3 : Yst (wr (wr (wr I2 (a + 110) 22 (nI Q2.length)) (a + 110) 23 (nI (opn Q2))) (a + 110) 10 (nI (i + 1))) a N tx (i + 1) Q2 g S' := by
                refine ⟨z1.of ?_ wr_at (by omega) ?_, ?_, ?_, ?_, ?_, ?_⟩
                · rw [wr_nj (by decide), wr_nj (by decide), wr_nj (by decide)]
                · rw [wr_ne (by omega), wr_ne (by omega), wr_ne (by omega)]
                · rw [wr_nj (by decide), wr_nj (by decide), wr_at]
                · rw [wr_nj (by decide), wr_at]
                · rw [wr_ne (by omega), wr_ne (by omega), wr_ne (by omega)]
                  exact z4.2.2
                · rw [wr_nj (by decide), wr_nj (by decide), wr_nj (by decide)]
                  exact z5
                · rw [wr_ne (by omega), wr_ne (by omega), wr_ne (by omega)]
                  exact z6
              obtain ⟨I4, e4, y4, f4, n4⟩ := wholeM (c := c) W Q2 1000 S' _ (by omega) hY3 (by omega) (by omega) (by omega)
              obtain ⟨z, I', e5, r5⟩ := ih false (i + 1) _ _ I4 r y4 (by omega) hr2
              refine ⟨z, I', st _ (if_f hQ0 (if_t (q41.mpr h41) ?_)), ERes.pre ((((f2.wr (Or.inl ⟨rfl, by omega⟩)).wr (Or.inl ⟨rfl, by omega⟩)).wr (Or.inl ⟨rfl, by omega⟩)).trans f4) r5⟩
              refine bs_eq (i7_110_22 W) ?_
              rw [z2, nI_pred]
              refine bs_eq (p7_110_22 W) ?_
              refine bs_eq (i7_110_23 W) ?_
              rw [wr_nj (by decide), z3, nI_pred]
              refine bs_eq (p7_110_23 W) ?_
              refine bs_eq (i7_110_10 W) ?_
              rw [wr_nj (by decide), wr_nj (by decide), z1.2.1.1, nI_1]
              refine bs_eq (p7_110_10 W) ?_
              refine bs_eq e4 ?_
              exact e5
            · rw [if_neg h40] at hr2
              cases hr2
          · rw [if_neg h41] at hr2
            obtain rfl := Option.some.inj hr2
            exact ⟨0, I2, st _ (if_f hQ0 (if_f (fun h9 => h41 (q41.mp h9)) rfl)), rfl, y2.1.2.1.1, f2⟩
def OC (a g c x k : Nat) : Prop := (x = a + 110 ∧ (k = 10 ∨ k = 11 ∨ k = 21 ∨ k = 22 ∨ k = 23)) ∨ (x = a + 122 ∧ g ≤ k) ∨ x = a + 123 ∨ ((a + 117 ≤ x ∧ x ≤ a + 121) ∧ k = c)
def OX (a g c x k : Nat) : Prop := (x = a + 110 ∧ (k = 10 ∨ k = 11 ∨ k = 21 ∨ k = 22 ∨ k = 23)) ∨ (x = a + 122 ∧ g ≤ k) ∨ x = a + 123 ∨ ((x = a + 120 ∨ x = a + 121) ∧ k = c)
theorem OX_OC {x k : Nat} (h : OX a g c x k) : OC a g c x k := by
  unfold OX at h
  unfold OC
  omega
theorem OE_OX {x k : Nat} (h : OE a g c x k) : OX a g c x k := by
  unfold OE at h
  unfold OX
  omega
theorem O1_OC {x k : Nat} (h : O1 a x k) : OC a g c x k := by
  unfold O1 at h
  unfold OC
  omega
/-- a whole expression -/
theorem exprM (W : WW s a w1 w2) (hc : c < 60) {G : Nat} (hG : G + 100 ≤ 500) (hg : G ≤ g) (h : Mst I a N tx i) (h21 : I (a + 110) 21 = nI g) (hb : g ≤ G + i) : match pE (bt N tx) (pF (bt N tx) 8 0) i with
  | .inl e => ∃ I', fX7_takesE s (a + 110) (nI c) I = some (0, I') ∧ I' (a + 110) 10 = nI e ∧ Off (OX a g c) I I'
  | .inr (j, p, M) => ∃ I', fX7_takesE s (a + 110) (nI c) I = some (1, I') ∧ Mst I' a N tx j ∧ I' (a + 110) 21 = nI (g + p.length) ∧ SS (I' (a + 122)) g p ∧ I' (a + 120) c = nI g ∧ I' (a + 121) c = nI (g + p.length) ∧ LG p ∧ EV p M ∧ i + p.length ≤ j ∧ i < j ∧ j ≤ N ∧ Off (OX a g c) I I' := by
  have T := yTop (b := bt N tx) (fun j hj => bt_out hj) h.1.2 h.2.1.2
  have f0 : Off (OX a g c) I (wr (wr (wr I (a + 110) 22 0) (a + 110) 23 0) (a + 120) c (nI g)) := ((Off.refl.wr (Or.inl ⟨rfl, by omega⟩)).wr (Or.inl ⟨rfl, by omega⟩)).wr (Or.inr (Or.inr (Or.inr ⟨by omega, rfl⟩)))
  have st : ∀ r, fX7_takesE_b22 s (a + 110) 1000 (nI c) (bI true) (wr (wr (wr I (a + 110) 22 0) (a + 110) 23 0) (a + 120) c (nI g)) = r → fX7_takesE s (a + 110) (nI c) I = r := fun r hr => by
    unfold fX7_takesE
    refine bs_eq (p7_110_22 W) ?_
    refine bs_eq (p7_110_23 W) ?_
    refine bs_eq (e7_110_17 W) ?_
    refine bs_eq (i7_110_21 W) ?_
    rw [wr_nj (by decide), wr_nj (by decide), h21]
    refine bs_eq (s120 W hc) ?_
    exact hr
  have hY : Yst (wr (wr (wr I (a + 110) 22 0) (a + 110) 23 0) (a + 120) c (nI g)) a N tx i [] g [] := by
    refine ⟨h.of ?_ ?_ h.2.1.2 ?_, ?_, ?_, trivial, ?_, fun k t ht => absurd ht (by simp)⟩
    · rw [wr_ne (by omega), wr_nj (by decide), wr_nj (by decide)]
    · rw [wr_ne (by omega), wr_nj (by decide), wr_nj (by decide)]
      exact h.2.1.1
    · rw [wr_ne (by omega), wr_ne (by omega), wr_ne (by omega)]
    · rw [wr_ne (by omega), wr_nj (by decide), wr_at]
      rfl
    · rw [wr_ne (by omega), wr_at]
      rfl
    · rw [wr_ne (by omega), wr_nj (by decide), wr_nj (by decide), h21]
      rfl
  have h120 : wr (wr (wr I (a + 110) 22 0) (a + 110) 23 0) (a + 120) c (nI g) (a + 120) c = nI g := wr_at
  generalize wr (wr (wr I (a + 110) 22 0) (a + 110) 23 0) (a + 120) c (nI g) = I0 at *
  cases hE : pE (bt N tx) (pF (bt N tx) 8 0) i with
  | inl e =>
    rw [hE] at T
    obtain ⟨t1, t2, t3⟩ := T
    obtain ⟨z, I', e1, r1, r2, r3⟩ := yrdM W hc hG hg 1000 true i [] [] I0 _ hY (by simp only [List.length_nil]; omega) t3
    subst r1
    exact ⟨I', st _ e1, r2, f0.trans (r3.mono (fun x k h => OE_OX h))⟩
  | inr q =>
    obtain ⟨j, p, M⟩ := q
    rw [hE] at T
    obtain ⟨t1, t2, t3, t4, t5, t6⟩ := T
    obtain ⟨z, I', e1, r1, r2, r3, r4, r5, r6⟩ := yrdM W hc hG hg 1000 true i [] [] I0 _ hY (by simp only [List.length_nil]; omega) t6
    subst r1
    refine ⟨I', st _ e1, r2, r3, r4, ?_, r5, t4, t5, by omega, t1, t2, f0.trans (r6.mono (fun x k h => OE_OX h))⟩
    rw [r6 (a + 120) c (by unfold OE; omega)]
    exact h120
end MEXPR
