/-! LAYER 2: the reference's reader over the cells -/
def Mst (I : IH) (a N : Nat) (tx : Nat → Nat) (i : Nat) : Prop := (I (a + 110) 9 = nI N ∧ N ≤ 100) ∧ (I (a + 110) 10 = nI i ∧ i ≤ N) ∧ ∀ j, j < N → tx j < 256 ∧ (tx j < 128 → I (a + 115) j = nI (tx j)) ∧ (128 ≤ tx j → I (a + 115) j < 0)
/-- cells apart stay -/
def Off (P : Nat → Nat → Prop) (I I' : IH) : Prop := ∀ x k, ¬ P x k → I' x k = I x k
theorem Off.refl {P : Nat → Nat → Prop} {I : IH} : Off P I I := fun _ _ _ => rfl
theorem Off.trans {P : Nat → Nat → Prop} {I I1 I2 : IH} (h : Off P I I1) (h2 : Off P I1 I2) : Off P I I2 := fun x k hx => (h2 x k hx).trans (h x k hx)
theorem Off.mono {P Q : Nat → Nat → Prop} {I I1 : IH} (h : Off P I I1) (hm : ∀ x k, P x k → Q x k) : Off Q I I1 := fun x k hx => h x k (fun h9 => hx (hm x k h9))
theorem Off.wr {P : Nat → Nat → Prop} {I I1 : IH} (h : Off P I I1) {x k : Nat} {v : Int32} (hp : P x k) : Off P I (wr I1 x k v) := fun x' k' hx => by
  rw [wr_or (by
    by_cases h1 : x' = x
    · by_cases h2 : k' = k
      · rw [h1, h2] at hx
        exact absurd hp hx
      · exact Or.inr h2
    · exact Or.inl h1)]
  exact h x' k' hx
def O1 (a x k : Nat) : Prop := x = a + 110 ∧ (k = 10 ∨ k = 11)
def OE (a g c x k : Nat) : Prop := (x = a + 110 ∧ (k = 10 ∨ k = 11 ∨ k = 21 ∨ k = 22 ∨ k = 23)) ∨ (x = a + 122 ∧ g ≤ k) ∨ x = a + 123 ∨ (x = a + 121 ∧ k = c)
theorem NX_m1 : NX (-1) 255 := ⟨by omega, fun k hk => ⟨fun he => by
  have := Int32.toInt_inj.mpr he
  rw [nI_toInt (by omega)] at this
  have h0 : (-1 : Int32).toInt = -1 := rfl
  omega, fun he => by omega⟩⟩
theorem NX_neg {y : Int32} (h : y < 0) : NX y 255 := ⟨by omega, fun k hk => ⟨fun he => by
  rw [he] at h
  exact absurd h (nI_pos (by omega)), fun he => by omega⟩⟩
theorem NX_in {x : Int32} {c lo hi : Nat} (h : NX x c) (h1 : lo ≤ hi) (h2 : hi < 128) : fX7_in x (nI lo) (nI hi) = if lo ≤ c ∧ c ≤ hi then 1 else 0 := by
  by_cases hc : lo ≤ c ∧ c ≤ hi
  · rw [if_pos hc, (h.2 c (by omega)).mpr rfl]
    unfold fX7_in
    rw [if_neg (nI_nlt hc.1 (by omega)), if_neg (nI_nlt hc.2 (by omega))]
  · rw [if_neg hc]
    rcases rng x lo hi h1 (by omega) with ⟨j, j1, j2, rfl⟩ | ⟨-, q⟩ | ⟨-, -, -, q⟩
    · exact absurd ((h.2 j (by omega)).mp rfl) (by omega)
    · exact q
    · exact q
section MREAD
variable {s : SH} {I : IH} {a w1 w2 N i g c : Nat} {tx : Nat → Nat}
theorem txX (h : Mst I a N tx i) {j : Nat} (hj : j < N) : NX (I (a + 115) j) (bt N tx j) := by
  obtain ⟨t1, t2, t3⟩ := h.2.2 j hj
  unfold bt
  by_cases h128 : tx j < 128
  · rw [if_pos ⟨hj, h128⟩, t2 h128]
    exact ⟨by omega, fun k hk => nI_eq (by omega) (by omega)⟩
  · rw [if_neg (fun h9 => h128 h9.2)]
    exact NX_neg (t3 (by omega))
theorem bt_out {j : Nat} (hj : N ≤ j) : bt N tx j = 255 := by
  unfold bt
  rw [if_neg (fun h9 => by omega)]
theorem nextM (W : WW s a w1 w2) (h : Mst I a N tx i) : ∃ x, fX7_next s I (a + 110) = some x ∧ NX x (bt N tx i) := by
  have hN := h.1.2
  unfold fX7_next
  by_cases hi : i < N
  · refine ⟨I (a + 115) i, ?_, txX h hi⟩
    refine bs_eq (i7_110_10 W) ?_
    refine bs_eq (i7_110_9 W) ?_
    rw [h.1.1, h.2.1.1]
    refine if_f (nI_ge hi (by omega)) ?_
    refine bs_eq (e7_110_12 W) ?_
    refine bs_eq (i7_110_10 W) ?_
    rw [h.2.1.1]
    refine bs_eq (r115 W (by omega)) ?_
    rfl
  · refine ⟨-1, ?_, ?_⟩
    · refine bs_eq (i7_110_10 W) ?_
      refine bs_eq (i7_110_9 W) ?_
      rw [h.1.1, h.2.1.1]
      have := h.2.1.2
      exact if_t (nI_le (by omega) (by omega)) rfl
    · rw [bt_out (by omega)]
      exact NX_m1
theorem secondM (W : WW s a w1 w2) (h : Mst I a N tx i) : ∃ x, fX7_second s I (a + 110) = some x ∧ NX x (bt N tx (i + 1)) := by
  have hN := h.1.2
  have hiN := h.2.1.2
  unfold fX7_second
  by_cases hi : i + 1 < N
  · refine ⟨I (a + 115) (i + 1), ?_, txX h hi⟩
    refine bs_eq (i7_110_10 W) ?_
    refine bs_eq (i7_110_9 W) ?_
    rw [h.1.1, h.2.1.1, nI_1]
    refine if_f (nI_ge hi (by omega)) ?_
    refine bs_eq (e7_110_12 W) ?_
    refine bs_eq (i7_110_10 W) ?_
    rw [h.2.1.1, nI_1]
    refine bs_eq (r115 W (by omega)) ?_
    rfl
  · refine ⟨-1, ?_, ?_⟩
    · refine bs_eq (i7_110_10 W) ?_
      refine bs_eq (i7_110_9 W) ?_
      rw [h.1.1, h.2.1.1, nI_1]
      exact if_t (nI_le (by omega) (by omega)) rfl
    · rw [bt_out (by omega)]
      exact NX_m1
theorem Mst.of {I' : IH} {i' : Nat} (h : Mst I a N tx i) (h1 : I' (a + 110) 9 = I (a + 110) 9) (h2 : I' (a + 110) 10 = nI i') (h3 : i' ≤ N) (h4 : I' (a + 115) = I (a + 115)) : Mst I' a N tx i' := by
  obtain ⟨q1, q2, q3⟩ := h
  exact ⟨by rw [h1]; exact q1, ⟨h2, h3⟩, by rw [h4]; exact q3⟩
theorem Mst.off {P : Nat → Nat → Prop} {I' : IH} {i' : Nat} (h : Mst I a N tx i) (f : Off P I I') (h2 : I' (a + 110) 10 = nI i') (h3 : i' ≤ N) (hp : ¬ P (a + 110) 9) (hq : ∀ k, ¬ P (a + 115) k) : Mst I' a N tx i' := h.of (f _ _ hp) h2 h3 (funext fun k => f _ _ (hq k))
theorem bt_in {k : Nat} (h : bt N tx i = k) (hk : k < 255) : i < N := Nat.lt_of_not_le (fun h9 => by
  rw [bt_out h9] at h
  omega)
theorem stepM (h : Mst I a N tx i) (hi : i < N) : Mst (wr I (a + 110) 10 (nI (i + 1))) a N tx (i + 1) := h.of (wr_nj (by decide)) wr_at (by omega) (wr_ne (by omega))
/-- at++ -/
theorem incM (W : WW s a w1 w2) (h : Mst I a N tx i) {α : Type} {K : IH → Option α} {r : Option α} (k : K (wr I (a + 110) 10 (nI (i + 1))) = r) : ((gI s I 7 (a + 110) 10).bind fun x => (pI s I 7 (a + 110) 10 (x + 1)).bind fun I' => K I') = r := by
  refine bs_eq (i7_110_10 W) ?_
  rw [h.2.1.1, nI_1]
  exact bs_eq (p7_110_10 W) k
theorem signM (W : WW s a w1 w2) (h : Mst I a N tx i) {k : Nat} (hk : k < 128) : fX7_takesSign s (a + 110) (nI k) I = if bt N tx i = k then some (1, wr I (a + 110) 10 (nI (i + 1))) else some (0, I) := by
  obtain ⟨x, e, hx⟩ := nextM W h
  unfold fX7_takesSign
  refine bs_eq e ?_
  by_cases hc : bt N tx i = k
  · rw [if_pos hc]
    exact if_t ((hx.2 k hk).mpr hc) (incM W h rfl)
  · rw [if_neg hc]
    exact if_f (fun h9 => hc ((hx.2 k hk).mp h9)) rfl
theorem digM (W : WW s a w1 w2) (h : Mst I a N tx i) : fX7_isDigit s I (a + 110) = some (if dig (bt N tx i) = true then 1 else 0) := by
  obtain ⟨x, e, hx⟩ := nextM W h
  unfold fX7_isDigit
  refine bs_eq e ?_
  rw [show fX7_in x 48 57 = _ from NX_in (lo := 48) (hi := 57) hx (by omega) (by omega)]
  unfold dig
  simp only [Bool.and_eq_true, decide_eq_true_eq]
theorem numM (W : WW s a w1 w2) (h : Mst I a N tx i) : match pNum (bt N tx) i with
  | none => fX7_takesNumber s (a + 110) I = some (0, I)
  | some (j, v) => ∃ I', fX7_takesNumber s (a + 110) I = some (1, I') ∧ Off (O1 a) I I' ∧ Mst I' a N tx j ∧ I' (a + 110) 11 = nI v := by
  have dg : ∀ i, dig (bt N tx i) = true → i < N ∧ 48 ≤ bt N tx i ∧ bt N tx i ≤ 57 := fun i hd => by
    unfold dig at hd
    simp only [Bool.and_eq_true, decide_eq_true_eq] at hd
    exact ⟨bt_in (N := N) (tx := tx) (i := i) rfl (by omega), hd⟩
  have one : ∀ (J : IH) (fuel v k i' : Nat), k < 2 → v < 100 → Mst J a N tx i' → J (a + 110) 11 = nI v → dig (bt N tx i') = true → ∃ J', fX7_takesNumber_b16 s (a + 110) (fuel + 1) (nI k) J = fX7_takesNumber_b16 s (a + 110) fuel (nI (k + 1)) J' ∧ Off (O1 a) J J' ∧ Mst J' a N tx (i' + 1) ∧ J' (a + 110) 11 = nI (10 * v + (bt N tx i' - 48)) := fun J fuel v k i' hk hv hJ h11 hd => by
    obtain ⟨d0, d1, d2⟩ := dg i' hd
    obtain ⟨x, e, hx⟩ := nextM W hJ
    have hxe : x = nI (bt N tx i') := (hx.2 _ (by omega)).mpr rfl
    have h10 : (10 : Int32) * nI v + nI (bt N tx i') - 48 = nI (10 * v + (bt N tx i' - 48)) := by
      rw [show (10 : Int32) * nI v = nI (10 * v) from nI_mul 10 v, nI_add, show nI (10 * v + bt N tx i') - 48 = nI (10 * v + bt N tx i' - 48) from nI_sub (j := 48) (by omega)]
      congr 1
      omega
    have hJ2 : Mst (wr J (a + 110) 11 (nI (10 * v + (bt N tx i' - 48)))) a N tx i' := hJ.of (wr_nj (by decide)) (by rw [wr_nj (by decide)]; exact hJ.2.1.1) hJ.2.1.2 (wr_ne (by omega))
    refine ⟨wr (wr J (a + 110) 11 (nI (10 * v + (bt N tx i' - 48)))) (a + 110) 10 (nI (i' + 1)), ?_, (Off.refl.wr ⟨rfl, Or.inr rfl⟩).wr ⟨rfl, Or.inl rfl⟩, stepM hJ2 d0, by rw [wr_nj (by decide), wr_at]⟩
    rw [fX7_takesNumber_b16]
    refine if_f (nI_ge (b := 2) hk (by omega)) ?_
    refine bs_eq (digM W hJ) ?_
    rw [if_pos hd]
    refine if_f (by decide) ?_
    refine bs_eq (i7_110_11 W) ?_
    refine bs_eq e ?_
    rw [h11, hxe, h10]
    refine bs_eq (p7_110_11 W) ?_
    rw [← nI_1 k]
    exact incM W hJ2 rfl
  have stop : ∀ (J : IH) (fuel k i' : Nat), k < 2 → Mst J a N tx i' → ¬ dig (bt N tx i') = true → fX7_takesNumber_b16 s (a + 110) (fuel + 1) (nI k) J = some (1, J) := fun J fuel k i' hk hJ hd => by
    rw [fX7_takesNumber_b16]
    refine if_f (nI_ge (b := 2) hk (by omega)) ?_
    refine bs_eq (digM W hJ) ?_
    rw [if_neg hd]
    exact if_t rfl rfl
  unfold pNum
  by_cases hd : dig (bt N tx i) = true
  · rw [if_pos hd]
    obtain ⟨d0, d1, d2⟩ := dg i hd
    have h0 : Mst (wr I (a + 110) 11 0) a N tx i := h.of (wr_nj (by decide)) (by rw [wr_nj (by decide)]; exact h.2.1.1) h.2.1.2 (wr_ne (by omega))
    obtain ⟨J1, e1, f1, m1, v1⟩ := one _ 999 0 0 i (by omega) (by omega) h0 wr_at hd
    have f0 : Off (O1 a) I (wr I (a + 110) 11 0) := Off.refl.wr ⟨rfl, Or.inr rfl⟩
    have st : ∀ r, fX7_takesNumber_b16 s (a + 110) 999 (nI 1) J1 = r → fX7_takesNumber s (a + 110) I = r := fun r hr => by
      unfold fX7_takesNumber
      refine bs_eq (digM W h) ?_
      rw [if_pos hd]
      refine if_f (by decide) ?_
      refine bs_eq (p7_110_11 W) ?_
      exact e1.trans hr
    by_cases hd2 : dig (bt N tx (i + 1)) = true
    · rw [if_pos hd2]
      obtain ⟨g0, g1, g2⟩ := dg (i + 1) hd2
      obtain ⟨J2, e2, f2, m2, v2⟩ := one J1 998 _ 1 (i + 1) (by omega) (by omega) m1 v1 hd2
      refine ⟨J2, st _ ?_, (f0.trans f1).trans f2, m2, ?_⟩
      · refine e2.trans ?_
        rw [fX7_takesNumber_b16]
        exact if_t (by decide) rfl
      · rw [v2]
        congr 1
        omega
    · rw [if_neg hd2]
      refine ⟨J1, st _ (stop J1 998 1 (i + 1) (by omega) m1 hd2), f0.trans f1, m1, ?_⟩
      rw [v1]
      congr 1
      omega
  · rw [if_neg hd]
    show fX7_takesNumber s (a + 110) I = some (0, I)
    unfold fX7_takesNumber
    refine bs_eq (digM W h) ?_
    rw [if_neg hd]
    exact if_t rfl rfl
/-- what waits, by the cells -/
def WS (f : Nat → Int32) : List Nat → Prop
  | [] => True
  | c :: W => f W.length = nI c ∧ c < 128 ∧ WS f W
theorem WS.kept {f f' : Nat → Int32} : ∀ {W : List Nat}, WS f W → (∀ k, k < W.length → f' k = f k) → WS f' W
  | [], _, _ => trivial
  | c :: W, h, k => ⟨by rw [k W.length (Nat.lt_succ_self _)]; exact h.1, h.2.1, h.2.2.kept (fun q hq => k q (Nat.lt_succ_of_lt hq))⟩
/-- signs, by the cells -/
def SS (f : Nat → Int32) (g : Nat) (S : List Int32) : Prop := ∀ (k : Nat) (t : Int32), S[k]? = some t → f (g + k) = t
theorem SS.kept {f f' : Nat → Int32} {S : List Int32} (h : SS f g S) (k : ∀ q, g ≤ q → q < g + S.length → f' q = f q) : SS f' g S := fun q t ht => by
  rw [k (g + q) (by omega) (by have := (List.getElem?_eq_some_iff.mp ht).1; omega)]
  exact h q t ht
theorem SS.snoc {f : Nat → Int32} {S : List Int32} (h : SS f g S) {t : Int32} (ht : f (g + S.length) = t) : SS f g (S ++ [t]) := fun q u hu => by
  by_cases hq : q < S.length
  · rw [List.getElem?_append_left hq] at hu
    exact h q u hu
  · rw [List.getElem?_append_right (by omega)] at hu
    have h3 := (List.getElem?_eq_some_iff.mp hu).1
    have h4 : q = S.length := by simp at h3; omega
    subst h4
    simp at hu
    rw [← hu]
    exact ht
theorem SS.sg_eq {f : Nat → Int32} : ∀ {S : List Int32} {g : Nat}, SS f g S → sgL f g S.length = S
  | [], _, _ => rfl
  | t :: S, g, h => by
    have h0 : f (g + 0) = t := h 0 t rfl
    have h1 : SS f (g + 1) S := fun q u hu => by
      have := h (q + 1) u (by rw [List.getElem?_cons_succ]; exact hu)
      rw [show g + 1 + q = g + (q + 1) by omega]
      exact this
    show f g :: sgL f (g + 1) S.length = t :: S
    rw [SS.sg_eq h1]
    rw [Nat.add_zero] at h0
    rw [h0]
/-- the reference's state inside an expression -/
def Yst (I : IH) (a N : Nat) (tx : Nat → Nat) (i : Nat) (W : List Nat) (g : Nat) (S : List Int32) : Prop := Mst I a N tx i ∧ I (a + 110) 22 = nI W.length ∧ I (a + 110) 23 = nI (opn W) ∧ WS (I (a + 123)) W ∧ I (a + 110) 21 = nI (g + S.length) ∧ SS (I (a + 122)) g S
theorem putM {S : List Int32} (W : WW s a w1 w2) (h5 : I (a + 110) 21 = nI (g + S.length)) (hb : g + S.length < 500) (t : Int32) : fX7_put s (a + 110) t I = some (wr (wr I (a + 122) (g + S.length) t) (a + 110) 21 (nI (g + S.length + 1))) := by
  unfold fX7_put
  refine bs_eq (e7_110_19 W) ?_
  refine bs_eq (i7_110_21 W) ?_
  rw [h5]
  refine bs_eq (s122 W hb) ?_
  refine bs_eq (i7_110_21 W) ?_
  rw [wr_ne (by omega), h5, nI_1]
  exact bs_eq (p7_110_21 W) rfl
theorem wholeM (W : WW s a w1 w2) : ∀ (Q : List Nat) (fuel : Nat) (S : List Int32) (I : IH), Q.length < fuel → Yst I a N tx i Q g S → g + S.length + Q.length ≤ 500 → opn Q ≤ 100 → Q.length ≤ 100 → ∃ I', fX7_whole_b0 s (a + 110) fuel I = some I' ∧ Yst I' a N tx i (whl Q S).1 g (whl Q S).2 ∧ Off (OE a g c) I I' ∧ g + (whl Q S).2.length + (whl Q S).1.length = g + S.length + Q.length := by
  intro Q
  induction Q with
  | nil =>
    intro fuel S I hf h hb ho hl
    obtain ⟨u, rfl⟩ : ∃ u, fuel = u + 1 := ⟨fuel - 1, by omega⟩
    refine ⟨I, ?_, h, Off.refl, rfl⟩
    rw [fX7_whole_b0]
    refine bs_eq (i7_110_22 W) ?_
    rw [h.2.1]
    exact if_t (by decide) rfl
  | cons q Q ih =>
    intro fuel S I hf h hb ho hl
    obtain ⟨u, rfl⟩ : ∃ u, fuel = u + 1 := ⟨fuel - 1, by omega⟩
    have hlen : (q :: Q).length = Q.length + 1 := rfl
    rw [hlen] at hf hb hl
    obtain ⟨y1, y2, y3, y4, y5, y6⟩ := h
    rw [hlen] at y2
    rw [whl, fX7_whole_b0]
    by_cases hq : q = 33
    · rw [if_pos hq]
      subst hq
      have ho1 : opn (33 :: Q) = opn Q + 1 := by rw [opn, if_pos (Or.inl rfl)]
      rw [ho1] at y3 ho
      have e1 := putM (S := S) W y5 (by omega) (-33)
      generalize hI1 : wr (wr I (a + 122) (g + S.length) (-33)) (a + 110) 21 (nI (g + S.length + 1)) = I1 at e1
      have k1 : ∀ x k, ¬ (x = a + 122 ∧ k = g + S.length) → ¬ (x = a + 110 ∧ k = 21) → I1 x k = I x k := fun x k h1 h2 => by rw [← hI1, wr_or (by omega), wr_or (by omega)]
      have hY : Yst (wr (wr I1 (a + 110) 22 (nI Q.length)) (a + 110) 23 (nI (opn Q))) a N tx i Q g (S ++ [-33]) := by
        refine ⟨y1.of ?_ ?_ y1.2.1.2 ?_, ?_, wr_at, ?_, ?_, ?_⟩
        · rw [wr_nj (by decide), wr_nj (by decide), k1 _ _ (by omega) (by omega)]
        · rw [wr_nj (by decide), wr_nj (by decide), k1 _ _ (by omega) (by omega)]
          exact y1.2.1.1
        · rw [wr_ne (by omega), wr_ne (by omega)]
          exact funext fun k => k1 _ _ (by omega) (by omega)
        · rw [wr_nj (by decide), wr_at]
        · rw [wr_ne (by omega), wr_ne (by omega)]
          exact y4.2.2.kept (fun k _ => k1 _ _ (by omega) (by omega))
        · rw [wr_nj (by decide), wr_nj (by decide), ← hI1, wr_at]
          simp only [List.length_append, List.length_cons, List.length_nil]
          rfl
        · rw [wr_ne (by omega), wr_ne (by omega)]
          refine SS.snoc (y6.kept (fun k k1' k2' => k1 _ _ (by omega) (by omega))) ?_
          rw [← hI1, wr_ne (by omega), wr_at]
      obtain ⟨I2, e2, g2, f2, n2⟩ := ih u (S ++ [-33]) _ (by omega) hY (by simp only [List.length_append, List.length_cons, List.length_nil]; omega) (by omega) (by omega)
      refine ⟨I2, ?_, g2, Off.trans (fun x k hx => ?_) f2, ?_⟩
      · refine bs_eq (i7_110_22 W) ?_
        rw [y2]
        refine if_f (nI_nle (by omega) (by omega)) ?_
        refine bs_eq (e7_110_20 W) ?_
        refine bs_eq (i7_110_22 W) ?_
        rw [y2, nI_pred]
        refine bs_eq (r123 W (by omega)) ?_
        refine if_t y4.1 ?_
        refine bs_eq e1 ?_
        refine bs_eq (i7_110_22 W) ?_
        rw [k1 _ _ (by omega) (by omega), y2, nI_pred]
        refine bs_eq (p7_110_22 W) ?_
        refine bs_eq (i7_110_23 W) ?_
        rw [wr_nj (by decide), k1 _ _ (by omega) (by omega), y3, nI_pred]
        refine bs_eq (p7_110_23 W) ?_
        exact e2
      · unfold OE at hx
        rw [wr_or (by omega), wr_or (by omega), k1 _ _ (by omega) (by omega)]
      · rw [n2]
        simp only [List.length_append, List.length_cons, List.length_nil]
        omega
    · rw [if_neg hq]
      refine ⟨I, ?_, ⟨y1, y2, y3, y4, y5, y6⟩, Off.refl, rfl⟩
      refine bs_eq (i7_110_22 W) ?_
      rw [y2]
      refine if_f (nI_nle (by omega) (by omega)) ?_
      refine bs_eq (e7_110_20 W) ?_
      refine bs_eq (i7_110_22 W) ?_
      rw [y2, nI_pred]
      refine bs_eq (r123 W (by omega)) ?_
      rw [y4.1]
      have := y4.2.1
      exact if_f (fun h9 => hq ((nI_eq (b := 33) (by omega) (by omega)).mp h9)) rfl
theorem opn_le : ∀ Q : List Nat, opn Q ≤ Q.length
  | [] => Nat.le_refl _
  | q :: Q => by
    have := opn_le Q
    rw [opn, List.length_cons]
    split <;> omega
theorem neg_nI38 : -nI 38 = -38 := by decide
theorem neg_nI124 : -nI 124 = -124 := by decide
theorem settleM (W : WW s a w1 w2) {z : Nat} (hz : z = 38 ∨ z = 124) : ∀ (Q : List Nat) (fuel : Nat) (S : List Int32) (I : IH), Q.length < fuel → Yst I a N tx i Q g S → g + S.length + Q.length ≤ 500 → Q.length ≤ 100 → ∃ I', fX7_settle_b0 s (a + 110) fuel (nI z) I = some I' ∧ Yst I' a N tx i (stl z Q S).1 g (stl z Q S).2 ∧ Off (OE a g c) I I' ∧ g + (stl z Q S).2.length + (stl z Q S).1.length = g + S.length + Q.length := by
  intro Q
  induction Q with
  | nil =>
    intro fuel S I hf h hb hl
    obtain ⟨u, rfl⟩ : ∃ u, fuel = u + 1 := ⟨fuel - 1, by omega⟩
    refine ⟨I, ?_, h, Off.refl, rfl⟩
    rw [fX7_settle_b0]
    refine bs_eq (i7_110_22 W) ?_
    rw [h.2.1]
    exact if_t (by decide) rfl
  | cons q Q ih =>
    intro fuel S I hf h hb hl
    obtain ⟨u, rfl⟩ : ∃ u, fuel = u + 1 := ⟨fuel - 1, by omega⟩
    have hlen : (q :: Q).length = Q.length + 1 := rfl
    rw [hlen] at hf hb hl
    obtain ⟨y1, y2, y3, y4, y5, y6⟩ := h
    rw [hlen] at y2
    have hq128 := y4.2.1
    have pop : ∀ t : Int32, (q = 38 ∨ q = 124) → -nI q = t → ∃ I', fX7_settle_b45 s (a + 110) (fX7_settle_b0 s (a + 110) u) (nI z) I = some I' ∧ Yst I' a N tx i (stl z Q (S ++ [t])).1 g (stl z Q (S ++ [t])).2 ∧ Off (OE a g c) I I' ∧ g + (stl z Q (S ++ [t])).2.length + (stl z Q (S ++ [t])).1.length = g + S.length + (q :: Q).length := fun t hq ht => by
      have ho1 : opn (q :: Q) = opn Q := by rw [opn, if_neg (by omega), Nat.add_zero]
      rw [ho1] at y3
      have h5' : wr I (a + 110) 22 (nI Q.length) (a + 110) 21 = nI (g + S.length) := by rw [wr_nj (by decide)]; exact y5
      have e1 := putM (S := S) W h5' (by omega) t
      generalize hI1 : wr (wr (wr I (a + 110) 22 (nI Q.length)) (a + 122) (g + S.length) t) (a + 110) 21 (nI (g + S.length + 1)) = I1 at e1
      have k1 : ∀ x k, ¬ (x = a + 122 ∧ k = g + S.length) → ¬ (x = a + 110 ∧ (k = 21 ∨ k = 22)) → I1 x k = I x k := fun x k h1 h2 => by rw [← hI1, wr_or (by omega), wr_or (by omega), wr_or (by omega)]
      have hY : Yst I1 a N tx i Q g (S ++ [t]) := by
        refine ⟨y1.of (k1 _ _ (by omega) (by omega)) ((k1 _ _ (by omega) (by omega)).trans y1.2.1.1) y1.2.1.2 (funext fun k => k1 _ _ (by omega) (by omega)), ?_, (k1 _ _ (by omega) (by omega)).trans y3, y4.2.2.kept (fun k _ => k1 _ _ (by omega) (by omega)), ?_, SS.snoc (y6.kept (fun k k1' k2' => k1 _ _ (by omega) (by omega))) ?_⟩
        · rw [← hI1, wr_nj (by decide), wr_ne (by omega), wr_at]
        · rw [← hI1, wr_at]
          simp only [List.length_append, List.length_cons, List.length_nil]
          rfl
        · rw [← hI1, wr_ne (by omega), wr_at]
      obtain ⟨I2, e2, g2, f2, n2⟩ := ih u (S ++ [t]) I1 (by omega) hY (by simp only [List.length_append, List.length_cons, List.length_nil]; omega) (by omega)
      refine ⟨I2, ?_, g2, Off.trans (fun x k hx => ?_) f2, ?_⟩
      · unfold fX7_settle_b45
        refine bs_eq (i7_110_22 W) ?_
        rw [y2, nI_pred]
        refine bs_eq (p7_110_22 W) ?_
        refine bs_eq (e7_110_20 W) ?_
        refine bs_eq (i7_110_22 W) ?_
        rw [wr_at]
        refine bs_eq (r123 W (by omega)) ?_
        rw [wr_ne (by omega), y4.1, ht]
        refine bs_eq e1 ?_
        exact e2
      · unfold OE at hx
        exact k1 _ _ (by omega) (by omega)
      · rw [n2]
        simp only [List.length_append, List.length_cons, List.length_nil]
        omega
    have st : ∀ r, (if nI q = 38 then fX7_settle_b45 s (a + 110) (fX7_settle_b0 s (a + 110) u) (nI z) I else if nI q = 124 then (if nI z = 38 then some I else fX7_settle_b45 s (a + 110) (fX7_settle_b0 s (a + 110) u) (nI z) I) else some I) = r → fX7_settle_b0 s (a + 110) (u + 1) (nI z) I = r := fun r hr => by
      rw [fX7_settle_b0]
      refine bs_eq (i7_110_22 W) ?_
      rw [y2]
      refine if_f (nI_nle (by omega) (by omega)) ?_
      refine bs_eq (e7_110_20 W) ?_
      refine bs_eq (i7_110_22 W) ?_
      rw [y2, nI_pred]
      refine bs_eq (r123 W (by omega)) ?_
      rw [y4.1, ← hr]
      by_cases h38 : nI q = 38
      · rw [if_pos h38, if_pos h38]
      · rw [if_neg h38, if_neg h38]
        refine bs_eq (e7_110_20 W) ?_
        refine bs_eq (i7_110_22 W) ?_
        rw [y2, nI_pred]
        refine bs_eq (r123 W (by omega)) ?_
        rw [y4.1]
    have eq38 : nI q = 38 ↔ q = 38 := nI_eq (b := 38) (by omega) (by omega)
    have eq124 : nI q = 124 ↔ q = 124 := nI_eq (b := 124) (by omega) (by omega)
    have eqz : nI z = 38 ↔ z = 38 := nI_eq (b := 38) (by omega) (by omega)
    rw [stl]
    by_cases h38 : q = 38
    · rw [if_pos h38]
      obtain ⟨I2, e2, r⟩ := pop (-38) (Or.inl h38) (by rw [h38]; exact neg_nI38)
      exact ⟨I2, st _ (by rw [if_pos (eq38.mpr h38)]; exact e2), r⟩
    · rw [if_neg h38]
      by_cases h124 : q = 124
      · rw [if_pos h124]
        by_cases hz38 : z = 38
        · rw [if_pos hz38]
          exact ⟨I, st _ (by rw [if_neg (fun h9 => h38 (eq38.mp h9)), if_pos (eq124.mpr h124), if_pos (eqz.mpr hz38)]), ⟨y1, y2, y3, y4, y5, y6⟩, Off.refl, rfl⟩
        · rw [if_neg hz38]
          obtain ⟨I2, e2, r⟩ := pop (-124) (Or.inr h124) (by rw [h124]; exact neg_nI124)
          exact ⟨I2, st _ (by rw [if_neg (fun h9 => h38 (eq38.mp h9)), if_pos (eq124.mpr h124), if_neg (fun h9 => hz38 (eqz.mp h9))]; exact e2), r⟩
      · rw [if_neg h124]
        exact ⟨I, st _ (by rw [if_neg (fun h9 => h38 (eq38.mp h9)), if_neg (fun h9 => h124 (eq124.mp h9))]), ⟨y1, y2, y3, y4, y5, y6⟩, Off.refl, rfl⟩
end MREAD
