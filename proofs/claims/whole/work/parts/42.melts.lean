/-! LAYER 2: what valleys tell, and what melts -/
def bI (b : Bool) : Int32 := if b then 1 else 0
def Pl (I : IH) (a : Nat) (st : List Bool) : Prop := ∀ j b, st[j]? = some b → I (a + 124) (st.length - 1 - j) = bI b
theorem Pl.push {I : IH} {a : Nat} {st : List Bool} {x : Bool} (h : Pl I a st) : Pl (wr I (a + 124) st.length (bI x)) a (x :: st) := by
  intro j b hb
  match j, hb with
  | 0, hb =>
    obtain rfl : x = b := Option.some.inj hb
    exact wr_at
  | j + 1, hb =>
    have hb : st[j]? = some b := hb
    have hj := (List.getElem?_eq_some_iff.mp hb).1
    rw [wr_nj (by rw [List.length_cons]; omega)]
    have := h j b hb
    rw [List.length_cons, show st.length + 1 - 1 - (j + 1) = st.length - 1 - j by omega]
    exact this
theorem Pl.tail {I : IH} {a : Nat} {r : List Bool} {x : Bool} (h : Pl I a (x :: r)) : Pl I a r := by
  intro j b hb
  have hj := (List.getElem?_eq_some_iff.mp hb).1
  have := h (j + 1) b hb
  rw [List.length_cons, show r.length + 1 - 1 - (j + 1) = r.length - 1 - j by omega] at this
  exact this
theorem Pl.head {I : IH} {a : Nat} {r : List Bool} {x : Bool} (h : Pl I a (x :: r)) : I (a + 124) r.length = bI x := h 0 x rfl
theorem evL_cons (h k : Nat) (t : Int32) (ts : List Int32) (st : List Bool) : evL h k (t :: ts) st = (if t = -33 then (match st with | x :: r => evL h k ts ((!x) :: r) | [] => none) else if t < 0 then (match st with | y :: x :: r => evL h k ts ((if t = -38 then x && y else x || y) :: r) | _ => none) else evL h k ts (tstS h k (nv t) :: st)) := by
  cases st with
  | nil => rfl
  | cons y r => cases r <;> rfl
theorem b2_some {α β γ : Type} {x : α} {y : β} {f : α → β → Option γ} : b2 (some (x, y)) f = f x y := rfl
theorem nar0 : vp_nar .boolean 0 = 0 := by decide
theorem nar1 : vp_nar .boolean 1 = 1 := by decide
section MELTS
variable {s : SH} {I : IH} {L : LH} {n a w1 w2 w : Nat}
theorem sZ_b (W : WW s a w1 w2) {j : Nat} (hj : j < 100) (b : Bool) : sZ s I (a + 124) (nI j) (bI b) = some (wr I (a + 124) j (bI b)) := by
  rw [s124 W hj]
  cases b
  · show some (wr I (a + 124) j (vp_nar .boolean 0)) = _
    rw [nar0]
    rfl
  · show some (wr I (a + 124) j (vp_nar .boolean 1)) = _
    rw [nar1]
    rfl
theorem mod_nI {x d : Nat} (hx : x < 2 ^ 31) (h0 : 0 < d) (hd : d < 2 ^ 31) : nI x - nI x / nI d * nI d = nI (x % d) := by
  have h1 : x / d * d ≤ x := Nat.div_mul_le_self x d
  rw [pk_div hx h0 hd, nI_mul, nI_sub h1]
  congr 1
  have := Nat.div_add_mod x d
  rw [Nat.mul_comm] at this
  omega
/-- one test is put on the pile -/
theorem holds_test (W : WW s a w1 w2) {st : List Bool} {t c h k f v : Nat} (ht : t < 2300) (hst : st.length < 100) (hv : v < 2 ^ 31) (I' : IH) (K : Int32 → Int32 → Int32 → Int32 → Int32 → IH → Option (Int32 × IH)) (x : Bool) (hx : x = (let q := t / 100 % 10; if q = 0 then decide (v < t % 100) else if q = 1 then decide (v = t % 100) else decide (v > t % 100))) : fX7_holds_b182 s (a + 110) K (nI c) (nI h) (nI k) (nI st.length) (nI f) (nI t) (nI v) I' = K (nI c) (nI h) (nI k) (nI (st.length + 1)) (nI (f + 1)) (wr I' (a + 124) st.length (bI x)) := by
  unfold fX7_holds_b182
  rw [e7_110_24 W, Option.bind_some]
  have e1 : nI t / 100 - nI t / 100 / 10 * 10 = nI (t / 100 % 10) := by
    rw [show nI t / 100 = nI (t / 100) from pk_div (d := 100) (by omega) (by omega) (by omega)]
    exact mod_nI (d := 10) (by omega) (by omega) (by omega)
  have e2 : nI t - nI t / 100 * 100 = nI (t % 100) := mod_nI (d := 100) (by omega) (by omega) (by omega)
  rw [e1, e2, nI_1, nI_1]
  have hq : t / 100 % 10 < 10 := Nat.mod_lt _ (by omega)
  have hm : t % 100 < 100 := Nat.mod_lt _ (by omega)
  have s0 := sZ_b (I := I') W hst false
  have s1 := sZ_b (I := I') W hst true
  replace s0 : sZ s I' (a + 124) (nI st.length) 0 = some (wr I' (a + 124) st.length (bI false)) := s0
  replace s1 : sZ s I' (a + 124) (nI st.length) 1 = some (wr I' (a + 124) st.length (bI true)) := s1
  rw [s0, s1, Option.bind_some, Option.bind_some]
  by_cases q0 : t / 100 % 10 = 0
  · rw [if_pos (show nI (t / 100 % 10) = 0 by rw [q0]; rfl)]
    simp only [q0, if_true] at hx
    by_cases hl : v < t % 100
    · rw [if_neg (nI_ge hl (by omega)), hx, decide_eq_true hl]
    · rw [if_pos (nI_le (by omega) hv), hx, decide_eq_false hl]
  · have n0 : ¬ nI (t / 100 % 10) = 0 := fun h => q0 ((nI_eq (by omega) (by omega)).mp (h.trans (show (0 : Int32) = nI 0 from rfl)))
    rw [if_neg n0]
    by_cases q1 : t / 100 % 10 = 1
    · rw [if_pos (show nI (t / 100 % 10) = 1 by rw [q1]; rfl)]
      simp only [q1] at hx
      by_cases hl : v = t % 100
      · rw [if_pos (by rw [hl]), hx]
        simp [hl]
      · rw [if_neg (fun h => hl ((nI_eq hv (by omega)).mp h)), hx]
        simp [hl]
    · have n1 : ¬ nI (t / 100 % 10) = 1 := fun h => q1 ((nI_eq (by omega) (by omega)).mp (h.trans (show (1 : Int32) = nI 1 from rfl)))
      rw [if_neg n1]
      simp only [q0, q1, if_false] at hx
      by_cases hl : v > t % 100
      · rw [if_neg (nI_ge hl hv), hx, decide_eq_true hl]
      · rw [if_pos (nI_le (by omega) (by omega)), hx, decide_eq_false hl]
theorem holds_loop (W : WW s a w1 w2) {c T h k : Nat} (hc : c < 60) (hT : T ≤ 500) (hto : I (a + 121) c = nI T) (hh : h < 48) (hk : k < 3) : ∀ (m f fuel : Nat) (st : List Bool) (I' : IH) (v : Bool), m < fuel → st.length + m ≤ 100 → f + m = T → Pl I' a st → (∀ x j, x ≠ a + 124 → I' x j = I x j) → evL h k (sgL (I (a + 122)) f m) st = some [v] → (∀ j, f ≤ j → j < f + m → I (a + 122) j = -33 ∨ I (a + 122) j = -38 ∨ I (a + 122) j = -124 ∨ Bd (I (a + 122) j) 0 2299) → ∃ I2, fX7_holds_b11 s (a + 110) fuel (nI c) (nI h) (nI k) (nI st.length) (nI f) I' = some (bI v, I2) ∧ ∀ x j, x ≠ a + 124 → I2 x j = I x j := by
  intro m
  induction m with
  | zero =>
    intro f fuel st I' v h1 h2 h3 hP hf he hs
    obtain ⟨u, rfl⟩ : ∃ u, fuel = u + 1 := ⟨fuel - 1, by omega⟩
    refine ⟨I', ?_, hf⟩
    have hst : st = [v] := Option.some.inj he
    subst hst
    rw [fX7_holds_b11, e7_110_18 W, Option.bind_some, r121 W hc, Option.bind_some, hf _ _ (by omega), hto, if_pos (nI_le (by omega) (by omega)), e7_110_24 W, Option.bind_some]
    have r0 : aI s I' 1 (a + 124) 0 = some (I' (a + 124) 0) := r124 W (j := 0) (by omega)
    have h0 : I' (a + 124) 0 = bI v := hP.head
    rw [r0, Option.bind_some, h0]
    cases v <;> rfl
  | succ m ih =>
    intro f fuel st I' v h1 h2 h3 hP hf he hs
    obtain ⟨u, rfl⟩ : ∃ u, fuel = u + 1 := ⟨fuel - 1, by omega⟩
    have hsf := hs f (by omega) (by omega)
    have hs' : ∀ j, f + 1 ≤ j → j < f + 1 + m → I (a + 122) j = -33 ∨ I (a + 122) j = -38 ∨ I (a + 122) j = -124 ∨ Bd (I (a + 122) j) 0 2299 := fun j g1 g2 => hs j (by omega) (by omega)
    have he : evL h k (I (a + 122) f :: sgL (I (a + 122)) (f + 1) m) st = some [v] := he
    have go : ∀ (st' : List Bool) (I2 : IH), st'.length ≤ st.length + 1 → Pl I2 a st' → (∀ x j, x ≠ a + 124 → I2 x j = I' x j) → evL h k (sgL (I (a + 122)) (f + 1) m) st' = some [v] → ∃ I3, fX7_holds_b11 s (a + 110) u (nI c) (nI h) (nI k) (nI st'.length) (nI (f + 1)) I2 = some (bI v, I3) ∧ ∀ x j, x ≠ a + 124 → I3 x j = I x j := fun st' I2 g1 g2 g3 g4 => ih (f + 1) u st' I2 v (by omega) (by omega) (by omega) g2 (fun x j hx => (g3 x j hx).trans (hf x j hx)) g4 hs'
    rw [fX7_holds_b11, e7_110_18 W, Option.bind_some, r121 W hc, Option.bind_some, hf _ _ (by omega), hto, if_neg (nI_ge (by omega) (by omega)), e7_110_19 W, Option.bind_some, r122 W (j := f) (by omega), Option.bind_some, hf _ _ (by omega), e7_110_24 W]
    simp only [Option.bind_some]
    rcases hsf with h33 | h38 | h124 | hB
    · rw [h33] at he ⊢
      rw [if_pos rfl]
      rw [evL_cons, if_pos rfl] at he
      match st, he, hP, h2, go with
      | x :: r, he, hP, h2, go =>
        have hr : r.length < 100 := by rw [List.length_cons] at h2; omega
        rw [List.length_cons, nI_pred, r124 W hr, Option.bind_some, hP.head]
        cases x
        · rw [if_pos (show bI false = 0 from rfl), show sZ s I' (a + 124) (nI r.length) 1 = some (wr I' (a + 124) r.length (bI true)) from sZ_b W hr true, Option.bind_some, nI_1]
          exact go (true :: r) _ (by simp) hP.tail.push (fun x j hx => by rw [wr_ne hx]) he
        · rw [if_neg (show ¬ bI true = 0 by decide), show sZ s I' (a + 124) (nI r.length) 0 = some (wr I' (a + 124) r.length (bI false)) from sZ_b W hr false, Option.bind_some, nI_1]
          exact go (false :: r) _ (by simp) hP.tail.push (fun x j hx => by rw [wr_ne hx]) he
    · rw [h38] at he ⊢
      rw [if_neg (by decide), if_neg (by decide), if_pos rfl]
      rw [evL_cons, if_neg (by decide), if_pos (by decide)] at he
      match st, he, hP, h2, go with
      | [], he, hP, h2, go => cases he
      | [_], he, hP, h2, go => cases he
      | y :: x :: r, he, hP, h2, go =>
        replace he : evL h k (sgL (I (a + 122)) (f + 1) m) ((x && y) :: r) = some [v] := he
        have hr : r.length + 1 < 100 := by rw [List.length_cons, List.length_cons] at h2; omega
        rw [List.length_cons, List.length_cons, down, nI_pred, nI_pred, r124 W (j := r.length) (by omega), Option.bind_some, hP.tail.head, r124 W hr, Option.bind_some]
        have hy : I' (a + 124) (r.length + 1) = bI y := hP.head
        rw [hy]
        have z0 : sZ s I' (a + 124) (nI r.length) 0 = some (wr I' (a + 124) r.length (bI false)) := sZ_b W (by omega) false
        have z1 : sZ s I' (a + 124) (nI r.length) 1 = some (wr I' (a + 124) r.length (bI true)) := sZ_b W (by omega) true
        rw [z0, z1, Option.bind_some, Option.bind_some, nI_1]
        cases x
        · rw [if_pos (show bI false = 0 from rfl)]
          exact go (false :: r) _ (by simp) hP.tail.tail.push (fun x j hx => by rw [wr_ne hx]) he
        · rw [if_neg (show ¬ bI true = 0 by decide)]
          cases y
          · rw [if_pos (show bI false = 0 from rfl)]
            exact go (false :: r) _ (by simp) hP.tail.tail.push (fun x j hx => by rw [wr_ne hx]) he
          · rw [if_neg (show ¬ bI true = 0 by decide)]
            exact go (true :: r) _ (by simp) hP.tail.tail.push (fun x j hx => by rw [wr_ne hx]) he
    · rw [h124] at he ⊢
      rw [if_neg (by decide), if_neg (by decide), if_neg (by decide)]
      rw [evL_cons, if_neg (by decide), if_pos (by decide)] at he
      match st, he, hP, h2, go with
      | [], he, hP, h2, go => cases he
      | [_], he, hP, h2, go => cases he
      | y :: x :: r, he, hP, h2, go =>
        replace he : evL h k (sgL (I (a + 122)) (f + 1) m) ((x || y) :: r) = some [v] := he
        have hr : r.length + 1 < 100 := by rw [List.length_cons, List.length_cons] at h2; omega
        rw [List.length_cons, List.length_cons, down, nI_pred, nI_pred, r124 W (j := r.length) (by omega), Option.bind_some, hP.tail.head, r124 W hr, Option.bind_some]
        have hy : I' (a + 124) (r.length + 1) = bI y := hP.head
        rw [hy]
        have z0 : sZ s I' (a + 124) (nI r.length) 0 = some (wr I' (a + 124) r.length (bI false)) := sZ_b W (by omega) false
        have z1 : sZ s I' (a + 124) (nI r.length) 1 = some (wr I' (a + 124) r.length (bI true)) := sZ_b W (by omega) true
        rw [z0, z1, Option.bind_some, Option.bind_some, nI_1]
        cases x
        · rw [if_pos (show bI false = 0 from rfl)]
          cases y
          · rw [if_pos (show bI false = 0 from rfl)]
            exact go (false :: r) _ (by simp) hP.tail.tail.push (fun x j hx => by rw [wr_ne hx]) he
          · rw [if_neg (show ¬ bI true = 0 by decide)]
            exact go (true :: r) _ (by simp) hP.tail.tail.push (fun x j hx => by rw [wr_ne hx]) he
        · rw [if_neg (show ¬ bI true = 0 by decide)]
          exact go (true :: r) _ (by simp) hP.tail.tail.push (fun x j hx => by rw [wr_ne hx]) he
    · obtain ⟨t, ht, -, ht2⟩ := hB.ex
      rw [ht] at he ⊢
      have n33 : ¬ nI t = -33 := fun h9 => by
        have h8 : ¬ nI t < 0 := nI_pos (by omega)
        rw [h9] at h8
        exact h8 (by decide)
      rw [if_neg n33, if_pos (nI_pos' (by omega))]
      rw [evL_cons, if_neg n33, if_neg (nI_pos (by omega)), nv_nI (by omega)] at he
      have key : ∀ v' : Nat, v' < 2 ^ 31 → tstS h k t = (let q := t / 100 % 10; if q = 0 then decide (v' < t % 100) else if q = 1 then decide (v' = t % 100) else decide (v' > t % 100)) → ∃ I3, fX7_holds_b182 s (a + 110) (fX7_holds_b11 s (a + 110) u) (nI c) (nI h) (nI k) (nI st.length) (nI f) (nI t) (nI v') I' = some (bI v, I3) ∧ ∀ x j, x ≠ a + 124 → I3 x j = I x j := fun v' hv' hx => by
        rw [holds_test W (by omega) (by omega) hv' I' _ _ hx]
        exact go (tstS h k t :: st) _ (by simp) hP.push (fun x j hx => by rw [wr_ne hx]) he
      by_cases h1000 : t < 1000
      · rw [if_neg (show ¬ (1000 : Int32) ≤ nI t from nI_ge (b := 1000) h1000 (by omega)), show nI h - nI h / 24 * 24 = nI (h % 24) from mod_nI (d := 24) (by omega) (by omega) (by omega)]
        exact key (h % 24) (by omega) (by unfold tstS; simp only [h1000, if_true])
      · rw [if_pos (show (1000 : Int32) ≤ nI t from nI_le (a := 1000) (by omega) (by omega))]
        by_cases h2000 : t < 2000
        · rw [if_neg (show ¬ (2000 : Int32) ≤ nI t from nI_ge (b := 2000) h2000 (by omega)), show nI h / 24 = nI (h / 24) from pk_div (d := 24) (by omega) (by omega) (by omega)]
          exact key (h / 24) (by omega) (by unfold tstS; simp only [h1000, h2000, if_true, if_false])
        · rw [if_pos (show (2000 : Int32) ≤ nI t from nI_le (a := 2000) (by omega) (by omega))]
          exact key k (by omega) (by unfold tstS; simp only [h1000, h2000, if_false])
theorem holds_y (W : WW s a w1 w2) {c h k m f : Nat} {v : Bool} (hc : c < 60) (hf : I (a + 120) c = nI f) (hto : I (a + 121) c = nI (f + m)) (hm : m ≤ 100) (hfm : f + m ≤ 500) (hs : ∀ j, f ≤ j → j < f + m → I (a + 122) j = -33 ∨ I (a + 122) j = -38 ∨ I (a + 122) j = -124 ∨ Bd (I (a + 122) j) 0 2299) (he : evL h k (sgL (I (a + 122)) f m) [] = some [v]) (hh : h < 48) (hk : k < 3) (I' : IH) (fr : ∀ x j, x ≠ a + 124 → I' x j = I x j) : ∃ I2, fX7_holds s (a + 110) (nI c) (nI h) (nI k) I' = some (bI v, I2) ∧ ∀ x j, x ≠ a + 124 → I2 x j = I x j := by
  obtain ⟨I2, e2, f2⟩ := holds_loop W hc hfm hto hh hk m f 1000 [] I' v (by omega) (by simpa using hm) rfl (fun j b h => by simp at h) fr he hs
  refine ⟨I2, ?_, f2⟩
  unfold fX7_holds
  refine bs_eq (e7_110_17 W) ?_
  refine bs_eq (r120 W hc) ?_
  rw [fr _ _ (by omega), hf]
  exact e2
/-- where the told clauses lie -/
theorem first_y (W : WW s a w1 w2) (I' : IH) {f : Int32} (h8 : I' (a + 110) 8 = f) : (f = -1 → fX7_first s I' (a + 110) = some (nI 0) ∧ fX7_behind s I' (a + 110) = some (nI 0)) ∧ ∀ F C, f = nI F → F < 5 → I' (a + 116) F = nI C → fX7_first s I' (a + 110) = some (nI (12 * F)) ∧ fX7_behind s I' (a + 110) = some (nI (12 * F + C)) := by
  constructor
  · intro hf
    unfold fX7_first fX7_behind
    rw [i7_110_8 W, Option.bind_some, h8, hf]
    exact ⟨rfl, rfl⟩
  · intro F C hf hF hC
    have h0 : (0 : Int32) ≤ nI F := nI_pos' (by omega)
    have h12 : (12 : Int32) * nI F = nI (12 * F) := nI_mul 12 F
    unfold fX7_first fX7_behind
    refine ⟨?_, ?_⟩ <;> simp only [i7_110_8 W, Option.bind_some, h8, hf, if_pos h0, e7_110_13 W, r116 W hF, hC, h12, nI_add]
theorem sumN_le {wd nu : Nat → Nat} {M : Nat → Bool} (h : ∀ c, nu c ≤ 99) : ∀ C, sumN wd nu M C ≤ 99 * C
  | 0 => Nat.le_refl _
  | C + 1 => by
    have := sumN_le (wd := wd) (M := M) h C
    have h2 := h C
    show sumN wd nu M C + (if wd C = 0 ∧ M C = true then nu C else 0) ≤ 99 * (C + 1)
    split <;> omega
theorem sumN_le' {wd nu : Nat → Nat} {M : Nat → Bool} : ∀ C, (∀ c, c < C → nu c ≤ 99) → sumN wd nu M C ≤ 99 * C
  | 0, _ => Nat.le_refl _
  | C + 1, h => by
    have := sumN_le' (wd := wd) (nu := nu) (M := M) C (fun c hc => h c (by omega))
    have h2 := h C (by omega)
    show sumN wd nu M C + (if wd C = 0 ∧ M C = true then nu C else 0) ≤ 99 * (C + 1)
    split <;> omega
/-- what melts, by the class's cells -/
def mlt (I : IH) (a w h k : Nat) : Nat := if h < nv (I (a + 1) 7) then nv (I (a + 28) h) else nv (I (w + 6) (sit h k))
theorem sit_lt {h k : Nat} (hh : h < 48) (hk : k < 3) : sit h k < 144 := by
  unfold sit
  have h1 : h / 24 ≤ 1 := by omega
  have h2 : h % 24 < 24 := Nat.mod_lt _ (by omega)
  have h3 : (h / 24 * 3 + k) * 24 ≤ (1 * 3 + 2) * 24 := Nat.mul_le_mul_right _ (by omega)
  omega
theorem VR.cell {f : Int32} (V : VR I a w f) {h k : Nat} (hh : h < 48) (hk : k < 3) : Bd (I (w + 6) (sit h k)) 0 1188 := by
  obtain ⟨C, wd, sp, nu, M, h1, -, h3, h4⟩ := V
  have hC : C ≤ 12 := by
    rcases h1 with ⟨-, rfl⟩ | ⟨F, -, -, -, -, h5, -⟩
    · omega
    · exact h5
  have := sumN_le' (wd := wd) (nu := nu) (M := fun c => M c h k) C h4
  exact Bd_of (h3 h k hh hk) (Nat.zero_le _) (by omega) (by omega)
theorem mlt_le (S : SRnow I a) {f : Int32} (V : VR I a w f) {h k : Nat} (hh : h < 48) (hk : k < 3) : mlt I a w h k ≤ 1188 := by
  unfold mlt
  split
  · next hlt =>
    have h7 := S.2.2.2.2.2.2.1.2.2.2
    have := (S.2.2.2.2.2.2.2 h (by omega) hlt).2.2.2
    have e : a + 9 + 19 = a + 28 := rfl
    rw [e] at this
    omega
  · exact (V.cell hh hk).2.2
/-- the class's way to it -/
theorem meltC (W : WW s a w1 w2) (S : SRnow I a) {f : Int32} (V : VR I a w1 f) {h k : Nat} (hh : h < 48) (hk : k < 3) (I' : IH) (e0 : ∀ x, x = a + 1 ∨ x = a + 28 ∨ x = w1 + 6 → I' x = I x) : fX2_melting s I' (a + 1) (nI h) (nI k) = some (nI (mlt I a w1 h k)) := by
  have c7 := S.2.2.2.2.2.2.1.2
  have e7 : I (a + 1) 7 = nI (nv (I (a + 1) 7)) := c7.1
  have h24 : nv (I (a + 1) 7) ≤ 24 := c7.2.2
  have hm : fJ9_min_7cf53 (I' (a + 1) 7) (nI 24) = nI (nv (I (a + 1) 7)) := by
    rw [e0 (a + 1) (by omega), e7, min_nI (by omega) (by omega), nv_nI (by omega), Nat.min_eq_left h24]
  unfold fX2_melting
  rw [i2_1_7 W, Option.bind_some, e2_1_6 W, Option.bind_some, l28 W, Option.bind_some, hm]
  unfold mlt
  by_cases hlt : h < nv (I (a + 1) 7)
  · have hB := (S.2.2.2.2.2.2.2 h (by omega) hlt).2
    have hB1 : I (a + 28) h = nI (nv (I (a + 28) h)) := hB.1
    rw [if_neg (un hlt (by omega)), if_pos hlt, Option.bind_some, r28 W (j := h) (by omega), Option.bind_some, e0 (a + 28) (by omega), ← hB1]
  · have hB := (V.cell hh hk).1
    have es : ((nI h / 24 * 3 + nI k) * 24 + (nI h - nI h / 24 * 24)) = nI (sit h k) := by
      rw [show nI h - nI h / 24 * 24 = nI (h % 24) from mod_nI (d := 24) (by omega) (by omega) (by omega), show nI h / 24 = nI (h / 24) from pk_div (d := 24) (by omega) (by omega) (by omega), show nI (h / 24) * 3 = nI (h / 24 * 3) from nI_mul _ 3, nI_add, show nI (h / 24 * 3 + k) * 24 = nI ((h / 24 * 3 + k) * 24) from nI_mul _ 24, nI_add]
      rfl
    rw [if_pos (un_ge (nI_le (by omega) (by omega))), if_neg hlt, es, if_neg (show ¬ fX6_isUnder (nI (sit h k)) 144 = 0 from un (N := 144) (sit_lt hh hk) (by omega)), e2_1_8 W, Option.bind_some, v_R1 W.2.2.2.2.2.2.2.2.2.2.2.1, Option.bind_some, v_rm W.2.2.2.2.2.2.2.2.2.2.2.1 (sit_lt hh hk), Option.bind_some, e0 (w1 + 6) (by omega), ← hB]
/-- the reference's way -/
theorem sumM (W : WW s a w1 w2) {F C h k : Nat} {wd sp nu : Nat → Nat} {M : Nat → Nat → Nat → Bool} (h8 : I (a + 110) 8 = nI F) (hF : F < 5) (hC : I (a + 116) F = nI C) (hC12 : C ≤ 12) (cl : ∀ c, c < C → CLs I a F c (wd c) (sp c) (nu c) (M c)) (hh : h < 48) (hk : k < 3) : ∀ m c fuel (I' : IH), c + m = C → m < fuel → (∀ x j, x ≠ a + 124 → I' x j = I x j) → ∃ I2, fX7_meltOf_b23 s (a + 110) fuel (nI h) (nI k) (nI (sumN wd nu (fun c => M c h k) c)) (nI (12 * F + c)) I' = some (nI (sumN wd nu (fun c => M c h k) C), I2) ∧ ∀ x j, x ≠ a + 124 → I2 x j = I x j := by
  intro m
  induction m with
  | zero =>
    intro c fuel I' h1 h2 fr
    obtain ⟨u, rfl⟩ : ∃ u, fuel = u + 1 := ⟨fuel - 1, by omega⟩
    obtain rfl : c = C := h1
    refine ⟨I', ?_, fr⟩
    have hb := ((first_y W I' (by rw [fr _ _ (by omega)]; exact h8)).2 F c rfl hF (by rw [fr _ _ (by omega)]; exact hC)).2
    rw [fX7_meltOf_b23, hb, Option.bind_some, if_pos (nI_le (Nat.le_refl _) (by omega))]
  | succ m ih =>
    intro c fuel I' h1 h2 fr
    obtain ⟨u, rfl⟩ : ∃ u, fuel = u + 1 := ⟨fuel - 1, by omega⟩
    have hb := ((first_y W I' (by rw [fr _ _ (by omega)]; exact h8)).2 F C rfl hF (by rw [fr _ _ (by omega)]; exact hC)).2
    obtain ⟨q1, q2, q3, q4, q5, q6⟩ := cl c (by omega)
    have hidx : 12 * F + c < 60 := by omega
    rw [fX7_meltOf_b23, hb, Option.bind_some, if_neg (nI_ge (by omega) (by omega)), e7_110_14 W, Option.bind_some, r117 W hidx, Option.bind_some, fr _ _ (by omega), q1]
    by_cases hw : wd c = 0
    · obtain ⟨f, mm, g1, g2, g3, g4, g5, g6⟩ := q6 hw
      obtain ⟨I2, e2, f2⟩ := holds_y W hidx g1 g2 (by omega) (by omega) g5 (g6 h k hh hk) hh hk I' fr
      rw [if_pos (by rw [hw]; rfl), e2, b2_some]
      have hs : sumN wd nu (fun c => M c h k) (c + 1) = sumN wd nu (fun c => M c h k) c + (if wd c = 0 ∧ M c h k = true then nu c else 0) := rfl
      cases hM : M c h k with
      | false =>
        rw [if_pos (show bI false = 0 from rfl), nI_1, show nI (sumN wd nu (fun c => M c h k) c) + 0 = nI (sumN wd nu (fun c => M c h k) (c + 1)) by rw [hs, hM, if_neg (by simp)]; exact nI_add _ 0]
        exact ih (c + 1) u I2 (by omega) (by omega) f2
      | true =>
        rw [if_neg (show ¬ bI true = 0 by decide), e7_110_16 W, Option.bind_some, r119 W hidx, Option.bind_some, f2 _ _ (by omega), q4, nI_add, nI_1, show sumN wd nu (fun c => M c h k) c + nu c = sumN wd nu (fun c => M c h k) (c + 1) by rw [hs, hM, if_pos ⟨hw, rfl⟩]]
        exact ih (c + 1) u I2 (by omega) (by omega) f2
    · have hs : sumN wd nu (fun c => M c h k) (c + 1) = sumN wd nu (fun c => M c h k) c + (if wd c = 0 ∧ M c h k = true then nu c else 0) := rfl
      rw [if_neg (fun h9 => hw ((nI_eq (by omega) (by omega)).mp (h9.trans (show (0 : Int32) = nI 0 from rfl)))), nI_1, show nI (sumN wd nu (fun c => M c h k) c) + 0 = nI (sumN wd nu (fun c => M c h k) (c + 1)) by rw [hs, if_neg (fun h9 => hw h9.1)]; exact nI_add _ 0]
      exact ih (c + 1) u I' (by omega) (by omega) fr
theorem meltM (W : WW s a w1 w2) (S : SRnow I a) (V : VR I a w1 (I (a + 110) 8)) {h k : Nat} (hh : h < 48) (hk : k < 3) (I' : IH) (fr : ∀ x j, x = a + 110 ∨ x = a + 125 ∨ (a + 116 ≤ x ∧ x ≤ a + 122) → I' x j = I x j) : ∃ I2, fX7_meltOf s (a + 110) (nI h) (nI k) I' = some (nI (mlt I a w1 h k), I2) ∧ ∀ x j, x ≠ a + 124 → I2 x j = I' x j := by
  have c7 := S.2.2.2.2.2.2.1.2
  have e7 : I (a + 1) 7 = nI (nv (I (a + 1) 7)) := c7.1
  have h24 : nv (I (a + 1) 7) ≤ 24 := c7.2.2
  have e25 : I' (a + 110) 25 = nI (nv (I (a + 1) 7)) := by rw [fr _ _ (by omega), ← e7]; exact S.2.2.2.2.2.2.1.1
  unfold fX7_meltOf
  unfold mlt
  rw [i7_110_25 W, Option.bind_some, e25]
  by_cases hlt : h < nv (I (a + 1) 7)
  · obtain ⟨hq, hB⟩ := S.2.2.2.2.2.2.2 h (by omega) hlt
    have hB1 : I (a + 28) h = nI (nv (I (a + 28) h)) := hB.1
    refine ⟨I', ?_, fun _ _ _ => rfl⟩
    rw [if_neg (nI_ge hlt (by omega)), if_pos hlt, e7_110_26 W, Option.bind_some, r125 W (j := h) (by omega), Option.bind_some, fr _ _ (by omega), hq, ← hB1]
  · have hcell := (V.cell hh hk).1
    obtain ⟨C, wd, sp, nu, M, h1, -, h3, h4⟩ := V
    have hv : nv (I (w1 + 6) (sit h k)) = sumN wd nu (fun c => M c h k) C := by
      have hC : C ≤ 12 := by
        rcases h1 with ⟨-, rfl⟩ | ⟨F, -, -, -, -, h5, -⟩
        · omega
        · exact h5
      have := sumN_le' (wd := wd) (nu := nu) (M := fun c => M c h k) C h4
      rw [h3 h k hh hk, nv_nI (by omega)]
    rw [if_pos (nI_le (by omega) (by omega)), if_neg hlt, hv]
    have key : ∃ I2, ((fX7_first s I' (a + 110)).bind fun x2 => fX7_meltOf_b23 s (a + 110) 1000 (nI h) (nI k) 0 x2 I') = some (nI (sumN wd nu (fun c => M c h k) C), I2) ∧ ∀ x j, x ≠ a + 124 → I2 x j = I' x j := by
      rcases h1 with ⟨h1, rfl⟩ | ⟨F, q1, q2, q3, q4, q5, q6⟩
      · obtain ⟨g1, g2⟩ := (first_y W I' (by rw [fr _ _ (by omega)])).1 h1
        refine ⟨I', ?_, fun _ _ _ => rfl⟩
        rw [g1, Option.bind_some, show (1000 : Nat) = 999 + 1 from rfl, fX7_meltOf_b23, g2, Option.bind_some, if_pos (nI_le (Nat.le_refl _) (by omega))]
        rfl
      · have fr' : ∀ x, x = a + 110 ∨ x = a + 125 ∨ (a + 116 ≤ x ∧ x ≤ a + 122) → I' x = I x := fun x hx => funext fun j => fr x j hx
        obtain ⟨g1, g2⟩ := (first_y W I' (f := nI F) (by rw [fr _ _ (by omega)]; exact q1)).2 F C rfl q2 (by rw [fr _ _ (by omega)]; exact q4)
        rw [g1, Option.bind_some]
        exact sumM (I := I') W (by rw [fr _ _ (by omega)]; exact q1) q2 (by rw [fr _ _ (by omega)]; exact q4) q5 (fun c hc => by
          have := q6 c hc
          unfold CLs at this ⊢
          rw [fr' (a + 117) (by omega), fr' (a + 118) (by omega), fr' (a + 119) (by omega), fr' (a + 120) (by omega), fr' (a + 121) (by omega), fr' (a + 122) (by omega)]
          exact this) hh hk C 0 1000 I' (by omega) (by omega) (fun _ _ _ => rfl)
    exact key
end MELTS
