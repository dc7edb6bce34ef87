/-! LAYER 2: the class's clauses told, and its texts -/
abbrev Cl : Type := Nat × Nat × Nat × List Int32 × (Nat → Bool)
def cl0 : Cl := (0, 0, 0, [], fun _ => false)
def wdL (l : List Cl) (c : Nat) : Nat := (l.getD c cl0).1
def spL (l : List Cl) (c : Nat) : Nat := (l.getD c cl0).2.1
def nuL (l : List Cl) (c : Nat) : Nat := (l.getD c cl0).2.2.1
def MqL (l : List Cl) (c : Nat) : Nat → Bool := (l.getD c cl0).2.2.2.2
/-- what a valley's cells say of clauses -/
def VT (I : IH) (w : Nat) (l : List Cl) : Prop := (∀ p, p < 5 → I (w + 2 + 0) p = nI (min 20 (lastN (wdL l) (spL l) (nuL l) 1 p 1 l.length)) ∧ I (w + 2 + 1) p = nI (lastN (wdL l) (spL l) (nuL l) 2 p 0 l.length) ∧ I (w + 2 + 2) p = nI (lastN (wdL l) (spL l) (nuL l) 3 p 99 l.length) ∧ I (w + 2 + 3) p = nI (lastN (wdL l) (spL l) (nuL l) 4 p 0 l.length)) ∧ ∀ q, q < 144 → I (w + 6) q = nI (sumN (wdL l) (nuL l) (fun c => MqL l c q) l.length)
theorem lastN_congr {wd sp nu wd' sp' nu' : Nat → Nat} {W p d : Nat} : ∀ C, (∀ c, c < C → wd' c = wd c ∧ sp' c = sp c ∧ nu' c = nu c) → lastN wd' sp' nu' W p d C = lastN wd sp nu W p d C
  | 0, _ => rfl
  | C + 1, h => by
    obtain ⟨h1, h2, h3⟩ := h C (by omega)
    rw [lastN, lastN, h1, h2, h3, lastN_congr C (fun c hc => h c (by omega))]
theorem sumN_congr {wd nu wd' nu' : Nat → Nat} {M M' : Nat → Bool} : ∀ C, (∀ c, c < C → wd' c = wd c ∧ nu' c = nu c ∧ M' c = M c) → sumN wd' nu' M' C = sumN wd nu M C
  | 0, _ => rfl
  | C + 1, h => by
    obtain ⟨h1, h2, h3⟩ := h C (by omega)
    rw [sumN, sumN, h1, h2, h3, sumN_congr C (fun c hc => h c (by omega))]
theorem getD_lt {l : List Cl} {c : Cl} {k : Nat} (h : k < l.length) : (l ++ [c]).getD k cl0 = l.getD k cl0 := by
  rw [List.getD_eq_getElem?_getD, List.getD_eq_getElem?_getD, List.getElem?_append_left h]
theorem getD_end {l : List Cl} {c : Cl} : (l ++ [c]).getD l.length cl0 = c := by
  rw [List.getD_eq_getElem?_getD, List.getElem?_append_right (Nat.le_refl _), Nat.sub_self]
  rfl
theorem last_snoc (l : List Cl) (c : Cl) (W p d : Nat) : lastN (wdL (l ++ [c])) (spL (l ++ [c])) (nuL (l ++ [c])) W p d (l ++ [c]).length = if c.1 = W ∧ c.2.1 = p then c.2.2.1 else lastN (wdL l) (spL l) (nuL l) W p d l.length := by
  rw [List.length_append]
  show lastN _ _ _ W p d (l.length + 1) = _
  rw [lastN, lastN_congr (wd := wdL l) (sp := spL l) (nu := nuL l) l.length (fun k hk => ⟨by unfold wdL; rw [getD_lt hk], by unfold spL; rw [getD_lt hk], by unfold nuL; rw [getD_lt hk]⟩)]
  unfold wdL spL nuL
  rw [getD_end]
theorem sum_snoc (l : List Cl) (c : Cl) (q : Nat) : sumN (wdL (l ++ [c])) (nuL (l ++ [c])) (fun k => MqL (l ++ [c]) k q) (l ++ [c]).length = sumN (wdL l) (nuL l) (fun k => MqL l k q) l.length + (if c.1 = 0 ∧ c.2.2.2.2 q = true then c.2.2.1 else 0) := by
  rw [List.length_append]
  show sumN _ _ _ (l.length + 1) = _
  rw [sumN, sumN_congr (wd := wdL l) (nu := nuL l) (M := fun k => MqL l k q) l.length (fun k hk => ⟨by unfold wdL; rw [getD_lt hk], by unfold nuL; rw [getD_lt hk], by unfold MqL; rw [getD_lt hk]⟩)]
  unfold wdL nuL MqL
  simp only [getD_end]
/-- a text: where it fails, or its clauses -/
def pTx (b : Nat → Nat) (N : Nat) : Nat → Nat → Nat ⊕ List Cl
  | 0, i => .inl i
  | k + 1, i => match pCl b i with
    | .inl e => .inl e
    | .inr (j, c) => if j = N then .inr [c] else if k = 0 then .inl j else if b j = 59 then (match pTx b N k (j + 1) with
      | .inl e => .inl e
      | .inr l => .inr (c :: l)) else .inl j
section TEXT
variable {a r N : Nat} {tx : Nat → Nat}
theorem meltL {s : SH} {I : IH} {w x v : Nat} (V : VW s w) (hx : isD s x bo) (hxw : x ≠ w + 6) : ∃ I', fX4_melt s w (nI v) x I = some I' ∧ (∀ y, y ≠ w + 6 → I' y = I y) ∧ ∀ (M : Nat → Bool) (f : Nat → Nat), (∀ q, q < 144 → I x q = bI (M q)) → (∀ q, q < 144 → I (w + 6) q = nI (f q)) → ∀ q, q < 144 → I' (w + 6) q = nI (f q + if M q = true then v else 0) := by
  have key : ∀ mm k fuel (J : IH), k + mm = 144 → mm < fuel → (∀ y, y ≠ w + 6 → J y = I y) → (∀ q, k ≤ q → J (w + 6) q = I (w + 6) q) → (∀ (M : Nat → Bool) (f : Nat → Nat), (∀ q, q < 144 → I x q = bI (M q)) → (∀ q, q < 144 → I (w + 6) q = nI (f q)) → ∀ q, q < k → J (w + 6) q = nI (f q + if M q = true then v else 0)) → ∃ I', fX4_melt_b2 s w fuel (nI v) x (nI k) J = some I' ∧ (∀ y, y ≠ w + 6 → I' y = I y) ∧ ∀ (M : Nat → Bool) (f : Nat → Nat), (∀ q, q < 144 → I x q = bI (M q)) → (∀ q, q < 144 → I (w + 6) q = nI (f q)) → ∀ q, q < 144 → I' (w + 6) q = nI (f q + if M q = true then v else 0) := by
    intro mm
    induction mm with
    | zero =>
      intro k fuel J h1 h2 f g v'
      obtain ⟨u, rfl⟩ : ∃ u, fuel = u + 1 := ⟨fuel - 1, by omega⟩
      obtain rfl : k = 144 := h1
      refine ⟨J, ?_, f, v'⟩
      rw [fX4_melt_b2, v_R1 V, Option.bind_some, v_lm V, Option.bind_some, if_pos (nI_le (Nat.le_refl _) (by omega))]
    | succ mm ih =>
      intro k fuel J h1 h2 f g v'
      obtain ⟨u, rfl⟩ : ∃ u, fuel = u + 1 := ⟨fuel - 1, by omega⟩
      have hk : k < 144 := by omega
      have la : aL s x = some (nI 144) := aL_L (Lay.one hx) 0 rfl (by decide)
      rw [fX4_melt_b2, v_R1 V, Option.bind_some, v_lm V, Option.bind_some, if_neg (nI_ge hk (by omega)), la, Option.bind_some, if_neg (nI_ge hk (by omega)), aI_bo hx hk, Option.bind_some, f x hxw]
      by_cases h0 : I x k = 0
      · rw [if_pos h0, nI_1]
        refine ih (k + 1) u J (by omega) (by omega) f (fun q hq => g q (by omega)) (fun M f' hM hf q hq => ?_)
        by_cases hqk : q = k
        · subst hqk
          rw [hM q hk] at h0
          have hMf : ¬ M q = true := fun h9 => by rw [h9] at h0; exact absurd h0 (by decide)
          rw [g q (Nat.le_refl _), hf q hk, if_neg hMf, Nat.add_zero]
        · exact v' M f' hM hf q (by omega)
      · rw [if_neg h0, Option.bind_some, v_rm V hk, Option.bind_some, g k (Nat.le_refl _), v_sm V hk, Option.bind_some, nI_1]
        refine ih (k + 1) u _ (by omega) (by omega) (fun y hy => by rw [wr_ne hy, f y hy]) (fun q hq => by rw [wr_nj (by omega), g q (by omega)]) (fun M f' hM hf q hq => ?_)
        by_cases hqk : q = k
        · subst hqk
          rw [hM q hk] at h0
          have hMt : M q = true := by
            cases hMq : M q with
            | false => rw [hMq] at h0; exact absurd (show bI false = 0 from rfl) h0
            | true => rfl
          rw [wr_at, hf q hk, if_pos hMt, nI_add]
        · rw [wr_nj hqk]
          exact v' M f' hM hf q (by omega)
  exact key 144 0 1000 I rfl (by omega) (fun _ _ => rfl) (fun _ _ => rfl) (fun M f _ _ q hq => absurd hq (by omega))
theorem tellL {s : SH} {I : IH} {w k p v : Nat} (V : VW s w) (hk : k < 4) (hp : p < 5) (hv : v ≤ 99) : ∃ I', fX4_tell s w (nI k) (nI p) (nI v) I = some I' ∧ ∀ y j, I' y j = if y = w + 2 + k ∧ j = p then nI (if k = 0 then min v 20 else v) else I y j := by
  have fin : ∀ z, fX4_tell s w (nI k) (nI p) (nI v) I = some (wr I (w + 2 + k) p z) → z = nI (if k = 0 then min v 20 else v) → ∃ I', fX4_tell s w (nI k) (nI p) (nI v) I = some I' ∧ ∀ y j, I' y j = if y = w + 2 + k ∧ j = p then nI (if k = 0 then min v 20 else v) else I y j := fun z h hz => ⟨_, h, fun y j => by
    by_cases hc : y = w + 2 + k ∧ j = p
    · obtain ⟨rfl, rfl⟩ := hc
      rw [wr_at, if_pos ⟨rfl, rfl⟩, hz]
    · rw [wr_or (by omega), if_neg hc]⟩
  by_cases h0 : k = 0
  · subst h0
    refine fin (nI (min v 20)) ?_ (by rw [if_pos rfl])
    unfold fX4_tell
    rw [if_neg (show ¬ fX6_isUnder (nI 0) 4 = 0 from un (N := 4) hk (by omega)), if_neg (show ¬ fX6_isUnder (nI p) 5 = 0 from un (N := 5) hp (by omega)), v_R0 V, Option.bind_some, v_a V hk, Option.bind_some, if_pos (show nI 0 = 0 from rfl), show fJ9_min_7cf53 (nI v) 20 = nI (min v 20) from min_nI (y := 20) (by omega) (by omega), v_s V hk hp, Option.bind_some]
  · refine fin (nI v) ?_ (by rw [if_neg h0])
    unfold fX4_tell
    rw [if_neg (show ¬ fX6_isUnder (nI k) 4 = 0 from un (N := 4) hk (by omega)), if_neg (show ¬ fX6_isUnder (nI p) 5 = 0 from un (N := 5) hp (by omega)), v_R0 V, Option.bind_some, v_a V hk, Option.bind_some, if_neg (nI_ne0 (by omega) (by omega)), v_s V hk hp, Option.bind_some]
/-- one clause, in a sound state -/
theorem clauseC {s : SH} {I : IH} {n i : Nat} (h : Pst s I n a r N tx i true) (V : VW s (r + 1)) (hn : r + 8 ≤ n) : ∃ A s' I', fX1_clause r s I n = some ((A, 144 * A), (s', I', n + A)) ∧ (∀ y, y < n → s' y = s y) ∧ (∀ y, y < n → y ≠ r → ¬ (r + 3 ≤ y ∧ y ≤ r + 7) → I' y = I y) ∧ match pCl (bt N tx) i with
  | .inl e => i ≤ e ∧ i + 2 * A ≤ e + 2 ∧ Pst s' I' (n + A) a r N tx e false
  | .inr (j, c) => i + 2 * A ≤ j ∧ i < j ∧ Pst s' I' (n + A) a r N tx j true ∧ (c.1 ≤ 4 ∧ c.2.1 < 5 ∧ c.2.2.1 ≤ 99) ∧ ∀ l, VT I (r + 1) l → VT I' (r + 1) (l ++ [c]) := by
  obtain ⟨x, I1, I2, e1, e2, f2, -, hd⟩ := headC h
  obtain ⟨g2, g3, g4⟩ := hd rfl
  have hle := (pSq_le (bt N tx) (hdL (bt N tx) i).1 i true).1
  have hlen := (pSq_le (bt N tx) (hdL (bt N tx) i).1 i true).2
  have hl1 : 1 ≤ (hdL (bt N tx) i).1.length := by
    unfold hdL
    split
    · split <;> decide
    · split
      · split <;> decide
      · decide
  have hc4 : (hdL (bt N tx) i).2 ≤ 4 := by
    unfold hdL
    split
    · split <;> decide
    · split
      · split <;> decide
      · decide
  have hrn : r < n := h.2.2.1.1
  generalize hj0 : (pSq (bt N tx) (hdL (bt N tx) i).1 i true).1 = j0 at *
  generalize hok : (pSq (bt N tx) (hdL (bt N tx) i).1 i true).2 = ok at *
  -- the way of melt
  have meltP : ∃ A s' I', (b2 (fX1_number s r I2) fun x13 i14 => (fX1_expect s r 32 i14).bind fun i15 => bE4 (fX1_either r (fX1_factor 8) 0 s i15 n) fun x16 h17 i18 n19 => (gI h17 i18 1 r 2).bind fun x24 => if x24 = 0 then some ((0, 0), (h17, i18, n19)) else (gR h17 1 r 4).bind fun x25 => (ck h17 4 x25).bind fun u26 => (fX4_melt h17 x25 x13 x16 i18).bind fun i27 => some ((0, 0), (h17, i27, n19))) = some ((A, 144 * A), (s', I', n + A)) ∧ (∀ y, y < n → s' y = s y) ∧ (∀ y, y < n → y ≠ r → ¬ (r + 3 ≤ y ∧ y ≤ r + 7) → I' y = I y) ∧ (ok = false → A = 1 ∧ Pst s' I' (n + A) a r N tx j0 false) ∧ (ok = true → match pNum (bt N tx) j0 with
      | none => A = 1 ∧ Pst s' I' (n + A) a r N tx j0 false
      | some (j, v) => j0 < j ∧ (if bt N tx j = 32 then (match pE (bt N tx) (pF (bt N tx) 8 0) (j + 1) with
        | .inl e => j + 1 ≤ e ∧ j + 1 + 2 * A ≤ e + 2 ∧ Pst s' I' (n + A) a r N tx e false
        | .inr (j3, p, M) => j + 2 * A + 2 ≤ j3 ∧ Pst s' I' (n + A) a r N tx j3 true ∧ v ≤ 99 ∧ ∀ l, VT I (r + 1) l → VT I' (r + 1) (l ++ [(0, 0, v, p, M)])) else A = 1 ∧ Pst s' I' (n + A) a r N tx j false)) := by
    obtain ⟨z, I3, n1, n2, n3⟩ := numberC g2
    -- the state behind the number and the space
    have two : ∀ (j : Nat) (sn : Bool), Pst s I3 n a r N tx j sn → ∃ I4 j4 sn4, fX1_expect s r 32 I3 = some I4 ∧ Fr1 I3 I4 r ∧ Pst s I4 n a r N tx j4 sn4 ∧ (if sn = true ∧ bt N tx j = 32 then j4 = j + 1 ∧ sn4 = true else j4 = j ∧ sn4 = false) := fun j sn hP => by
      obtain ⟨I4, m1, m2, m3⟩ := expectC (k := 32) hP (by omega)
      by_cases hc : sn = true ∧ bt N tx j = 32
      · obtain ⟨hs, hb⟩ := hc
        subst hs
        rw [if_pos (show cb N tx true j = 32 from (if_pos rfl).trans hb)] at m3
        exact ⟨I4, j + 1, true, m1, m2, m3, by rw [if_pos ⟨rfl, hb⟩]; exact ⟨rfl, rfl⟩⟩
      · have : cb N tx sn j ≠ 32 := fun h9 => by
          obtain ⟨t1, -, t3⟩ := cb_lt (show cb N tx sn j < 128 by omega)
          exact hc ⟨t1, by omega⟩
        rw [if_neg this] at m3
        exact ⟨I4, j, false, m1, m2, m3, by rw [if_neg hc]; exact ⟨rfl, rfl⟩⟩
    -- the expression, sound or not
    have three : ∀ (I4 : IH) (j4 : Nat) (sn4 : Bool) (v : Nat), fX1_expect s r 32 I3 = some I4 → Fr1 I3 I4 r → Pst s I4 n a r N tx j4 sn4 → (sn4 = true → z = nI v ∧ v ≤ 99) → ∃ A s' I', (b2 (fX1_number s r I2) fun x13 i14 => (fX1_expect s r 32 i14).bind fun i15 => bE4 (fX1_either r (fX1_factor 8) 0 s i15 n) fun x16 h17 i18 n19 => (gI h17 i18 1 r 2).bind fun x24 => if x24 = 0 then some ((0, 0), (h17, i18, n19)) else (gR h17 1 r 4).bind fun x25 => (ck h17 4 x25).bind fun u26 => (fX4_melt h17 x25 x13 x16 i18).bind fun i27 => some ((0, 0), (h17, i27, n19))) = some ((A, 144 * A), (s', I', n + A)) ∧ (∀ y, y < n → s' y = s y) ∧ (∀ y, y < n → y ≠ r → ¬ (r + 3 ≤ y ∧ y ≤ r + 7) → I' y = I y) ∧ (sn4 = false → A = 1 ∧ Pst s' I' (n + A) a r N tx j4 false) ∧ (sn4 = true → match pE (bt N tx) (pF (bt N tx) 8 0) j4 with
        | .inl e => j4 ≤ e ∧ j4 + 2 * A ≤ e + 2 ∧ Pst s' I' (n + A) a r N tx e false
        | .inr (j3, p, M) => j4 + 2 * A + 1 ≤ j3 ∧ Pst s' I' (n + A) a r N tx j3 true ∧ v ≤ 99 ∧ ∀ l, VT I (r + 1) l → VT I' (r + 1) (l ++ [(0, 0, v, p, M)])) := fun I4 j4 sn4 v m1 m2 m3 m4 => by
      obtain ⟨A, x', s', I', t1, ⟨t2, t2'⟩, t3, t4, t5, t6, t7⟩ := exprC (factorC (a := a) (r := r) (N := N) (tx := tx) 8 0 (by omega) (by omega)) s I4 n j4 sn4 m3
      replace t1 : fX1_either r (fX1_factor 8) 0 s I4 n = some ((A, 144 * A), (x', s', I', n + A)) := t1
      have fr : ∀ y, y < n → y ≠ r → I' y = I y := fun y hy hyr => by rw [t5 y hy hyr, m2 y hyr, n2 y hyr, f2 y hyr]
      have bad : ∀ e, Pst s' I' (n + A) a r N tx e false → (b2 (fX1_number s r I2) fun x13 i14 => (fX1_expect s r 32 i14).bind fun i15 => bE4 (fX1_either r (fX1_factor 8) 0 s i15 n) fun x16 h17 i18 n19 => (gI h17 i18 1 r 2).bind fun x24 => if x24 = 0 then some ((0, 0), (h17, i18, n19)) else (gR h17 1 r 4).bind fun x25 => (ck h17 4 x25).bind fun u26 => (fX4_melt h17 x25 x13 x16 i18).bind fun i27 => some ((0, 0), (h17, i27, n19))) = some ((A, 144 * A), (s', I', n + A)) := fun e hP => by
        have gz : gI s' I' 1 r 2 = some 0 := (gI_L (Lay.one hP.1) 0 2 rfl rfl).trans (by rw [show I' (r + 0) 2 = 0 from hP.2.2.2.2.1])
        rw [n1, b2_some, m1, Option.bind_some, t1]
        refine (bE4_y (c2 := 0) (k2 := 0) (u := (s', I', n + A)) ?_).trans (by simp)
        rw [gz, Option.bind_some, if_pos rfl]
      cases sn4 with
      | false =>
        obtain ⟨u1, u2⟩ := t6 rfl
        exact ⟨A, s', I', bad j4 u2, t4, fun y hy hyr _ => fr y hy hyr, fun _ => ⟨u1, u2⟩, fun h => absurd h (by decide)⟩
      | true =>
        have T := t7 rfl
        obtain ⟨hz, hv99⟩ := m4 rfl
        cases hE : pE (bt N tx) (pF (bt N tx) 8 0) j4 with
        | inl e =>
          rw [hE] at T
          obtain ⟨w1, w2, w3⟩ := T
          exact ⟨A, s', I', bad e w3, t4, fun y hy hyr _ => fr y hy hyr, fun h => absurd h (by decide), fun _ => ⟨w1, w2, w3⟩⟩
        | inr jpm =>
          obtain ⟨j3, p, M⟩ := jpm
          rw [hE] at T
          obtain ⟨w1, w2, w3⟩ := T
          have V' : VW s' (r + 1) := Lay.kept V (fun y h1 h2 => t4 y (by have h3 : y < r + 1 + 7 := h2; omega))
          obtain ⟨I5, y1, y2, y3⟩ := meltL (I := I') (v := v) V' t3 (by omega)
          have gs : gI s' I' 1 r 2 = some 1 := (gI_L (Lay.one w2.1) 0 2 rfl rfl).trans (by rw [show I' (r + 0) 2 = 1 from w2.2.2.2.2.1])
          have g4' : gR s' 1 r 4 = some (r + 1) := gR_L (Lay.one w2.1) 0 4 rfl rfl
          have ck4 : ck s' 4 (r + 1) = some () := ck_L V' 0 rfl
          have ha96 : a + 96 < r := h.2.2.1.2
          refine ⟨A, s', I5, ?_, t4, fun y hy hyr hnw => by rw [y2 y (by omega), fr y hy hyr], fun h => absurd h (by decide), fun _ => ⟨w1, w2.cells (y2 r (by omega)) (y2 _ (by omega)), hv99, fun l hl => ?_⟩⟩
          · rw [n1, b2_some, m1, Option.bind_some, t1]
            refine (bE4_y (c2 := 0) (k2 := 0) (u := (s', I5, n + A)) ?_).trans (by simp)
            rw [gs, Option.bind_some, if_neg (by decide), g4', Option.bind_some, ck4, Option.bind_some, hz, y1, Option.bind_some]
          · obtain ⟨l1, l2⟩ := hl
            refine ⟨fun p' hp' => ?_, fun q hq => ?_⟩
            · rw [last_snoc, last_snoc, last_snoc, last_snoc, if_neg (by show ¬ (0 = 1 ∧ _); omega), if_neg (by show ¬ (0 = 2 ∧ _); omega), if_neg (by show ¬ (0 = 3 ∧ _); omega), if_neg (by show ¬ (0 = 4 ∧ _); omega), y2 _ (by omega), y2 _ (by omega), y2 _ (by omega), y2 _ (by omega), fr _ (by omega) (by omega), fr _ (by omega) (by omega), fr _ (by omega) (by omega), fr _ (by omega) (by omega)]
              exact l1 p' hp'
            · rw [sum_snoc, y3 M (fun q => sumN (wdL l) (nuL l) (fun c => MqL l c q) l.length) w3 (fun q hq => by rw [fr _ (by omega) (by omega)]; exact l2 q hq) q hq]
              congr 1
              congr 1
              by_cases hM : M q = true
              · rw [if_pos hM, if_pos ⟨rfl, hM⟩]
              · rw [if_neg hM, if_neg (fun h => hM h.2)]
    cases hpn : (if ok = true then pNum (bt N tx) j0 else none) with
    | none =>
      rw [hpn] at n3
      obtain ⟨I4, j4, sn4, m1, m2, m3, m4⟩ := two j0 false n3
      rw [if_neg (fun h => absurd h.1 (by decide))] at m4
      obtain ⟨rfl, rfl⟩ := m4
      obtain ⟨A, s', I', t1, t2, t3, t4, -⟩ := three I4 j4 false 0 m1 m2 m3 (fun h => absurd h (by decide))
      refine ⟨A, s', I', t1, t2, t3, fun _ => t4 rfl, fun hk => ?_⟩
      rw [if_pos hk] at hpn
      rw [hpn]
      exact t4 rfl
    | some jv =>
      obtain ⟨j, v⟩ := jv
      have hk : ok = true := by
        by_cases h9 : ok = true
        · exact h9
        · rw [if_neg h9] at hpn
          cases hpn
      rw [hpn] at n3
      obtain ⟨n4, n5, n6, n7⟩ := n3
      rw [if_pos hk] at hpn
      obtain ⟨I4, j4, sn4, m1, m2, m3, m4⟩ := two j true n4
      by_cases h32 : bt N tx j = 32
      · rw [if_pos ⟨rfl, h32⟩] at m4
        obtain ⟨rfl, rfl⟩ := m4
        obtain ⟨A, s', I', t1, t2, t3, -, t5⟩ := three I4 (j + 1) true v m1 m2 m3 (fun _ => ⟨n5, n6⟩)
        refine ⟨A, s', I', t1, t2, t3, fun h9 => absurd (h9.symm.trans hk) (by decide), fun _ => ?_⟩
        rw [hpn]
        refine ⟨n7, ?_⟩
        rw [if_pos h32]
        have T := t5 rfl
        cases hE : pE (bt N tx) (pF (bt N tx) 8 0) (j + 1) with
        | inl e =>
          rw [hE] at T
          exact T
        | inr jpm =>
          obtain ⟨j3, p, M⟩ := jpm
          rw [hE] at T
          obtain ⟨w1, w2⟩ := T
          exact ⟨by omega, w2⟩
      · rw [if_neg (fun h => h32 h.2)] at m4
        obtain ⟨rfl, rfl⟩ := m4
        obtain ⟨A, s', I', t1, t2, t3, t4, -⟩ := three I4 j4 false 0 m1 m2 m3 (fun h => absurd h (by decide))
        refine ⟨A, s', I', t1, t2, t3, fun h9 => absurd (h9.symm.trans hk) (by decide), fun _ => ?_⟩
        rw [hpn]
        refine ⟨n7, ?_⟩
        rw [if_neg h32]
        exact t4 rfl
  -- the way of the others
  have tellP : ∀ y, y < 4 → ∃ I', (b2 (fX1_figure s r 4 I2) fun x4 i5 => (fX1_expect s r 32 i5).bind fun i6 => b2 (fX1_number s r i6) fun x7 i8 => (gI s i8 1 r 2).bind fun x9 => if x9 = 0 then some ((0, 0), (s, i8, n)) else (gR s 1 r 4).bind fun x10 => (ck s 4 x10).bind fun u11 => (fX4_tell s x10 (nI y) x4 x7 i8).bind fun i12 => some ((0, 0), (s, i12, n))) = some ((0, 144 * 0), (s, I', n + 0)) ∧ (∀ z, z < n → z ≠ r → ¬ (r + 3 ≤ z ∧ z ≤ r + 7) → I' z = I z) ∧ (ok = false → Pst s I' n a r N tx j0 false) ∧ (ok = true → if 48 ≤ bt N tx j0 ∧ bt N tx j0 ≤ 52 then (if bt N tx (j0 + 1) = 32 then (match pNum (bt N tx) (j0 + 2) with
      | none => Pst s I' n a r N tx (j0 + 2) false
      | some (j, v) => j0 + 2 < j ∧ Pst s I' n a r N tx j true ∧ v ≤ 99 ∧ ∀ l, VT I (r + 1) l → VT I' (r + 1) (l ++ [(y + 1, bt N tx j0 - 48, v, [], fun _ => false)])) else Pst s I' n a r N tx (j0 + 1) false) else Pst s I' n a r N tx j0 false) := by
    intro y hy
    obtain ⟨z, I3, m1, m2, m3⟩ := figureC g2
    have rest : ∀ (j : Nat) (sn : Bool), Pst s I3 n a r N tx j sn → ∃ z7 I5 j5 sn5, (∃ I4, fX1_expect s r 32 I3 = some I4 ∧ fX1_number s r I4 = some (z7, I5)) ∧ Fr1 I3 I5 r ∧ Pst s I5 n a r N tx j5 sn5 ∧ (if sn = true ∧ bt N tx j = 32 then (match pNum (bt N tx) (j + 1) with | none => j5 = j + 1 ∧ sn5 = false | some (j', v) => j5 = j' ∧ sn5 = true ∧ z7 = nI v ∧ v ≤ 99 ∧ j + 1 < j') else j5 = j ∧ sn5 = false) := fun j sn hP => by
      obtain ⟨I4, t1, t2, t3⟩ := expectC (k := 32) hP (by omega)
      by_cases hc : sn = true ∧ bt N tx j = 32
      · obtain ⟨hs, hb⟩ := hc
        subst hs
        rw [if_pos (show cb N tx true j = 32 from (if_pos rfl).trans hb)] at t3
        obtain ⟨z7, I5, t4, t5, t6⟩ := numberC t3
        rw [if_pos rfl] at t6
        cases hpn : pNum (bt N tx) (j + 1) with
        | none =>
          rw [hpn] at t6
          exact ⟨z7, I5, j + 1, false, ⟨I4, t1, t4⟩, t2.trans t5, t6, by rw [if_pos ⟨rfl, hb⟩]; exact ⟨rfl, rfl⟩⟩
        | some jv =>
          obtain ⟨j', v⟩ := jv
          rw [hpn] at t6
          obtain ⟨t7, t8, t9, t10⟩ := t6
          exact ⟨z7, I5, j', true, ⟨I4, t1, t4⟩, t2.trans t5, t7, by rw [if_pos ⟨rfl, hb⟩]; exact ⟨rfl, rfl, t8, t9, t10⟩⟩
      · have : cb N tx sn j ≠ 32 := fun h9 => by
          obtain ⟨q1, -, q3⟩ := cb_lt (show cb N tx sn j < 128 by omega)
          exact hc ⟨q1, by omega⟩
        rw [if_neg this] at t3
        obtain ⟨z7, I5, t4, t5, t6⟩ := numberC t3
        rw [if_neg (by decide)] at t6
        exact ⟨z7, I5, j, false, ⟨I4, t1, t4⟩, t2.trans t5, t6, by rw [if_neg hc]; exact ⟨rfl, rfl⟩⟩
    have bad : ∀ (z7 : Int32) (I4 I5 : IH) (e : Nat), fX1_expect s r 32 I3 = some I4 → fX1_number s r I4 = some (z7, I5) → Pst s I5 n a r N tx e false → (b2 (fX1_figure s r 4 I2) fun x4 i5 => (fX1_expect s r 32 i5).bind fun i6 => b2 (fX1_number s r i6) fun x7 i8 => (gI s i8 1 r 2).bind fun x9 => if x9 = 0 then some ((0, 0), (s, i8, n)) else (gR s 1 r 4).bind fun x10 => (ck s 4 x10).bind fun u11 => (fX4_tell s x10 (nI y) x4 x7 i8).bind fun i12 => some ((0, 0), (s, i12, n))) = some ((0, 144 * 0), (s, I5, n + 0)) := fun z7 I4 I5 e t1 t2 hP => by
      have gz : gI s I5 1 r 2 = some 0 := (gI_L (Lay.one hP.1) 0 2 rfl rfl).trans (by rw [show I5 (r + 0) 2 = 0 from hP.2.2.2.2.1])
      rw [m1, b2_some, t1, Option.bind_some, t2, b2_some, gz, Option.bind_some, if_pos rfl]
      rfl
    by_cases hfig : ok = true ∧ 48 ≤ bt N tx j0 ∧ bt N tx j0 ≤ 52
    · rw [if_pos hfig] at m3
      obtain ⟨m4, m5⟩ := m3
      obtain ⟨hk, hf1, hf2⟩ := hfig
      obtain ⟨z7, I5, j5, sn5, ⟨I4, t1, t2⟩, t3, t4, t5⟩ := rest (j0 + 1) true m4
      have fr : ∀ z, z < n → z ≠ r → I5 z = I z := fun z hz hzr => by rw [t3 z hzr, m2 z hzr, f2 z hzr]
      by_cases h32 : bt N tx (j0 + 1) = 32
      · rw [if_pos ⟨rfl, h32⟩] at t5
        cases hpn : pNum (bt N tx) (j0 + 1 + 1) with
        | none =>
          rw [hpn] at t5
          obtain ⟨rfl, rfl⟩ := t5
          refine ⟨I5, bad z7 I4 I5 _ t1 t2 t4, fun z hz hzr _ => fr z hz hzr, fun h9 => absurd (h9.symm.trans hk) (by decide), fun _ => ?_⟩
          rw [if_pos ⟨hf1, hf2⟩, if_pos h32, show j0 + 2 = j0 + 1 + 1 from rfl]
          exact t4
        | some jv =>
          obtain ⟨j', v⟩ := jv
          rw [hpn] at t5
          obtain ⟨rfl, rfl, t6, t7, t8⟩ := t5
          obtain ⟨I6, y1, y2⟩ := tellL (I := I5) (p := bt N tx j0 - 48) V hy (by omega) t7
          have gs : gI s I5 1 r 2 = some 1 := (gI_L (Lay.one t4.1) 0 2 rfl rfl).trans (by rw [show I5 (r + 0) 2 = 1 from t4.2.2.2.2.1])
          have g4' : gR s 1 r 4 = some (r + 1) := gR_L (Lay.one t4.1) 0 4 rfl rfl
          have ck4 : ck s 4 (r + 1) = some () := ck_L V 0 rfl
          have ha96 : a + 96 < r := h.2.2.1.2
          have fr6 : ∀ z, ¬ (r + 3 ≤ z ∧ z ≤ r + 6) → I6 z = I5 z := fun z hz => funext fun k => by rw [y2, if_neg (by omega)]
          refine ⟨I6, ?_, fun z hz hzr hnw => by rw [fr6 z (by omega), fr z hz hzr], fun h9 => absurd (h9.symm.trans hk) (by decide), fun _ => ?_⟩
          · rw [m1, b2_some, t1, Option.bind_some, t2, b2_some, gs, Option.bind_some, if_neg (by decide), g4', Option.bind_some, ck4, Option.bind_some, m5, t6, y1, Option.bind_some]
            rfl
          · rw [if_pos ⟨hf1, hf2⟩, if_pos h32, show j0 + 2 = j0 + 1 + 1 from rfl]
            refine ⟨t8, t4.cells (fr6 r (by omega)) (fr6 _ (by omega)), t7, fun l hl => ?_⟩
            obtain ⟨l1, l2⟩ := hl
            refine ⟨fun p' hp' => ?_, fun q hq => ?_⟩
            · obtain ⟨b0, b1, b2', b3⟩ := l1 p' hp'
              have yes : ∀ Q, y = Q → p' = bt N tx j0 - 48 → I6 (r + 1 + 2 + Q) p' = nI (if y = 0 then min v 20 else v) := fun Q h1 h2 => by
                rw [y2, if_pos (show r + 1 + 2 + Q = r + 1 + 2 + y ∧ p' = bt N tx j0 - 48 from ⟨by omega, h2⟩)]
              have no : ∀ Q, Q < 4 → ¬ (y = Q ∧ p' = bt N tx j0 - 48) → I6 (r + 1 + 2 + Q) p' = I (r + 1 + 2 + Q) p' := fun Q hQ h1 => by
                rw [y2, if_neg (show ¬ (r + 1 + 2 + Q = r + 1 + 2 + y ∧ p' = bt N tx j0 - 48) from fun h9 => h1 ⟨by omega, h9.2⟩), fr _ (by omega) (by omega)]
              have sp : ∀ W d, lastN (wdL (l ++ [(y + 1, bt N tx j0 - 48, v, [], fun _ => false)])) (spL (l ++ [(y + 1, bt N tx j0 - 48, v, [], fun _ => false)])) (nuL (l ++ [(y + 1, bt N tx j0 - 48, v, [], fun _ => false)])) W p' d (l ++ [((y + 1, bt N tx j0 - 48, v, [], fun _ => false) : Cl)]).length = if y + 1 = W ∧ bt N tx j0 - 48 = p' then v else lastN (wdL l) (spL l) (nuL l) W p' d l.length := fun W d => last_snoc l (y + 1, bt N tx j0 - 48, v, [], fun _ => false) W p' d
              refine ⟨?_, ?_, ?_, ?_⟩
              · by_cases hc : y = 0 ∧ p' = bt N tx j0 - 48
                · rw [yes 0 hc.1 hc.2, if_pos (show y = 0 from hc.1), sp, if_pos (show y + 1 = 1 ∧ bt N tx j0 - 48 = p' from ⟨by omega, hc.2.symm⟩), Nat.min_comm]
                · rw [no 0 (by omega) hc, sp, if_neg (show ¬ (y + 1 = 1 ∧ bt N tx j0 - 48 = p') from fun h9 => hc ⟨by omega, h9.2.symm⟩)]
                  exact b0
              · by_cases hc : y = 1 ∧ p' = bt N tx j0 - 48
                · rw [yes 1 hc.1 hc.2, if_neg (show ¬ y = 0 by omega), sp, if_pos (show y + 1 = 2 ∧ bt N tx j0 - 48 = p' from ⟨by omega, hc.2.symm⟩)]
                · rw [no 1 (by omega) hc, sp, if_neg (show ¬ (y + 1 = 2 ∧ bt N tx j0 - 48 = p') from fun h9 => hc ⟨by omega, h9.2.symm⟩)]
                  exact b1
              · by_cases hc : y = 2 ∧ p' = bt N tx j0 - 48
                · rw [yes 2 hc.1 hc.2, if_neg (show ¬ y = 0 by omega), sp, if_pos (show y + 1 = 3 ∧ bt N tx j0 - 48 = p' from ⟨by omega, hc.2.symm⟩)]
                · rw [no 2 (by omega) hc, sp, if_neg (show ¬ (y + 1 = 3 ∧ bt N tx j0 - 48 = p') from fun h9 => hc ⟨by omega, h9.2.symm⟩)]
                  exact b2'
              · by_cases hc : y = 3 ∧ p' = bt N tx j0 - 48
                · rw [yes 3 hc.1 hc.2, if_neg (show ¬ y = 0 by omega), sp, if_pos (show y + 1 = 4 ∧ bt N tx j0 - 48 = p' from ⟨by omega, hc.2.symm⟩)]
                · rw [no 3 (by omega) hc, sp, if_neg (show ¬ (y + 1 = 4 ∧ bt N tx j0 - 48 = p') from fun h9 => hc ⟨by omega, h9.2.symm⟩)]
                  exact b3
            · rw [sum_snoc, fr6 _ (by omega), fr _ (by omega) (by omega), l2 q hq, if_neg (fun h9 => by have h8 : y + 1 = 0 := h9.1; omega), Nat.add_zero]
      · rw [if_neg (fun h => h32 h.2)] at t5
        obtain ⟨rfl, rfl⟩ := t5
        refine ⟨I5, bad z7 I4 I5 _ t1 t2 t4, fun z hz hzr _ => fr z hz hzr, fun h9 => absurd (h9.symm.trans hk) (by decide), fun _ => ?_⟩
        rw [if_pos ⟨hf1, hf2⟩, if_neg h32]
        exact t4
    · rw [if_neg hfig] at m3
      obtain ⟨z7, I5, j5, sn5, ⟨I4, t1, t2⟩, t3, t4, t5⟩ := rest j0 false m3
      rw [if_neg (fun h => absurd h.1 (by decide))] at t5
      obtain ⟨rfl, rfl⟩ := t5
      have fr : ∀ z, z < n → z ≠ r → I5 z = I z := fun z hz hzr => by rw [t3 z hzr, m2 z hzr, f2 z hzr]
      refine ⟨I5, bad z7 I4 I5 _ t1 t2 t4, fun z hz hzr _ => fr z hz hzr, fun _ => t4, fun hk => ?_⟩
      rw [if_neg (fun h => hfig ⟨hk, h⟩)]
      exact t4
  have start : ∀ {R : Option ((Nat × Nat) × (SH × IH × Nat))}, (x = 4 → (b2 (fX1_number s r I2) fun x13 i14 => (fX1_expect s r 32 i14).bind fun i15 => bE4 (fX1_either r (fX1_factor 8) 0 s i15 n) fun x16 h17 i18 n19 => (gI h17 i18 1 r 2).bind fun x24 => if x24 = 0 then some ((0, 0), (h17, i18, n19)) else (gR h17 1 r 4).bind fun x25 => (ck h17 4 x25).bind fun u26 => (fX4_melt h17 x25 x13 x16 i18).bind fun i27 => some ((0, 0), (h17, i27, n19))) = R) → (x ≠ 4 → (b2 (fX1_figure s r 4 I2) fun x4 i5 => (fX1_expect s r 32 i5).bind fun i6 => b2 (fX1_number s r i6) fun x7 i8 => (gI s i8 1 r 2).bind fun x9 => if x9 = 0 then some ((0, 0), (s, i8, n)) else (gR s 1 r 4).bind fun x10 => (ck s 4 x10).bind fun u11 => (fX4_tell s x10 x x4 x7 i8).bind fun i12 => some ((0, 0), (s, i12, n))) = R) → fX1_clause r s I n = R := fun k1' k2' => by
    unfold fX1_clause
    rw [e1, b2_some, e2, Option.bind_some]
    by_cases hx4 : x = 4
    · rw [if_pos hx4]
      exact k1' hx4
    · rw [if_neg hx4]
      exact k2' hx4
  have hpc : pCl (bt N tx) i = (if ok = true then (if (hdL (bt N tx) i).2 = 0 then (match pNum (bt N tx) j0 with
      | none => .inl j0
      | some (j, v) => if bt N tx j = 32 then (match pE (bt N tx) (pF (bt N tx) 8 0) (j + 1) with
        | .inl e => .inl e
        | .inr (j3, p, M) => .inr (j3, (0, 0, v, p, M))) else .inl j)
    else if 48 ≤ bt N tx j0 ∧ bt N tx j0 ≤ 52 then
      (if bt N tx (j0 + 1) = 32 then (match pNum (bt N tx) (j0 + 2) with
        | none => .inl (j0 + 2)
        | some (j, v) => .inr (j, ((hdL (bt N tx) i).2, bt N tx j0 - 48, v, [], fun _ => false)))
      else .inl (j0 + 1))
    else .inl j0)
  else .inl j0) := by
    unfold pCl
    rw [hj0, hok]
    all_goals rfl
  rw [hpc]
  by_cases hk : ok = true
  · rw [if_pos hk]
    have hxe := g3 hk
    have hj0i := hlen hk
    by_cases hw0 : (hdL (bt N tx) i).2 = 0
    · obtain ⟨A, s', I', t1, t2, t3, -, t5⟩ := meltP
      have hx4 : x = 4 := by rw [hxe, hw0]; rfl
      refine ⟨A, s', I', start (fun _ => t1) (fun h9 => absurd hx4 h9), t2, t3, ?_⟩
      have T := t5 hk
      rw [if_pos hw0]
      cases hpn : pNum (bt N tx) j0 with
      | none =>
        rw [hpn] at T
        obtain ⟨q1, q2⟩ := T
        exact ⟨by omega, by omega, q2⟩
      | some jv =>
        obtain ⟨j, v⟩ := jv
        rw [hpn] at T
        obtain ⟨q1, q2⟩ := T
        show (match (if bt N tx j = 32 then _ else _ : CRes) with
          | .inl e => i ≤ e ∧ i + 2 * A ≤ e + 2 ∧ Pst s' I' (n + A) a r N tx e false
          | .inr (j, c) => i + 2 * A ≤ j ∧ i < j ∧ Pst s' I' (n + A) a r N tx j true ∧ (c.1 ≤ 4 ∧ c.2.1 < 5 ∧ c.2.2.1 ≤ 99) ∧ ∀ l, VT I (r + 1) l → VT I' (r + 1) (l ++ [c]))
        by_cases h32 : bt N tx j = 32
        · rw [if_pos h32] at q2 ⊢
          cases hE : pE (bt N tx) (pF (bt N tx) 8 0) (j + 1) with
          | inl e =>
            rw [hE] at q2
            obtain ⟨q3, q4, q5⟩ := q2
            exact ⟨by omega, by omega, q5⟩
          | inr jpm =>
            obtain ⟨j3, p, M⟩ := jpm
            rw [hE] at q2
            obtain ⟨q3, q4, q5, q6⟩ := q2
            exact ⟨by omega, by omega, q4, ⟨by show 0 ≤ 4; omega, by show 0 < 5; omega, q5⟩, q6⟩
        · rw [if_neg h32] at q2 ⊢
          obtain ⟨q3, q4⟩ := q2
          exact ⟨by omega, by omega, q4⟩
    · have hcw : cls (hdL (bt N tx) i).2 = (hdL (bt N tx) i).2 - 1 := by
        unfold cls
        rw [if_neg hw0]
      rw [hcw] at hxe
      obtain ⟨I', t1, t2, -, t4⟩ := tellP ((hdL (bt N tx) i).2 - 1) (by omega)
      have hx4 : x ≠ 4 := fun h9 => by
        rw [hxe] at h9
        have := (nI_eq (b := 4) (by omega) (by omega)).mp h9
        omega
      rw [← hxe] at t1
      refine ⟨0, s, I', start (fun h9 => absurd h9 hx4) (fun _ => t1), fun _ _ => rfl, t2, ?_⟩
      have T := t4 hk
      rw [if_neg hw0]
      by_cases hfig : 48 ≤ bt N tx j0 ∧ bt N tx j0 ≤ 52
      · rw [if_pos hfig] at T ⊢
        by_cases h32 : bt N tx (j0 + 1) = 32
        · rw [if_pos h32] at T ⊢
          cases hpn : pNum (bt N tx) (j0 + 2) with
          | none =>
            rw [hpn] at T
            exact ⟨by omega, by omega, T⟩
          | some jv =>
            obtain ⟨j, v⟩ := jv
            rw [hpn] at T
            obtain ⟨q1, q2, q3, q4⟩ := T
            rw [show (hdL (bt N tx) i).2 - 1 + 1 = (hdL (bt N tx) i).2 by omega] at q4
            exact ⟨by omega, by omega, q2, ⟨hc4, by show bt N tx j0 - 48 < 5; omega, q3⟩, q4⟩
        · rw [if_neg h32] at T ⊢
          exact ⟨by omega, by omega, T⟩
      · rw [if_neg hfig] at T ⊢
        exact ⟨by omega, by omega, T⟩
  · rw [if_neg hk]
    have hkf : ok = false := by simpa using hk
    obtain ⟨y, hy, hxy⟩ := g4 hkf
    by_cases hy4 : y = 4
    · obtain ⟨A, s', I', t1, t2, t3, t4, -⟩ := meltP
      obtain ⟨q1, q2⟩ := t4 hkf
      have hx4 : x = 4 := by rw [hxy, hy4]; rfl
      exact ⟨A, s', I', start (fun _ => t1) (fun h9 => absurd hx4 h9), t2, t3, by omega, by omega, q2⟩
    · obtain ⟨I', t1, t2, t3, -⟩ := tellP y (by omega)
      have hx4 : x ≠ 4 := fun h9 => by
        rw [hxy] at h9
        exact hy4 ((nI_eq (b := 4) (by omega) (by omega)).mp h9)
      rw [← hxy] at t1
      exact ⟨0, s, I', start (fun h9 => absurd h9 hx4) (fun _ => t1), fun _ _ => rfl, t2, by omega, by omega, t3 hkf⟩
end TEXT
