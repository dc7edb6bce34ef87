/-! LAYER 2: the class's clauses -/
/-- signs one behind the other -/
def pSq (b : Nat → Nat) : List Nat → Nat → Bool → Nat × Bool
  | [], i, sn => (i, sn)
  | c :: cs, i, sn => if sn = true ∧ b i = c then pSq b cs (i + 1) true else pSq b cs i false
theorem pSq_f (b : Nat → Nat) : ∀ l i, pSq b l i false = (i, false)
  | [], i => rfl
  | c :: cs, i => by
    rw [pSq, if_neg (fun h => absurd h.1 (by decide)), pSq_f b cs i]
theorem pSq_le (b : Nat → Nat) : ∀ l i sn, i ≤ (pSq b l i sn).1 ∧ ((pSq b l i sn).2 = true → (pSq b l i sn).1 = i + l.length)
  | [], i, sn => ⟨Nat.le_refl _, fun _ => rfl⟩
  | c :: cs, i, sn => by
    rw [pSq]
    by_cases h : sn = true ∧ b i = c
    · rw [if_pos h]
      obtain ⟨h1, h2⟩ := pSq_le b cs (i + 1) true
      exact ⟨by omega, fun h3 => by rw [h2 h3, List.length_cons]; omega⟩
    · rw [if_neg h, pSq_f]
      exact ⟨Nat.le_refl _, fun h3 => absurd (show false = true from h3) (by decide)⟩
/-- a clause's word and its space, and the reference's number of it -/
def hdL (b : Nat → Nat) (i : Nat) : List Nat × Nat :=
  if b i = 109 then (if b (i + 1) = 111 then ([109, 111, 115, 116, 32], 3) else ([109, 101, 108, 116, 32], 0))
  else if b i = 108 then (if b (i + 1) = 97 then ([108, 97, 103, 32], 1) else ([108, 101, 97, 107, 32], 2))
  else ([112, 111, 110, 100, 32], 4)
/-- a clause: where it fails, or where it ends and what it says: word, place, number, signs, situations -/
abbrev CRes : Type := Nat ⊕ (Nat × (Nat × Nat × Nat × List Int32 × (Nat → Bool)))
def pCl (b : Nat → Nat) (i : Nat) : CRes :=
  if (pSq b (hdL b i).1 i true).2 = true then
    (if (hdL b i).2 = 0 then (match pNum b (pSq b (hdL b i).1 i true).1 with
      | none => .inl (pSq b (hdL b i).1 i true).1
      | some (j, v) => if b j = 32 then (match pE b (pF b 8 0) (j + 1) with
        | .inl e => .inl e
        | .inr (j3, p, M) => .inr (j3, (0, 0, v, p, M))) else .inl j)
    else if 48 ≤ b (pSq b (hdL b i).1 i true).1 ∧ b (pSq b (hdL b i).1 i true).1 ≤ 52 then
      (if b ((pSq b (hdL b i).1 i true).1 + 1) = 32 then (match pNum b ((pSq b (hdL b i).1 i true).1 + 2) with
        | none => .inl ((pSq b (hdL b i).1 i true).1 + 2)
        | some (j, v) => .inr (j, ((hdL b i).2, b (pSq b (hdL b i).1 i true).1 - 48, v, [], fun _ => false)))
      else .inl ((pSq b (hdL b i).1 i true).1 + 1))
    else .inl (pSq b (hdL b i).1 i true).1)
  else .inl (pSq b (hdL b i).1 i true).1
section CLAUSE
variable {a r N : Nat} {tx : Nat → Nat}
/-- the signs of a word's ending -/
theorem endingC {z : Nat} (l : List Nat) (hz : stL z = some (nI l.length)) (hl : ∀ k c, l[k]? = some c → stC z (nI k) = some (nI c) ∧ c < 128) (hlen : l.length ≤ 5) {s : SH} {I : IH} {n i : Nat} {snd : Bool} (h : Pst s I n a r N tx i snd) (code : Int32) : ∃ I', fX1_ending s r z code I = some (code, I') ∧ Fr1 I I' r ∧ Pst s I' n a r N tx (pSq (bt N tx) l i snd).1 (pSq (bt N tx) l i snd).2 := by
  have key : ∀ (m : List Nat) k fuel (J : IH) (i' : Nat) (sn : Bool), (∃ p, l = p ++ m ∧ p.length = k) → m.length < fuel → Pst s J n a r N tx i' sn → Fr1 I J r → ∃ I', fX1_ending_b2 s r fuel z code (nI k) J = some (code, I') ∧ Fr1 I I' r ∧ Pst s I' n a r N tx (pSq (bt N tx) m i' sn).1 (pSq (bt N tx) m i' sn).2 := by
    intro m
    induction m with
    | nil =>
      intro k fuel J i' sn hp h2 hJ f
      obtain ⟨u, rfl⟩ : ∃ u, fuel = u + 1 := ⟨fuel - 1, by omega⟩
      obtain ⟨p, rfl, rfl⟩ := hp
      have hp5 : p.length ≤ 5 := by
        have := hlen
        simp at this
        omega
      refine ⟨J, ?_, f, hJ⟩
      rw [fX1_ending_b2, hz, Option.bind_some, if_pos (nI_le (by simp) (by omega))]
    | cons c cs ih =>
      intro k fuel J i' sn hp h2 hJ f
      obtain ⟨u, rfl⟩ : ∃ u, fuel = u + 1 := ⟨fuel - 1, by omega⟩
      obtain ⟨p, hpl, rfl⟩ := hp
      have hkl : p.length < l.length := by rw [hpl, List.length_append, List.length_cons]; omega
      have hkc : l[p.length]? = some c := by rw [hpl, List.getElem?_append_right (Nat.le_refl _), Nat.sub_self]; rfl
      obtain ⟨q1, q2⟩ := hl _ _ hkc
      obtain ⟨J1, e1, f1, g1⟩ := expectC (k := c) hJ q2
      have hcs : cs.length < u := by rw [List.length_cons] at h2; omega
      have hps : (∃ p', l = p' ++ cs ∧ p'.length = p.length + 1) := ⟨p ++ [c], by rw [hpl]; simp, by simp⟩
      have hcb : (cb N tx sn i' = c) ↔ (sn = true ∧ bt N tx i' = c) := by
        unfold cb
        by_cases hs : sn = true
        · rw [if_pos hs]
          exact ⟨fun h => ⟨hs, h⟩, fun h => h.2⟩
        · rw [if_neg hs]
          exact ⟨fun h => by omega, fun h => absurd h.1 hs⟩
      rw [pSq]
      by_cases hc : sn = true ∧ bt N tx i' = c
      · rw [if_pos (hcb.mpr hc)] at g1
        rw [if_pos hc]
        obtain ⟨hs, -⟩ := hc
        subst hs
        obtain ⟨I', e2, f2, g2⟩ := ih (p.length + 1) u J1 (i' + 1) true hps hcs g1 (f.trans f1)
        refine ⟨I', ?_, f2, g2⟩
        rw [fX1_ending_b2, hz, Option.bind_some, if_neg (nI_ge hkl (by omega)), q1, Option.bind_some, e1, Option.bind_some, nI_1]
        exact e2
      · rw [if_neg (fun h => hc (hcb.mp h))] at g1
        rw [if_neg hc]
        obtain ⟨I', e2, f2, g2⟩ := ih (p.length + 1) u J1 i' false hps hcs g1 (f.trans f1)
        refine ⟨I', ?_, f2, g2⟩
        rw [fX1_ending_b2, hz, Option.bind_some, if_neg (nI_ge hkl (by omega)), q1, Option.bind_some, e1, Option.bind_some, nI_1]
        exact e2
  exact key l 0 1000 I i snd ⟨[], rfl, rfl⟩ (by omega) h (fun _ _ => rfl)
theorem get4 {P : Nat → Nat → Prop} {l : List Nat} (h : ∀ k : Fin 5, ∀ c, l[k.1]? = some c → P k.1 c) (hl : l.length ≤ 5) : ∀ k c, l[k]? = some c → P k c := fun k c hk => h ⟨k, by have := (List.getElem?_eq_some_iff.mp hk).1; omega⟩ c hk
theorem st_4 : stL 4 = some (nI 4) ∧ ∀ k c, [112, 111, 110, 100][k]? = some c → stC 4 (nI k) = some (nI c) ∧ c < 128 := ⟨by decide, fun k c h => by
  match k, h with
  | 0, h => obtain rfl := Option.some.inj h; exact ⟨by decide, by decide⟩
  | 1, h => obtain rfl := Option.some.inj h; exact ⟨by decide, by decide⟩
  | 2, h => obtain rfl := Option.some.inj h; exact ⟨by decide, by decide⟩
  | 3, h => obtain rfl := Option.some.inj h; exact ⟨by decide, by decide⟩
  | k + 4, h => simp at h⟩
theorem st_3 : stL 3 = some (nI 3) ∧ ∀ k c, [101, 97, 107][k]? = some c → stC 3 (nI k) = some (nI c) ∧ c < 128 := ⟨by decide, fun k c h => by
  match k, h with
  | 0, h => obtain rfl := Option.some.inj h; exact ⟨by decide, by decide⟩
  | 1, h => obtain rfl := Option.some.inj h; exact ⟨by decide, by decide⟩
  | 2, h => obtain rfl := Option.some.inj h; exact ⟨by decide, by decide⟩
  | k + 3, h => simp at h⟩
theorem st_2 : stL 2 = some (nI 1) ∧ ∀ k c, [103][k]? = some c → stC 2 (nI k) = some (nI c) ∧ c < 128 := ⟨by decide, fun k c h => by
  match k, h with
  | 0, h => obtain rfl := Option.some.inj h; exact ⟨by decide, by decide⟩
  | k + 1, h => simp at h⟩
theorem st_1 : stL 1 = some (nI 3) ∧ ∀ k c, [111, 115, 116][k]? = some c → stC 1 (nI k) = some (nI c) ∧ c < 128 := ⟨by decide, fun k c h => by
  match k, h with
  | 0, h => obtain rfl := Option.some.inj h; exact ⟨by decide, by decide⟩
  | 1, h => obtain rfl := Option.some.inj h; exact ⟨by decide, by decide⟩
  | 2, h => obtain rfl := Option.some.inj h; exact ⟨by decide, by decide⟩
  | k + 3, h => simp at h⟩
theorem st_0 : stL 0 = some (nI 2) ∧ ∀ k c, [108, 116][k]? = some c → stC 0 (nI k) = some (nI c) ∧ c < 128 := ⟨by decide, fun k c h => by
  match k, h with
  | 0, h => obtain rfl := Option.some.inj h; exact ⟨by decide, by decide⟩
  | 1, h => obtain rfl := Option.some.inj h; exact ⟨by decide, by decide⟩
  | k + 2, h => simp at h⟩
theorem pSq_app (b : Nat → Nat) (m : List Nat) : ∀ l i sn, pSq b (l ++ m) i sn = pSq b m (pSq b l i sn).1 (pSq b l i sn).2
  | [], i, sn => rfl
  | c :: cs, i, sn => by
    show pSq b (c :: (cs ++ m)) i sn = _
    rw [pSq, pSq]
    by_cases h : sn = true ∧ b i = c
    · rw [if_pos h, if_pos h]
      exact pSq_app b m cs (i + 1) true
    · rw [if_neg h, if_neg h]
      exact pSq_app b m cs i false
/-- the class's number of the reference's word -/
def cls (w : Nat) : Nat := if w = 0 then 4 else w - 1
/-- word and space -/
theorem headC {s : SH} {I : IH} {n i : Nat} {snd : Bool} (h : Pst s I n a r N tx i snd) : ∃ x I1 I2, fX1_word s r I = some (x, I1) ∧ fX1_expect s r 32 I1 = some I2 ∧ Fr1 I I2 r ∧ (snd = false → Pst s I2 n a r N tx i false ∧ x = 3) ∧ (snd = true → Pst s I2 n a r N tx (pSq (bt N tx) (hdL (bt N tx) i).1 i true).1 (pSq (bt N tx) (hdL (bt N tx) i).1 i true).2 ∧ ((pSq (bt N tx) (hdL (bt N tx) i).1 i true).2 = true → x = nI (cls (hdL (bt N tx) i).2)) ∧ ((pSq (bt N tx) (hdL (bt N tx) i).1 i true).2 = false → ∃ y, y ≤ 4 ∧ x = nI y)) := by
  -- an ending and the space
  have fin : ∀ (z : Nat) (l : List Nat) (code : Int32) (J : IH) (i' : Nat) (sn : Bool), stL z = some (nI l.length) → (∀ k c, l[k]? = some c → stC z (nI k) = some (nI c) ∧ c < 128) → l.length ≤ 5 → Pst s J n a r N tx i' sn → ∃ I1 I2, fX1_ending s r z code J = some (code, I1) ∧ fX1_expect s r 32 I1 = some I2 ∧ Fr1 J I2 r ∧ Pst s I2 n a r N tx (pSq (bt N tx) (l ++ [32]) i' sn).1 (pSq (bt N tx) (l ++ [32]) i' sn).2 := by
    intro z l code J i' sn h1 h2 h3 hJ
    obtain ⟨I1, e1, f1, g1⟩ := endingC l h1 h2 h3 hJ code
    obtain ⟨I2, e2, f2, g2⟩ := expectC (k := 32) g1 (by omega)
    refine ⟨I1, I2, e1, e2, f1.trans f2, ?_⟩
    rw [pSq_app]
    generalize pSq (bt N tx) l i' sn = q at g1 g2 ⊢
    obtain ⟨j, sn'⟩ := q
    show Pst s I2 n a r N tx (pSq (bt N tx) [32] j sn').1 (pSq (bt N tx) [32] j sn').2
    rw [pSq]
    replace g2 : if cb N tx sn' j = 32 then Pst s I2 n a r N tx (j + 1) sn' else Pst s I2 n a r N tx j false := g2
    by_cases hc : sn' = true ∧ bt N tx j = 32
    · rw [if_pos hc]
      obtain ⟨hs, hb⟩ := hc
      subst hs
      rw [if_pos (show cb N tx true j = 32 from (if_pos rfl).trans hb)] at g2
      exact g2
    · rw [if_neg hc]
      have : cb N tx sn' j ≠ 32 := fun h9 => by
        obtain ⟨t1, -, t3⟩ := cb_lt (show cb N tx sn' j < 128 by omega)
        exact hc ⟨t1, by omega⟩
      rw [if_neg this] at g2
      exact g2
  cases snd with
  | false =>
    have hcb : cb N tx false i = 255 := if_neg (by decide)
    have p109 : fX1_passes s r 109 I = some (0, I) := (passesC (k := 109) h (by omega)).2 (by rw [hcb]; decide)
    have p108 : fX1_passes s r 108 I = some (0, I) := (passesC (k := 108) h (by omega)).2 (by rw [hcb]; decide)
    obtain ⟨I1, I2, e1, e2, f2, g2⟩ := fin 4 [112, 111, 110, 100] 3 I i false st_4.1 st_4.2 (by decide) h
    rw [pSq_f] at g2
    refine ⟨3, I1, I2, ?_, e2, f2, fun _ => ⟨g2, rfl⟩, fun h => absurd h (by decide)⟩
    unfold fX1_word
    rw [p109, b2_some, if_pos rfl, p108, b2_some, if_pos rfl, e1, b2_some]
  | true =>
    have hcb : ∀ j, cb N tx true j = bt N tx j := fun j => if_pos rfl
    by_cases h109 : bt N tx i = 109
    · obtain ⟨J1, d1, f1, g1⟩ := (passesC (k := 109) h (by omega)).1 ((hcb i).trans h109)
      have d1 : fX1_passes s r 109 I = some (1, J1) := d1
      by_cases h101 : bt N tx (i + 1) = 101
      · obtain ⟨J2, d2, f2, g2⟩ := (passesC (k := 101) g1 (by omega)).1 ((hcb _).trans h101)
        have d2 : fX1_passes s r 101 J1 = some (1, J2) := d2
        obtain ⟨I1, I2, e1, e2, f3, g3⟩ := fin 0 [108, 116] 4 J2 (i + 1 + 1) true st_0.1 st_0.2 (by decide) g2
        have hh : hdL (bt N tx) i = ([109, 101, 108, 116, 32], 0) := by
          unfold hdL
          rw [if_pos h109, if_neg (by omega)]
        have hs : pSq (bt N tx) [109, 101, 108, 116, 32] i true = pSq (bt N tx) ([108, 116] ++ [32]) (i + 1 + 1) true := by
          rw [pSq, if_pos ⟨rfl, h109⟩, pSq, if_pos ⟨rfl, h101⟩]
          rfl
        refine ⟨4, I1, I2, ?_, e2, (f1.trans f2).trans f3, fun h => absurd h (by decide), fun _ => ?_⟩
        · unfold fX1_word
          rw [d1, b2_some, if_neg (by decide), d2, b2_some, if_neg (by decide), e1, b2_some]
        · rw [hh]
          simp only
          rw [hs]
          exact ⟨g3, fun _ => rfl, fun _ => ⟨4, by omega, rfl⟩⟩
      · have d2 : fX1_passes s r 101 J1 = some (0, J1) := (passesC (k := 101) g1 (by omega)).2 (by rw [hcb]; exact h101)
        obtain ⟨I1, I2, e1, e2, f3, g3⟩ := fin 1 [111, 115, 116] 2 J1 (i + 1) true st_1.1 st_1.2 (by decide) g1
        refine ⟨2, I1, I2, ?_, e2, f1.trans f3, fun h => absurd h (by decide), fun _ => ?_⟩
        · unfold fX1_word
          rw [d1, b2_some, if_neg (by decide), d2, b2_some, if_pos rfl, e1, b2_some]
        · by_cases h111 : bt N tx (i + 1) = 111
          · have hh : hdL (bt N tx) i = ([109, 111, 115, 116, 32], 3) := by
              unfold hdL
              rw [if_pos h109, if_pos h111]
            have hs : pSq (bt N tx) [109, 111, 115, 116, 32] i true = pSq (bt N tx) ([111, 115, 116] ++ [32]) (i + 1) true := by
              rw [pSq, if_pos ⟨rfl, h109⟩]
              rfl
            rw [hh]
            simp only
            rw [hs]
            exact ⟨g3, fun _ => rfl, fun _ => ⟨2, by omega, rfl⟩⟩
          · have hh : hdL (bt N tx) i = ([109, 101, 108, 116, 32], 0) := by
              unfold hdL
              rw [if_pos h109, if_neg h111]
            have hs : pSq (bt N tx) [109, 101, 108, 116, 32] i true = (i + 1, false) := by
              rw [pSq, if_pos ⟨rfl, h109⟩, pSq, if_neg (fun h => h101 h.2), pSq_f]
            have hs2 : pSq (bt N tx) ([111, 115, 116] ++ [32]) (i + 1) true = (i + 1, false) := by
              show pSq (bt N tx) [111, 115, 116, 32] (i + 1) true = _
              rw [pSq, if_neg (fun h => h111 h.2), pSq_f]
            rw [hs2] at g3
            rw [hh]
            simp only
            rw [hs]
            exact ⟨g3, fun h => absurd (show false = true from h) (by decide), fun _ => ⟨2, by omega, rfl⟩⟩
    · have d1 : fX1_passes s r 109 I = some (0, I) := (passesC (k := 109) h (by omega)).2 (by rw [hcb]; exact h109)
      by_cases h108 : bt N tx i = 108
      · obtain ⟨J1, d2, f1, g1⟩ := (passesC (k := 108) h (by omega)).1 ((hcb i).trans h108)
        have d2 : fX1_passes s r 108 I = some (1, J1) := d2
        by_cases h97 : bt N tx (i + 1) = 97
        · obtain ⟨J2, d3, f2, g2⟩ := (passesC (k := 97) g1 (by omega)).1 ((hcb _).trans h97)
          have d3 : fX1_passes s r 97 J1 = some (1, J2) := d3
          obtain ⟨I1, I2, e1, e2, f3, g3⟩ := fin 2 [103] 0 J2 (i + 1 + 1) true st_2.1 st_2.2 (by decide) g2
          have hh : hdL (bt N tx) i = ([108, 97, 103, 32], 1) := by
            unfold hdL
            rw [if_neg h109, if_pos h108, if_pos h97]
          have hs : pSq (bt N tx) [108, 97, 103, 32] i true = pSq (bt N tx) ([103] ++ [32]) (i + 1 + 1) true := by
            rw [pSq, if_pos ⟨rfl, h108⟩, pSq, if_pos ⟨rfl, h97⟩]
            rfl
          refine ⟨0, I1, I2, ?_, e2, (f1.trans f2).trans f3, fun h => absurd h (by decide), fun _ => ?_⟩
          · unfold fX1_word
            rw [d1, b2_some, if_pos rfl, d2, b2_some, if_neg (by decide), d3, b2_some, if_neg (by decide), e1, b2_some]
          · rw [hh]
            simp only
            rw [hs]
            exact ⟨g3, fun _ => rfl, fun _ => ⟨0, by omega, rfl⟩⟩
        · have d3 : fX1_passes s r 97 J1 = some (0, J1) := (passesC (k := 97) g1 (by omega)).2 (by rw [hcb]; exact h97)
          obtain ⟨I1, I2, e1, e2, f3, g3⟩ := fin 3 [101, 97, 107] 1 J1 (i + 1) true st_3.1 st_3.2 (by decide) g1
          have hh : hdL (bt N tx) i = ([108, 101, 97, 107, 32], 2) := by
            unfold hdL
            rw [if_neg h109, if_pos h108, if_neg h97]
          have hs : pSq (bt N tx) [108, 101, 97, 107, 32] i true = pSq (bt N tx) ([101, 97, 107] ++ [32]) (i + 1) true := by
            rw [pSq, if_pos ⟨rfl, h108⟩]
            rfl
          refine ⟨1, I1, I2, ?_, e2, f1.trans f3, fun h => absurd h (by decide), fun _ => ?_⟩
          · unfold fX1_word
            rw [d1, b2_some, if_pos rfl, d2, b2_some, if_neg (by decide), d3, b2_some, if_pos rfl, e1, b2_some]
          · rw [hh]
            simp only
            rw [hs]
            exact ⟨g3, fun _ => rfl, fun _ => ⟨1, by omega, rfl⟩⟩
      · have d2 : fX1_passes s r 108 I = some (0, I) := (passesC (k := 108) h (by omega)).2 (by rw [hcb]; exact h108)
        obtain ⟨I1, I2, e1, e2, f3, g3⟩ := fin 4 [112, 111, 110, 100] 3 I i true st_4.1 st_4.2 (by decide) h
        have hh : hdL (bt N tx) i = ([112, 111, 110, 100, 32], 4) := by
          unfold hdL
          rw [if_neg h109, if_neg h108]
        refine ⟨3, I1, I2, ?_, e2, f3, fun h => absurd h (by decide), fun _ => ?_⟩
        · unfold fX1_word
          rw [d1, b2_some, if_pos rfl, d2, b2_some, if_pos rfl, e1, b2_some]
        · rw [hh]
          simp only
          exact ⟨g3, fun _ => rfl, fun _ => ⟨3, by omega, rfl⟩⟩
/-- a place's figure -/
theorem figureC {s : SH} {I : IH} {n i : Nat} {snd : Bool} (h : Pst s I n a r N tx i snd) : ∃ z I', fX1_figure s r 4 I = some (z, I') ∧ Fr1 I I' r ∧ (if snd = true ∧ 48 ≤ bt N tx i ∧ bt N tx i ≤ 52 then Pst s I' n a r N tx (i + 1) true ∧ z = nI (bt N tx i - 48) else Pst s I' n a r N tx i false) := by
  obtain ⟨x, e, hx⟩ := nextC h
  have no : ¬ (snd = true ∧ 48 ≤ bt N tx i ∧ bt N tx i ≤ 52) → ∀ j, j ≤ 4 → x - 48 ≠ nI j := fun hn j hj he => by
    have h1 := sub_add_c x 48
    rw [he] at h1
    have h2 : x = nI (j + 48) := by rw [← h1]; exact nI_add j 48
    have h3 := (hx.2 (j + 48) (by omega)).mp h2
    obtain ⟨t1, -, t3⟩ := cb_lt (show cb N tx snd i < 128 by omega)
    exact hn ⟨t1, by omega, by omega⟩
  unfold fX1_figure
  rw [e, Option.bind_some]
  by_cases hc : snd = true ∧ 48 ≤ bt N tx i ∧ bt N tx i ≤ 52
  · obtain ⟨hs, h1, h2⟩ := hc
    subst hs
    have hcb : cb N tx true i = bt N tx i := if_pos rfl
    rw [hcb] at hx
    have hxe : x = nI (bt N tx i) := (hx.2 _ (by omega)).mpr rfl
    obtain ⟨-, hi, -⟩ := cb_lt (show cb N tx true i < 128 by rw [hcb]; omega)
    obtain ⟨I', e1, f1, g1⟩ := stepR h hi
    have hs : x - 48 = nI (bt N tx i - 48) := by rw [hxe]; exact nI_sub (j := 48) h1
    refine ⟨nI (bt N tx i - 48), I', ?_, f1, by rw [if_pos ⟨rfl, h1, h2⟩]; exact ⟨g1, rfl⟩⟩
    rw [hs, if_neg (nI_pos (by omega)), if_pos (show nI (bt N tx i - 48) ≤ 4 from nI_le (b := 4) (by omega) (by omega)), at3 h, Option.bind_some, e1, Option.bind_some]
  · obtain ⟨I', e1, f1, g1⟩ := failR h
    refine ⟨0, I', ?_, f1, by rw [if_neg hc]; exact g1⟩
    rcases rng (x - 48) 0 4 (by omega) (by omega) with ⟨j, -, hj, hje⟩ | ⟨u1, -⟩ | ⟨u1, -, u3, -⟩
    · exact absurd hje (no hc j hj)
    · rw [if_pos (show x - 48 < 0 from u1), e1, Option.bind_some]
    · rw [if_neg (show ¬ x - 48 < 0 from u1), if_neg (show ¬ x - 48 ≤ 4 from u3), e1, Option.bind_some]
end CLAUSE
