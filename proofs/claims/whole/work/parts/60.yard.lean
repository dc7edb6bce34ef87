/-! LAYER 2: the reference's reader of expressions, as a machine over lists -/
def opn : List Nat → Nat
  | [] => 0
  | c :: W => opn W + (if c = 33 ∨ c = 40 then 1 else 0)
def whl : List Nat → List Int32 → List Nat × List Int32
  | [], S => ([], S)
  | c :: W, S => if c = 33 then whl W (S ++ [-33]) else (c :: W, S)
def stl (z : Nat) : List Nat → List Int32 → List Nat × List Int32
  | [], S => ([], S)
  | c :: W, S => if c = 38 then stl z W (S ++ [-38]) else if c = 124 then (if z = 38 then (c :: W, S) else stl z W (S ++ [-124])) else (c :: W, S)
abbrev YRes : Type := Nat ⊕ (Nat × List Int32)
def yrd (b : Nat → Nat) : Nat → Bool → Nat → List Nat → List Int32 → Option YRes
  | 0, _, _, _, _ => none
  | f + 1, true, i, W, S =>
    if b i = 33 ∨ b i = 40 then (if opn W = 4 then some (.inl i) else yrd b f true (i + 1) (b i :: W) S)
    else match pTst b i with
      | .inl e => some (.inl e)
      | .inr (j, p, _) => yrd b f false j (whl W (S ++ p)).1 (whl W (S ++ p)).2
  | f + 1, false, i, W, S =>
    if b i = 38 ∨ b i = 124 then yrd b f true (i + 1) (b i :: (stl (b i) W S).1) (stl (b i) W S).2
    else match (stl 124 W S).1 with
      | [] => some (.inr (i, (stl 124 W S).2))
      | c :: W2 => if b i = 41 then (if c = 40 then yrd b f false (i + 1) (whl W2 (stl 124 W S).2).1 (whl W2 (stl 124 W S).2).2 else none) else some (.inl i)
/-- what an expression's signs say -/
def EV (p : List Int32) (M : Nat → Bool) : Prop := ∀ h k, h < 48 → k < 3 → ∀ rest st, evL h k (p ++ rest) st = evL h k rest (M (sit h k) :: st)
def LG (p : List Int32) : Prop := ∀ t ∈ p, t = -33 ∨ t = -38 ∨ t = -124 ∨ Bd t 0 2299
/-- a parsing function of the spec against the machine: in the contexts of C, with the state behind it as P says -/
def YP (b : Nat → Nat) (N : Nat) (C : List Nat → Prop) (P : Nat → List Nat → List Int32 → List Nat → List Int32 → Prop) (R : Nat → PRes) : Prop :=
  ∀ i, i ≤ N → ∀ W S, C W → match R i with
  | .inl e => i ≤ e ∧ e ≤ N ∧ ∃ k, k ≤ e - i + 1 ∧ ∀ f, yrd b (f + k) true i W S = some (.inl e)
  | .inr (j, p, M) => i < j ∧ j ≤ N ∧ p.length ≤ j - i ∧ LG p ∧ EV p M ∧ ∃ k W' S', k ≤ j - i ∧ P j W (S ++ p) W' S' ∧ ∀ f, yrd b (f + k) true i W S = yrd b f false j W' S'
section YARD
variable {b : Nat → Nat} {N : Nat}
theorem LG.app {p q : List Int32} (h1 : LG p) (h2 : LG q) : LG (p ++ q) := fun t ht => by
  rcases List.mem_append.mp ht with h | h
  · exact h1 t h
  · exact h2 t h
theorem LG.one {t : Int32} (h : t = -33 ∨ t = -38 ∨ t = -124 ∨ Bd t 0 2299) : LG [t] := fun x hx => by
  rw [List.mem_singleton] at hx
  rw [hx]
  exact h
theorem sit_l {h k f : Nat} (hh : h < 48) (hk : k < 3) (hf : f < 3) : (if f = 0 then sit h k % 24 else if f = 1 then sit h k / 24 / 3 else sit h k / 24 % 3) = if f = 0 then h % 24 else if f = 1 then h / 24 else k := by
  unfold sit
  obtain rfl | rfl | rfl : f = 0 ∨ f = 1 ∨ f = 2 := by omega
  · rw [if_pos rfl, if_pos rfl]
    omega
  · rw [if_neg (by decide), if_pos rfl, if_neg (by decide), if_pos rfl]
    omega
  · rw [if_neg (by decide), if_neg (by decide), if_neg (by decide), if_neg (by decide)]
    omega
theorem tst_eq {h k f g n : Nat} (hh : h < 48) (hk : k < 3) (hf : f < 3) (hg : g < 3) (hn : n ≤ 99) : tstS h k (1000 * f + 100 * g + n) = tq f g n (sit h k) := by
  unfold tstS tq
  rw [sit_l hh hk hf, show (1000 * f + 100 * g + n) / 100 % 10 = g by omega, show (1000 * f + 100 * g + n) % 100 = n by omega]
  have e : (if 1000 * f + 100 * g + n < 1000 then h % 24 else if 1000 * f + 100 * g + n < 2000 then h / 24 else k) = if f = 0 then h % 24 else if f = 1 then h / 24 else k := by
    obtain rfl | rfl | rfl : f = 0 ∨ f = 1 ∨ f = 2 := by omega
    · rw [if_pos (by omega), if_pos rfl]
    · rw [if_neg (by omega), if_pos (by omega), if_neg (by decide), if_pos rfl]
    · rw [if_neg (by omega), if_neg (by omega), if_neg (by decide), if_neg (by decide)]
  rw [e]
theorem EV.tst {f g n : Nat} (hf : f < 3) (hg : g < 3) (hn : n ≤ 99) : EV [nI (1000 * f + 100 * g + n)] (tq f g n) := fun h k hh hk rest st => by
  have hlt : 1000 * f + 100 * g + n < 2 ^ 31 := by omega
  have h0 : ¬ nI (1000 * f + 100 * g + n) < 0 := nI_pos hlt
  show evL h k (nI (1000 * f + 100 * g + n) :: rest) st = _
  rw [evL_cons, if_neg (fun h9 => h0 (by rw [h9]; decide)), if_neg h0, nv_nI hlt, tst_eq hh hk hf hg hn]
theorem EV.not {p : List Int32} {M : Nat → Bool} (h : EV p M) : EV (p ++ [-33]) (fun q => !(M q)) := fun x k hx hk rest st => by
  rw [List.append_assoc, h x k hx hk]
  rfl
theorem EV.and {p q : List Int32} {M M2 : Nat → Bool} (h : EV p M) (h2 : EV q M2) : EV (p ++ q ++ [-38]) (fun z => and (M z) (M2 z)) := fun x k hx hk rest st => by
  rw [List.append_assoc, List.append_assoc, h x k hx hk, h2 x k hx hk]
  rfl
theorem EV.or {p q : List Int32} {M M2 : Nat → Bool} (h : EV p M) (h2 : EV q M2) : EV (p ++ q ++ [-124]) (fun z => or (M z) (M2 z)) := fun x k hx hk rest st => by
  rw [List.append_assoc, List.append_assoc, h x k hx hk, h2 x k hx hk]
  rfl
theorem num_r (hb : ∀ i, N ≤ i → b i = 255) {i j n : Nat} (h : pNum b i = some (j, n)) : i < j ∧ j ≤ N ∧ n ≤ 99 ∧ j ≤ i + 2 := by
  have lt : ∀ i, dig (b i) = true → i < N ∧ 48 ≤ b i ∧ b i ≤ 57 := fun i hd => by
    unfold dig at hd
    simp only [Bool.and_eq_true, decide_eq_true_eq] at hd
    refine ⟨Nat.lt_of_not_le (fun h9 => ?_), hd⟩
    have := hb i h9
    omega
  unfold pNum at h
  by_cases h1 : dig (b i) = true
  · have := lt i h1
    rw [if_pos h1] at h
    by_cases h2 : dig (b (i + 1)) = true
    · have := lt _ h2
      rw [if_pos h2] at h
      simp only [Option.some.injEq, Prod.mk.injEq] at h
      omega
    · rw [if_neg h2] at h
      simp only [Option.some.injEq, Prod.mk.injEq] at h
      omega
  · rw [if_neg h1] at h
    cases h
theorem tst_r (hb : ∀ i, N ≤ i → b i = 255) {i : Nat} (hi : i ≤ N) : match pTst b i with
  | .inl e => i ≤ e ∧ e ≤ N
  | .inr (j, p, M) => i < j ∧ j ≤ N ∧ p.length ≤ j - i ∧ LG p ∧ EV p M := by
  have lt : ∀ i, b i ≠ 255 → i < N := fun i hd => Nat.lt_of_not_le (fun h9 => hd (hb i h9))
  unfold pTst
  by_cases h1 : ltr (b i) = 3
  · rw [if_pos h1]
    exact ⟨Nat.le_refl _, hi⟩
  · rw [if_neg h1]
    have hl : ltr (b i) < 3 ∧ i < N := by
      refine ⟨?_, lt i (fun h9 => ?_)⟩
      · unfold ltr at h1 ⊢
        by_cases q1 : b i = 104
        · rw [if_pos q1]; decide
        · rw [if_neg q1] at h1 ⊢
          by_cases q2 : b i = 100
          · rw [if_pos q2]; decide
          · rw [if_neg q2] at h1 ⊢
            by_cases q3 : b i = 107
            · rw [if_pos q3]; decide
            · rw [if_neg q3] at h1
              exact absurd rfl h1
      · rw [h9] at h1
        exact h1 (by decide)
    by_cases h2 : b (i + 1) < 60 ∨ 62 < b (i + 1)
    · rw [if_pos h2]
      exact ⟨by omega, by omega⟩
    · rw [if_neg h2]
      have hl2 := lt (i + 1) (by omega)
      cases hp : pNum b (i + 2) with
      | none => exact ⟨by omega, by omega⟩
      | some jn =>
        obtain ⟨j, n⟩ := jn
        obtain ⟨n1, n2, n3, -⟩ := num_r hb hp
        refine ⟨by omega, n2, by show 1 ≤ j - i; omega, LG.one ?_, EV.tst hl.1 (by omega) n3⟩
        exact Or.inr (Or.inr (Or.inr (Bd_of rfl (by omega) (by omega) (by omega))))
/-- operands with one sign between them -/
theorem yloop {C CO : List Nat → Prop} {PO Inv : Nat → List Nat → List Int32 → List Nat → List Int32 → Prop} {F : Nat → PRes} {sg : Nat} {z : Int32} {op : Bool → Bool → Bool} (hb : ∀ i, N ≤ i → b i = 255) (hF : YP b N CO PO F) (hsg : sg = 38 ∨ sg = 124) (hz : z = -33 ∨ z = -38 ∨ z = -124 ∨ Bd z 0 2299)
    (hev : ∀ p q M M2, EV p M → EV q M2 → EV (p ++ q ++ [z]) (fun q => op (M q) (M2 q)))
    (hstep : ∀ j W X W' S', C W → Inv j W X W' S' → b j = sg → stl sg W' S' = (W, X) ∧ CO (sg :: W))
    (hnext : ∀ j W X W' S', C W → PO j (sg :: W) X W' S' → Inv j W (X ++ [z]) W' S')
    {i : Nat} {W : List Nat} {S : List Int32} (hW : C W) : ∀ (m j : Nat) (p : List Int32) (M : Nat → Bool) (k0 : Nat) (W' : List Nat) (S' : List Int32), N < j + m → i < j → j ≤ N → p.length ≤ j - i → LG p → EV p M → k0 ≤ j - i → Inv j W (S ++ p) W' S' → (∀ f, yrd b (f + k0) true i W S = yrd b f false j W' S') →
    match pLoop b F sg z op m j p M with
    | .inl e => i ≤ e ∧ e ≤ N ∧ ∃ k, k ≤ e - i + 1 ∧ ∀ f, yrd b (f + k) true i W S = some (.inl e)
    | .inr (j, p, M) => i < j ∧ j ≤ N ∧ p.length ≤ j - i ∧ LG p ∧ EV p M ∧ ∃ k W' S', k ≤ j - i ∧ (Inv j W (S ++ p) W' S' ∧ b j ≠ sg) ∧ ∀ f, yrd b (f + k) true i W S = yrd b f false j W' S' := by
  intro m
  induction m with
  | zero => intros; omega
  | succ m ih =>
    intro j p M k0 W' S' h1 h2 h3 h4 h5 h6 h7 h8 h9
    rw [pLoop]
    by_cases hj : b j = sg
    · rw [if_pos hj]
      have hjN : j < N := Nat.lt_of_not_le (fun h => by have := hb j h; omega)
      obtain ⟨q1, q2⟩ := hstep j W (S ++ p) W' S' hW h8 hj
      have hgo : ∀ f, yrd b (f + 1) false j W' S' = yrd b f true (j + 1) (sg :: W) (S ++ p) := fun f => by
        rw [yrd, if_pos (by omega), hj, q1]
      have T := hF (j + 1) (by omega) (sg :: W) (S ++ p) q2
      cases hFj : F (j + 1) with
      | inl e =>
        rw [hFj] at T
        obtain ⟨t1, t2, k, t3, t4⟩ := T
        exact ⟨by omega, t2, k + 1 + k0, by omega, fun f => by rw [show f + (k + 1 + k0) = (f + k + 1) + k0 by omega, h9, hgo, t4]⟩
      | inr q =>
        obtain ⟨j2, p2, M2⟩ := q
        rw [hFj] at T
        obtain ⟨t1, t2, t3, t4, t5, k, W2, S2, t6, t7, t8⟩ := T
        have e : S ++ p ++ p2 ++ [z] = S ++ (p ++ p2 ++ [z]) := by simp only [List.append_assoc]
        exact ih j2 (p ++ p2 ++ [z]) _ (k + 1 + k0) W2 S2 (by omega) (by omega) t2 (by simp only [List.length_append, List.length_cons, List.length_nil]; omega) ((h5.app t4).app (LG.one hz)) (hev _ _ _ _ h6 t5) (by omega) (by rw [← e]; exact hnext _ _ _ _ _ hW t7) (fun f => by rw [show f + (k + 1 + k0) = (f + k + 1) + k0 by omega, h9, hgo, t8])
    · rw [if_neg hj]
      exact ⟨h2, h3, h4, h5, h6, k0, W', S', h7, ⟨h8, hj⟩, h9⟩
def T1 (W : List Nat) : Prop := ∀ X, whl W X = (W, X) ∧ stl 38 W X = (W, X)
def T2 (W : List Nat) : Prop := ∀ X, whl W X = (W, X) ∧ stl 38 W X = (W, X) ∧ stl 124 W X = (W, X)
def PF (_ : Nat) (W : List Nat) (X : List Int32) (W' : List Nat) (S' : List Int32) : Prop := (W', S') = whl W X
def IB (_ : Nat) (W : List Nat) (X : List Int32) (W' : List Nat) (S' : List Int32) : Prop := stl 38 W' S' = (W, X) ∧ stl 124 W' S' = stl 124 W X
def PB (b : Nat → Nat) (j : Nat) (W : List Nat) (X : List Int32) (W' : List Nat) (S' : List Int32) : Prop := IB j W X W' S' ∧ b j ≠ 38
def IE (b : Nat → Nat) (j : Nat) (W : List Nat) (X : List Int32) (W' : List Nat) (S' : List Int32) : Prop := stl 124 W' S' = (W, X) ∧ b j ≠ 38
def PE (b : Nat → Nat) (j : Nat) (W : List Nat) (X : List Int32) (W' : List Nat) (S' : List Int32) : Prop := IE b j W X W' S' ∧ b j ≠ 124
theorem yB (hb : ∀ i, N ≤ i → b i = 255) (hN : N ≤ 100) {w : Nat} {F : Nat → PRes} (hF : YP b N (fun W => opn W = w) PF F) : YP b N (fun W => opn W = w ∧ T1 W) (PB b) (pB b F) := by
  intro i hi W S hW
  have T := hF i hi W S hW.1
  unfold pB
  cases hFi : F i with
  | inl e =>
    rw [hFi] at T
    exact T
  | inr q =>
    obtain ⟨j, p, M⟩ := q
    rw [hFi] at T
    obtain ⟨t1, t2, t3, t4, t5, k, W', S', t6, t7, t8⟩ := T
    refine yloop (C := fun W => opn W = w ∧ T1 W) (CO := fun W => opn W = w) (PO := PF) (Inv := IB) hb hF (Or.inl rfl) (Or.inr (Or.inl rfl)) (fun p q M M2 h1 h2 => h1.and h2) ?_ ?_ hW 1000 j p M k W' S' (by omega) t1 t2 t3 t4 t5 t6 ?_ t8
    · intro j W X W' S' hc hv _
      refine ⟨hv.1, ?_⟩
      show opn W + (if 38 = 33 ∨ 38 = 40 then 1 else 0) = w
      rw [if_neg (by decide)]
      exact hc.1
    · intro j W X W' S' hc hp
      have hp : (W', S') = (38 :: W, X) := by
        unfold PF whl at hp
        rw [if_neg (by decide)] at hp
        exact hp
      obtain ⟨rfl, rfl⟩ := Prod.mk.inj hp
      refine ⟨?_, ?_⟩
      · rw [stl, if_pos rfl]
        exact (hc.2 _).2
      · rw [stl, if_pos rfl]
    · have h9 : (W', S') = (W, S ++ p) := t7.trans (hW.2 _).1
      obtain ⟨rfl, rfl⟩ := Prod.mk.inj h9
      exact ⟨(hW.2 _).2, rfl⟩
theorem yE (hb : ∀ i, N ≤ i → b i = 255) (hN : N ≤ 100) {w : Nat} {F : Nat → PRes} (hF : YP b N (fun W => opn W = w) PF F) : YP b N (fun W => opn W = w ∧ T2 W) (PE b) (pE b F) := by
  have hB := yB hb hN hF
  intro i hi W S hW
  have T := hB i hi W S ⟨hW.1, fun X => ⟨(hW.2 X).1, (hW.2 X).2.1⟩⟩
  unfold pE
  cases hFi : pB b F i with
  | inl e =>
    rw [hFi] at T
    exact T
  | inr q =>
    obtain ⟨j, p, M⟩ := q
    rw [hFi] at T
    obtain ⟨t1, t2, t3, t4, t5, k, W', S', t6, t7, t8⟩ := T
    refine yloop (C := fun W => opn W = w ∧ T2 W) (CO := fun W => opn W = w ∧ T1 W) (PO := PB b) (Inv := IE b) hb hB (Or.inr rfl) (Or.inr (Or.inr (Or.inl rfl))) (fun p q M M2 h1 h2 => h1.or h2) ?_ ?_ hW 1000 j p M k W' S' (by omega) t1 t2 t3 t4 t5 t6 ?_ t8
    · intro j W X W' S' hc hv _
      refine ⟨hv.1, ?_, fun X => ⟨?_, ?_⟩⟩
      · show opn W + (if 124 = 33 ∨ 124 = 40 then 1 else 0) = w
        rw [if_neg (by decide)]
        exact hc.1
      · rw [whl, if_neg (by decide)]
      · rw [stl, if_neg (by decide), if_pos rfl, if_pos rfl]
    · intro j W X W' S' hc hp
      obtain ⟨⟨-, h2⟩, h3⟩ := hp
      refine ⟨?_, h3⟩
      rw [h2, stl, if_neg (by decide), if_pos rfl, if_neg (by decide)]
      exact (hc.2 _).2.2
    · obtain ⟨⟨-, h2⟩, h3⟩ := t7
      exact ⟨h2.trans (hW.2 _).2.2, h3⟩
theorem yF (hb : ∀ i, N ≤ i → b i = 255) (hN : N ≤ 100) : ∀ d w, 4 < w + d → w ≤ 4 → YP b N (fun W => opn W = w) PF (pF b d w) := by
  intro d
  induction d with
  | zero => intros; omega
  | succ d ih =>
    intro w hd hw i hi W S hW
    have lt : ∀ i, b i ≠ 255 → i < N := fun i hd => Nat.lt_of_not_le (fun h9 => hd (hb i h9))
    rw [pF]
    by_cases h1 : w < 4 ∧ b i = 33
    · rw [if_pos h1]
      have hiN := lt i (by omega)
      have hgo : ∀ f, yrd b (f + 1) true i W S = yrd b f true (i + 1) (33 :: W) S := fun f => by
        rw [yrd, if_pos (Or.inl h1.2), if_neg (by omega), h1.2]
      have hop : opn (33 :: W) = w + 1 := by
        rw [opn, if_pos (Or.inl rfl), hW]
      have T := ih (w + 1) (by omega) (by omega) (i + 1) (by omega) (33 :: W) S hop
      cases hF : pF b d (w + 1) (i + 1) with
      | inl e =>
        rw [hF] at T
        obtain ⟨t1, t2, k, t3, t4⟩ := T
        exact ⟨by omega, t2, k + 1, by omega, fun f => by rw [← Nat.add_assoc, hgo, t4]⟩
      | inr q =>
        obtain ⟨j, p, M⟩ := q
        rw [hF] at T
        obtain ⟨t1, t2, t3, t4, t5, k, W', S', t6, t7, t8⟩ := T
        refine ⟨by omega, t2, by simp only [List.length_append, List.length_cons, List.length_nil]; omega, t4.app (LG.one (Or.inl rfl)), t5.not, k + 1, W', S', by omega, ?_, fun f => by rw [← Nat.add_assoc, hgo, t8]⟩
        have h9 : (W', S') = whl (33 :: W) (S ++ p) := t7
        rw [whl, if_pos rfl, List.append_assoc] at h9
        exact h9
    · rw [if_neg h1]
      by_cases h2 : w < 4 ∧ b i = 40
      · rw [if_pos h2]
        have hiN := lt i (by omega)
        have hgo : ∀ f, yrd b (f + 1) true i W S = yrd b f true (i + 1) (40 :: W) S := fun f => by
          rw [yrd, if_pos (Or.inr h2.2), if_neg (by omega), h2.2]
        have hop : opn (40 :: W) = w + 1 := by
          rw [opn, if_pos (Or.inr rfl), hW]
        have T := yE hb hN (ih (w + 1) (by omega) (by omega)) (i + 1) (by omega) (40 :: W) S ⟨hop, fun X => ⟨by rw [whl, if_neg (by decide)], by rw [stl, if_neg (by decide), if_neg (by decide)], by rw [stl, if_neg (by decide), if_neg (by decide)]⟩⟩
        cases hF : pE b (pF b d (w + 1)) (i + 1) with
        | inl e =>
          rw [hF] at T
          obtain ⟨t1, t2, k, t3, t4⟩ := T
          exact ⟨by omega, t2, k + 1, by omega, fun f => by rw [← Nat.add_assoc, hgo, t4]⟩
        | inr q =>
          obtain ⟨j, p, M⟩ := q
          rw [hF] at T
          obtain ⟨t1, t2, t3, t4, t5, k, W', S', t6, ⟨⟨t7, t9⟩, t10⟩, t8⟩ := T
          have hst : ∀ f, yrd b (f + 1) false j W' S' = if b j = 41 then yrd b f false (j + 1) (whl W (S ++ p)).1 (whl W (S ++ p)).2 else some (.inl j) := fun f => by
            rw [yrd, if_neg (by omega), t7]
            show (if b j = 41 then (if 40 = 40 then _ else none) else _) = _
            rw [if_pos rfl]
          show match (if b j = 41 then .inr (j + 1, p, M) else .inl j : PRes) with
            | .inl e => i ≤ e ∧ e ≤ N ∧ ∃ k, k ≤ e - i + 1 ∧ ∀ f, yrd b (f + k) true i W S = some (.inl e)
            | .inr (j, p, M) => i < j ∧ j ≤ N ∧ p.length ≤ j - i ∧ LG p ∧ EV p M ∧ ∃ k W' S', k ≤ j - i ∧ PF j W (S ++ p) W' S' ∧ ∀ f, yrd b (f + k) true i W S = yrd b f false j W' S'
          by_cases h41 : b j = 41
          · rw [if_pos h41]
            have := lt j (by omega)
            exact ⟨by omega, by omega, by omega, t4, t5, 1 + k + 1, _, _, by omega, rfl, fun f => by rw [← Nat.add_assoc, ← Nat.add_assoc, hgo, t8, hst, if_pos h41]⟩
          · rw [if_neg h41]
            exact ⟨by omega, t2, 1 + k + 1, by omega, fun f => by rw [← Nat.add_assoc, ← Nat.add_assoc, hgo, t8, hst, if_neg h41]⟩
      · rw [if_neg h2]
        have R := tst_r hb hi
        by_cases h3 : b i = 33 ∨ b i = 40
        · have hl : pTst b i = .inl i := by
            unfold pTst
            rw [if_pos]
            unfold ltr
            rw [if_neg (by omega), if_neg (by omega), if_neg (by omega)]
          rw [hl]
          exact ⟨Nat.le_refl _, hi, 1, by omega, fun f => by rw [yrd, if_pos h3, if_pos (by omega)]⟩
        · cases hT : pTst b i with
          | inl e =>
            rw [hT] at R
            exact ⟨R.1, R.2, 1, by omega, fun f => by rw [yrd, if_neg h3, hT]⟩
          | inr q =>
            obtain ⟨j, p, M⟩ := q
            rw [hT] at R
            obtain ⟨r1, r2, r3, r4, r5⟩ := R
            exact ⟨r1, r2, r3, r4, r5, 1, _, _, by omega, rfl, fun f => by rw [yrd, if_neg h3, hT]⟩
/-- a whole expression -/
theorem yTop (hb : ∀ i, N ≤ i → b i = 255) (hN : N ≤ 100) {i : Nat} (hi : i ≤ N) : match pE b (pF b 8 0) i with
  | .inl e => i ≤ e ∧ e ≤ N ∧ yrd b 1000 true i [] [] = some (.inl e)
  | .inr (j, p, M) => i < j ∧ j ≤ N ∧ p.length ≤ j - i ∧ LG p ∧ EV p M ∧ yrd b 1000 true i [] [] = some (.inr (j, p)) := by
  have T := yE hb hN (yF hb hN 8 0 (by omega) (by omega)) i hi [] [] ⟨rfl, fun X => ⟨rfl, rfl, rfl⟩⟩
  cases hE : pE b (pF b 8 0) i with
  | inl e =>
    rw [hE] at T
    obtain ⟨t1, t2, k, t3, t4⟩ := T
    refine ⟨t1, t2, ?_⟩
    rw [show 1000 = (1000 - k) + k by omega, t4]
  | inr q =>
    obtain ⟨j, p, M⟩ := q
    rw [hE] at T
    obtain ⟨t1, t2, t3, t4, t5, k, W', S', t6, ⟨⟨t7, t9⟩, t10⟩, t8⟩ := T
    refine ⟨t1, t2, t3, t4, t5, ?_⟩
    rw [show 1000 = (999 - k + 1) + k by omega, t8, yrd, if_neg (by omega), t7]
    rfl
end YARD
