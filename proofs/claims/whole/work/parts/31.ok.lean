/-! LAYER 2: a small logic of the decompiled functions -/
def Ok {α : Type} (o : Option α) (P : α → Prop) : Prop := ∃ x, o = some x ∧ P x
theorem Ok.bs {α β : Type} {o : Option α} {f : α → Option β} {P : β → Prop} {x : α} (h : o = some x) (k : Ok (f x) P) : Ok (o.bind f) P := by
  subst h
  exact k
theorem Ok.bb {α β : Type} {o : Option α} {f : α → Option β} {P : β → Prop} {Q : α → Prop} (h : Ok o Q) (k : ∀ x, Q x → Ok (f x) P) : Ok (o.bind f) P := by
  obtain ⟨x, rfl, hx⟩ := h
  exact k x hx
theorem Ok.b2s {α β γ : Type} {o : Option (α × β)} {f : α → β → Option γ} {P : γ → Prop} {x : α} {y : β} (h : o = some (x, y)) (k : Ok (f x y) P) : Ok (b2 o f) P := by
  subst h
  exact k
theorem Ok.b2b {α β γ : Type} {o : Option (α × β)} {f : α → β → Option γ} {P : γ → Prop} {Q : α → β → Prop} (h : Ok o (fun q => Q q.1 q.2)) (k : ∀ x y, Q x y → Ok (f x y) P) : Ok (b2 o f) P := by
  obtain ⟨⟨x, y⟩, rfl, hx⟩ := h
  exact k x y hx
theorem Ok.b3b {α β γ δ : Type} {o : Option (α × β × γ)} {f : α → β → γ → Option δ} {P : δ → Prop} {Q : α → β → γ → Prop} (h : Ok o (fun q => Q q.1 q.2.1 q.2.2)) (k : ∀ x y z, Q x y z → Ok (f x y z) P) : Ok (b3 o f) P := by
  obtain ⟨⟨x, y, z⟩, rfl, hx⟩ := h
  exact k x y z hx
theorem Ok.ret {α : Type} {P : α → Prop} {x : α} (h : P x) : Ok (some x) P := ⟨x, rfl, h⟩
theorem Ok.t {α : Type} {P : α → Prop} {c : Prop} [Decidable c] {A B : Option α} (h : c) (k : Ok A P) : Ok (if c then A else B) P := by
  rw [if_pos h]
  exact k
theorem Ok.f {α : Type} {P : α → Prop} {c : Prop} [Decidable c] {A B : Option α} (h : ¬ c) (k : Ok B P) : Ok (if c then A else B) P := by
  rw [if_neg h]
  exact k
theorem Ok.ite {α : Type} {P : α → Prop} {c : Prop} [Decidable c] {A B : Option α} (k1 : c → Ok A P) (k2 : ¬ c → Ok B P) : Ok (if c then A else B) P := by
  by_cases h : c
  · exact Ok.t h (k1 h)
  · exact Ok.f h (k2 h)
theorem Ok.mono {α : Type} {P Q : α → Prop} {o : Option α} (h : Ok o P) (k : ∀ x, P x → Q x) : Ok o Q := by
  obtain ⟨x, h1, h2⟩ := h
  exact ⟨x, h1, k x h2⟩
theorem Ok.addE {ρ : Type} {c s : Nat} {o : Option ((Nat × Nat) × ρ)} {P : (Nat × Nat) × ρ → Prop} (k : Ok o (fun q => P ((c + q.1.1, s + q.1.2), q.2))) : Ok (addE c s o) P := by
  obtain ⟨q, rfl, hq⟩ := k
  exact ⟨_, rfl, hq⟩
theorem Ok.bE1 {α γ : Type} {o : Option ((Nat × Nat) × α)} {f : α → Option ((Nat × Nat) × γ)} {P : (Nat × Nat) × γ → Prop} {Q : (Nat × Nat) × α → Prop} (h : Ok o Q) (k : ∀ c s x, Q ((c, s), x) → Ok (f x) (fun q => P ((c + q.1.1, s + q.1.2), q.2))) : Ok (bE1 o f) P := by
  obtain ⟨⟨⟨c, s⟩, x⟩, rfl, hx⟩ := h
  exact Ok.addE (k c s x hx)
theorem Ok.bE2 {α β γ : Type} {o : Option ((Nat × Nat) × (α × β))} {f : α → β → Option ((Nat × Nat) × γ)} {P : (Nat × Nat) × γ → Prop} {Q : (Nat × Nat) × (α × β) → Prop} (h : Ok o Q) (k : ∀ c s x y, Q ((c, s), (x, y)) → Ok (f x y) (fun q => P ((c + q.1.1, s + q.1.2), q.2))) : Ok (bE2 o f) P := by
  obtain ⟨⟨⟨c, s⟩, x, y⟩, rfl, hx⟩ := h
  exact Ok.addE (k c s x y hx)
theorem Ok.bE3 {α β δ γ : Type} {o : Option ((Nat × Nat) × (α × β × δ))} {f : α → β → δ → Option ((Nat × Nat) × γ)} {P : (Nat × Nat) × γ → Prop} {Q : (Nat × Nat) × (α × β × δ) → Prop} (h : Ok o Q) (k : ∀ c s x y z, Q ((c, s), (x, y, z)) → Ok (f x y z) (fun q => P ((c + q.1.1, s + q.1.2), q.2))) : Ok (bE3 o f) P := by
  obtain ⟨⟨⟨c, s⟩, x, y, z⟩, rfl, hx⟩ := h
  exact Ok.addE (k c s x y z hx)
theorem Ok.bE4 {α β δ ε γ : Type} {o : Option ((Nat × Nat) × (α × β × δ × ε))} {f : α → β → δ → ε → Option ((Nat × Nat) × γ)} {P : (Nat × Nat) × γ → Prop} {Q : (Nat × Nat) × (α × β × δ × ε) → Prop} (h : Ok o Q) (k : ∀ c s x y z w, Q ((c, s), (x, y, z, w)) → Ok (f x y z w) (fun q => P ((c + q.1.1, s + q.1.2), q.2))) : Ok (bE4 o f) P := by
  obtain ⟨⟨⟨c, s⟩, x, y, z, w⟩, rfl, hx⟩ := h
  exact Ok.addE (k c s x y z w hx)
theorem Ok.eq {α : Type} {o : Option α} {x : α} {P : α → Prop} (h : o = some x) (k : P x) : Ok o P := ⟨x, h, k⟩
/-- the address apart: another cell's contents stay -/
theorem up_ne {α : Type} {I : Nat → Nat → α} {a b : Nat} {f : Nat → α} (h : b ≠ a) : upR I a f b = I b := if_neg h
theorem upd_eq (f : Nat → Int32) (k : Nat) (v : Int32) : upd f k v k = v := if_pos rfl
theorem upd_ne {f : Nat → Int32} {k j : Nat} {v : Int32} (h : j ≠ k) : upd f k v j = f j := if_neg h
theorem Lay.nil {sh : SH} {a : Nat} : Lay sh a [] := fun o d h => by simp at h
theorem Lay.one {sh : SH} {a : Nat} {d : shD} (h : isD sh a d) : Lay sh a [d] := fun o d' h' => by
  match o, h' with
  | 0, h' =>
    obtain rfl := Option.some.inj (show some d = some d' from h')
    exact h
  | o + 1, h' => simp at h'
theorem Lay.app {sh : SH} {a b : Nat} {ds es : List shD} (h1 : Lay sh a ds) (h2 : Lay sh b es) (hb : a + ds.length = b) : Lay sh a (ds ++ es) := by
  intro o d hd
  by_cases ho : o < ds.length
  · rw [List.getElem?_append_left ho] at hd
    exact h1 o d hd
  · rw [List.getElem?_append_right (by omega)] at hd
    have h3 := h2 _ _ hd
    have e : b + (o - ds.length) = a + o := by omega
    rw [e] at h3
    exact h3
theorem Lay.kept {sh sh' : SH} {a : Nat} {ds : List shD} (h : Lay sh a ds) (hs : ∀ x, a ≤ x → x < a + ds.length → sh' x = sh x) : Lay sh' a ds := fun o d hd => isD_same (hs _ (by omega) (by have := (List.getElem?_eq_some_iff.mp hd).1; omega)) (h o d hd)
/-- numbers -/
theorem min_nI {x y : Nat} (hx : x < 2 ^ 31) (hy : y < 2 ^ 31) : fJ9_min_7cf53 (nI x) (nI y) = nI (min x y) := by
  unfold fJ9_min_7cf53
  by_cases h : y < x
  · rw [if_pos (nI_lt h hx), Nat.min_eq_right (by omega)]
  · rw [if_neg (nI_nlt (by omega) hy), Nat.min_eq_left (by omega)]
theorem max_nI {x y : Nat} (hx : x < 2 ^ 31) (hy : y < 2 ^ 31) : fJ9_max_7cf53 (nI x) (nI y) = nI (max x y) := by
  unfold fJ9_max_7cf53
  by_cases h : x < y
  · rw [if_pos (nI_lt h hy), Nat.max_eq_right (by omega)]
  · rw [if_neg (nI_nlt (by omega) hx), Nat.max_eq_left (by omega)]
theorem under_cases (x : Int32) (N : Nat) (h0 : 0 < N) (hN : N < 2 ^ 31) : (∃ j, j < N ∧ x = nI j) ∨ ((x < 0 ∨ nI (N - 1) < x) ∧ fX6_isUnder x (nI N) = 0 ∧ fX7_in x 0 (nI (N - 1)) = 0) := by
  by_cases h1 : x < 0
  · refine Or.inr ⟨Or.inl h1, ?_, ?_⟩
    · unfold fX6_isUnder
      rw [if_pos h1]
    · unfold fX7_in
      rw [if_pos h1]
  · obtain ⟨j, hj, rfl⟩ := nI_of h1
    by_cases h2 : j < N
    · exact Or.inl ⟨j, h2, rfl⟩
    · have h3 : nI (N - 1) < nI j := nI_lt (by omega) hj
      refine Or.inr ⟨Or.inr h3, ?_, ?_⟩
      · unfold fX6_isUnder
        rw [if_neg h1, if_pos (nI_le (by omega) hj)]
      · unfold fX7_in
        rw [if_neg h1, if_pos h3]
theorem under_yes {j N : Nat} (h : j < N) (hN : N < 2 ^ 31) : fX6_isUnder (nI j) (nI N) = 1 := by
  unfold fX6_isUnder
  rw [if_neg (nI_pos (by omega)), if_neg (nI_ge h hN)]
theorem in_yes {j N : Nat} (h : j < N) (hN : N < 2 ^ 31) : fX7_in (nI j) 0 (nI (N - 1)) = 1 := by
  unfold fX7_in
  rw [if_neg (nI_pos (by omega)), if_neg (nI_nlt (by omega) (by omega))]
