/-! LAYER 2: the class's constructor, whole -/
theorem OkE.bE3 {α β δ ρ : Type} {o : Option ((Nat × Nat) × (α × β × δ))} {f : α → β → δ → Option ((Nat × Nat) × ρ)} {e s e1 s1 : Nat} {P : ρ → Prop} {Q : α × β × δ → Prop} (e2 s2 : Nat) (h : OkE o e1 s1 Q) (h1 : e1 + e2 = e) (h2 : s1 + s2 = s) (k : ∀ x y z, Q (x, y, z) → OkE (f x y z) e2 s2 P) : OkE (bE3 o f) e s P := by
  obtain ⟨⟨x, y, z⟩, rfl, hq⟩ := h
  exact OkE.addN e2 s2 h1 h2 (k x y z hq)
theorem OkE.bE4 {α β δ ε ρ : Type} {o : Option ((Nat × Nat) × (α × β × δ × ε))} {f : α → β → δ → ε → Option ((Nat × Nat) × ρ)} {e s e1 s1 : Nat} {P : ρ → Prop} {Q : α × β × δ × ε → Prop} (e2 s2 : Nat) (h : OkE o e1 s1 Q) (h1 : e1 + e2 = e) (h2 : s1 + s2 = s) (k : ∀ x y z w, Q (x, y, z, w) → OkE (f x y z w) e2 s2 P) : OkE (bE4 o f) e s P := by
  obtain ⟨⟨x, y, z, w⟩, rfl, hq⟩ := h
  exact OkE.addN e2 s2 h1 h2 (k x y z w hq)
def oTape (n : Nat) : shD := .inl (3, [none, none, some (some (n + 1))])
def dState : shD := .inl (2, [none, some none, some none, some none, some none, none, some none, none, some none])
def dValley : shD := .inl (4, [some none, some none])
def dWater : shD := .inl (5, [some none, some none, some none, some none, some none, some none, some none, some none, some none, some none])
def dActs : shD := .inl (0, [none, none, none, some none, none])
def oActs (n : Nat) : shD := .inl (0, [none, none, none, some (some n), none])
def oHours (a : Nat) : shD := .inl (6, [some (some (a + 1)), some (some (a + 29)), none, some (some (a + 50)), some (some (a + 94)), some (some (a + 96)), none, none, some (some (a + 97))])
theorem oke_X4 {sh : SH} {I : IH} {t n : Nat} (h : isD sh t dValley) (ht : t < n) : OkE (fX4_init t sh I n) 6 168 (fun q => isD q.1 t (vObj n) ∧ Lay q.1 n (vArea n) ∧ q.2.2 = n + 6 ∧ (∀ x, x < n → x ≠ t → q.1 x = sh x) ∧ (∀ x, x < n → q.2.1 x = I x) ∧ (∀ j, j < 5 → q.2.1 (n + 1) j = 1 ∧ q.2.1 (n + 2) j = 0 ∧ q.2.1 (n + 3) j = 99 ∧ q.2.1 (n + 4) j = 0) ∧ ∀ j, j < 144 → q.2.1 (n + 5) j = 0) := by
  obtain ⟨⟨c, x⟩, hq, h1, h2⟩ := ok_X4 (I := I) h ht
  have h1 : c = (6, 168) := h1
  subst h1
  exact ⟨x, hq, h2⟩
theorem oke_X2 {sh : SH} {I : IH} {t w n : Nat} (h : isD sh t dState) (ht : t < n) : OkE (fX2_init t w sh I n) 20 99 (fun q => isD q.1 t (sObj n w) ∧ Lay q.1 n (sArea n) ∧ q.2.2 = n + 20 ∧ (∀ x, x < n → x ≠ t → q.1 x = sh x) ∧ (∀ x, x < n → x ≠ t → q.2.1 x = I x) ∧ q.2.1 t = upd (I t) 0 3 ∧ (∀ x j, n ≤ x → x < n + 20 → x ≠ n + 2 → x ≠ n + 8 → q.2.1 x j = if x = n + 1 ∧ j = 0 then 10 else 0)) := by
  obtain ⟨⟨c, x⟩, hq, h1, h2⟩ := ok_X2 (I := I) (w := w) h ht
  have h1 : c = (20, 99) := h1
  subst h1
  exact ⟨x, hq, h2⟩
theorem nO_K {sh : SH} {a n : Nat} {ds : List shD} (ci : Nat) (fs : List (Option (Option Nat))) (hf : ∀ k, k < fs.length → fs[k]? = some (fkD ci k)) : isD (nO sh n ci) n (.inl (ci, fs)) ∧ ∀ x, x ≠ n → nO sh n ci x = sh x := by
  refine ⟨⟨fkD ci, upS_same, fun k v hv => ?_⟩, fun x hx => upS_ne hx⟩
  have h1 := hf k (List.getElem?_eq_some_iff.mp hv).1
  rw [hv] at h1
  exact (Option.some.inj h1).symm
theorem fkd0 : ∀ k, k < 5 → ([none, none, none, some none, none] : List (Option (Option Nat)))[k]? = some (fkD 0 k) := by decide
theorem fkd2 : ∀ k, k < 9 → ([none, some none, some none, some none, some none, none, some none, none, some none] : List (Option (Option Nat)))[k]? = some (fkD 2 k) := by decide
theorem fkd3 : ∀ k, k < 3 → ([none, none, some none] : List (Option (Option Nat)))[k]? = some (fkD 3 k) := by decide
theorem fkd4 : ∀ k, k < 2 → ([some none, some none] : List (Option (Option Nat)))[k]? = some (fkD 4 k) := by decide
theorem fkd5 : ∀ k, k < 10 → ([some none, some none, some none, some none, some none, some none, some none, some none, some none, some none] : List (Option (Option Nat)))[k]? = some (fkD 5 k) := by decide
theorem fkd6 : ∀ k, k < 9 → ([some none, some none, none, some none, some none, some none, none, none, some none] : List (Option (Option Nat)))[k]? = some (fkD 6 k) := by decide
theorem fkd7 : ∀ k, k < 67 → dObj7[k]? = some (fkD 7 k) := by decide
/-- a tape more -/
theorem ok_tape {s : SH} {I : IH} {L : LH} {a i fuel e0 s0 : Nat} {ds : List shD} {P : SH × IH × LH × Nat → Prop} (hi : i < 6) (W : Lay s a ds) (h0 : ds[0]? = some (oHours a)) (h97 : ds[97]? = some (.inr (10 + i, 6, a + 98))) (hlen : ds.length = 98 + 2 * i)
    (k : ∀ s' I' L', Lay s' a ((ds ++ [oTape (a + (98 + 2 * i)), .inr (2, 60, 0)]).set 97 (.inr (10 + (i + 1), 6, a + 98))) → (∀ x, x < a → s' x = s x) → (∀ x, x < a + (98 + 2 * i) → I' x = I x) → (∀ x, x < a + (98 + 2 * i) → L' x = L x) → I' (a + (98 + 2 * i)) 0 = -1 → I' (a + (98 + 2 * i)) 1 = 0 → (∀ j, L' (a + (98 + 2 * i) + 1) j = 0) → OkE (fX6_init_b85 a fuel (nI (i + 1)) s' I' L' (a + (98 + 2 * (i + 1)))) e0 s0 P) :
    OkE (fX6_init_b85 a (fuel + 1) (nI i) s I L (a + (98 + 2 * i))) (2 + e0) (63 + s0) P := by
  rw [fX6_init_b85]
  have hT : gR s 6 a 8 = some (a + 97) := gR_L W 0 8 h0 rfl
  refine OkE.bs hT ?_
  refine OkE.bs (aL_L W 97 h97 (by unfold tyD; rw [if_pos (by omega)]; omega)) ?_
  rw [if_neg (nI_ge hi (by omega))]
  refine OkE.bs hT ?_
  refine OkE.b2s rfl ?_
  refine OkE.addN (1 + e0) (60 + s0) (by omega) (by omega) ?_
  obtain ⟨q1, q2⟩ := nO_K (sh := s) (a := a) (n := a + (98 + 2 * i)) (ds := ds) 3 [none, none, some none] fkd3
  refine OkE.bE4 e0 s0 (ok_X3 (I := nOI I (a + (98 + 2 * i))) (L := L) q1 (Nat.lt_succ_self _) (fun k => by unfold nOI; rw [upR_same])) rfl rfl ?_
  intro s2 I2 L2 n2 hq
  obtain ⟨p1, p2, p3, p4, p5, p6, p7, p8, p9⟩ := hq
  have p1 : isD s2 (a + (98 + 2 * i)) (oTape (a + (98 + 2 * i))) := p1
  have p3 : n2 = a + (98 + 2 * i) + 1 + 1 := p3
  subst p3
  have p4 : ∀ x, x < a + (98 + 2 * i) + 1 → x ≠ a + (98 + 2 * i) → s2 x = nO s (a + (98 + 2 * i)) 3 x := p4
  have W2 : Lay s2 a ds := W.kept (fun x h1 h2 => by rw [p4 x (by omega) (by omega), q2 x (by omega)])
  have W3 : Lay s2 a (ds ++ [oTape (a + (98 + 2 * i)), .inr (2, 60, 0)]) := W2.app ((Lay.one p1).app p2 rfl) (by omega)
  have e97 : (ds ++ [oTape (a + (98 + 2 * i)), .inr (2, 60, 0)])[97]? = some (.inr (10 + i, 6, a + 98)) := by
    rw [List.getElem?_append_left (by omega)]
    exact h97
  have eN : (ds ++ [oTape (a + (98 + 2 * i)), .inr (2, 60, 0)])[98 + 2 * i]? = some (oTape (a + (98 + 2 * i))) := by
    rw [List.getElem?_append_right (by omega), show 98 + 2 * i - ds.length = 0 by omega]
    rfl
  obtain ⟨s3, e3, W4, k3⟩ := sR_L W3 97 i e97 (r := a + (98 + 2 * i)) (by omega) hi (by omega) (o' := 98 + 2 * i) rfl eN
  refine OkE.bs e3 ?_
  rw [nI_1]
  refine k s3 I2 L2 W4 (fun x hx => ?_) (fun x hx => ?_) (fun x hx => ?_) p7 p8 p9
  · rw [k3 x (by omega), p4 x (by omega) (by omega), q2 x (by omega)]
  · show I2 x = I x
    have h9 : I2 x = nOI I (a + (98 + 2 * i)) x := p5 x (by omega) (by omega)
    rw [h9]
    unfold nOI
    rw [upR_ne (by omega)]
  · show L2 x = L x
    exact p6 x (by omega)
