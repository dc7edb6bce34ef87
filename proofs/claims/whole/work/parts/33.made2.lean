/-! LAYER 2: the other constructors -/
def Vals (I : IH) (t : Nat) (vs : List Int32) : Prop := ∀ (k : Nat) (v : Int32), vs[k]? = some v → I t k = v
def Zer (I : IH) (a b : Nat) : Prop := ∀ x j, a ≤ x → x < b → I x j = 0
theorem Vals.kept {I I' : IH} {t : Nat} {vs : List Int32} (h : Vals I t vs) (e : I' t = I t) : Vals I' t vs := fun k v hv => by rw [e]; exact h k v hv
def OkE {ρ : Type} (o : Option ((Nat × Nat) × ρ)) (e s : Nat) (P : ρ → Prop) : Prop := ∃ x, o = some ((e, s), x) ∧ P x
theorem OkE.bs {α ρ : Type} {o : Option α} {f : α → Option ((Nat × Nat) × ρ)} {e s : Nat} {P : ρ → Prop} {x : α} (h : o = some x) (k : OkE (f x) e s P) : OkE (o.bind f) e s P := by
  subst h
  exact k
theorem OkE.b2s {α β ρ : Type} {o : Option (α × β)} {f : α → β → Option ((Nat × Nat) × ρ)} {e s : Nat} {P : ρ → Prop} {x : α} {y : β} (h : o = some (x, y)) (k : OkE (f x y) e s P) : OkE (b2 o f) e s P := by
  subst h
  exact k
theorem OkE.addN {ρ : Type} {c k e s : Nat} {o : Option ((Nat × Nat) × ρ)} {P : ρ → Prop} (e' s' : Nat) (h1 : c + e' = e) (h2 : k + s' = s) (h : OkE o e' s' P) : OkE (addE c k o) e s P := by
  obtain ⟨x, rfl, hx⟩ := h
  subst h1
  subst h2
  exact ⟨x, rfl, hx⟩
theorem OkE.ret {ρ : Type} {P : ρ → Prop} {x : ρ} (h : P x) : OkE (some ((0, 0), x)) 0 0 P := ⟨x, rfl, h⟩
section MK
variable {sh : SH} {I : IH} {L : LH} {a o : Nat} {ds : List shD} {ci k N t g n c : Nat} {fs : List (Option (Option Nat))}
theorem nAI_K (h : Lay sh a ds) (ty : Nat) (ht : ty = 0 ∨ ty = 1) (hc : c ≤ 100000) (hn : a + ds.length = n) : ∃ sh' I', nAI sh I n ty (nI c) = some (sh', I') ∧ Lay sh' a (ds ++ [.inr (ty, c, 0)]) ∧ (∀ x, x ≠ n → sh' x = sh x) ∧ (∀ x, x ≠ n → I' x = I x) ∧ ∀ j, I' n j = 0 := by
  obtain ⟨s, e, A, k⟩ := nAI_L (I := I) h hn hc ty ht
  exact ⟨s, _, e, A, k, fun x hx => upR_ne hx, fun j => by rw [upR_same]⟩
theorem nAL_K (h : Lay sh a ds) (hc : c ≤ 100000) (hn : a + ds.length = n) : ∃ sh' L', nAL sh L n (nI c) = some (sh', L') ∧ Lay sh' a (ds ++ [.inr (2, c, 0)]) ∧ (∀ x, x ≠ n → sh' x = sh x) ∧ (∀ x, x ≠ n → L' x = L x) ∧ ∀ j, L' n j = 0 := by
  obtain ⟨s, e, A, k⟩ := nAL_L (L := L) h hn hc
  exact ⟨s, _, e, A, k, fun x hx => upR_ne hx, fun j => by rw [upR_same]⟩
theorem nM_K {N K : Nat} (h : Lay sh a ds) (hN : N ≤ 100000) (hK : K ≤ 100000) (hn : a + ds.length = n) : ∃ sh' I', nM sh I n (nI N) (nI K) = some (sh', I') ∧ Lay sh' a (ds ++ .inr (4, N, n + 1) :: List.replicate N (.inr (0, K, 0))) ∧ (∀ x, x < n ∨ n + N < x → sh' x = sh x) ∧ (∀ x, x ≤ n ∨ n + N < x → I' x = I x) ∧ ∀ x j, n < x → x ≤ n + N → I' x j = 0 := by
  obtain ⟨s, e, A, k⟩ := nM_L (I := I) h hn hN hK
  exact ⟨s, _, e, A, k, fun x hx => by unfold nMI; rw [if_neg (by omega)], fun x j h1 h2 => by unfold nMI; rw [if_pos ⟨h1, h2⟩]⟩
theorem pI_K (h : Lay sh a ds) (o k : Nat) (v : Int32) {vs : List Int32} (hV : Vals I (a + o) vs) (hd : ds[o]? = some (.inl (ci, fs))) (hk : fs[k]? = some none) : ∃ I', pI sh I ci (a + o) k v = some I' ∧ (∀ x, x ≠ a + o → I' x = I x) ∧ Vals I' (a + o) (vs.set k v) := by
  refine ⟨_, pI_L h o k hd hk v, fun x hx => upR_ne hx, fun k' v' hv => ?_⟩
  rw [upR_same]
  by_cases hkk : k = k'
  · subst hkk
    rw [upd_eq]
    rw [List.getElem?_set] at hv
    split at hv
    · split at hv
      · exact Option.some.inj hv
      · cases hv
    · next q => exact absurd rfl q
  · rw [upd_ne (Ne.symm hkk)]
    rw [List.getElem?_set_ne hkk] at hv
    exact hV _ _ hv
theorem sI_K (h : Lay sh a ds) (o j : Nat) (v : Int32) (hd : ds[o]? = some (.inr (0, N, g))) (hj : j < N) (hN : N < 2 ^ 31) : ∃ I', sI sh I (a + o) (nI j) v = some I' ∧ (∀ x, x ≠ a + o → I' x = I x) ∧ I' (a + o) = upd (I (a + o)) j v := ⟨_, sI_L h o hd hj hN v, fun x hx => upR_ne hx, upR_same⟩
end MK

/-- a Water's cells behind it -/
def wArea (n : Nat) : List shD := [.inr (0, 48, 0), .inr (4, 4, n + 2), .inr (0, 5, 0), .inr (0, 5, 0), .inr (0, 5, 0), .inr (0, 5, 0), .inr (4, 5, n + 7), .inr (0, 3, 0), .inr (0, 3, 0), .inr (0, 3, 0), .inr (0, 3, 0), .inr (0, 3, 0), .inr (4, 5, n + 13), .inr (0, 48, 0), .inr (0, 48, 0), .inr (0, 48, 0), .inr (0, 48, 0), .inr (0, 48, 0), .inr (4, 5, n + 19), .inr (0, 48, 0), .inr (0, 48, 0), .inr (0, 48, 0), .inr (0, 48, 0), .inr (0, 48, 0), .inr (4, 5, n + 25), .inr (0, 48, 0), .inr (0, 48, 0), .inr (0, 48, 0), .inr (0, 48, 0), .inr (0, 48, 0), .inr (4, 5, n + 31), .inr (0, 48, 0), .inr (0, 48, 0), .inr (0, 48, 0), .inr (0, 48, 0), .inr (0, 48, 0), .inr (4, 5, n + 37), .inr (0, 48, 0), .inr (0, 48, 0), .inr (0, 48, 0), .inr (0, 48, 0), .inr (0, 48, 0), .inr (0, 10, 0)]
def wObj (n w : Nat) : shD := .inl (5, [some (some (w)), some (some (n + 0)), some (some (n + 1)), some (some (n + 6)), some (some (n + 12)), some (some (n + 18)), some (some (n + 24)), some (some (n + 30)), some (some (n + 36)), some (some (n + 42))])
theorem ok_X5 {sh : SH} {I : IH} {t w n : Nat} (h : isD sh t (.inl (5, [some none, some none, some none, some none, some none, some none, some none, some none, some none, some none]))) (ht : t < n) : OkE (fX5_init t w sh I n) 43 1327 (fun q => isD q.1 t (wObj n w) ∧ Lay q.1 n (wArea n) ∧ q.2.2 = n + 43 ∧ (∀ x, x < n → x ≠ t → q.1 x = sh x) ∧ (∀ x, x < n → x ≠ t → q.2.1 x = I x)) := by
  unfold fX5_init
  simp only [c_4, c_5, c_10, c_48, c_3, Nat.add_assoc, Nat.reduceAdd]
  have T : Lay sh t _ := Lay.one h
  have A : Lay sh n [] := Lay.nil
  have FS : ∀ x, x < n → x ≠ t → sh x = sh x := fun _ _ _ => rfl
  have FI : ∀ x, x < n → x ≠ t → I x = I x := fun _ _ _ => rfl
  obtain ⟨s1, I2, e3, B, k4, k5, z⟩ := nAI_K (I := I) (c := 48) (n := n + 0) A 0 (Or.inl rfl) (by omega) rfl
  refine OkE.b2s e3 (OkE.addN 42 1279 rfl rfl ?_)
  replace A : Lay s1 n [.inr (0, 48, 0)] := B
  replace T : Lay s1 t [.inl (5, [some none, some none, some none, some none, some none, some none, some none, some none, some none, some none])] := T.kept (fun x h1 h2 => k4 x (by simp at h2; omega))
  replace FS : ∀ x, x < n → x ≠ t → s1 x = sh x := fun x h1 h2 => (k4 x (by omega)).trans (FS x h1 h2)
  replace FI : ∀ x, x < n → x ≠ t → I2 x = I x := fun x h1 h2 => (k5 x (by omega)).trans (FI x h1 h2)
  clear e3 k4 k5 z B
  obtain ⟨s6, e7, B, k8⟩ := pR_L T 0 1 (n + 0) rfl ⟨none, rfl⟩
  refine OkE.bs e7 ?_
  replace T : Lay s6 t [.inl (5, [some none, some (some (n + 0)), some none, some none, some none, some none, some none, some none, some none, some none])] := B
  replace A : Lay s6 n [.inr (0, 48, 0)] := A.kept (fun x h1 h2 => k8 x (by omega))
  replace FS : ∀ x, x < n → x ≠ t → s6 x = sh x := fun x h1 h2 => (k8 x (by omega)).trans (FS x h1 h2)
  clear e7 k8 B
  obtain ⟨s9, I10, e11, B, k12, k13, z⟩ := nM_K (I := I2) (N := 4) (K := 5) (n := n + 1) A (by omega) (by omega) rfl
  refine OkE.b2s e11 (OkE.addN 37 1255 rfl rfl ?_)
  replace A : Lay s9 n [.inr (0, 48, 0), .inr (4, 4, n + 2), .inr (0, 5, 0), .inr (0, 5, 0), .inr (0, 5, 0), .inr (0, 5, 0)] := B
  replace T : Lay s9 t [.inl (5, [some none, some (some (n + 0)), some none, some none, some none, some none, some none, some none, some none, some none])] := T.kept (fun x h1 h2 => k12 x (by simp at h2; omega))
  replace FS : ∀ x, x < n → x ≠ t → s9 x = sh x := fun x h1 h2 => (k12 x (by omega)).trans (FS x h1 h2)
  replace FI : ∀ x, x < n → x ≠ t → I10 x = I x := fun x h1 h2 => (k13 x (by omega)).trans (FI x h1 h2)
  clear e11 k12 k13 z B
  obtain ⟨s14, e15, B, k16⟩ := pR_L T 0 2 (n + 1) rfl ⟨none, rfl⟩
  refine OkE.bs e15 ?_
  replace T : Lay s14 t [.inl (5, [some none, some (some (n + 0)), some (some (n + 1)), some none, some none, some none, some none, some none, some none, some none])] := B
  replace A : Lay s14 n [.inr (0, 48, 0), .inr (4, 4, n + 2), .inr (0, 5, 0), .inr (0, 5, 0), .inr (0, 5, 0), .inr (0, 5, 0)] := A.kept (fun x h1 h2 => k16 x (by omega))
  replace FS : ∀ x, x < n → x ≠ t → s14 x = sh x := fun x h1 h2 => (k16 x (by omega)).trans (FS x h1 h2)
  clear e15 k16 B
  obtain ⟨s17, I18, e19, B, k20, k21, z⟩ := nM_K (I := I10) (N := 5) (K := 3) (n := n + 6) A (by omega) (by omega) rfl
  refine OkE.b2s e19 (OkE.addN 31 1235 rfl rfl ?_)
  replace A : Lay s17 n [.inr (0, 48, 0), .inr (4, 4, n + 2), .inr (0, 5, 0), .inr (0, 5, 0), .inr (0, 5, 0), .inr (0, 5, 0), .inr (4, 5, n + 7), .inr (0, 3, 0), .inr (0, 3, 0), .inr (0, 3, 0), .inr (0, 3, 0), .inr (0, 3, 0)] := B
  replace T : Lay s17 t [.inl (5, [some none, some (some (n + 0)), some (some (n + 1)), some none, some none, some none, some none, some none, some none, some none])] := T.kept (fun x h1 h2 => k20 x (by simp at h2; omega))
  replace FS : ∀ x, x < n → x ≠ t → s17 x = sh x := fun x h1 h2 => (k20 x (by omega)).trans (FS x h1 h2)
  replace FI : ∀ x, x < n → x ≠ t → I18 x = I x := fun x h1 h2 => (k21 x (by omega)).trans (FI x h1 h2)
  clear e19 k20 k21 z B
  obtain ⟨s22, e23, B, k24⟩ := pR_L T 0 3 (n + 6) rfl ⟨none, rfl⟩
  refine OkE.bs e23 ?_
  replace T : Lay s22 t [.inl (5, [some none, some (some (n + 0)), some (some (n + 1)), some (some (n + 6)), some none, some none, some none, some none, some none, some none])] := B
  replace A : Lay s22 n [.inr (0, 48, 0), .inr (4, 4, n + 2), .inr (0, 5, 0), .inr (0, 5, 0), .inr (0, 5, 0), .inr (0, 5, 0), .inr (4, 5, n + 7), .inr (0, 3, 0), .inr (0, 3, 0), .inr (0, 3, 0), .inr (0, 3, 0), .inr (0, 3, 0)] := A.kept (fun x h1 h2 => k24 x (by omega))
  replace FS : ∀ x, x < n → x ≠ t → s22 x = sh x := fun x h1 h2 => (k24 x (by omega)).trans (FS x h1 h2)
  clear e23 k24 B
  obtain ⟨s25, I26, e27, B, k28, k29, z⟩ := nM_K (I := I18) (N := 5) (K := 48) (n := n + 12) A (by omega) (by omega) rfl
  refine OkE.b2s e27 (OkE.addN 25 990 rfl rfl ?_)
  replace A : Lay s25 n [.inr (0, 48, 0), .inr (4, 4, n + 2), .inr (0, 5, 0), .inr (0, 5, 0), .inr (0, 5, 0), .inr (0, 5, 0), .inr (4, 5, n + 7), .inr (0, 3, 0), .inr (0, 3, 0), .inr (0, 3, 0), .inr (0, 3, 0), .inr (0, 3, 0), .inr (4, 5, n + 13), .inr (0, 48, 0), .inr (0, 48, 0), .inr (0, 48, 0), .inr (0, 48, 0), .inr (0, 48, 0)] := B
  replace T : Lay s25 t [.inl (5, [some none, some (some (n + 0)), some (some (n + 1)), some (some (n + 6)), some none, some none, some none, some none, some none, some none])] := T.kept (fun x h1 h2 => k28 x (by simp at h2; omega))
  replace FS : ∀ x, x < n → x ≠ t → s25 x = sh x := fun x h1 h2 => (k28 x (by omega)).trans (FS x h1 h2)
  replace FI : ∀ x, x < n → x ≠ t → I26 x = I x := fun x h1 h2 => (k29 x (by omega)).trans (FI x h1 h2)
  clear e27 k28 k29 z B
  obtain ⟨s30, e31, B, k32⟩ := pR_L T 0 4 (n + 12) rfl ⟨none, rfl⟩
  refine OkE.bs e31 ?_
  replace T : Lay s30 t [.inl (5, [some none, some (some (n + 0)), some (some (n + 1)), some (some (n + 6)), some (some (n + 12)), some none, some none, some none, some none, some none])] := B
  replace A : Lay s30 n [.inr (0, 48, 0), .inr (4, 4, n + 2), .inr (0, 5, 0), .inr (0, 5, 0), .inr (0, 5, 0), .inr (0, 5, 0), .inr (4, 5, n + 7), .inr (0, 3, 0), .inr (0, 3, 0), .inr (0, 3, 0), .inr (0, 3, 0), .inr (0, 3, 0), .inr (4, 5, n + 13), .inr (0, 48, 0), .inr (0, 48, 0), .inr (0, 48, 0), .inr (0, 48, 0), .inr (0, 48, 0)] := A.kept (fun x h1 h2 => k32 x (by omega))
  replace FS : ∀ x, x < n → x ≠ t → s30 x = sh x := fun x h1 h2 => (k32 x (by omega)).trans (FS x h1 h2)
  clear e31 k32 B
  obtain ⟨s33, I34, e35, B, k36, k37, z⟩ := nM_K (I := I26) (N := 5) (K := 48) (n := n + 18) A (by omega) (by omega) rfl
  refine OkE.b2s e35 (OkE.addN 19 745 rfl rfl ?_)
  replace A : Lay s33 n [.inr (0, 48, 0), .inr (4, 4, n + 2), .inr (0, 5, 0), .inr (0, 5, 0), .inr (0, 5, 0), .inr (0, 5, 0), .inr (4, 5, n + 7), .inr (0, 3, 0), .inr (0, 3, 0), .inr (0, 3, 0), .inr (0, 3, 0), .inr (0, 3, 0), .inr (4, 5, n + 13), .inr (0, 48, 0), .inr (0, 48, 0), .inr (0, 48, 0), .inr (0, 48, 0), .inr (0, 48, 0), .inr (4, 5, n + 19), .inr (0, 48, 0), .inr (0, 48, 0), .inr (0, 48, 0), .inr (0, 48, 0), .inr (0, 48, 0)] := B
  replace T : Lay s33 t [.inl (5, [some none, some (some (n + 0)), some (some (n + 1)), some (some (n + 6)), some (some (n + 12)), some none, some none, some none, some none, some none])] := T.kept (fun x h1 h2 => k36 x (by simp at h2; omega))
  replace FS : ∀ x, x < n → x ≠ t → s33 x = sh x := fun x h1 h2 => (k36 x (by omega)).trans (FS x h1 h2)
  replace FI : ∀ x, x < n → x ≠ t → I34 x = I x := fun x h1 h2 => (k37 x (by omega)).trans (FI x h1 h2)
  clear e35 k36 k37 z B
  obtain ⟨s38, e39, B, k40⟩ := pR_L T 0 5 (n + 18) rfl ⟨none, rfl⟩
  refine OkE.bs e39 ?_
  replace T : Lay s38 t [.inl (5, [some none, some (some (n + 0)), some (some (n + 1)), some (some (n + 6)), some (some (n + 12)), some (some (n + 18)), some none, some none, some none, some none])] := B
  replace A : Lay s38 n [.inr (0, 48, 0), .inr (4, 4, n + 2), .inr (0, 5, 0), .inr (0, 5, 0), .inr (0, 5, 0), .inr (0, 5, 0), .inr (4, 5, n + 7), .inr (0, 3, 0), .inr (0, 3, 0), .inr (0, 3, 0), .inr (0, 3, 0), .inr (0, 3, 0), .inr (4, 5, n + 13), .inr (0, 48, 0), .inr (0, 48, 0), .inr (0, 48, 0), .inr (0, 48, 0), .inr (0, 48, 0), .inr (4, 5, n + 19), .inr (0, 48, 0), .inr (0, 48, 0), .inr (0, 48, 0), .inr (0, 48, 0), .inr (0, 48, 0)] := A.kept (fun x h1 h2 => k40 x (by omega))
  replace FS : ∀ x, x < n → x ≠ t → s38 x = sh x := fun x h1 h2 => (k40 x (by omega)).trans (FS x h1 h2)
  clear e39 k40 B
  obtain ⟨s41, I42, e43, B, k44, k45, z⟩ := nM_K (I := I34) (N := 5) (K := 48) (n := n + 24) A (by omega) (by omega) rfl
  refine OkE.b2s e43 (OkE.addN 13 500 rfl rfl ?_)
  replace A : Lay s41 n [.inr (0, 48, 0), .inr (4, 4, n + 2), .inr (0, 5, 0), .inr (0, 5, 0), .inr (0, 5, 0), .inr (0, 5, 0), .inr (4, 5, n + 7), .inr (0, 3, 0), .inr (0, 3, 0), .inr (0, 3, 0), .inr (0, 3, 0), .inr (0, 3, 0), .inr (4, 5, n + 13), .inr (0, 48, 0), .inr (0, 48, 0), .inr (0, 48, 0), .inr (0, 48, 0), .inr (0, 48, 0), .inr (4, 5, n + 19), .inr (0, 48, 0), .inr (0, 48, 0), .inr (0, 48, 0), .inr (0, 48, 0), .inr (0, 48, 0), .inr (4, 5, n + 25), .inr (0, 48, 0), .inr (0, 48, 0), .inr (0, 48, 0), .inr (0, 48, 0), .inr (0, 48, 0)] := B
  replace T : Lay s41 t [.inl (5, [some none, some (some (n + 0)), some (some (n + 1)), some (some (n + 6)), some (some (n + 12)), some (some (n + 18)), some none, some none, some none, some none])] := T.kept (fun x h1 h2 => k44 x (by simp at h2; omega))
  replace FS : ∀ x, x < n → x ≠ t → s41 x = sh x := fun x h1 h2 => (k44 x (by omega)).trans (FS x h1 h2)
  replace FI : ∀ x, x < n → x ≠ t → I42 x = I x := fun x h1 h2 => (k45 x (by omega)).trans (FI x h1 h2)
  clear e43 k44 k45 z B
  obtain ⟨s46, e47, B, k48⟩ := pR_L T 0 6 (n + 24) rfl ⟨none, rfl⟩
  refine OkE.bs e47 ?_
  replace T : Lay s46 t [.inl (5, [some none, some (some (n + 0)), some (some (n + 1)), some (some (n + 6)), some (some (n + 12)), some (some (n + 18)), some (some (n + 24)), some none, some none, some none])] := B
  replace A : Lay s46 n [.inr (0, 48, 0), .inr (4, 4, n + 2), .inr (0, 5, 0), .inr (0, 5, 0), .inr (0, 5, 0), .inr (0, 5, 0), .inr (4, 5, n + 7), .inr (0, 3, 0), .inr (0, 3, 0), .inr (0, 3, 0), .inr (0, 3, 0), .inr (0, 3, 0), .inr (4, 5, n + 13), .inr (0, 48, 0), .inr (0, 48, 0), .inr (0, 48, 0), .inr (0, 48, 0), .inr (0, 48, 0), .inr (4, 5, n + 19), .inr (0, 48, 0), .inr (0, 48, 0), .inr (0, 48, 0), .inr (0, 48, 0), .inr (0, 48, 0), .inr (4, 5, n + 25), .inr (0, 48, 0), .inr (0, 48, 0), .inr (0, 48, 0), .inr (0, 48, 0), .inr (0, 48, 0)] := A.kept (fun x h1 h2 => k48 x (by omega))
  replace FS : ∀ x, x < n → x ≠ t → s46 x = sh x := fun x h1 h2 => (k48 x (by omega)).trans (FS x h1 h2)
  clear e47 k48 B
  obtain ⟨s49, I50, e51, B, k52, k53, z⟩ := nM_K (I := I42) (N := 5) (K := 48) (n := n + 30) A (by omega) (by omega) rfl
  refine OkE.b2s e51 (OkE.addN 7 255 rfl rfl ?_)
  replace A : Lay s49 n [.inr (0, 48, 0), .inr (4, 4, n + 2), .inr (0, 5, 0), .inr (0, 5, 0), .inr (0, 5, 0), .inr (0, 5, 0), .inr (4, 5, n + 7), .inr (0, 3, 0), .inr (0, 3, 0), .inr (0, 3, 0), .inr (0, 3, 0), .inr (0, 3, 0), .inr (4, 5, n + 13), .inr (0, 48, 0), .inr (0, 48, 0), .inr (0, 48, 0), .inr (0, 48, 0), .inr (0, 48, 0), .inr (4, 5, n + 19), .inr (0, 48, 0), .inr (0, 48, 0), .inr (0, 48, 0), .inr (0, 48, 0), .inr (0, 48, 0), .inr (4, 5, n + 25), .inr (0, 48, 0), .inr (0, 48, 0), .inr (0, 48, 0), .inr (0, 48, 0), .inr (0, 48, 0), .inr (4, 5, n + 31), .inr (0, 48, 0), .inr (0, 48, 0), .inr (0, 48, 0), .inr (0, 48, 0), .inr (0, 48, 0)] := B
  replace T : Lay s49 t [.inl (5, [some none, some (some (n + 0)), some (some (n + 1)), some (some (n + 6)), some (some (n + 12)), some (some (n + 18)), some (some (n + 24)), some none, some none, some none])] := T.kept (fun x h1 h2 => k52 x (by simp at h2; omega))
  replace FS : ∀ x, x < n → x ≠ t → s49 x = sh x := fun x h1 h2 => (k52 x (by omega)).trans (FS x h1 h2)
  replace FI : ∀ x, x < n → x ≠ t → I50 x = I x := fun x h1 h2 => (k53 x (by omega)).trans (FI x h1 h2)
  clear e51 k52 k53 z B
  obtain ⟨s54, e55, B, k56⟩ := pR_L T 0 7 (n + 30) rfl ⟨none, rfl⟩
  refine OkE.bs e55 ?_
  replace T : Lay s54 t [.inl (5, [some none, some (some (n + 0)), some (some (n + 1)), some (some (n + 6)), some (some (n + 12)), some (some (n + 18)), some (some (n + 24)), some (some (n + 30)), some none, some none])] := B
  replace A : Lay s54 n [.inr (0, 48, 0), .inr (4, 4, n + 2), .inr (0, 5, 0), .inr (0, 5, 0), .inr (0, 5, 0), .inr (0, 5, 0), .inr (4, 5, n + 7), .inr (0, 3, 0), .inr (0, 3, 0), .inr (0, 3, 0), .inr (0, 3, 0), .inr (0, 3, 0), .inr (4, 5, n + 13), .inr (0, 48, 0), .inr (0, 48, 0), .inr (0, 48, 0), .inr (0, 48, 0), .inr (0, 48, 0), .inr (4, 5, n + 19), .inr (0, 48, 0), .inr (0, 48, 0), .inr (0, 48, 0), .inr (0, 48, 0), .inr (0, 48, 0), .inr (4, 5, n + 25), .inr (0, 48, 0), .inr (0, 48, 0), .inr (0, 48, 0), .inr (0, 48, 0), .inr (0, 48, 0), .inr (4, 5, n + 31), .inr (0, 48, 0), .inr (0, 48, 0), .inr (0, 48, 0), .inr (0, 48, 0), .inr (0, 48, 0)] := A.kept (fun x h1 h2 => k56 x (by omega))
  replace FS : ∀ x, x < n → x ≠ t → s54 x = sh x := fun x h1 h2 => (k56 x (by omega)).trans (FS x h1 h2)
  clear e55 k56 B
  obtain ⟨s57, I58, e59, B, k60, k61, z⟩ := nM_K (I := I50) (N := 5) (K := 48) (n := n + 36) A (by omega) (by omega) rfl
  refine OkE.b2s e59 (OkE.addN 1 10 rfl rfl ?_)
  replace A : Lay s57 n [.inr (0, 48, 0), .inr (4, 4, n + 2), .inr (0, 5, 0), .inr (0, 5, 0), .inr (0, 5, 0), .inr (0, 5, 0), .inr (4, 5, n + 7), .inr (0, 3, 0), .inr (0, 3, 0), .inr (0, 3, 0), .inr (0, 3, 0), .inr (0, 3, 0), .inr (4, 5, n + 13), .inr (0, 48, 0), .inr (0, 48, 0), .inr (0, 48, 0), .inr (0, 48, 0), .inr (0, 48, 0), .inr (4, 5, n + 19), .inr (0, 48, 0), .inr (0, 48, 0), .inr (0, 48, 0), .inr (0, 48, 0), .inr (0, 48, 0), .inr (4, 5, n + 25), .inr (0, 48, 0), .inr (0, 48, 0), .inr (0, 48, 0), .inr (0, 48, 0), .inr (0, 48, 0), .inr (4, 5, n + 31), .inr (0, 48, 0), .inr (0, 48, 0), .inr (0, 48, 0), .inr (0, 48, 0), .inr (0, 48, 0), .inr (4, 5, n + 37), .inr (0, 48, 0), .inr (0, 48, 0), .inr (0, 48, 0), .inr (0, 48, 0), .inr (0, 48, 0)] := B
  replace T : Lay s57 t [.inl (5, [some none, some (some (n + 0)), some (some (n + 1)), some (some (n + 6)), some (some (n + 12)), some (some (n + 18)), some (some (n + 24)), some (some (n + 30)), some none, some none])] := T.kept (fun x h1 h2 => k60 x (by simp at h2; omega))
  replace FS : ∀ x, x < n → x ≠ t → s57 x = sh x := fun x h1 h2 => (k60 x (by omega)).trans (FS x h1 h2)
  replace FI : ∀ x, x < n → x ≠ t → I58 x = I x := fun x h1 h2 => (k61 x (by omega)).trans (FI x h1 h2)
  clear e59 k60 k61 z B
  obtain ⟨s62, e63, B, k64⟩ := pR_L T 0 8 (n + 36) rfl ⟨none, rfl⟩
  refine OkE.bs e63 ?_
  replace T : Lay s62 t [.inl (5, [some none, some (some (n + 0)), some (some (n + 1)), some (some (n + 6)), some (some (n + 12)), some (some (n + 18)), some (some (n + 24)), some (some (n + 30)), some (some (n + 36)), some none])] := B
  replace A : Lay s62 n [.inr (0, 48, 0), .inr (4, 4, n + 2), .inr (0, 5, 0), .inr (0, 5, 0), .inr (0, 5, 0), .inr (0, 5, 0), .inr (4, 5, n + 7), .inr (0, 3, 0), .inr (0, 3, 0), .inr (0, 3, 0), .inr (0, 3, 0), .inr (0, 3, 0), .inr (4, 5, n + 13), .inr (0, 48, 0), .inr (0, 48, 0), .inr (0, 48, 0), .inr (0, 48, 0), .inr (0, 48, 0), .inr (4, 5, n + 19), .inr (0, 48, 0), .inr (0, 48, 0), .inr (0, 48, 0), .inr (0, 48, 0), .inr (0, 48, 0), .inr (4, 5, n + 25), .inr (0, 48, 0), .inr (0, 48, 0), .inr (0, 48, 0), .inr (0, 48, 0), .inr (0, 48, 0), .inr (4, 5, n + 31), .inr (0, 48, 0), .inr (0, 48, 0), .inr (0, 48, 0), .inr (0, 48, 0), .inr (0, 48, 0), .inr (4, 5, n + 37), .inr (0, 48, 0), .inr (0, 48, 0), .inr (0, 48, 0), .inr (0, 48, 0), .inr (0, 48, 0)] := A.kept (fun x h1 h2 => k64 x (by omega))
  replace FS : ∀ x, x < n → x ≠ t → s62 x = sh x := fun x h1 h2 => (k64 x (by omega)).trans (FS x h1 h2)
  clear e63 k64 B
  obtain ⟨s65, I66, e67, B, k68, k69, z⟩ := nAI_K (I := I58) (c := 10) (n := n + 42) A 0 (Or.inl rfl) (by omega) rfl
  refine OkE.b2s e67 (OkE.addN 0 0 rfl rfl ?_)
  replace A : Lay s65 n [.inr (0, 48, 0), .inr (4, 4, n + 2), .inr (0, 5, 0), .inr (0, 5, 0), .inr (0, 5, 0), .inr (0, 5, 0), .inr (4, 5, n + 7), .inr (0, 3, 0), .inr (0, 3, 0), .inr (0, 3, 0), .inr (0, 3, 0), .inr (0, 3, 0), .inr (4, 5, n + 13), .inr (0, 48, 0), .inr (0, 48, 0), .inr (0, 48, 0), .inr (0, 48, 0), .inr (0, 48, 0), .inr (4, 5, n + 19), .inr (0, 48, 0), .inr (0, 48, 0), .inr (0, 48, 0), .inr (0, 48, 0), .inr (0, 48, 0), .inr (4, 5, n + 25), .inr (0, 48, 0), .inr (0, 48, 0), .inr (0, 48, 0), .inr (0, 48, 0), .inr (0, 48, 0), .inr (4, 5, n + 31), .inr (0, 48, 0), .inr (0, 48, 0), .inr (0, 48, 0), .inr (0, 48, 0), .inr (0, 48, 0), .inr (4, 5, n + 37), .inr (0, 48, 0), .inr (0, 48, 0), .inr (0, 48, 0), .inr (0, 48, 0), .inr (0, 48, 0), .inr (0, 10, 0)] := B
  replace T : Lay s65 t [.inl (5, [some none, some (some (n + 0)), some (some (n + 1)), some (some (n + 6)), some (some (n + 12)), some (some (n + 18)), some (some (n + 24)), some (some (n + 30)), some (some (n + 36)), some none])] := T.kept (fun x h1 h2 => k68 x (by simp at h2; omega))
  replace FS : ∀ x, x < n → x ≠ t → s65 x = sh x := fun x h1 h2 => (k68 x (by omega)).trans (FS x h1 h2)
  replace FI : ∀ x, x < n → x ≠ t → I66 x = I x := fun x h1 h2 => (k69 x (by omega)).trans (FI x h1 h2)
  clear e67 k68 k69 z B
  obtain ⟨s70, e71, B, k72⟩ := pR_L T 0 9 (n + 42) rfl ⟨none, rfl⟩
  refine OkE.bs e71 ?_
  replace T : Lay s70 t [.inl (5, [some none, some (some (n + 0)), some (some (n + 1)), some (some (n + 6)), some (some (n + 12)), some (some (n + 18)), some (some (n + 24)), some (some (n + 30)), some (some (n + 36)), some (some (n + 42))])] := B
  replace A : Lay s70 n [.inr (0, 48, 0), .inr (4, 4, n + 2), .inr (0, 5, 0), .inr (0, 5, 0), .inr (0, 5, 0), .inr (0, 5, 0), .inr (4, 5, n + 7), .inr (0, 3, 0), .inr (0, 3, 0), .inr (0, 3, 0), .inr (0, 3, 0), .inr (0, 3, 0), .inr (4, 5, n + 13), .inr (0, 48, 0), .inr (0, 48, 0), .inr (0, 48, 0), .inr (0, 48, 0), .inr (0, 48, 0), .inr (4, 5, n + 19), .inr (0, 48, 0), .inr (0, 48, 0), .inr (0, 48, 0), .inr (0, 48, 0), .inr (0, 48, 0), .inr (4, 5, n + 25), .inr (0, 48, 0), .inr (0, 48, 0), .inr (0, 48, 0), .inr (0, 48, 0), .inr (0, 48, 0), .inr (4, 5, n + 31), .inr (0, 48, 0), .inr (0, 48, 0), .inr (0, 48, 0), .inr (0, 48, 0), .inr (0, 48, 0), .inr (4, 5, n + 37), .inr (0, 48, 0), .inr (0, 48, 0), .inr (0, 48, 0), .inr (0, 48, 0), .inr (0, 48, 0), .inr (0, 10, 0)] := A.kept (fun x h1 h2 => k72 x (by omega))
  replace FS : ∀ x, x < n → x ≠ t → s70 x = sh x := fun x h1 h2 => (k72 x (by omega)).trans (FS x h1 h2)
  clear e71 k72 B
  obtain ⟨s73, e74, B, k75⟩ := pR_L T 0 0 (w) rfl ⟨none, rfl⟩
  refine OkE.bs e74 ?_
  replace T : Lay s73 t [.inl (5, [some (some (w)), some (some (n + 0)), some (some (n + 1)), some (some (n + 6)), some (some (n + 12)), some (some (n + 18)), some (some (n + 24)), some (some (n + 30)), some (some (n + 36)), some (some (n + 42))])] := B
  replace A : Lay s73 n [.inr (0, 48, 0), .inr (4, 4, n + 2), .inr (0, 5, 0), .inr (0, 5, 0), .inr (0, 5, 0), .inr (0, 5, 0), .inr (4, 5, n + 7), .inr (0, 3, 0), .inr (0, 3, 0), .inr (0, 3, 0), .inr (0, 3, 0), .inr (0, 3, 0), .inr (4, 5, n + 13), .inr (0, 48, 0), .inr (0, 48, 0), .inr (0, 48, 0), .inr (0, 48, 0), .inr (0, 48, 0), .inr (4, 5, n + 19), .inr (0, 48, 0), .inr (0, 48, 0), .inr (0, 48, 0), .inr (0, 48, 0), .inr (0, 48, 0), .inr (4, 5, n + 25), .inr (0, 48, 0), .inr (0, 48, 0), .inr (0, 48, 0), .inr (0, 48, 0), .inr (0, 48, 0), .inr (4, 5, n + 31), .inr (0, 48, 0), .inr (0, 48, 0), .inr (0, 48, 0), .inr (0, 48, 0), .inr (0, 48, 0), .inr (4, 5, n + 37), .inr (0, 48, 0), .inr (0, 48, 0), .inr (0, 48, 0), .inr (0, 48, 0), .inr (0, 48, 0), .inr (0, 10, 0)] := A.kept (fun x h1 h2 => k75 x (by omega))
  replace FS : ∀ x, x < n → x ≠ t → s73 x = sh x := fun x h1 h2 => (k75 x (by omega)).trans (FS x h1 h2)
  clear e74 k75 B
  refine OkE.ret ⟨T 0 _ rfl, A, rfl, FS, FI⟩
theorem ok_X0 {sh : SH} {I : IH} {t n : Nat} (h : isD sh t (.inl (0, [none, none, none, some none, none]))) (ht : t < n) : OkE (fX0_init t sh I n) 1 20 (fun q => isD q.1 t (.inl (0, [none, none, none, some (some (n + 0)), none])) ∧ Lay q.1 n [.inr (0, 20, 0)] ∧ q.2.2 = n + 1 ∧ (∀ x, x < n → x ≠ t → q.1 x = sh x) ∧ (∀ x, x < n → x ≠ t → q.2.1 x = I x)) := by
  unfold fX0_init
  have T : Lay sh t _ := Lay.one h
  have A : Lay sh n [] := Lay.nil
  have FS : ∀ x, x < n → x ≠ t → sh x = sh x := fun _ _ _ => rfl
  have FI : ∀ x, x < n → x ≠ t → I x = I x := fun _ _ _ => rfl
  obtain ⟨s1, I2, e3, B, k4, k5, z⟩ := nAI_K (I := I) (c := 20) (n := n + 0) A 0 (Or.inl rfl) (by omega) rfl
  refine OkE.b2s e3 (OkE.addN 0 0 rfl rfl ?_)
  replace A : Lay s1 n [.inr (0, 20, 0)] := B
  replace T : Lay s1 t [.inl (0, [none, none, none, some none, none])] := T.kept (fun x h1 h2 => k4 x (by simp at h2; omega))
  replace FS : ∀ x, x < n → x ≠ t → s1 x = sh x := fun x h1 h2 => (k4 x (by omega)).trans (FS x h1 h2)
  replace FI : ∀ x, x < n → x ≠ t → I2 x = I x := fun x h1 h2 => (k5 x (by omega)).trans (FI x h1 h2)
  clear e3 k4 k5 z B
  obtain ⟨s6, e7, B, k8⟩ := pR_L T 0 3 (n + 0) rfl ⟨none, rfl⟩
  refine OkE.bs e7 ?_
  replace T : Lay s6 t [.inl (0, [none, none, none, some (some (n + 0)), none])] := B
  replace A : Lay s6 n [.inr (0, 20, 0)] := A.kept (fun x h1 h2 => k8 x (by omega))
  replace FS : ∀ x, x < n → x ≠ t → s6 x = sh x := fun x h1 h2 => (k8 x (by omega)).trans (FS x h1 h2)
  clear e7 k8 B
  refine OkE.ret ⟨T 0 _ rfl, A, rfl, FS, FI⟩
theorem ok_X3 {sh : SH} {I : IH} {L : LH} {t n : Nat} (h : isD sh t (.inl (3, [none, none, some none]))) (ht : t < n) (hz : ∀ k, I t k = 0) : OkE (fX3_init t sh I L n) 1 60 (fun q => isD q.1 t (.inl (3, [none, none, some (some (n + 0))])) ∧ Lay q.1 n [.inr (2, 60, 0)] ∧ q.2.2.2 = n + 1 ∧ (∀ x, x < n → x ≠ t → q.1 x = sh x) ∧ (∀ x, x < n → x ≠ t → q.2.1 x = I x) ∧ (∀ x, x < n → q.2.2.1 x = L x) ∧ q.2.1 t 0 = -1 ∧ q.2.1 t 1 = 0 ∧ ∀ j, q.2.2.1 n j = 0) := by
  unfold fX3_init
  have T : Lay sh t _ := Lay.one h
  have A : Lay sh n [] := Lay.nil
  have V : Vals I t [0, 0, 0] := fun k v hv => by
    rw [hz]
    match k, hv with
    | 0, hv => exact Option.some.inj (show some 0 = some v from hv)
    | 1, hv => exact Option.some.inj (show some 0 = some v from hv)
    | 2, hv => exact Option.some.inj (show some 0 = some v from hv)
    | k + 3, hv => simp at hv
  have FS : ∀ x, x < n → x ≠ t → sh x = sh x := fun _ _ _ => rfl
  have FI : ∀ x, x < n → x ≠ t → I x = I x := fun _ _ _ => rfl
  have FL : ∀ x, x < n → L x = L x := fun _ _ => rfl
  obtain ⟨I1, e2, k3, W⟩ := pI_K (I := I) T 0 0 (-1) V rfl rfl
  refine OkE.bs e2 ?_
  replace V : Vals I1 t [(-1), 0, 0] := W
  replace FI : ∀ x, x < n → x ≠ t → I1 x = I x := fun x h1 h2 => (k3 x (by omega)).trans (FI x h1 h2)
  clear e2 k3 W
  obtain ⟨s4, L5, e6, B, k7, k8, z⟩ := nAL_K (L := L) (c := 60) (n := n + 0) A (by omega) rfl
  refine OkE.b2s e6 (OkE.addN 0 0 rfl rfl ?_)
  replace A : Lay s4 n [.inr (2, 60, 0)] := B
  replace T : Lay s4 t [.inl (3, [none, none, some none])] := T.kept (fun x h1 h2 => k7 x (by simp at h2; omega))
  replace FS : ∀ x, x < n → x ≠ t → s4 x = sh x := fun x h1 h2 => (k7 x (by omega)).trans (FS x h1 h2)
  replace FL : ∀ x, x < n → L5 x = L x := fun x h1 => (k8 x (by omega)).trans (FL x h1)
  have ZL : ∀ j, L5 (n + 0) j = 0 := z
  clear e6 k7 k8 z B
  obtain ⟨s9, e10, B, k11⟩ := pR_L T 0 2 (n + 0) rfl ⟨none, rfl⟩
  refine OkE.bs e10 ?_
  replace T : Lay s9 t [.inl (3, [none, none, some (some (n + 0))])] := B
  replace A : Lay s9 n [.inr (2, 60, 0)] := A.kept (fun x h1 h2 => k11 x (by omega))
  replace FS : ∀ x, x < n → x ≠ t → s9 x = sh x := fun x h1 h2 => (k11 x (by omega)).trans (FS x h1 h2)
  clear e10 k11 B
  refine OkE.ret ⟨T 0 _ rfl, A, rfl, FS, FI, FL, V 0 _ rfl, V 1 _ rfl, ZL⟩
/-- the model's cells behind it -/
def mArea : List shD := [.inr (0, 2, 0), .inr (0, 5, 0), .inr (0, 5, 0), .inr (0, 5, 0), .inr (0, 100, 0), .inr (0, 5, 0), .inr (0, 60, 0), .inr (0, 60, 0), .inr (0, 60, 0), .inr (0, 60, 0), .inr (0, 60, 0), .inr (0, 500, 0), .inr (0, 101, 0), .inr (1, 100, 0), .inr (0, 24, 0), .inr (0, 48, 0), .inr (0, 5, 0), .inr (0, 5, 0), .inr (0, 5, 0), .inr (0, 5, 0), .inr (0, 5, 0), .inr (0, 5, 0), .inr (0, 240, 0), .inr (0, 240, 0), .inr (0, 240, 0), .inr (0, 240, 0), .inr (0, 240, 0), .inr (0, 10, 0), .inr (0, 10, 0), .inr (0, 10, 0), .inr (0, 10, 0), .inr (0, 10, 0), .inr (0, 2, 0), .inr (0, 5, 0), .inr (0, 5, 0), .inr (0, 5, 0), .inr (0, 24, 0), .inr (0, 10, 0), .inr (0, 10, 0), .inr (0, 10, 0), .inr (0, 10, 0), .inr (0, 20, 0), .inr (0, 6, 0), .inr (0, 6, 0), .inr (2, 360, 0), .inr (2, 60, 0)]
def mObj (n : Nat) : shD := .inl (7, [none, none, none, some (some (n + 0)), some (some (n + 1)), some (some (n + 2)), some (some (n + 3)), none, none, none, none, none, some (some (n + 4)), some (some (n + 5)), some (some (n + 6)), some (some (n + 7)), some (some (n + 8)), some (some (n + 9)), some (some (n + 10)), some (some (n + 11)), some (some (n + 12)), none, none, none, some (some (n + 13)), none, some (some (n + 14)), some (some (n + 15)), some (some (n + 16)), some (some (n + 17)), some (some (n + 18)), some (some (n + 19)), some (some (n + 20)), some (some (n + 21)), some (some (n + 22)), some (some (n + 23)), some (some (n + 24)), some (some (n + 25)), some (some (n + 26)), none, some (some (n + 27)), some (some (n + 28)), some (some (n + 29)), some (some (n + 30)), some (some (n + 31)), none, none, none, none, none, none, none, some (some (n + 32)), some (some (n + 33)), some (some (n + 34)), some (some (n + 35)), some (some (n + 36)), some (some (n + 37)), some (some (n + 38)), some (some (n + 39)), some (some (n + 40)), none, some (some (n + 41)), some (some (n + 42)), some (some (n + 43)), some (some (n + 44)), some (some (n + 45))])
def mVals : List Int32 := [3, 10, 0, 0, 0, 0, 0, 0, (-1), 0, 0, 0, 0, 0, 0, 0, 0, 0, 0, 0, 0, 0, 0, 0, 0, 0, 0, 0, 0, 0, 0, 0, 0, 0, 0, 0, 0, 0, 0, 0, 0, 0, 0, 0, 0, 0, 3, 10, 0, (-1), 0, 0, 0, 0, 0, 0, 0, 0, 0, 0, 0, 0, 0, 0, 0, 0, 0]
def dObj7 : List (Option (Option Nat)) := [none, none, none, some none, some none, some none, some none, none, none, none, none, none, some none, some none, some none, some none, some none, some none, some none, some none, some none, none, none, none, some none, none, some none, some none, some none, some none, some none, some none, some none, some none, some none, some none, some none, some none, some none, none, some none, some none, some none, some none, some none, none, none, none, none, none, none, none, some none, some none, some none, some none, some none, some none, some none, some none, some none, none, some none, some none, some none, some none, some none]
set_option maxRecDepth 20000 in
set_option maxHeartbeats 4000000 in
theorem ok_X7 {sh : SH} {I : IH} {L : LH} {t n : Nat} (h : isD sh t (.inl (7, dObj7))) (ht : t < n) (hz : ∀ k, I t k = 0) : OkE (fX7_init t sh I L n) 46 3008 (fun q => isD q.1 t (mObj n) ∧ Lay q.1 n mArea ∧ q.2.2.2 = n + 46 ∧ (∀ x, x < n → x ≠ t → q.1 x = sh x) ∧ (∀ x, x < n → x ≠ t → q.2.1 x = I x) ∧ (∀ x, x < n → q.2.2.1 x = L x) ∧ Vals q.2.1 t mVals ∧ (∀ x j, n ≤ x → x < n + 44 → x ≠ n + 42 → q.2.1 x j = 0) ∧ (∀ j, j < 6 → q.2.1 (n + 42) j = -1) ∧ ∀ j, q.2.2.1 (n + 44) j = 0) := by
  unfold fX7_init
  simp only [Nat.add_assoc, Nat.reduceAdd]
  have T : Lay sh t _ := Lay.one h
  have A : Lay sh n [] := Lay.nil
  have V : Vals I t (List.replicate 67 0) := fun k v hv => by
    rw [hz]
    rw [List.getElem?_replicate] at hv
    split at hv
    · exact Option.some.inj hv
    · cases hv
  have Z : ∀ x j, n ≤ x → x < n + 0 → x ≠ n + 42 → I x j = 0 := fun x j h1 h2 => absurd h2 (by omega)
  have FS : ∀ x, x < n → x ≠ t → sh x = sh x := fun _ _ _ => rfl
  have FI : ∀ x, x < n → x ≠ t → I x = I x := fun _ _ _ => rfl
  have FL : ∀ x, x < n → L x = L x := fun _ _ => rfl
  obtain ⟨I1, e2, k3, W⟩ := pI_K (I := I) T 0 0 3 V rfl rfl
  refine OkE.bs e2 ?_
  replace V : Vals I1 t [3, 0, 0, 0, 0, 0, 0, 0, 0, 0, 0, 0, 0, 0, 0, 0, 0, 0, 0, 0, 0, 0, 0, 0, 0, 0, 0, 0, 0, 0, 0, 0, 0, 0, 0, 0, 0, 0, 0, 0, 0, 0, 0, 0, 0, 0, 0, 0, 0, 0, 0, 0, 0, 0, 0, 0, 0, 0, 0, 0, 0, 0, 0, 0, 0, 0, 0] := W
  replace Z : ∀ x j, n ≤ x → x < n + 0 → x ≠ n + 42 → I1 x j = 0 := fun x j h1 h2 h3 => by
    rw [k3 x (by omega)]
    exact Z x j h1 h2 h3
  replace FI : ∀ x, x < n → x ≠ t → I1 x = I x := fun x h1 h2 => (k3 x (by omega)).trans (FI x h1 h2)
  clear e2 k3 W
  obtain ⟨I4, e5, k6, W⟩ := pI_K (I := I1) T 0 1 10 V rfl rfl
  refine OkE.bs e5 ?_
  replace V : Vals I4 t [3, 10, 0, 0, 0, 0, 0, 0, 0, 0, 0, 0, 0, 0, 0, 0, 0, 0, 0, 0, 0, 0, 0, 0, 0, 0, 0, 0, 0, 0, 0, 0, 0, 0, 0, 0, 0, 0, 0, 0, 0, 0, 0, 0, 0, 0, 0, 0, 0, 0, 0, 0, 0, 0, 0, 0, 0, 0, 0, 0, 0, 0, 0, 0, 0, 0, 0] := W
  replace Z : ∀ x j, n ≤ x → x < n + 0 → x ≠ n + 42 → I4 x j = 0 := fun x j h1 h2 h3 => by
    rw [k6 x (by omega)]
    exact Z x j h1 h2 h3
  replace FI : ∀ x, x < n → x ≠ t → I4 x = I x := fun x h1 h2 => (k6 x (by omega)).trans (FI x h1 h2)
  clear e5 k6 W
  obtain ⟨I7, e8, k9, W⟩ := pI_K (I := I4) T 0 2 0 V rfl rfl
  refine OkE.bs e8 ?_
  replace V : Vals I7 t [3, 10, 0, 0, 0, 0, 0, 0, 0, 0, 0, 0, 0, 0, 0, 0, 0, 0, 0, 0, 0, 0, 0, 0, 0, 0, 0, 0, 0, 0, 0, 0, 0, 0, 0, 0, 0, 0, 0, 0, 0, 0, 0, 0, 0, 0, 0, 0, 0, 0, 0, 0, 0, 0, 0, 0, 0, 0, 0, 0, 0, 0, 0, 0, 0, 0, 0] := W
  replace Z : ∀ x j, n ≤ x → x < n + 0 → x ≠ n + 42 → I7 x j = 0 := fun x j h1 h2 h3 => by
    rw [k9 x (by omega)]
    exact Z x j h1 h2 h3
  replace FI : ∀ x, x < n → x ≠ t → I7 x = I x := fun x h1 h2 => (k9 x (by omega)).trans (FI x h1 h2)
  clear e8 k9 W
  obtain ⟨s10, I11, e12, B, k13, k14, z⟩ := nAI_K (I := I7) (c := 2) (n := n + 0) A 0 (Or.inl rfl) (by omega) rfl
  refine OkE.b2s e12 (OkE.addN 45 3006 rfl rfl ?_)
  replace A : Lay s10 n [.inr (0, 2, 0)] := B
  replace T : Lay s10 t [.inl (7, [none, none, none, some none, some none, some none, some none, none, none, none, none, none, some none, some none, some none, some none, some none, some none, some none, some none, some none, none, none, none, some none, none, some none, some none, some none, some none, some none, some none, some none, some none, some none, some none, some none, some none, some none, none, some none, some none, some none, some none, some none, none, none, none, none, none, none, none, some none, some none, some none, some none, some none, some none, some none, some none, some none, none, some none, some none, some none, some none, some none])] := T.kept (fun x h1 h2 => k13 x (by simp at h2; omega))
  replace V : Vals I11 t [3, 10, 0, 0, 0, 0, 0, 0, 0, 0, 0, 0, 0, 0, 0, 0, 0, 0, 0, 0, 0, 0, 0, 0, 0, 0, 0, 0, 0, 0, 0, 0, 0, 0, 0, 0, 0, 0, 0, 0, 0, 0, 0, 0, 0, 0, 0, 0, 0, 0, 0, 0, 0, 0, 0, 0, 0, 0, 0, 0, 0, 0, 0, 0, 0, 0, 0] := V.kept (k14 t (by omega))
  replace FS : ∀ x, x < n → x ≠ t → s10 x = sh x := fun x h1 h2 => (k13 x (by omega)).trans (FS x h1 h2)
  replace Z : ∀ x j, n ≤ x → x < n + 1 → x ≠ n + 42 → I11 x j = 0 := fun x j h1 h2 h3 => by
    by_cases hx : x = n + 0
    · rw [hx]
      exact z j
    · rw [k14 x hx]
      exact Z x j h1 (by omega) h3
  replace FI : ∀ x, x < n → x ≠ t → I11 x = I x := fun x h1 h2 => (k14 x (by omega)).trans (FI x h1 h2)
  clear e12 k13 k14 z B
  obtain ⟨s15, e16, B, k17⟩ := pR_L T 0 3 (n + 0) rfl ⟨none, rfl⟩
  refine OkE.bs e16 ?_
  replace T : Lay s15 t [.inl (7, [none, none, none, some (some (n + 0)), some none, some none, some none, none, none, none, none, none, some none, some none, some none, some none, some none, some none, some none, some none, some none, none, none, none, some none, none, some none, some none, some none, some none, some none, some none, some none, some none, some none, some none, some none, some none, some none, none, some none, some none, some none, some none, some none, none, none, none, none, none, none, none, some none, some none, some none, some none, some none, some none, some none, some none, some none, none, some none, some none, some none, some none, some none])] := B
  replace A : Lay s15 n [.inr (0, 2, 0)] := A.kept (fun x h1 h2 => k17 x (by omega))
  replace FS : ∀ x, x < n → x ≠ t → s15 x = sh x := fun x h1 h2 => (k17 x (by omega)).trans (FS x h1 h2)
  clear e16 k17 B
  obtain ⟨s18, I19, e20, B, k21, k22, z⟩ := nAI_K (I := I11) (c := 5) (n := n + 1) A 0 (Or.inl rfl) (by omega) rfl
  refine OkE.b2s e20 (OkE.addN 44 3001 rfl rfl ?_)
  replace A : Lay s18 n [.inr (0, 2, 0), .inr (0, 5, 0)] := B
  replace T : Lay s18 t [.inl (7, [none, none, none, some (some (n + 0)), some none, some none, some none, none, none, none, none, none, some none, some none, some none, some none, some none, some none, some none, some none, some none, none, none, none, some none, none, some none, some none, some none, some none, some none, some none, some none, some none, some none, some none, some none, some none, some none, none, some none, some none, some none, some none, some none, none, none, none, none, none, none, none, some none, some none, some none, some none, some none, some none, some none, some none, some none, none, some none, some none, some none, some none, some none])] := T.kept (fun x h1 h2 => k21 x (by simp at h2; omega))
  replace V : Vals I19 t [3, 10, 0, 0, 0, 0, 0, 0, 0, 0, 0, 0, 0, 0, 0, 0, 0, 0, 0, 0, 0, 0, 0, 0, 0, 0, 0, 0, 0, 0, 0, 0, 0, 0, 0, 0, 0, 0, 0, 0, 0, 0, 0, 0, 0, 0, 0, 0, 0, 0, 0, 0, 0, 0, 0, 0, 0, 0, 0, 0, 0, 0, 0, 0, 0, 0, 0] := V.kept (k22 t (by omega))
  replace FS : ∀ x, x < n → x ≠ t → s18 x = sh x := fun x h1 h2 => (k21 x (by omega)).trans (FS x h1 h2)
  replace Z : ∀ x j, n ≤ x → x < n + 2 → x ≠ n + 42 → I19 x j = 0 := fun x j h1 h2 h3 => by
    by_cases hx : x = n + 1
    · rw [hx]
      exact z j
    · rw [k22 x hx]
      exact Z x j h1 (by omega) h3
  replace FI : ∀ x, x < n → x ≠ t → I19 x = I x := fun x h1 h2 => (k22 x (by omega)).trans (FI x h1 h2)
  clear e20 k21 k22 z B
  obtain ⟨s23, e24, B, k25⟩ := pR_L T 0 4 (n + 1) rfl ⟨none, rfl⟩
  refine OkE.bs e24 ?_
  replace T : Lay s23 t [.inl (7, [none, none, none, some (some (n + 0)), some (some (n + 1)), some none, some none, none, none, none, none, none, some none, some none, some none, some none, some none, some none, some none, some none, some none, none, none, none, some none, none, some none, some none, some none, some none, some none, some none, some none, some none, some none, some none, some none, some none, some none, none, some none, some none, some none, some none, some none, none, none, none, none, none, none, none, some none, some none, some none, some none, some none, some none, some none, some none, some none, none, some none, some none, some none, some none, some none])] := B
  replace A : Lay s23 n [.inr (0, 2, 0), .inr (0, 5, 0)] := A.kept (fun x h1 h2 => k25 x (by omega))
  replace FS : ∀ x, x < n → x ≠ t → s23 x = sh x := fun x h1 h2 => (k25 x (by omega)).trans (FS x h1 h2)
  clear e24 k25 B
  obtain ⟨s26, I27, e28, B, k29, k30, z⟩ := nAI_K (I := I19) (c := 5) (n := n + 2) A 0 (Or.inl rfl) (by omega) rfl
  refine OkE.b2s e28 (OkE.addN 43 2996 rfl rfl ?_)
  replace A : Lay s26 n [.inr (0, 2, 0), .inr (0, 5, 0), .inr (0, 5, 0)] := B
  replace T : Lay s26 t [.inl (7, [none, none, none, some (some (n + 0)), some (some (n + 1)), some none, some none, none, none, none, none, none, some none, some none, some none, some none, some none, some none, some none, some none, some none, none, none, none, some none, none, some none, some none, some none, some none, some none, some none, some none, some none, some none, some none, some none, some none, some none, none, some none, some none, some none, some none, some none, none, none, none, none, none, none, none, some none, some none, some none, some none, some none, some none, some none, some none, some none, none, some none, some none, some none, some none, some none])] := T.kept (fun x h1 h2 => k29 x (by simp at h2; omega))
  replace V : Vals I27 t [3, 10, 0, 0, 0, 0, 0, 0, 0, 0, 0, 0, 0, 0, 0, 0, 0, 0, 0, 0, 0, 0, 0, 0, 0, 0, 0, 0, 0, 0, 0, 0, 0, 0, 0, 0, 0, 0, 0, 0, 0, 0, 0, 0, 0, 0, 0, 0, 0, 0, 0, 0, 0, 0, 0, 0, 0, 0, 0, 0, 0, 0, 0, 0, 0, 0, 0] := V.kept (k30 t (by omega))
  replace FS : ∀ x, x < n → x ≠ t → s26 x = sh x := fun x h1 h2 => (k29 x (by omega)).trans (FS x h1 h2)
  replace Z : ∀ x j, n ≤ x → x < n + 3 → x ≠ n + 42 → I27 x j = 0 := fun x j h1 h2 h3 => by
    by_cases hx : x = n + 2
    · rw [hx]
      exact z j
    · rw [k30 x hx]
      exact Z x j h1 (by omega) h3
  replace FI : ∀ x, x < n → x ≠ t → I27 x = I x := fun x h1 h2 => (k30 x (by omega)).trans (FI x h1 h2)
  clear e28 k29 k30 z B
  obtain ⟨s31, e32, B, k33⟩ := pR_L T 0 5 (n + 2) rfl ⟨none, rfl⟩
  refine OkE.bs e32 ?_
  replace T : Lay s31 t [.inl (7, [none, none, none, some (some (n + 0)), some (some (n + 1)), some (some (n + 2)), some none, none, none, none, none, none, some none, some none, some none, some none, some none, some none, some none, some none, some none, none, none, none, some none, none, some none, some none, some none, some none, some none, some none, some none, some none, some none, some none, some none, some none, some none, none, some none, some none, some none, some none, some none, none, none, none, none, none, none, none, some none, some none, some none, some none, some none, some none, some none, some none, some none, none, some none, some none, some none, some none, some none])] := B
  replace A : Lay s31 n [.inr (0, 2, 0), .inr (0, 5, 0), .inr (0, 5, 0)] := A.kept (fun x h1 h2 => k33 x (by omega))
  replace FS : ∀ x, x < n → x ≠ t → s31 x = sh x := fun x h1 h2 => (k33 x (by omega)).trans (FS x h1 h2)
  clear e32 k33 B
  obtain ⟨s34, I35, e36, B, k37, k38, z⟩ := nAI_K (I := I27) (c := 5) (n := n + 3) A 0 (Or.inl rfl) (by omega) rfl
  refine OkE.b2s e36 (OkE.addN 42 2991 rfl rfl ?_)
  replace A : Lay s34 n [.inr (0, 2, 0), .inr (0, 5, 0), .inr (0, 5, 0), .inr (0, 5, 0)] := B
  replace T : Lay s34 t [.inl (7, [none, none, none, some (some (n + 0)), some (some (n + 1)), some (some (n + 2)), some none, none, none, none, none, none, some none, some none, some none, some none, some none, some none, some none, some none, some none, none, none, none, some none, none, some none, some none, some none, some none, some none, some none, some none, some none, some none, some none, some none, some none, some none, none, some none, some none, some none, some none, some none, none, none, none, none, none, none, none, some none, some none, some none, some none, some none, some none, some none, some none, some none, none, some none, some none, some none, some none, some none])] := T.kept (fun x h1 h2 => k37 x (by simp at h2; omega))
  replace V : Vals I35 t [3, 10, 0, 0, 0, 0, 0, 0, 0, 0, 0, 0, 0, 0, 0, 0, 0, 0, 0, 0, 0, 0, 0, 0, 0, 0, 0, 0, 0, 0, 0, 0, 0, 0, 0, 0, 0, 0, 0, 0, 0, 0, 0, 0, 0, 0, 0, 0, 0, 0, 0, 0, 0, 0, 0, 0, 0, 0, 0, 0, 0, 0, 0, 0, 0, 0, 0] := V.kept (k38 t (by omega))
  replace FS : ∀ x, x < n → x ≠ t → s34 x = sh x := fun x h1 h2 => (k37 x (by omega)).trans (FS x h1 h2)
  replace Z : ∀ x j, n ≤ x → x < n + 4 → x ≠ n + 42 → I35 x j = 0 := fun x j h1 h2 h3 => by
    by_cases hx : x = n + 3
    · rw [hx]
      exact z j
    · rw [k38 x hx]
      exact Z x j h1 (by omega) h3
  replace FI : ∀ x, x < n → x ≠ t → I35 x = I x := fun x h1 h2 => (k38 x (by omega)).trans (FI x h1 h2)
  clear e36 k37 k38 z B
  obtain ⟨s39, e40, B, k41⟩ := pR_L T 0 6 (n + 3) rfl ⟨none, rfl⟩
  refine OkE.bs e40 ?_
  replace T : Lay s39 t [.inl (7, [none, none, none, some (some (n + 0)), some (some (n + 1)), some (some (n + 2)), some (some (n + 3)), none, none, none, none, none, some none, some none, some none, some none, some none, some none, some none, some none, some none, none, none, none, some none, none, some none, some none, some none, some none, some none, some none, some none, some none, some none, some none, some none, some none, some none, none, some none, some none, some none, some none, some none, none, none, none, none, none, none, none, some none, some none, some none, some none, some none, some none, some none, some none, some none, none, some none, some none, some none, some none, some none])] := B
  replace A : Lay s39 n [.inr (0, 2, 0), .inr (0, 5, 0), .inr (0, 5, 0), .inr (0, 5, 0)] := A.kept (fun x h1 h2 => k41 x (by omega))
  replace FS : ∀ x, x < n → x ≠ t → s39 x = sh x := fun x h1 h2 => (k41 x (by omega)).trans (FS x h1 h2)
  clear e40 k41 B
  obtain ⟨I42, e43, k44, W⟩ := pI_K (I := I35) T 0 7 0 V rfl rfl
  refine OkE.bs e43 ?_
  replace V : Vals I42 t [3, 10, 0, 0, 0, 0, 0, 0, 0, 0, 0, 0, 0, 0, 0, 0, 0, 0, 0, 0, 0, 0, 0, 0, 0, 0, 0, 0, 0, 0, 0, 0, 0, 0, 0, 0, 0, 0, 0, 0, 0, 0, 0, 0, 0, 0, 0, 0, 0, 0, 0, 0, 0, 0, 0, 0, 0, 0, 0, 0, 0, 0, 0, 0, 0, 0, 0] := W
  replace Z : ∀ x j, n ≤ x → x < n + 4 → x ≠ n + 42 → I42 x j = 0 := fun x j h1 h2 h3 => by
    rw [k44 x (by omega)]
    exact Z x j h1 h2 h3
  replace FI : ∀ x, x < n → x ≠ t → I42 x = I x := fun x h1 h2 => (k44 x (by omega)).trans (FI x h1 h2)
  clear e43 k44 W
  obtain ⟨I45, e46, k47, W⟩ := pI_K (I := I42) T 0 8 (-1) V rfl rfl
  refine OkE.bs e46 ?_
  replace V : Vals I45 t [3, 10, 0, 0, 0, 0, 0, 0, (-1), 0, 0, 0, 0, 0, 0, 0, 0, 0, 0, 0, 0, 0, 0, 0, 0, 0, 0, 0, 0, 0, 0, 0, 0, 0, 0, 0, 0, 0, 0, 0, 0, 0, 0, 0, 0, 0, 0, 0, 0, 0, 0, 0, 0, 0, 0, 0, 0, 0, 0, 0, 0, 0, 0, 0, 0, 0, 0] := W
  replace Z : ∀ x j, n ≤ x → x < n + 4 → x ≠ n + 42 → I45 x j = 0 := fun x j h1 h2 h3 => by
    rw [k47 x (by omega)]
    exact Z x j h1 h2 h3
  replace FI : ∀ x, x < n → x ≠ t → I45 x = I x := fun x h1 h2 => (k47 x (by omega)).trans (FI x h1 h2)
  clear e46 k47 W
  obtain ⟨I48, e49, k50, W⟩ := pI_K (I := I45) T 0 9 0 V rfl rfl
  refine OkE.bs e49 ?_
  replace V : Vals I48 t [3, 10, 0, 0, 0, 0, 0, 0, (-1), 0, 0, 0, 0, 0, 0, 0, 0, 0, 0, 0, 0, 0, 0, 0, 0, 0, 0, 0, 0, 0, 0, 0, 0, 0, 0, 0, 0, 0, 0, 0, 0, 0, 0, 0, 0, 0, 0, 0, 0, 0, 0, 0, 0, 0, 0, 0, 0, 0, 0, 0, 0, 0, 0, 0, 0, 0, 0] := W
  replace Z : ∀ x j, n ≤ x → x < n + 4 → x ≠ n + 42 → I48 x j = 0 := fun x j h1 h2 h3 => by
    rw [k50 x (by omega)]
    exact Z x j h1 h2 h3
  replace FI : ∀ x, x < n → x ≠ t → I48 x = I x := fun x h1 h2 => (k50 x (by omega)).trans (FI x h1 h2)
  clear e49 k50 W
  obtain ⟨I51, e52, k53, W⟩ := pI_K (I := I48) T 0 10 0 V rfl rfl
  refine OkE.bs e52 ?_
  replace V : Vals I51 t [3, 10, 0, 0, 0, 0, 0, 0, (-1), 0, 0, 0, 0, 0, 0, 0, 0, 0, 0, 0, 0, 0, 0, 0, 0, 0, 0, 0, 0, 0, 0, 0, 0, 0, 0, 0, 0, 0, 0, 0, 0, 0, 0, 0, 0, 0, 0, 0, 0, 0, 0, 0, 0, 0, 0, 0, 0, 0, 0, 0, 0, 0, 0, 0, 0, 0, 0] := W
  replace Z : ∀ x j, n ≤ x → x < n + 4 → x ≠ n + 42 → I51 x j = 0 := fun x j h1 h2 h3 => by
    rw [k53 x (by omega)]
    exact Z x j h1 h2 h3
  replace FI : ∀ x, x < n → x ≠ t → I51 x = I x := fun x h1 h2 => (k53 x (by omega)).trans (FI x h1 h2)
  clear e52 k53 W
  obtain ⟨I54, e55, k56, W⟩ := pI_K (I := I51) T 0 11 0 V rfl rfl
  refine OkE.bs e55 ?_
  replace V : Vals I54 t [3, 10, 0, 0, 0, 0, 0, 0, (-1), 0, 0, 0, 0, 0, 0, 0, 0, 0, 0, 0, 0, 0, 0, 0, 0, 0, 0, 0, 0, 0, 0, 0, 0, 0, 0, 0, 0, 0, 0, 0, 0, 0, 0, 0, 0, 0, 0, 0, 0, 0, 0, 0, 0, 0, 0, 0, 0, 0, 0, 0, 0, 0, 0, 0, 0, 0, 0] := W
  replace Z : ∀ x j, n ≤ x → x < n + 4 → x ≠ n + 42 → I54 x j = 0 := fun x j h1 h2 h3 => by
    rw [k56 x (by omega)]
    exact Z x j h1 h2 h3
  replace FI : ∀ x, x < n → x ≠ t → I54 x = I x := fun x h1 h2 => (k56 x (by omega)).trans (FI x h1 h2)
  clear e55 k56 W
  obtain ⟨s57, I58, e59, B, k60, k61, z⟩ := nAI_K (I := I54) (c := 100) (n := n + 4) A 0 (Or.inl rfl) (by omega) rfl
  refine OkE.b2s e59 (OkE.addN 41 2891 rfl rfl ?_)
  replace A : Lay s57 n [.inr (0, 2, 0), .inr (0, 5, 0), .inr (0, 5, 0), .inr (0, 5, 0), .inr (0, 100, 0)] := B
  replace T : Lay s57 t [.inl (7, [none, none, none, some (some (n + 0)), some (some (n + 1)), some (some (n + 2)), some (some (n + 3)), none, none, none, none, none, some none, some none, some none, some none, some none, some none, some none, some none, some none, none, none, none, some none, none, some none, some none, some none, some none, some none, some none, some none, some none, some none, some none, some none, some none, some none, none, some none, some none, some none, some none, some none, none, none, none, none, none, none, none, some none, some none, some none, some none, some none, some none, some none, some none, some none, none, some none, some none, some none, some none, some none])] := T.kept (fun x h1 h2 => k60 x (by simp at h2; omega))
  replace V : Vals I58 t [3, 10, 0, 0, 0, 0, 0, 0, (-1), 0, 0, 0, 0, 0, 0, 0, 0, 0, 0, 0, 0, 0, 0, 0, 0, 0, 0, 0, 0, 0, 0, 0, 0, 0, 0, 0, 0, 0, 0, 0, 0, 0, 0, 0, 0, 0, 0, 0, 0, 0, 0, 0, 0, 0, 0, 0, 0, 0, 0, 0, 0, 0, 0, 0, 0, 0, 0] := V.kept (k61 t (by omega))
  replace FS : ∀ x, x < n → x ≠ t → s57 x = sh x := fun x h1 h2 => (k60 x (by omega)).trans (FS x h1 h2)
  replace Z : ∀ x j, n ≤ x → x < n + 5 → x ≠ n + 42 → I58 x j = 0 := fun x j h1 h2 h3 => by
    by_cases hx : x = n + 4
    · rw [hx]
      exact z j
    · rw [k61 x hx]
      exact Z x j h1 (by omega) h3
  replace FI : ∀ x, x < n → x ≠ t → I58 x = I x := fun x h1 h2 => (k61 x (by omega)).trans (FI x h1 h2)
  clear e59 k60 k61 z B
  obtain ⟨s62, e63, B, k64⟩ := pR_L T 0 12 (n + 4) rfl ⟨none, rfl⟩
  refine OkE.bs e63 ?_
  replace T : Lay s62 t [.inl (7, [none, none, none, some (some (n + 0)), some (some (n + 1)), some (some (n + 2)), some (some (n + 3)), none, none, none, none, none, some (some (n + 4)), some none, some none, some none, some none, some none, some none, some none, some none, none, none, none, some none, none, some none, some none, some none, some none, some none, some none, some none, some none, some none, some none, some none, some none, some none, none, some none, some none, some none, some none, some none, none, none, none, none, none, none, none, some none, some none, some none, some none, some none, some none, some none, some none, some none, none, some none, some none, some none, some none, some none])] := B
  replace A : Lay s62 n [.inr (0, 2, 0), .inr (0, 5, 0), .inr (0, 5, 0), .inr (0, 5, 0), .inr (0, 100, 0)] := A.kept (fun x h1 h2 => k64 x (by omega))
  replace FS : ∀ x, x < n → x ≠ t → s62 x = sh x := fun x h1 h2 => (k64 x (by omega)).trans (FS x h1 h2)
  clear e63 k64 B
  obtain ⟨s65, I66, e67, B, k68, k69, z⟩ := nAI_K (I := I58) (c := 5) (n := n + 5) A 0 (Or.inl rfl) (by omega) rfl
  refine OkE.b2s e67 (OkE.addN 40 2886 rfl rfl ?_)
  replace A : Lay s65 n [.inr (0, 2, 0), .inr (0, 5, 0), .inr (0, 5, 0), .inr (0, 5, 0), .inr (0, 100, 0), .inr (0, 5, 0)] := B
  replace T : Lay s65 t [.inl (7, [none, none, none, some (some (n + 0)), some (some (n + 1)), some (some (n + 2)), some (some (n + 3)), none, none, none, none, none, some (some (n + 4)), some none, some none, some none, some none, some none, some none, some none, some none, none, none, none, some none, none, some none, some none, some none, some none, some none, some none, some none, some none, some none, some none, some none, some none, some none, none, some none, some none, some none, some none, some none, none, none, none, none, none, none, none, some none, some none, some none, some none, some none, some none, some none, some none, some none, none, some none, some none, some none, some none, some none])] := T.kept (fun x h1 h2 => k68 x (by simp at h2; omega))
  replace V : Vals I66 t [3, 10, 0, 0, 0, 0, 0, 0, (-1), 0, 0, 0, 0, 0, 0, 0, 0, 0, 0, 0, 0, 0, 0, 0, 0, 0, 0, 0, 0, 0, 0, 0, 0, 0, 0, 0, 0, 0, 0, 0, 0, 0, 0, 0, 0, 0, 0, 0, 0, 0, 0, 0, 0, 0, 0, 0, 0, 0, 0, 0, 0, 0, 0, 0, 0, 0, 0] := V.kept (k69 t (by omega))
  replace FS : ∀ x, x < n → x ≠ t → s65 x = sh x := fun x h1 h2 => (k68 x (by omega)).trans (FS x h1 h2)
  replace Z : ∀ x j, n ≤ x → x < n + 6 → x ≠ n + 42 → I66 x j = 0 := fun x j h1 h2 h3 => by
    by_cases hx : x = n + 5
    · rw [hx]
      exact z j
    · rw [k69 x hx]
      exact Z x j h1 (by omega) h3
  replace FI : ∀ x, x < n → x ≠ t → I66 x = I x := fun x h1 h2 => (k69 x (by omega)).trans (FI x h1 h2)
  clear e67 k68 k69 z B
  obtain ⟨s70, e71, B, k72⟩ := pR_L T 0 13 (n + 5) rfl ⟨none, rfl⟩
  refine OkE.bs e71 ?_
  replace T : Lay s70 t [.inl (7, [none, none, none, some (some (n + 0)), some (some (n + 1)), some (some (n + 2)), some (some (n + 3)), none, none, none, none, none, some (some (n + 4)), some (some (n + 5)), some none, some none, some none, some none, some none, some none, some none, none, none, none, some none, none, some none, some none, some none, some none, some none, some none, some none, some none, some none, some none, some none, some none, some none, none, some none, some none, some none, some none, some none, none, none, none, none, none, none, none, some none, some none, some none, some none, some none, some none, some none, some none, some none, none, some none, some none, some none, some none, some none])] := B
  replace A : Lay s70 n [.inr (0, 2, 0), .inr (0, 5, 0), .inr (0, 5, 0), .inr (0, 5, 0), .inr (0, 100, 0), .inr (0, 5, 0)] := A.kept (fun x h1 h2 => k72 x (by omega))
  replace FS : ∀ x, x < n → x ≠ t → s70 x = sh x := fun x h1 h2 => (k72 x (by omega)).trans (FS x h1 h2)
  clear e71 k72 B
  obtain ⟨s73, I74, e75, B, k76, k77, z⟩ := nAI_K (I := I66) (c := 60) (n := n + 6) A 0 (Or.inl rfl) (by omega) rfl
  refine OkE.b2s e75 (OkE.addN 39 2826 rfl rfl ?_)
  replace A : Lay s73 n [.inr (0, 2, 0), .inr (0, 5, 0), .inr (0, 5, 0), .inr (0, 5, 0), .inr (0, 100, 0), .inr (0, 5, 0), .inr (0, 60, 0)] := B
  replace T : Lay s73 t [.inl (7, [none, none, none, some (some (n + 0)), some (some (n + 1)), some (some (n + 2)), some (some (n + 3)), none, none, none, none, none, some (some (n + 4)), some (some (n + 5)), some none, some none, some none, some none, some none, some none, some none, none, none, none, some none, none, some none, some none, some none, some none, some none, some none, some none, some none, some none, some none, some none, some none, some none, none, some none, some none, some none, some none, some none, none, none, none, none, none, none, none, some none, some none, some none, some none, some none, some none, some none, some none, some none, none, some none, some none, some none, some none, some none])] := T.kept (fun x h1 h2 => k76 x (by simp at h2; omega))
  replace V : Vals I74 t [3, 10, 0, 0, 0, 0, 0, 0, (-1), 0, 0, 0, 0, 0, 0, 0, 0, 0, 0, 0, 0, 0, 0, 0, 0, 0, 0, 0, 0, 0, 0, 0, 0, 0, 0, 0, 0, 0, 0, 0, 0, 0, 0, 0, 0, 0, 0, 0, 0, 0, 0, 0, 0, 0, 0, 0, 0, 0, 0, 0, 0, 0, 0, 0, 0, 0, 0] := V.kept (k77 t (by omega))
  replace FS : ∀ x, x < n → x ≠ t → s73 x = sh x := fun x h1 h2 => (k76 x (by omega)).trans (FS x h1 h2)
  replace Z : ∀ x j, n ≤ x → x < n + 7 → x ≠ n + 42 → I74 x j = 0 := fun x j h1 h2 h3 => by
    by_cases hx : x = n + 6
    · rw [hx]
      exact z j
    · rw [k77 x hx]
      exact Z x j h1 (by omega) h3
  replace FI : ∀ x, x < n → x ≠ t → I74 x = I x := fun x h1 h2 => (k77 x (by omega)).trans (FI x h1 h2)
  clear e75 k76 k77 z B
  obtain ⟨s78, e79, B, k80⟩ := pR_L T 0 14 (n + 6) rfl ⟨none, rfl⟩
  refine OkE.bs e79 ?_
  replace T : Lay s78 t [.inl (7, [none, none, none, some (some (n + 0)), some (some (n + 1)), some (some (n + 2)), some (some (n + 3)), none, none, none, none, none, some (some (n + 4)), some (some (n + 5)), some (some (n + 6)), some none, some none, some none, some none, some none, some none, none, none, none, some none, none, some none, some none, some none, some none, some none, some none, some none, some none, some none, some none, some none, some none, some none, none, some none, some none, some none, some none, some none, none, none, none, none, none, none, none, some none, some none, some none, some none, some none, some none, some none, some none, some none, none, some none, some none, some none, some none, some none])] := B
  replace A : Lay s78 n [.inr (0, 2, 0), .inr (0, 5, 0), .inr (0, 5, 0), .inr (0, 5, 0), .inr (0, 100, 0), .inr (0, 5, 0), .inr (0, 60, 0)] := A.kept (fun x h1 h2 => k80 x (by omega))
  replace FS : ∀ x, x < n → x ≠ t → s78 x = sh x := fun x h1 h2 => (k80 x (by omega)).trans (FS x h1 h2)
  clear e79 k80 B
  obtain ⟨s81, I82, e83, B, k84, k85, z⟩ := nAI_K (I := I74) (c := 60) (n := n + 7) A 0 (Or.inl rfl) (by omega) rfl
  refine OkE.b2s e83 (OkE.addN 38 2766 rfl rfl ?_)
  replace A : Lay s81 n [.inr (0, 2, 0), .inr (0, 5, 0), .inr (0, 5, 0), .inr (0, 5, 0), .inr (0, 100, 0), .inr (0, 5, 0), .inr (0, 60, 0), .inr (0, 60, 0)] := B
  replace T : Lay s81 t [.inl (7, [none, none, none, some (some (n + 0)), some (some (n + 1)), some (some (n + 2)), some (some (n + 3)), none, none, none, none, none, some (some (n + 4)), some (some (n + 5)), some (some (n + 6)), some none, some none, some none, some none, some none, some none, none, none, none, some none, none, some none, some none, some none, some none, some none, some none, some none, some none, some none, some none, some none, some none, some none, none, some none, some none, some none, some none, some none, none, none, none, none, none, none, none, some none, some none, some none, some none, some none, some none, some none, some none, some none, none, some none, some none, some none, some none, some none])] := T.kept (fun x h1 h2 => k84 x (by simp at h2; omega))
  replace V : Vals I82 t [3, 10, 0, 0, 0, 0, 0, 0, (-1), 0, 0, 0, 0, 0, 0, 0, 0, 0, 0, 0, 0, 0, 0, 0, 0, 0, 0, 0, 0, 0, 0, 0, 0, 0, 0, 0, 0, 0, 0, 0, 0, 0, 0, 0, 0, 0, 0, 0, 0, 0, 0, 0, 0, 0, 0, 0, 0, 0, 0, 0, 0, 0, 0, 0, 0, 0, 0] := V.kept (k85 t (by omega))
  replace FS : ∀ x, x < n → x ≠ t → s81 x = sh x := fun x h1 h2 => (k84 x (by omega)).trans (FS x h1 h2)
  replace Z : ∀ x j, n ≤ x → x < n + 8 → x ≠ n + 42 → I82 x j = 0 := fun x j h1 h2 h3 => by
    by_cases hx : x = n + 7
    · rw [hx]
      exact z j
    · rw [k85 x hx]
      exact Z x j h1 (by omega) h3
  replace FI : ∀ x, x < n → x ≠ t → I82 x = I x := fun x h1 h2 => (k85 x (by omega)).trans (FI x h1 h2)
  clear e83 k84 k85 z B
  obtain ⟨s86, e87, B, k88⟩ := pR_L T 0 15 (n + 7) rfl ⟨none, rfl⟩
  refine OkE.bs e87 ?_
  replace T : Lay s86 t [.inl (7, [none, none, none, some (some (n + 0)), some (some (n + 1)), some (some (n + 2)), some (some (n + 3)), none, none, none, none, none, some (some (n + 4)), some (some (n + 5)), some (some (n + 6)), some (some (n + 7)), some none, some none, some none, some none, some none, none, none, none, some none, none, some none, some none, some none, some none, some none, some none, some none, some none, some none, some none, some none, some none, some none, none, some none, some none, some none, some none, some none, none, none, none, none, none, none, none, some none, some none, some none, some none, some none, some none, some none, some none, some none, none, some none, some none, some none, some none, some none])] := B
  replace A : Lay s86 n [.inr (0, 2, 0), .inr (0, 5, 0), .inr (0, 5, 0), .inr (0, 5, 0), .inr (0, 100, 0), .inr (0, 5, 0), .inr (0, 60, 0), .inr (0, 60, 0)] := A.kept (fun x h1 h2 => k88 x (by omega))
  replace FS : ∀ x, x < n → x ≠ t → s86 x = sh x := fun x h1 h2 => (k88 x (by omega)).trans (FS x h1 h2)
  clear e87 k88 B
  obtain ⟨s89, I90, e91, B, k92, k93, z⟩ := nAI_K (I := I82) (c := 60) (n := n + 8) A 0 (Or.inl rfl) (by omega) rfl
  refine OkE.b2s e91 (OkE.addN 37 2706 rfl rfl ?_)
  replace A : Lay s89 n [.inr (0, 2, 0), .inr (0, 5, 0), .inr (0, 5, 0), .inr (0, 5, 0), .inr (0, 100, 0), .inr (0, 5, 0), .inr (0, 60, 0), .inr (0, 60, 0), .inr (0, 60, 0)] := B
  replace T : Lay s89 t [.inl (7, [none, none, none, some (some (n + 0)), some (some (n + 1)), some (some (n + 2)), some (some (n + 3)), none, none, none, none, none, some (some (n + 4)), some (some (n + 5)), some (some (n + 6)), some (some (n + 7)), some none, some none, some none, some none, some none, none, none, none, some none, none, some none, some none, some none, some none, some none, some none, some none, some none, some none, some none, some none, some none, some none, none, some none, some none, some none, some none, some none, none, none, none, none, none, none, none, some none, some none, some none, some none, some none, some none, some none, some none, some none, none, some none, some none, some none, some none, some none])] := T.kept (fun x h1 h2 => k92 x (by simp at h2; omega))
  replace V : Vals I90 t [3, 10, 0, 0, 0, 0, 0, 0, (-1), 0, 0, 0, 0, 0, 0, 0, 0, 0, 0, 0, 0, 0, 0, 0, 0, 0, 0, 0, 0, 0, 0, 0, 0, 0, 0, 0, 0, 0, 0, 0, 0, 0, 0, 0, 0, 0, 0, 0, 0, 0, 0, 0, 0, 0, 0, 0, 0, 0, 0, 0, 0, 0, 0, 0, 0, 0, 0] := V.kept (k93 t (by omega))
  replace FS : ∀ x, x < n → x ≠ t → s89 x = sh x := fun x h1 h2 => (k92 x (by omega)).trans (FS x h1 h2)
  replace Z : ∀ x j, n ≤ x → x < n + 9 → x ≠ n + 42 → I90 x j = 0 := fun x j h1 h2 h3 => by
    by_cases hx : x = n + 8
    · rw [hx]
      exact z j
    · rw [k93 x hx]
      exact Z x j h1 (by omega) h3
  replace FI : ∀ x, x < n → x ≠ t → I90 x = I x := fun x h1 h2 => (k93 x (by omega)).trans (FI x h1 h2)
  clear e91 k92 k93 z B
  obtain ⟨s94, e95, B, k96⟩ := pR_L T 0 16 (n + 8) rfl ⟨none, rfl⟩
  refine OkE.bs e95 ?_
  replace T : Lay s94 t [.inl (7, [none, none, none, some (some (n + 0)), some (some (n + 1)), some (some (n + 2)), some (some (n + 3)), none, none, none, none, none, some (some (n + 4)), some (some (n + 5)), some (some (n + 6)), some (some (n + 7)), some (some (n + 8)), some none, some none, some none, some none, none, none, none, some none, none, some none, some none, some none, some none, some none, some none, some none, some none, some none, some none, some none, some none, some none, none, some none, some none, some none, some none, some none, none, none, none, none, none, none, none, some none, some none, some none, some none, some none, some none, some none, some none, some none, none, some none, some none, some none, some none, some none])] := B
  replace A : Lay s94 n [.inr (0, 2, 0), .inr (0, 5, 0), .inr (0, 5, 0), .inr (0, 5, 0), .inr (0, 100, 0), .inr (0, 5, 0), .inr (0, 60, 0), .inr (0, 60, 0), .inr (0, 60, 0)] := A.kept (fun x h1 h2 => k96 x (by omega))
  replace FS : ∀ x, x < n → x ≠ t → s94 x = sh x := fun x h1 h2 => (k96 x (by omega)).trans (FS x h1 h2)
  clear e95 k96 B
  obtain ⟨s97, I98, e99, B, k100, k101, z⟩ := nAI_K (I := I90) (c := 60) (n := n + 9) A 0 (Or.inl rfl) (by omega) rfl
  refine OkE.b2s e99 (OkE.addN 36 2646 rfl rfl ?_)
  replace A : Lay s97 n [.inr (0, 2, 0), .inr (0, 5, 0), .inr (0, 5, 0), .inr (0, 5, 0), .inr (0, 100, 0), .inr (0, 5, 0), .inr (0, 60, 0), .inr (0, 60, 0), .inr (0, 60, 0), .inr (0, 60, 0)] := B
  replace T : Lay s97 t [.inl (7, [none, none, none, some (some (n + 0)), some (some (n + 1)), some (some (n + 2)), some (some (n + 3)), none, none, none, none, none, some (some (n + 4)), some (some (n + 5)), some (some (n + 6)), some (some (n + 7)), some (some (n + 8)), some none, some none, some none, some none, none, none, none, some none, none, some none, some none, some none, some none, some none, some none, some none, some none, some none, some none, some none, some none, some none, none, some none, some none, some none, some none, some none, none, none, none, none, none, none, none, some none, some none, some none, some none, some none, some none, some none, some none, some none, none, some none, some none, some none, some none, some none])] := T.kept (fun x h1 h2 => k100 x (by simp at h2; omega))
  replace V : Vals I98 t [3, 10, 0, 0, 0, 0, 0, 0, (-1), 0, 0, 0, 0, 0, 0, 0, 0, 0, 0, 0, 0, 0, 0, 0, 0, 0, 0, 0, 0, 0, 0, 0, 0, 0, 0, 0, 0, 0, 0, 0, 0, 0, 0, 0, 0, 0, 0, 0, 0, 0, 0, 0, 0, 0, 0, 0, 0, 0, 0, 0, 0, 0, 0, 0, 0, 0, 0] := V.kept (k101 t (by omega))
  replace FS : ∀ x, x < n → x ≠ t → s97 x = sh x := fun x h1 h2 => (k100 x (by omega)).trans (FS x h1 h2)
  replace Z : ∀ x j, n ≤ x → x < n + 10 → x ≠ n + 42 → I98 x j = 0 := fun x j h1 h2 h3 => by
    by_cases hx : x = n + 9
    · rw [hx]
      exact z j
    · rw [k101 x hx]
      exact Z x j h1 (by omega) h3
  replace FI : ∀ x, x < n → x ≠ t → I98 x = I x := fun x h1 h2 => (k101 x (by omega)).trans (FI x h1 h2)
  clear e99 k100 k101 z B
  obtain ⟨s102, e103, B, k104⟩ := pR_L T 0 17 (n + 9) rfl ⟨none, rfl⟩
  refine OkE.bs e103 ?_
  replace T : Lay s102 t [.inl (7, [none, none, none, some (some (n + 0)), some (some (n + 1)), some (some (n + 2)), some (some (n + 3)), none, none, none, none, none, some (some (n + 4)), some (some (n + 5)), some (some (n + 6)), some (some (n + 7)), some (some (n + 8)), some (some (n + 9)), some none, some none, some none, none, none, none, some none, none, some none, some none, some none, some none, some none, some none, some none, some none, some none, some none, some none, some none, some none, none, some none, some none, some none, some none, some none, none, none, none, none, none, none, none, some none, some none, some none, some none, some none, some none, some none, some none, some none, none, some none, some none, some none, some none, some none])] := B
  replace A : Lay s102 n [.inr (0, 2, 0), .inr (0, 5, 0), .inr (0, 5, 0), .inr (0, 5, 0), .inr (0, 100, 0), .inr (0, 5, 0), .inr (0, 60, 0), .inr (0, 60, 0), .inr (0, 60, 0), .inr (0, 60, 0)] := A.kept (fun x h1 h2 => k104 x (by omega))
  replace FS : ∀ x, x < n → x ≠ t → s102 x = sh x := fun x h1 h2 => (k104 x (by omega)).trans (FS x h1 h2)
  clear e103 k104 B
  obtain ⟨s105, I106, e107, B, k108, k109, z⟩ := nAI_K (I := I98) (c := 60) (n := n + 10) A 0 (Or.inl rfl) (by omega) rfl
  refine OkE.b2s e107 (OkE.addN 35 2586 rfl rfl ?_)
  replace A : Lay s105 n [.inr (0, 2, 0), .inr (0, 5, 0), .inr (0, 5, 0), .inr (0, 5, 0), .inr (0, 100, 0), .inr (0, 5, 0), .inr (0, 60, 0), .inr (0, 60, 0), .inr (0, 60, 0), .inr (0, 60, 0), .inr (0, 60, 0)] := B
  replace T : Lay s105 t [.inl (7, [none, none, none, some (some (n + 0)), some (some (n + 1)), some (some (n + 2)), some (some (n + 3)), none, none, none, none, none, some (some (n + 4)), some (some (n + 5)), some (some (n + 6)), some (some (n + 7)), some (some (n + 8)), some (some (n + 9)), some none, some none, some none, none, none, none, some none, none, some none, some none, some none, some none, some none, some none, some none, some none, some none, some none, some none, some none, some none, none, some none, some none, some none, some none, some none, none, none, none, none, none, none, none, some none, some none, some none, some none, some none, some none, some none, some none, some none, none, some none, some none, some none, some none, some none])] := T.kept (fun x h1 h2 => k108 x (by simp at h2; omega))
  replace V : Vals I106 t [3, 10, 0, 0, 0, 0, 0, 0, (-1), 0, 0, 0, 0, 0, 0, 0, 0, 0, 0, 0, 0, 0, 0, 0, 0, 0, 0, 0, 0, 0, 0, 0, 0, 0, 0, 0, 0, 0, 0, 0, 0, 0, 0, 0, 0, 0, 0, 0, 0, 0, 0, 0, 0, 0, 0, 0, 0, 0, 0, 0, 0, 0, 0, 0, 0, 0, 0] := V.kept (k109 t (by omega))
  replace FS : ∀ x, x < n → x ≠ t → s105 x = sh x := fun x h1 h2 => (k108 x (by omega)).trans (FS x h1 h2)
  replace Z : ∀ x j, n ≤ x → x < n + 11 → x ≠ n + 42 → I106 x j = 0 := fun x j h1 h2 h3 => by
    by_cases hx : x = n + 10
    · rw [hx]
      exact z j
    · rw [k109 x hx]
      exact Z x j h1 (by omega) h3
  replace FI : ∀ x, x < n → x ≠ t → I106 x = I x := fun x h1 h2 => (k109 x (by omega)).trans (FI x h1 h2)
  clear e107 k108 k109 z B
  obtain ⟨s110, e111, B, k112⟩ := pR_L T 0 18 (n + 10) rfl ⟨none, rfl⟩
  refine OkE.bs e111 ?_
  replace T : Lay s110 t [.inl (7, [none, none, none, some (some (n + 0)), some (some (n + 1)), some (some (n + 2)), some (some (n + 3)), none, none, none, none, none, some (some (n + 4)), some (some (n + 5)), some (some (n + 6)), some (some (n + 7)), some (some (n + 8)), some (some (n + 9)), some (some (n + 10)), some none, some none, none, none, none, some none, none, some none, some none, some none, some none, some none, some none, some none, some none, some none, some none, some none, some none, some none, none, some none, some none, some none, some none, some none, none, none, none, none, none, none, none, some none, some none, some none, some none, some none, some none, some none, some none, some none, none, some none, some none, some none, some none, some none])] := B
  replace A : Lay s110 n [.inr (0, 2, 0), .inr (0, 5, 0), .inr (0, 5, 0), .inr (0, 5, 0), .inr (0, 100, 0), .inr (0, 5, 0), .inr (0, 60, 0), .inr (0, 60, 0), .inr (0, 60, 0), .inr (0, 60, 0), .inr (0, 60, 0)] := A.kept (fun x h1 h2 => k112 x (by omega))
  replace FS : ∀ x, x < n → x ≠ t → s110 x = sh x := fun x h1 h2 => (k112 x (by omega)).trans (FS x h1 h2)
  clear e111 k112 B
  obtain ⟨s113, I114, e115, B, k116, k117, z⟩ := nAI_K (I := I106) (c := 500) (n := n + 11) A 0 (Or.inl rfl) (by omega) rfl
  refine OkE.b2s e115 (OkE.addN 34 2086 rfl rfl ?_)
  replace A : Lay s113 n [.inr (0, 2, 0), .inr (0, 5, 0), .inr (0, 5, 0), .inr (0, 5, 0), .inr (0, 100, 0), .inr (0, 5, 0), .inr (0, 60, 0), .inr (0, 60, 0), .inr (0, 60, 0), .inr (0, 60, 0), .inr (0, 60, 0), .inr (0, 500, 0)] := B
  replace T : Lay s113 t [.inl (7, [none, none, none, some (some (n + 0)), some (some (n + 1)), some (some (n + 2)), some (some (n + 3)), none, none, none, none, none, some (some (n + 4)), some (some (n + 5)), some (some (n + 6)), some (some (n + 7)), some (some (n + 8)), some (some (n + 9)), some (some (n + 10)), some none, some none, none, none, none, some none, none, some none, some none, some none, some none, some none, some none, some none, some none, some none, some none, some none, some none, some none, none, some none, some none, some none, some none, some none, none, none, none, none, none, none, none, some none, some none, some none, some none, some none, some none, some none, some none, some none, none, some none, some none, some none, some none, some none])] := T.kept (fun x h1 h2 => k116 x (by simp at h2; omega))
  replace V : Vals I114 t [3, 10, 0, 0, 0, 0, 0, 0, (-1), 0, 0, 0, 0, 0, 0, 0, 0, 0, 0, 0, 0, 0, 0, 0, 0, 0, 0, 0, 0, 0, 0, 0, 0, 0, 0, 0, 0, 0, 0, 0, 0, 0, 0, 0, 0, 0, 0, 0, 0, 0, 0, 0, 0, 0, 0, 0, 0, 0, 0, 0, 0, 0, 0, 0, 0, 0, 0] := V.kept (k117 t (by omega))
  replace FS : ∀ x, x < n → x ≠ t → s113 x = sh x := fun x h1 h2 => (k116 x (by omega)).trans (FS x h1 h2)
  replace Z : ∀ x j, n ≤ x → x < n + 12 → x ≠ n + 42 → I114 x j = 0 := fun x j h1 h2 h3 => by
    by_cases hx : x = n + 11
    · rw [hx]
      exact z j
    · rw [k117 x hx]
      exact Z x j h1 (by omega) h3
  replace FI : ∀ x, x < n → x ≠ t → I114 x = I x := fun x h1 h2 => (k117 x (by omega)).trans (FI x h1 h2)
  clear e115 k116 k117 z B
  obtain ⟨s118, e119, B, k120⟩ := pR_L T 0 19 (n + 11) rfl ⟨none, rfl⟩
  refine OkE.bs e119 ?_
  replace T : Lay s118 t [.inl (7, [none, none, none, some (some (n + 0)), some (some (n + 1)), some (some (n + 2)), some (some (n + 3)), none, none, none, none, none, some (some (n + 4)), some (some (n + 5)), some (some (n + 6)), some (some (n + 7)), some (some (n + 8)), some (some (n + 9)), some (some (n + 10)), some (some (n + 11)), some none, none, none, none, some none, none, some none, some none, some none, some none, some none, some none, some none, some none, some none, some none, some none, some none, some none, none, some none, some none, some none, some none, some none, none, none, none, none, none, none, none, some none, some none, some none, some none, some none, some none, some none, some none, some none, none, some none, some none, some none, some none, some none])] := B
  replace A : Lay s118 n [.inr (0, 2, 0), .inr (0, 5, 0), .inr (0, 5, 0), .inr (0, 5, 0), .inr (0, 100, 0), .inr (0, 5, 0), .inr (0, 60, 0), .inr (0, 60, 0), .inr (0, 60, 0), .inr (0, 60, 0), .inr (0, 60, 0), .inr (0, 500, 0)] := A.kept (fun x h1 h2 => k120 x (by omega))
  replace FS : ∀ x, x < n → x ≠ t → s118 x = sh x := fun x h1 h2 => (k120 x (by omega)).trans (FS x h1 h2)
  clear e119 k120 B
  obtain ⟨s121, I122, e123, B, k124, k125, z⟩ := nAI_K (I := I114) (c := 101) (n := n + 12) A 0 (Or.inl rfl) (by omega) rfl
  refine OkE.b2s e123 (OkE.addN 33 1985 rfl rfl ?_)
  replace A : Lay s121 n [.inr (0, 2, 0), .inr (0, 5, 0), .inr (0, 5, 0), .inr (0, 5, 0), .inr (0, 100, 0), .inr (0, 5, 0), .inr (0, 60, 0), .inr (0, 60, 0), .inr (0, 60, 0), .inr (0, 60, 0), .inr (0, 60, 0), .inr (0, 500, 0), .inr (0, 101, 0)] := B
  replace T : Lay s121 t [.inl (7, [none, none, none, some (some (n + 0)), some (some (n + 1)), some (some (n + 2)), some (some (n + 3)), none, none, none, none, none, some (some (n + 4)), some (some (n + 5)), some (some (n + 6)), some (some (n + 7)), some (some (n + 8)), some (some (n + 9)), some (some (n + 10)), some (some (n + 11)), some none, none, none, none, some none, none, some none, some none, some none, some none, some none, some none, some none, some none, some none, some none, some none, some none, some none, none, some none, some none, some none, some none, some none, none, none, none, none, none, none, none, some none, some none, some none, some none, some none, some none, some none, some none, some none, none, some none, some none, some none, some none, some none])] := T.kept (fun x h1 h2 => k124 x (by simp at h2; omega))
  replace V : Vals I122 t [3, 10, 0, 0, 0, 0, 0, 0, (-1), 0, 0, 0, 0, 0, 0, 0, 0, 0, 0, 0, 0, 0, 0, 0, 0, 0, 0, 0, 0, 0, 0, 0, 0, 0, 0, 0, 0, 0, 0, 0, 0, 0, 0, 0, 0, 0, 0, 0, 0, 0, 0, 0, 0, 0, 0, 0, 0, 0, 0, 0, 0, 0, 0, 0, 0, 0, 0] := V.kept (k125 t (by omega))
  replace FS : ∀ x, x < n → x ≠ t → s121 x = sh x := fun x h1 h2 => (k124 x (by omega)).trans (FS x h1 h2)
  replace Z : ∀ x j, n ≤ x → x < n + 13 → x ≠ n + 42 → I122 x j = 0 := fun x j h1 h2 h3 => by
    by_cases hx : x = n + 12
    · rw [hx]
      exact z j
    · rw [k125 x hx]
      exact Z x j h1 (by omega) h3
  replace FI : ∀ x, x < n → x ≠ t → I122 x = I x := fun x h1 h2 => (k125 x (by omega)).trans (FI x h1 h2)
  clear e123 k124 k125 z B
  obtain ⟨s126, e127, B, k128⟩ := pR_L T 0 20 (n + 12) rfl ⟨none, rfl⟩
  refine OkE.bs e127 ?_
  replace T : Lay s126 t [.inl (7, [none, none, none, some (some (n + 0)), some (some (n + 1)), some (some (n + 2)), some (some (n + 3)), none, none, none, none, none, some (some (n + 4)), some (some (n + 5)), some (some (n + 6)), some (some (n + 7)), some (some (n + 8)), some (some (n + 9)), some (some (n + 10)), some (some (n + 11)), some (some (n + 12)), none, none, none, some none, none, some none, some none, some none, some none, some none, some none, some none, some none, some none, some none, some none, some none, some none, none, some none, some none, some none, some none, some none, none, none, none, none, none, none, none, some none, some none, some none, some none, some none, some none, some none, some none, some none, none, some none, some none, some none, some none, some none])] := B
  replace A : Lay s126 n [.inr (0, 2, 0), .inr (0, 5, 0), .inr (0, 5, 0), .inr (0, 5, 0), .inr (0, 100, 0), .inr (0, 5, 0), .inr (0, 60, 0), .inr (0, 60, 0), .inr (0, 60, 0), .inr (0, 60, 0), .inr (0, 60, 0), .inr (0, 500, 0), .inr (0, 101, 0)] := A.kept (fun x h1 h2 => k128 x (by omega))
  replace FS : ∀ x, x < n → x ≠ t → s126 x = sh x := fun x h1 h2 => (k128 x (by omega)).trans (FS x h1 h2)
  clear e127 k128 B
  obtain ⟨I129, e130, k131, W⟩ := pI_K (I := I122) T 0 21 0 V rfl rfl
  refine OkE.bs e130 ?_
  replace V : Vals I129 t [3, 10, 0, 0, 0, 0, 0, 0, (-1), 0, 0, 0, 0, 0, 0, 0, 0, 0, 0, 0, 0, 0, 0, 0, 0, 0, 0, 0, 0, 0, 0, 0, 0, 0, 0, 0, 0, 0, 0, 0, 0, 0, 0, 0, 0, 0, 0, 0, 0, 0, 0, 0, 0, 0, 0, 0, 0, 0, 0, 0, 0, 0, 0, 0, 0, 0, 0] := W
  replace Z : ∀ x j, n ≤ x → x < n + 13 → x ≠ n + 42 → I129 x j = 0 := fun x j h1 h2 h3 => by
    rw [k131 x (by omega)]
    exact Z x j h1 h2 h3
  replace FI : ∀ x, x < n → x ≠ t → I129 x = I x := fun x h1 h2 => (k131 x (by omega)).trans (FI x h1 h2)
  clear e130 k131 W
  obtain ⟨I132, e133, k134, W⟩ := pI_K (I := I129) T 0 22 0 V rfl rfl
  refine OkE.bs e133 ?_
  replace V : Vals I132 t [3, 10, 0, 0, 0, 0, 0, 0, (-1), 0, 0, 0, 0, 0, 0, 0, 0, 0, 0, 0, 0, 0, 0, 0, 0, 0, 0, 0, 0, 0, 0, 0, 0, 0, 0, 0, 0, 0, 0, 0, 0, 0, 0, 0, 0, 0, 0, 0, 0, 0, 0, 0, 0, 0, 0, 0, 0, 0, 0, 0, 0, 0, 0, 0, 0, 0, 0] := W
  replace Z : ∀ x j, n ≤ x → x < n + 13 → x ≠ n + 42 → I132 x j = 0 := fun x j h1 h2 h3 => by
    rw [k134 x (by omega)]
    exact Z x j h1 h2 h3
  replace FI : ∀ x, x < n → x ≠ t → I132 x = I x := fun x h1 h2 => (k134 x (by omega)).trans (FI x h1 h2)
  clear e133 k134 W
  obtain ⟨I135, e136, k137, W⟩ := pI_K (I := I132) T 0 23 0 V rfl rfl
  refine OkE.bs e136 ?_
  replace V : Vals I135 t [3, 10, 0, 0, 0, 0, 0, 0, (-1), 0, 0, 0, 0, 0, 0, 0, 0, 0, 0, 0, 0, 0, 0, 0, 0, 0, 0, 0, 0, 0, 0, 0, 0, 0, 0, 0, 0, 0, 0, 0, 0, 0, 0, 0, 0, 0, 0, 0, 0, 0, 0, 0, 0, 0, 0, 0, 0, 0, 0, 0, 0, 0, 0, 0, 0, 0, 0] := W
  replace Z : ∀ x j, n ≤ x → x < n + 13 → x ≠ n + 42 → I135 x j = 0 := fun x j h1 h2 h3 => by
    rw [k137 x (by omega)]
    exact Z x j h1 h2 h3
  replace FI : ∀ x, x < n → x ≠ t → I135 x = I x := fun x h1 h2 => (k137 x (by omega)).trans (FI x h1 h2)
  clear e136 k137 W
  obtain ⟨s138, I139, e140, B, k141, k142, z⟩ := nAI_K (I := I135) (c := 100) (n := n + 13) A 1 (Or.inr rfl) (by omega) rfl
  refine OkE.b2s e140 (OkE.addN 32 1885 rfl rfl ?_)
  replace A : Lay s138 n [.inr (0, 2, 0), .inr (0, 5, 0), .inr (0, 5, 0), .inr (0, 5, 0), .inr (0, 100, 0), .inr (0, 5, 0), .inr (0, 60, 0), .inr (0, 60, 0), .inr (0, 60, 0), .inr (0, 60, 0), .inr (0, 60, 0), .inr (0, 500, 0), .inr (0, 101, 0), .inr (1, 100, 0)] := B
  replace T : Lay s138 t [.inl (7, [none, none, none, some (some (n + 0)), some (some (n + 1)), some (some (n + 2)), some (some (n + 3)), none, none, none, none, none, some (some (n + 4)), some (some (n + 5)), some (some (n + 6)), some (some (n + 7)), some (some (n + 8)), some (some (n + 9)), some (some (n + 10)), some (some (n + 11)), some (some (n + 12)), none, none, none, some none, none, some none, some none, some none, some none, some none, some none, some none, some none, some none, some none, some none, some none, some none, none, some none, some none, some none, some none, some none, none, none, none, none, none, none, none, some none, some none, some none, some none, some none, some none, some none, some none, some none, none, some none, some none, some none, some none, some none])] := T.kept (fun x h1 h2 => k141 x (by simp at h2; omega))
  replace V : Vals I139 t [3, 10, 0, 0, 0, 0, 0, 0, (-1), 0, 0, 0, 0, 0, 0, 0, 0, 0, 0, 0, 0, 0, 0, 0, 0, 0, 0, 0, 0, 0, 0, 0, 0, 0, 0, 0, 0, 0, 0, 0, 0, 0, 0, 0, 0, 0, 0, 0, 0, 0, 0, 0, 0, 0, 0, 0, 0, 0, 0, 0, 0, 0, 0, 0, 0, 0, 0] := V.kept (k142 t (by omega))
  replace FS : ∀ x, x < n → x ≠ t → s138 x = sh x := fun x h1 h2 => (k141 x (by omega)).trans (FS x h1 h2)
  replace Z : ∀ x j, n ≤ x → x < n + 14 → x ≠ n + 42 → I139 x j = 0 := fun x j h1 h2 h3 => by
    by_cases hx : x = n + 13
    · rw [hx]
      exact z j
    · rw [k142 x hx]
      exact Z x j h1 (by omega) h3
  replace FI : ∀ x, x < n → x ≠ t → I139 x = I x := fun x h1 h2 => (k142 x (by omega)).trans (FI x h1 h2)
  clear e140 k141 k142 z B
  obtain ⟨s143, e144, B, k145⟩ := pR_L T 0 24 (n + 13) rfl ⟨none, rfl⟩
  refine OkE.bs e144 ?_
  replace T : Lay s143 t [.inl (7, [none, none, none, some (some (n + 0)), some (some (n + 1)), some (some (n + 2)), some (some (n + 3)), none, none, none, none, none, some (some (n + 4)), some (some (n + 5)), some (some (n + 6)), some (some (n + 7)), some (some (n + 8)), some (some (n + 9)), some (some (n + 10)), some (some (n + 11)), some (some (n + 12)), none, none, none, some (some (n + 13)), none, some none, some none, some none, some none, some none, some none, some none, some none, some none, some none, some none, some none, some none, none, some none, some none, some none, some none, some none, none, none, none, none, none, none, none, some none, some none, some none, some none, some none, some none, some none, some none, some none, none, some none, some none, some none, some none, some none])] := B
  replace A : Lay s143 n [.inr (0, 2, 0), .inr (0, 5, 0), .inr (0, 5, 0), .inr (0, 5, 0), .inr (0, 100, 0), .inr (0, 5, 0), .inr (0, 60, 0), .inr (0, 60, 0), .inr (0, 60, 0), .inr (0, 60, 0), .inr (0, 60, 0), .inr (0, 500, 0), .inr (0, 101, 0), .inr (1, 100, 0)] := A.kept (fun x h1 h2 => k145 x (by omega))
  replace FS : ∀ x, x < n → x ≠ t → s143 x = sh x := fun x h1 h2 => (k145 x (by omega)).trans (FS x h1 h2)
  clear e144 k145 B
  obtain ⟨I146, e147, k148, W⟩ := pI_K (I := I139) T 0 25 0 V rfl rfl
  refine OkE.bs e147 ?_
  replace V : Vals I146 t [3, 10, 0, 0, 0, 0, 0, 0, (-1), 0, 0, 0, 0, 0, 0, 0, 0, 0, 0, 0, 0, 0, 0, 0, 0, 0, 0, 0, 0, 0, 0, 0, 0, 0, 0, 0, 0, 0, 0, 0, 0, 0, 0, 0, 0, 0, 0, 0, 0, 0, 0, 0, 0, 0, 0, 0, 0, 0, 0, 0, 0, 0, 0, 0, 0, 0, 0] := W
  replace Z : ∀ x j, n ≤ x → x < n + 14 → x ≠ n + 42 → I146 x j = 0 := fun x j h1 h2 h3 => by
    rw [k148 x (by omega)]
    exact Z x j h1 h2 h3
  replace FI : ∀ x, x < n → x ≠ t → I146 x = I x := fun x h1 h2 => (k148 x (by omega)).trans (FI x h1 h2)
  clear e147 k148 W
  obtain ⟨s149, I150, e151, B, k152, k153, z⟩ := nAI_K (I := I146) (c := 24) (n := n + 14) A 0 (Or.inl rfl) (by omega) rfl
  refine OkE.b2s e151 (OkE.addN 31 1861 rfl rfl ?_)
  replace A : Lay s149 n [.inr (0, 2, 0), .inr (0, 5, 0), .inr (0, 5, 0), .inr (0, 5, 0), .inr (0, 100, 0), .inr (0, 5, 0), .inr (0, 60, 0), .inr (0, 60, 0), .inr (0, 60, 0), .inr (0, 60, 0), .inr (0, 60, 0), .inr (0, 500, 0), .inr (0, 101, 0), .inr (1, 100, 0), .inr (0, 24, 0)] := B
  replace T : Lay s149 t [.inl (7, [none, none, none, some (some (n + 0)), some (some (n + 1)), some (some (n + 2)), some (some (n + 3)), none, none, none, none, none, some (some (n + 4)), some (some (n + 5)), some (some (n + 6)), some (some (n + 7)), some (some (n + 8)), some (some (n + 9)), some (some (n + 10)), some (some (n + 11)), some (some (n + 12)), none, none, none, some (some (n + 13)), none, some none, some none, some none, some none, some none, some none, some none, some none, some none, some none, some none, some none, some none, none, some none, some none, some none, some none, some none, none, none, none, none, none, none, none, some none, some none, some none, some none, some none, some none, some none, some none, some none, none, some none, some none, some none, some none, some none])] := T.kept (fun x h1 h2 => k152 x (by simp at h2; omega))
  replace V : Vals I150 t [3, 10, 0, 0, 0, 0, 0, 0, (-1), 0, 0, 0, 0, 0, 0, 0, 0, 0, 0, 0, 0, 0, 0, 0, 0, 0, 0, 0, 0, 0, 0, 0, 0, 0, 0, 0, 0, 0, 0, 0, 0, 0, 0, 0, 0, 0, 0, 0, 0, 0, 0, 0, 0, 0, 0, 0, 0, 0, 0, 0, 0, 0, 0, 0, 0, 0, 0] := V.kept (k153 t (by omega))
  replace FS : ∀ x, x < n → x ≠ t → s149 x = sh x := fun x h1 h2 => (k152 x (by omega)).trans (FS x h1 h2)
  replace Z : ∀ x j, n ≤ x → x < n + 15 → x ≠ n + 42 → I150 x j = 0 := fun x j h1 h2 h3 => by
    by_cases hx : x = n + 14
    · rw [hx]
      exact z j
    · rw [k153 x hx]
      exact Z x j h1 (by omega) h3
  replace FI : ∀ x, x < n → x ≠ t → I150 x = I x := fun x h1 h2 => (k153 x (by omega)).trans (FI x h1 h2)
  clear e151 k152 k153 z B
  obtain ⟨s154, e155, B, k156⟩ := pR_L T 0 26 (n + 14) rfl ⟨none, rfl⟩
  refine OkE.bs e155 ?_
  replace T : Lay s154 t [.inl (7, [none, none, none, some (some (n + 0)), some (some (n + 1)), some (some (n + 2)), some (some (n + 3)), none, none, none, none, none, some (some (n + 4)), some (some (n + 5)), some (some (n + 6)), some (some (n + 7)), some (some (n + 8)), some (some (n + 9)), some (some (n + 10)), some (some (n + 11)), some (some (n + 12)), none, none, none, some (some (n + 13)), none, some (some (n + 14)), some none, some none, some none, some none, some none, some none, some none, some none, some none, some none, some none, some none, none, some none, some none, some none, some none, some none, none, none, none, none, none, none, none, some none, some none, some none, some none, some none, some none, some none, some none, some none, none, some none, some none, some none, some none, some none])] := B
  replace A : Lay s154 n [.inr (0, 2, 0), .inr (0, 5, 0), .inr (0, 5, 0), .inr (0, 5, 0), .inr (0, 100, 0), .inr (0, 5, 0), .inr (0, 60, 0), .inr (0, 60, 0), .inr (0, 60, 0), .inr (0, 60, 0), .inr (0, 60, 0), .inr (0, 500, 0), .inr (0, 101, 0), .inr (1, 100, 0), .inr (0, 24, 0)] := A.kept (fun x h1 h2 => k156 x (by omega))
  replace FS : ∀ x, x < n → x ≠ t → s154 x = sh x := fun x h1 h2 => (k156 x (by omega)).trans (FS x h1 h2)
  clear e155 k156 B
  obtain ⟨s157, I158, e159, B, k160, k161, z⟩ := nAI_K (I := I150) (c := 48) (n := n + 15) A 0 (Or.inl rfl) (by omega) rfl
  refine OkE.b2s e159 (OkE.addN 30 1813 rfl rfl ?_)
  replace A : Lay s157 n [.inr (0, 2, 0), .inr (0, 5, 0), .inr (0, 5, 0), .inr (0, 5, 0), .inr (0, 100, 0), .inr (0, 5, 0), .inr (0, 60, 0), .inr (0, 60, 0), .inr (0, 60, 0), .inr (0, 60, 0), .inr (0, 60, 0), .inr (0, 500, 0), .inr (0, 101, 0), .inr (1, 100, 0), .inr (0, 24, 0), .inr (0, 48, 0)] := B
  replace T : Lay s157 t [.inl (7, [none, none, none, some (some (n + 0)), some (some (n + 1)), some (some (n + 2)), some (some (n + 3)), none, none, none, none, none, some (some (n + 4)), some (some (n + 5)), some (some (n + 6)), some (some (n + 7)), some (some (n + 8)), some (some (n + 9)), some (some (n + 10)), some (some (n + 11)), some (some (n + 12)), none, none, none, some (some (n + 13)), none, some (some (n + 14)), some none, some none, some none, some none, some none, some none, some none, some none, some none, some none, some none, some none, none, some none, some none, some none, some none, some none, none, none, none, none, none, none, none, some none, some none, some none, some none, some none, some none, some none, some none, some none, none, some none, some none, some none, some none, some none])] := T.kept (fun x h1 h2 => k160 x (by simp at h2; omega))
  replace V : Vals I158 t [3, 10, 0, 0, 0, 0, 0, 0, (-1), 0, 0, 0, 0, 0, 0, 0, 0, 0, 0, 0, 0, 0, 0, 0, 0, 0, 0, 0, 0, 0, 0, 0, 0, 0, 0, 0, 0, 0, 0, 0, 0, 0, 0, 0, 0, 0, 0, 0, 0, 0, 0, 0, 0, 0, 0, 0, 0, 0, 0, 0, 0, 0, 0, 0, 0, 0, 0] := V.kept (k161 t (by omega))
  replace FS : ∀ x, x < n → x ≠ t → s157 x = sh x := fun x h1 h2 => (k160 x (by omega)).trans (FS x h1 h2)
  replace Z : ∀ x j, n ≤ x → x < n + 16 → x ≠ n + 42 → I158 x j = 0 := fun x j h1 h2 h3 => by
    by_cases hx : x = n + 15
    · rw [hx]
      exact z j
    · rw [k161 x hx]
      exact Z x j h1 (by omega) h3
  replace FI : ∀ x, x < n → x ≠ t → I158 x = I x := fun x h1 h2 => (k161 x (by omega)).trans (FI x h1 h2)
  clear e159 k160 k161 z B
  obtain ⟨s162, e163, B, k164⟩ := pR_L T 0 27 (n + 15) rfl ⟨none, rfl⟩
  refine OkE.bs e163 ?_
  replace T : Lay s162 t [.inl (7, [none, none, none, some (some (n + 0)), some (some (n + 1)), some (some (n + 2)), some (some (n + 3)), none, none, none, none, none, some (some (n + 4)), some (some (n + 5)), some (some (n + 6)), some (some (n + 7)), some (some (n + 8)), some (some (n + 9)), some (some (n + 10)), some (some (n + 11)), some (some (n + 12)), none, none, none, some (some (n + 13)), none, some (some (n + 14)), some (some (n + 15)), some none, some none, some none, some none, some none, some none, some none, some none, some none, some none, some none, none, some none, some none, some none, some none, some none, none, none, none, none, none, none, none, some none, some none, some none, some none, some none, some none, some none, some none, some none, none, some none, some none, some none, some none, some none])] := B
  replace A : Lay s162 n [.inr (0, 2, 0), .inr (0, 5, 0), .inr (0, 5, 0), .inr (0, 5, 0), .inr (0, 100, 0), .inr (0, 5, 0), .inr (0, 60, 0), .inr (0, 60, 0), .inr (0, 60, 0), .inr (0, 60, 0), .inr (0, 60, 0), .inr (0, 500, 0), .inr (0, 101, 0), .inr (1, 100, 0), .inr (0, 24, 0), .inr (0, 48, 0)] := A.kept (fun x h1 h2 => k164 x (by omega))
  replace FS : ∀ x, x < n → x ≠ t → s162 x = sh x := fun x h1 h2 => (k164 x (by omega)).trans (FS x h1 h2)
  clear e163 k164 B
  obtain ⟨s165, I166, e167, B, k168, k169, z⟩ := nAI_K (I := I158) (c := 5) (n := n + 16) A 0 (Or.inl rfl) (by omega) rfl
  refine OkE.b2s e167 (OkE.addN 29 1808 rfl rfl ?_)
  replace A : Lay s165 n [.inr (0, 2, 0), .inr (0, 5, 0), .inr (0, 5, 0), .inr (0, 5, 0), .inr (0, 100, 0), .inr (0, 5, 0), .inr (0, 60, 0), .inr (0, 60, 0), .inr (0, 60, 0), .inr (0, 60, 0), .inr (0, 60, 0), .inr (0, 500, 0), .inr (0, 101, 0), .inr (1, 100, 0), .inr (0, 24, 0), .inr (0, 48, 0), .inr (0, 5, 0)] := B
  replace T : Lay s165 t [.inl (7, [none, none, none, some (some (n + 0)), some (some (n + 1)), some (some (n + 2)), some (some (n + 3)), none, none, none, none, none, some (some (n + 4)), some (some (n + 5)), some (some (n + 6)), some (some (n + 7)), some (some (n + 8)), some (some (n + 9)), some (some (n + 10)), some (some (n + 11)), some (some (n + 12)), none, none, none, some (some (n + 13)), none, some (some (n + 14)), some (some (n + 15)), some none, some none, some none, some none, some none, some none, some none, some none, some none, some none, some none, none, some none, some none, some none, some none, some none, none, none, none, none, none, none, none, some none, some none, some none, some none, some none, some none, some none, some none, some none, none, some none, some none, some none, some none, some none])] := T.kept (fun x h1 h2 => k168 x (by simp at h2; omega))
  replace V : Vals I166 t [3, 10, 0, 0, 0, 0, 0, 0, (-1), 0, 0, 0, 0, 0, 0, 0, 0, 0, 0, 0, 0, 0, 0, 0, 0, 0, 0, 0, 0, 0, 0, 0, 0, 0, 0, 0, 0, 0, 0, 0, 0, 0, 0, 0, 0, 0, 0, 0, 0, 0, 0, 0, 0, 0, 0, 0, 0, 0, 0, 0, 0, 0, 0, 0, 0, 0, 0] := V.kept (k169 t (by omega))
  replace FS : ∀ x, x < n → x ≠ t → s165 x = sh x := fun x h1 h2 => (k168 x (by omega)).trans (FS x h1 h2)
  replace Z : ∀ x j, n ≤ x → x < n + 17 → x ≠ n + 42 → I166 x j = 0 := fun x j h1 h2 h3 => by
    by_cases hx : x = n + 16
    · rw [hx]
      exact z j
    · rw [k169 x hx]
      exact Z x j h1 (by omega) h3
  replace FI : ∀ x, x < n → x ≠ t → I166 x = I x := fun x h1 h2 => (k169 x (by omega)).trans (FI x h1 h2)
  clear e167 k168 k169 z B
  obtain ⟨s170, e171, B, k172⟩ := pR_L T 0 28 (n + 16) rfl ⟨none, rfl⟩
  refine OkE.bs e171 ?_
  replace T : Lay s170 t [.inl (7, [none, none, none, some (some (n + 0)), some (some (n + 1)), some (some (n + 2)), some (some (n + 3)), none, none, none, none, none, some (some (n + 4)), some (some (n + 5)), some (some (n + 6)), some (some (n + 7)), some (some (n + 8)), some (some (n + 9)), some (some (n + 10)), some (some (n + 11)), some (some (n + 12)), none, none, none, some (some (n + 13)), none, some (some (n + 14)), some (some (n + 15)), some (some (n + 16)), some none, some none, some none, some none, some none, some none, some none, some none, some none, some none, none, some none, some none, some none, some none, some none, none, none, none, none, none, none, none, some none, some none, some none, some none, some none, some none, some none, some none, some none, none, some none, some none, some none, some none, some none])] := B
  replace A : Lay s170 n [.inr (0, 2, 0), .inr (0, 5, 0), .inr (0, 5, 0), .inr (0, 5, 0), .inr (0, 100, 0), .inr (0, 5, 0), .inr (0, 60, 0), .inr (0, 60, 0), .inr (0, 60, 0), .inr (0, 60, 0), .inr (0, 60, 0), .inr (0, 500, 0), .inr (0, 101, 0), .inr (1, 100, 0), .inr (0, 24, 0), .inr (0, 48, 0), .inr (0, 5, 0)] := A.kept (fun x h1 h2 => k172 x (by omega))
  replace FS : ∀ x, x < n → x ≠ t → s170 x = sh x := fun x h1 h2 => (k172 x (by omega)).trans (FS x h1 h2)
  clear e171 k172 B
  obtain ⟨s173, I174, e175, B, k176, k177, z⟩ := nAI_K (I := I166) (c := 5) (n := n + 17) A 0 (Or.inl rfl) (by omega) rfl
  refine OkE.b2s e175 (OkE.addN 28 1803 rfl rfl ?_)
  replace A : Lay s173 n [.inr (0, 2, 0), .inr (0, 5, 0), .inr (0, 5, 0), .inr (0, 5, 0), .inr (0, 100, 0), .inr (0, 5, 0), .inr (0, 60, 0), .inr (0, 60, 0), .inr (0, 60, 0), .inr (0, 60, 0), .inr (0, 60, 0), .inr (0, 500, 0), .inr (0, 101, 0), .inr (1, 100, 0), .inr (0, 24, 0), .inr (0, 48, 0), .inr (0, 5, 0), .inr (0, 5, 0)] := B
  replace T : Lay s173 t [.inl (7, [none, none, none, some (some (n + 0)), some (some (n + 1)), some (some (n + 2)), some (some (n + 3)), none, none, none, none, none, some (some (n + 4)), some (some (n + 5)), some (some (n + 6)), some (some (n + 7)), some (some (n + 8)), some (some (n + 9)), some (some (n + 10)), some (some (n + 11)), some (some (n + 12)), none, none, none, some (some (n + 13)), none, some (some (n + 14)), some (some (n + 15)), some (some (n + 16)), some none, some none, some none, some none, some none, some none, some none, some none, some none, some none, none, some none, some none, some none, some none, some none, none, none, none, none, none, none, none, some none, some none, some none, some none, some none, some none, some none, some none, some none, none, some none, some none, some none, some none, some none])] := T.kept (fun x h1 h2 => k176 x (by simp at h2; omega))
  replace V : Vals I174 t [3, 10, 0, 0, 0, 0, 0, 0, (-1), 0, 0, 0, 0, 0, 0, 0, 0, 0, 0, 0, 0, 0, 0, 0, 0, 0, 0, 0, 0, 0, 0, 0, 0, 0, 0, 0, 0, 0, 0, 0, 0, 0, 0, 0, 0, 0, 0, 0, 0, 0, 0, 0, 0, 0, 0, 0, 0, 0, 0, 0, 0, 0, 0, 0, 0, 0, 0] := V.kept (k177 t (by omega))
  replace FS : ∀ x, x < n → x ≠ t → s173 x = sh x := fun x h1 h2 => (k176 x (by omega)).trans (FS x h1 h2)
  replace Z : ∀ x j, n ≤ x → x < n + 18 → x ≠ n + 42 → I174 x j = 0 := fun x j h1 h2 h3 => by
    by_cases hx : x = n + 17
    · rw [hx]
      exact z j
    · rw [k177 x hx]
      exact Z x j h1 (by omega) h3
  replace FI : ∀ x, x < n → x ≠ t → I174 x = I x := fun x h1 h2 => (k177 x (by omega)).trans (FI x h1 h2)
  clear e175 k176 k177 z B
  obtain ⟨s178, e179, B, k180⟩ := pR_L T 0 29 (n + 17) rfl ⟨none, rfl⟩
  refine OkE.bs e179 ?_
  replace T : Lay s178 t [.inl (7, [none, none, none, some (some (n + 0)), some (some (n + 1)), some (some (n + 2)), some (some (n + 3)), none, none, none, none, none, some (some (n + 4)), some (some (n + 5)), some (some (n + 6)), some (some (n + 7)), some (some (n + 8)), some (some (n + 9)), some (some (n + 10)), some (some (n + 11)), some (some (n + 12)), none, none, none, some (some (n + 13)), none, some (some (n + 14)), some (some (n + 15)), some (some (n + 16)), some (some (n + 17)), some none, some none, some none, some none, some none, some none, some none, some none, some none, none, some none, some none, some none, some none, some none, none, none, none, none, none, none, none, some none, some none, some none, some none, some none, some none, some none, some none, some none, none, some none, some none, some none, some none, some none])] := B
  replace A : Lay s178 n [.inr (0, 2, 0), .inr (0, 5, 0), .inr (0, 5, 0), .inr (0, 5, 0), .inr (0, 100, 0), .inr (0, 5, 0), .inr (0, 60, 0), .inr (0, 60, 0), .inr (0, 60, 0), .inr (0, 60, 0), .inr (0, 60, 0), .inr (0, 500, 0), .inr (0, 101, 0), .inr (1, 100, 0), .inr (0, 24, 0), .inr (0, 48, 0), .inr (0, 5, 0), .inr (0, 5, 0)] := A.kept (fun x h1 h2 => k180 x (by omega))
  replace FS : ∀ x, x < n → x ≠ t → s178 x = sh x := fun x h1 h2 => (k180 x (by omega)).trans (FS x h1 h2)
  clear e179 k180 B
  obtain ⟨s181, I182, e183, B, k184, k185, z⟩ := nAI_K (I := I174) (c := 5) (n := n + 18) A 0 (Or.inl rfl) (by omega) rfl
  refine OkE.b2s e183 (OkE.addN 27 1798 rfl rfl ?_)
  replace A : Lay s181 n [.inr (0, 2, 0), .inr (0, 5, 0), .inr (0, 5, 0), .inr (0, 5, 0), .inr (0, 100, 0), .inr (0, 5, 0), .inr (0, 60, 0), .inr (0, 60, 0), .inr (0, 60, 0), .inr (0, 60, 0), .inr (0, 60, 0), .inr (0, 500, 0), .inr (0, 101, 0), .inr (1, 100, 0), .inr (0, 24, 0), .inr (0, 48, 0), .inr (0, 5, 0), .inr (0, 5, 0), .inr (0, 5, 0)] := B
  replace T : Lay s181 t [.inl (7, [none, none, none, some (some (n + 0)), some (some (n + 1)), some (some (n + 2)), some (some (n + 3)), none, none, none, none, none, some (some (n + 4)), some (some (n + 5)), some (some (n + 6)), some (some (n + 7)), some (some (n + 8)), some (some (n + 9)), some (some (n + 10)), some (some (n + 11)), some (some (n + 12)), none, none, none, some (some (n + 13)), none, some (some (n + 14)), some (some (n + 15)), some (some (n + 16)), some (some (n + 17)), some none, some none, some none, some none, some none, some none, some none, some none, some none, none, some none, some none, some none, some none, some none, none, none, none, none, none, none, none, some none, some none, some none, some none, some none, some none, some none, some none, some none, none, some none, some none, some none, some none, some none])] := T.kept (fun x h1 h2 => k184 x (by simp at h2; omega))
  replace V : Vals I182 t [3, 10, 0, 0, 0, 0, 0, 0, (-1), 0, 0, 0, 0, 0, 0, 0, 0, 0, 0, 0, 0, 0, 0, 0, 0, 0, 0, 0, 0, 0, 0, 0, 0, 0, 0, 0, 0, 0, 0, 0, 0, 0, 0, 0, 0, 0, 0, 0, 0, 0, 0, 0, 0, 0, 0, 0, 0, 0, 0, 0, 0, 0, 0, 0, 0, 0, 0] := V.kept (k185 t (by omega))
  replace FS : ∀ x, x < n → x ≠ t → s181 x = sh x := fun x h1 h2 => (k184 x (by omega)).trans (FS x h1 h2)
  replace Z : ∀ x j, n ≤ x → x < n + 19 → x ≠ n + 42 → I182 x j = 0 := fun x j h1 h2 h3 => by
    by_cases hx : x = n + 18
    · rw [hx]
      exact z j
    · rw [k185 x hx]
      exact Z x j h1 (by omega) h3
  replace FI : ∀ x, x < n → x ≠ t → I182 x = I x := fun x h1 h2 => (k185 x (by omega)).trans (FI x h1 h2)
  clear e183 k184 k185 z B
  obtain ⟨s186, e187, B, k188⟩ := pR_L T 0 30 (n + 18) rfl ⟨none, rfl⟩
  refine OkE.bs e187 ?_
  replace T : Lay s186 t [.inl (7, [none, none, none, some (some (n + 0)), some (some (n + 1)), some (some (n + 2)), some (some (n + 3)), none, none, none, none, none, some (some (n + 4)), some (some (n + 5)), some (some (n + 6)), some (some (n + 7)), some (some (n + 8)), some (some (n + 9)), some (some (n + 10)), some (some (n + 11)), some (some (n + 12)), none, none, none, some (some (n + 13)), none, some (some (n + 14)), some (some (n + 15)), some (some (n + 16)), some (some (n + 17)), some (some (n + 18)), some none, some none, some none, some none, some none, some none, some none, some none, none, some none, some none, some none, some none, some none, none, none, none, none, none, none, none, some none, some none, some none, some none, some none, some none, some none, some none, some none, none, some none, some none, some none, some none, some none])] := B
  replace A : Lay s186 n [.inr (0, 2, 0), .inr (0, 5, 0), .inr (0, 5, 0), .inr (0, 5, 0), .inr (0, 100, 0), .inr (0, 5, 0), .inr (0, 60, 0), .inr (0, 60, 0), .inr (0, 60, 0), .inr (0, 60, 0), .inr (0, 60, 0), .inr (0, 500, 0), .inr (0, 101, 0), .inr (1, 100, 0), .inr (0, 24, 0), .inr (0, 48, 0), .inr (0, 5, 0), .inr (0, 5, 0), .inr (0, 5, 0)] := A.kept (fun x h1 h2 => k188 x (by omega))
  replace FS : ∀ x, x < n → x ≠ t → s186 x = sh x := fun x h1 h2 => (k188 x (by omega)).trans (FS x h1 h2)
  clear e187 k188 B
  obtain ⟨s189, I190, e191, B, k192, k193, z⟩ := nAI_K (I := I182) (c := 5) (n := n + 19) A 0 (Or.inl rfl) (by omega) rfl
  refine OkE.b2s e191 (OkE.addN 26 1793 rfl rfl ?_)
  replace A : Lay s189 n [.inr (0, 2, 0), .inr (0, 5, 0), .inr (0, 5, 0), .inr (0, 5, 0), .inr (0, 100, 0), .inr (0, 5, 0), .inr (0, 60, 0), .inr (0, 60, 0), .inr (0, 60, 0), .inr (0, 60, 0), .inr (0, 60, 0), .inr (0, 500, 0), .inr (0, 101, 0), .inr (1, 100, 0), .inr (0, 24, 0), .inr (0, 48, 0), .inr (0, 5, 0), .inr (0, 5, 0), .inr (0, 5, 0), .inr (0, 5, 0)] := B
  replace T : Lay s189 t [.inl (7, [none, none, none, some (some (n + 0)), some (some (n + 1)), some (some (n + 2)), some (some (n + 3)), none, none, none, none, none, some (some (n + 4)), some (some (n + 5)), some (some (n + 6)), some (some (n + 7)), some (some (n + 8)), some (some (n + 9)), some (some (n + 10)), some (some (n + 11)), some (some (n + 12)), none, none, none, some (some (n + 13)), none, some (some (n + 14)), some (some (n + 15)), some (some (n + 16)), some (some (n + 17)), some (some (n + 18)), some none, some none, some none, some none, some none, some none, some none, some none, none, some none, some none, some none, some none, some none, none, none, none, none, none, none, none, some none, some none, some none, some none, some none, some none, some none, some none, some none, none, some none, some none, some none, some none, some none])] := T.kept (fun x h1 h2 => k192 x (by simp at h2; omega))
  replace V : Vals I190 t [3, 10, 0, 0, 0, 0, 0, 0, (-1), 0, 0, 0, 0, 0, 0, 0, 0, 0, 0, 0, 0, 0, 0, 0, 0, 0, 0, 0, 0, 0, 0, 0, 0, 0, 0, 0, 0, 0, 0, 0, 0, 0, 0, 0, 0, 0, 0, 0, 0, 0, 0, 0, 0, 0, 0, 0, 0, 0, 0, 0, 0, 0, 0, 0, 0, 0, 0] := V.kept (k193 t (by omega))
  replace FS : ∀ x, x < n → x ≠ t → s189 x = sh x := fun x h1 h2 => (k192 x (by omega)).trans (FS x h1 h2)
  replace Z : ∀ x j, n ≤ x → x < n + 20 → x ≠ n + 42 → I190 x j = 0 := fun x j h1 h2 h3 => by
    by_cases hx : x = n + 19
    · rw [hx]
      exact z j
    · rw [k193 x hx]
      exact Z x j h1 (by omega) h3
  replace FI : ∀ x, x < n → x ≠ t → I190 x = I x := fun x h1 h2 => (k193 x (by omega)).trans (FI x h1 h2)
  clear e191 k192 k193 z B
  obtain ⟨s194, e195, B, k196⟩ := pR_L T 0 31 (n + 19) rfl ⟨none, rfl⟩
  refine OkE.bs e195 ?_
  replace T : Lay s194 t [.inl (7, [none, none, none, some (some (n + 0)), some (some (n + 1)), some (some (n + 2)), some (some (n + 3)), none, none, none, none, none, some (some (n + 4)), some (some (n + 5)), some (some (n + 6)), some (some (n + 7)), some (some (n + 8)), some (some (n + 9)), some (some (n + 10)), some (some (n + 11)), some (some (n + 12)), none, none, none, some (some (n + 13)), none, some (some (n + 14)), some (some (n + 15)), some (some (n + 16)), some (some (n + 17)), some (some (n + 18)), some (some (n + 19)), some none, some none, some none, some none, some none, some none, some none, none, some none, some none, some none, some none, some none, none, none, none, none, none, none, none, some none, some none, some none, some none, some none, some none, some none, some none, some none, none, some none, some none, some none, some none, some none])] := B
  replace A : Lay s194 n [.inr (0, 2, 0), .inr (0, 5, 0), .inr (0, 5, 0), .inr (0, 5, 0), .inr (0, 100, 0), .inr (0, 5, 0), .inr (0, 60, 0), .inr (0, 60, 0), .inr (0, 60, 0), .inr (0, 60, 0), .inr (0, 60, 0), .inr (0, 500, 0), .inr (0, 101, 0), .inr (1, 100, 0), .inr (0, 24, 0), .inr (0, 48, 0), .inr (0, 5, 0), .inr (0, 5, 0), .inr (0, 5, 0), .inr (0, 5, 0)] := A.kept (fun x h1 h2 => k196 x (by omega))
  replace FS : ∀ x, x < n → x ≠ t → s194 x = sh x := fun x h1 h2 => (k196 x (by omega)).trans (FS x h1 h2)
  clear e195 k196 B
  obtain ⟨s197, I198, e199, B, k200, k201, z⟩ := nAI_K (I := I190) (c := 5) (n := n + 20) A 0 (Or.inl rfl) (by omega) rfl
  refine OkE.b2s e199 (OkE.addN 25 1788 rfl rfl ?_)
  replace A : Lay s197 n [.inr (0, 2, 0), .inr (0, 5, 0), .inr (0, 5, 0), .inr (0, 5, 0), .inr (0, 100, 0), .inr (0, 5, 0), .inr (0, 60, 0), .inr (0, 60, 0), .inr (0, 60, 0), .inr (0, 60, 0), .inr (0, 60, 0), .inr (0, 500, 0), .inr (0, 101, 0), .inr (1, 100, 0), .inr (0, 24, 0), .inr (0, 48, 0), .inr (0, 5, 0), .inr (0, 5, 0), .inr (0, 5, 0), .inr (0, 5, 0), .inr (0, 5, 0)] := B
  replace T : Lay s197 t [.inl (7, [none, none, none, some (some (n + 0)), some (some (n + 1)), some (some (n + 2)), some (some (n + 3)), none, none, none, none, none, some (some (n + 4)), some (some (n + 5)), some (some (n + 6)), some (some (n + 7)), some (some (n + 8)), some (some (n + 9)), some (some (n + 10)), some (some (n + 11)), some (some (n + 12)), none, none, none, some (some (n + 13)), none, some (some (n + 14)), some (some (n + 15)), some (some (n + 16)), some (some (n + 17)), some (some (n + 18)), some (some (n + 19)), some none, some none, some none, some none, some none, some none, some none, none, some none, some none, some none, some none, some none, none, none, none, none, none, none, none, some none, some none, some none, some none, some none, some none, some none, some none, some none, none, some none, some none, some none, some none, some none])] := T.kept (fun x h1 h2 => k200 x (by simp at h2; omega))
  replace V : Vals I198 t [3, 10, 0, 0, 0, 0, 0, 0, (-1), 0, 0, 0, 0, 0, 0, 0, 0, 0, 0, 0, 0, 0, 0, 0, 0, 0, 0, 0, 0, 0, 0, 0, 0, 0, 0, 0, 0, 0, 0, 0, 0, 0, 0, 0, 0, 0, 0, 0, 0, 0, 0, 0, 0, 0, 0, 0, 0, 0, 0, 0, 0, 0, 0, 0, 0, 0, 0] := V.kept (k201 t (by omega))
  replace FS : ∀ x, x < n → x ≠ t → s197 x = sh x := fun x h1 h2 => (k200 x (by omega)).trans (FS x h1 h2)
  replace Z : ∀ x j, n ≤ x → x < n + 21 → x ≠ n + 42 → I198 x j = 0 := fun x j h1 h2 h3 => by
    by_cases hx : x = n + 20
    · rw [hx]
      exact z j
    · rw [k201 x hx]
      exact Z x j h1 (by omega) h3
  replace FI : ∀ x, x < n → x ≠ t → I198 x = I x := fun x h1 h2 => (k201 x (by omega)).trans (FI x h1 h2)
  clear e199 k200 k201 z B
  obtain ⟨s202, e203, B, k204⟩ := pR_L T 0 32 (n + 20) rfl ⟨none, rfl⟩
  refine OkE.bs e203 ?_
  replace T : Lay s202 t [.inl (7, [none, none, none, some (some (n + 0)), some (some (n + 1)), some (some (n + 2)), some (some (n + 3)), none, none, none, none, none, some (some (n + 4)), some (some (n + 5)), some (some (n + 6)), some (some (n + 7)), some (some (n + 8)), some (some (n + 9)), some (some (n + 10)), some (some (n + 11)), some (some (n + 12)), none, none, none, some (some (n + 13)), none, some (some (n + 14)), some (some (n + 15)), some (some (n + 16)), some (some (n + 17)), some (some (n + 18)), some (some (n + 19)), some (some (n + 20)), some none, some none, some none, some none, some none, some none, none, some none, some none, some none, some none, some none, none, none, none, none, none, none, none, some none, some none, some none, some none, some none, some none, some none, some none, some none, none, some none, some none, some none, some none, some none])] := B
  replace A : Lay s202 n [.inr (0, 2, 0), .inr (0, 5, 0), .inr (0, 5, 0), .inr (0, 5, 0), .inr (0, 100, 0), .inr (0, 5, 0), .inr (0, 60, 0), .inr (0, 60, 0), .inr (0, 60, 0), .inr (0, 60, 0), .inr (0, 60, 0), .inr (0, 500, 0), .inr (0, 101, 0), .inr (1, 100, 0), .inr (0, 24, 0), .inr (0, 48, 0), .inr (0, 5, 0), .inr (0, 5, 0), .inr (0, 5, 0), .inr (0, 5, 0), .inr (0, 5, 0)] := A.kept (fun x h1 h2 => k204 x (by omega))
  replace FS : ∀ x, x < n → x ≠ t → s202 x = sh x := fun x h1 h2 => (k204 x (by omega)).trans (FS x h1 h2)
  clear e203 k204 B
  obtain ⟨s205, I206, e207, B, k208, k209, z⟩ := nAI_K (I := I198) (c := 5) (n := n + 21) A 0 (Or.inl rfl) (by omega) rfl
  refine OkE.b2s e207 (OkE.addN 24 1783 rfl rfl ?_)
  replace A : Lay s205 n [.inr (0, 2, 0), .inr (0, 5, 0), .inr (0, 5, 0), .inr (0, 5, 0), .inr (0, 100, 0), .inr (0, 5, 0), .inr (0, 60, 0), .inr (0, 60, 0), .inr (0, 60, 0), .inr (0, 60, 0), .inr (0, 60, 0), .inr (0, 500, 0), .inr (0, 101, 0), .inr (1, 100, 0), .inr (0, 24, 0), .inr (0, 48, 0), .inr (0, 5, 0), .inr (0, 5, 0), .inr (0, 5, 0), .inr (0, 5, 0), .inr (0, 5, 0), .inr (0, 5, 0)] := B
  replace T : Lay s205 t [.inl (7, [none, none, none, some (some (n + 0)), some (some (n + 1)), some (some (n + 2)), some (some (n + 3)), none, none, none, none, none, some (some (n + 4)), some (some (n + 5)), some (some (n + 6)), some (some (n + 7)), some (some (n + 8)), some (some (n + 9)), some (some (n + 10)), some (some (n + 11)), some (some (n + 12)), none, none, none, some (some (n + 13)), none, some (some (n + 14)), some (some (n + 15)), some (some (n + 16)), some (some (n + 17)), some (some (n + 18)), some (some (n + 19)), some (some (n + 20)), some none, some none, some none, some none, some none, some none, none, some none, some none, some none, some none, some none, none, none, none, none, none, none, none, some none, some none, some none, some none, some none, some none, some none, some none, some none, none, some none, some none, some none, some none, some none])] := T.kept (fun x h1 h2 => k208 x (by simp at h2; omega))
  replace V : Vals I206 t [3, 10, 0, 0, 0, 0, 0, 0, (-1), 0, 0, 0, 0, 0, 0, 0, 0, 0, 0, 0, 0, 0, 0, 0, 0, 0, 0, 0, 0, 0, 0, 0, 0, 0, 0, 0, 0, 0, 0, 0, 0, 0, 0, 0, 0, 0, 0, 0, 0, 0, 0, 0, 0, 0, 0, 0, 0, 0, 0, 0, 0, 0, 0, 0, 0, 0, 0] := V.kept (k209 t (by omega))
  replace FS : ∀ x, x < n → x ≠ t → s205 x = sh x := fun x h1 h2 => (k208 x (by omega)).trans (FS x h1 h2)
  replace Z : ∀ x j, n ≤ x → x < n + 22 → x ≠ n + 42 → I206 x j = 0 := fun x j h1 h2 h3 => by
    by_cases hx : x = n + 21
    · rw [hx]
      exact z j
    · rw [k209 x hx]
      exact Z x j h1 (by omega) h3
  replace FI : ∀ x, x < n → x ≠ t → I206 x = I x := fun x h1 h2 => (k209 x (by omega)).trans (FI x h1 h2)
  clear e207 k208 k209 z B
  obtain ⟨s210, e211, B, k212⟩ := pR_L T 0 33 (n + 21) rfl ⟨none, rfl⟩
  refine OkE.bs e211 ?_
  replace T : Lay s210 t [.inl (7, [none, none, none, some (some (n + 0)), some (some (n + 1)), some (some (n + 2)), some (some (n + 3)), none, none, none, none, none, some (some (n + 4)), some (some (n + 5)), some (some (n + 6)), some (some (n + 7)), some (some (n + 8)), some (some (n + 9)), some (some (n + 10)), some (some (n + 11)), some (some (n + 12)), none, none, none, some (some (n + 13)), none, some (some (n + 14)), some (some (n + 15)), some (some (n + 16)), some (some (n + 17)), some (some (n + 18)), some (some (n + 19)), some (some (n + 20)), some (some (n + 21)), some none, some none, some none, some none, some none, none, some none, some none, some none, some none, some none, none, none, none, none, none, none, none, some none, some none, some none, some none, some none, some none, some none, some none, some none, none, some none, some none, some none, some none, some none])] := B
  replace A : Lay s210 n [.inr (0, 2, 0), .inr (0, 5, 0), .inr (0, 5, 0), .inr (0, 5, 0), .inr (0, 100, 0), .inr (0, 5, 0), .inr (0, 60, 0), .inr (0, 60, 0), .inr (0, 60, 0), .inr (0, 60, 0), .inr (0, 60, 0), .inr (0, 500, 0), .inr (0, 101, 0), .inr (1, 100, 0), .inr (0, 24, 0), .inr (0, 48, 0), .inr (0, 5, 0), .inr (0, 5, 0), .inr (0, 5, 0), .inr (0, 5, 0), .inr (0, 5, 0), .inr (0, 5, 0)] := A.kept (fun x h1 h2 => k212 x (by omega))
  replace FS : ∀ x, x < n → x ≠ t → s210 x = sh x := fun x h1 h2 => (k212 x (by omega)).trans (FS x h1 h2)
  clear e211 k212 B
  obtain ⟨s213, I214, e215, B, k216, k217, z⟩ := nAI_K (I := I206) (c := 240) (n := n + 22) A 0 (Or.inl rfl) (by omega) rfl
  refine OkE.b2s e215 (OkE.addN 23 1543 rfl rfl ?_)
  replace A : Lay s213 n [.inr (0, 2, 0), .inr (0, 5, 0), .inr (0, 5, 0), .inr (0, 5, 0), .inr (0, 100, 0), .inr (0, 5, 0), .inr (0, 60, 0), .inr (0, 60, 0), .inr (0, 60, 0), .inr (0, 60, 0), .inr (0, 60, 0), .inr (0, 500, 0), .inr (0, 101, 0), .inr (1, 100, 0), .inr (0, 24, 0), .inr (0, 48, 0), .inr (0, 5, 0), .inr (0, 5, 0), .inr (0, 5, 0), .inr (0, 5, 0), .inr (0, 5, 0), .inr (0, 5, 0), .inr (0, 240, 0)] := B
  replace T : Lay s213 t [.inl (7, [none, none, none, some (some (n + 0)), some (some (n + 1)), some (some (n + 2)), some (some (n + 3)), none, none, none, none, none, some (some (n + 4)), some (some (n + 5)), some (some (n + 6)), some (some (n + 7)), some (some (n + 8)), some (some (n + 9)), some (some (n + 10)), some (some (n + 11)), some (some (n + 12)), none, none, none, some (some (n + 13)), none, some (some (n + 14)), some (some (n + 15)), some (some (n + 16)), some (some (n + 17)), some (some (n + 18)), some (some (n + 19)), some (some (n + 20)), some (some (n + 21)), some none, some none, some none, some none, some none, none, some none, some none, some none, some none, some none, none, none, none, none, none, none, none, some none, some none, some none, some none, some none, some none, some none, some none, some none, none, some none, some none, some none, some none, some none])] := T.kept (fun x h1 h2 => k216 x (by simp at h2; omega))
  replace V : Vals I214 t [3, 10, 0, 0, 0, 0, 0, 0, (-1), 0, 0, 0, 0, 0, 0, 0, 0, 0, 0, 0, 0, 0, 0, 0, 0, 0, 0, 0, 0, 0, 0, 0, 0, 0, 0, 0, 0, 0, 0, 0, 0, 0, 0, 0, 0, 0, 0, 0, 0, 0, 0, 0, 0, 0, 0, 0, 0, 0, 0, 0, 0, 0, 0, 0, 0, 0, 0] := V.kept (k217 t (by omega))
  replace FS : ∀ x, x < n → x ≠ t → s213 x = sh x := fun x h1 h2 => (k216 x (by omega)).trans (FS x h1 h2)
  replace Z : ∀ x j, n ≤ x → x < n + 23 → x ≠ n + 42 → I214 x j = 0 := fun x j h1 h2 h3 => by
    by_cases hx : x = n + 22
    · rw [hx]
      exact z j
    · rw [k217 x hx]
      exact Z x j h1 (by omega) h3
  replace FI : ∀ x, x < n → x ≠ t → I214 x = I x := fun x h1 h2 => (k217 x (by omega)).trans (FI x h1 h2)
  clear e215 k216 k217 z B
  obtain ⟨s218, e219, B, k220⟩ := pR_L T 0 34 (n + 22) rfl ⟨none, rfl⟩
  refine OkE.bs e219 ?_
  replace T : Lay s218 t [.inl (7, [none, none, none, some (some (n + 0)), some (some (n + 1)), some (some (n + 2)), some (some (n + 3)), none, none, none, none, none, some (some (n + 4)), some (some (n + 5)), some (some (n + 6)), some (some (n + 7)), some (some (n + 8)), some (some (n + 9)), some (some (n + 10)), some (some (n + 11)), some (some (n + 12)), none, none, none, some (some (n + 13)), none, some (some (n + 14)), some (some (n + 15)), some (some (n + 16)), some (some (n + 17)), some (some (n + 18)), some (some (n + 19)), some (some (n + 20)), some (some (n + 21)), some (some (n + 22)), some none, some none, some none, some none, none, some none, some none, some none, some none, some none, none, none, none, none, none, none, none, some none, some none, some none, some none, some none, some none, some none, some none, some none, none, some none, some none, some none, some none, some none])] := B
  replace A : Lay s218 n [.inr (0, 2, 0), .inr (0, 5, 0), .inr (0, 5, 0), .inr (0, 5, 0), .inr (0, 100, 0), .inr (0, 5, 0), .inr (0, 60, 0), .inr (0, 60, 0), .inr (0, 60, 0), .inr (0, 60, 0), .inr (0, 60, 0), .inr (0, 500, 0), .inr (0, 101, 0), .inr (1, 100, 0), .inr (0, 24, 0), .inr (0, 48, 0), .inr (0, 5, 0), .inr (0, 5, 0), .inr (0, 5, 0), .inr (0, 5, 0), .inr (0, 5, 0), .inr (0, 5, 0), .inr (0, 240, 0)] := A.kept (fun x h1 h2 => k220 x (by omega))
  replace FS : ∀ x, x < n → x ≠ t → s218 x = sh x := fun x h1 h2 => (k220 x (by omega)).trans (FS x h1 h2)
  clear e219 k220 B
  obtain ⟨s221, I222, e223, B, k224, k225, z⟩ := nAI_K (I := I214) (c := 240) (n := n + 23) A 0 (Or.inl rfl) (by omega) rfl
  refine OkE.b2s e223 (OkE.addN 22 1303 rfl rfl ?_)
  replace A : Lay s221 n [.inr (0, 2, 0), .inr (0, 5, 0), .inr (0, 5, 0), .inr (0, 5, 0), .inr (0, 100, 0), .inr (0, 5, 0), .inr (0, 60, 0), .inr (0, 60, 0), .inr (0, 60, 0), .inr (0, 60, 0), .inr (0, 60, 0), .inr (0, 500, 0), .inr (0, 101, 0), .inr (1, 100, 0), .inr (0, 24, 0), .inr (0, 48, 0), .inr (0, 5, 0), .inr (0, 5, 0), .inr (0, 5, 0), .inr (0, 5, 0), .inr (0, 5, 0), .inr (0, 5, 0), .inr (0, 240, 0), .inr (0, 240, 0)] := B
  replace T : Lay s221 t [.inl (7, [none, none, none, some (some (n + 0)), some (some (n + 1)), some (some (n + 2)), some (some (n + 3)), none, none, none, none, none, some (some (n + 4)), some (some (n + 5)), some (some (n + 6)), some (some (n + 7)), some (some (n + 8)), some (some (n + 9)), some (some (n + 10)), some (some (n + 11)), some (some (n + 12)), none, none, none, some (some (n + 13)), none, some (some (n + 14)), some (some (n + 15)), some (some (n + 16)), some (some (n + 17)), some (some (n + 18)), some (some (n + 19)), some (some (n + 20)), some (some (n + 21)), some (some (n + 22)), some none, some none, some none, some none, none, some none, some none, some none, some none, some none, none, none, none, none, none, none, none, some none, some none, some none, some none, some none, some none, some none, some none, some none, none, some none, some none, some none, some none, some none])] := T.kept (fun x h1 h2 => k224 x (by simp at h2; omega))
  replace V : Vals I222 t [3, 10, 0, 0, 0, 0, 0, 0, (-1), 0, 0, 0, 0, 0, 0, 0, 0, 0, 0, 0, 0, 0, 0, 0, 0, 0, 0, 0, 0, 0, 0, 0, 0, 0, 0, 0, 0, 0, 0, 0, 0, 0, 0, 0, 0, 0, 0, 0, 0, 0, 0, 0, 0, 0, 0, 0, 0, 0, 0, 0, 0, 0, 0, 0, 0, 0, 0] := V.kept (k225 t (by omega))
  replace FS : ∀ x, x < n → x ≠ t → s221 x = sh x := fun x h1 h2 => (k224 x (by omega)).trans (FS x h1 h2)
  replace Z : ∀ x j, n ≤ x → x < n + 24 → x ≠ n + 42 → I222 x j = 0 := fun x j h1 h2 h3 => by
    by_cases hx : x = n + 23
    · rw [hx]
      exact z j
    · rw [k225 x hx]
      exact Z x j h1 (by omega) h3
  replace FI : ∀ x, x < n → x ≠ t → I222 x = I x := fun x h1 h2 => (k225 x (by omega)).trans (FI x h1 h2)
  clear e223 k224 k225 z B
  obtain ⟨s226, e227, B, k228⟩ := pR_L T 0 35 (n + 23) rfl ⟨none, rfl⟩
  refine OkE.bs e227 ?_
  replace T : Lay s226 t [.inl (7, [none, none, none, some (some (n + 0)), some (some (n + 1)), some (some (n + 2)), some (some (n + 3)), none, none, none, none, none, some (some (n + 4)), some (some (n + 5)), some (some (n + 6)), some (some (n + 7)), some (some (n + 8)), some (some (n + 9)), some (some (n + 10)), some (some (n + 11)), some (some (n + 12)), none, none, none, some (some (n + 13)), none, some (some (n + 14)), some (some (n + 15)), some (some (n + 16)), some (some (n + 17)), some (some (n + 18)), some (some (n + 19)), some (some (n + 20)), some (some (n + 21)), some (some (n + 22)), some (some (n + 23)), some none, some none, some none, none, some none, some none, some none, some none, some none, none, none, none, none, none, none, none, some none, some none, some none, some none, some none, some none, some none, some none, some none, none, some none, some none, some none, some none, some none])] := B
  replace A : Lay s226 n [.inr (0, 2, 0), .inr (0, 5, 0), .inr (0, 5, 0), .inr (0, 5, 0), .inr (0, 100, 0), .inr (0, 5, 0), .inr (0, 60, 0), .inr (0, 60, 0), .inr (0, 60, 0), .inr (0, 60, 0), .inr (0, 60, 0), .inr (0, 500, 0), .inr (0, 101, 0), .inr (1, 100, 0), .inr (0, 24, 0), .inr (0, 48, 0), .inr (0, 5, 0), .inr (0, 5, 0), .inr (0, 5, 0), .inr (0, 5, 0), .inr (0, 5, 0), .inr (0, 5, 0), .inr (0, 240, 0), .inr (0, 240, 0)] := A.kept (fun x h1 h2 => k228 x (by omega))
  replace FS : ∀ x, x < n → x ≠ t → s226 x = sh x := fun x h1 h2 => (k228 x (by omega)).trans (FS x h1 h2)
  clear e227 k228 B
  obtain ⟨s229, I230, e231, B, k232, k233, z⟩ := nAI_K (I := I222) (c := 240) (n := n + 24) A 0 (Or.inl rfl) (by omega) rfl
  refine OkE.b2s e231 (OkE.addN 21 1063 rfl rfl ?_)
  replace A : Lay s229 n [.inr (0, 2, 0), .inr (0, 5, 0), .inr (0, 5, 0), .inr (0, 5, 0), .inr (0, 100, 0), .inr (0, 5, 0), .inr (0, 60, 0), .inr (0, 60, 0), .inr (0, 60, 0), .inr (0, 60, 0), .inr (0, 60, 0), .inr (0, 500, 0), .inr (0, 101, 0), .inr (1, 100, 0), .inr (0, 24, 0), .inr (0, 48, 0), .inr (0, 5, 0), .inr (0, 5, 0), .inr (0, 5, 0), .inr (0, 5, 0), .inr (0, 5, 0), .inr (0, 5, 0), .inr (0, 240, 0), .inr (0, 240, 0), .inr (0, 240, 0)] := B
  replace T : Lay s229 t [.inl (7, [none, none, none, some (some (n + 0)), some (some (n + 1)), some (some (n + 2)), some (some (n + 3)), none, none, none, none, none, some (some (n + 4)), some (some (n + 5)), some (some (n + 6)), some (some (n + 7)), some (some (n + 8)), some (some (n + 9)), some (some (n + 10)), some (some (n + 11)), some (some (n + 12)), none, none, none, some (some (n + 13)), none, some (some (n + 14)), some (some (n + 15)), some (some (n + 16)), some (some (n + 17)), some (some (n + 18)), some (some (n + 19)), some (some (n + 20)), some (some (n + 21)), some (some (n + 22)), some (some (n + 23)), some none, some none, some none, none, some none, some none, some none, some none, some none, none, none, none, none, none, none, none, some none, some none, some none, some none, some none, some none, some none, some none, some none, none, some none, some none, some none, some none, some none])] := T.kept (fun x h1 h2 => k232 x (by simp at h2; omega))
  replace V : Vals I230 t [3, 10, 0, 0, 0, 0, 0, 0, (-1), 0, 0, 0, 0, 0, 0, 0, 0, 0, 0, 0, 0, 0, 0, 0, 0, 0, 0, 0, 0, 0, 0, 0, 0, 0, 0, 0, 0, 0, 0, 0, 0, 0, 0, 0, 0, 0, 0, 0, 0, 0, 0, 0, 0, 0, 0, 0, 0, 0, 0, 0, 0, 0, 0, 0, 0, 0, 0] := V.kept (k233 t (by omega))
  replace FS : ∀ x, x < n → x ≠ t → s229 x = sh x := fun x h1 h2 => (k232 x (by omega)).trans (FS x h1 h2)
  replace Z : ∀ x j, n ≤ x → x < n + 25 → x ≠ n + 42 → I230 x j = 0 := fun x j h1 h2 h3 => by
    by_cases hx : x = n + 24
    · rw [hx]
      exact z j
    · rw [k233 x hx]
      exact Z x j h1 (by omega) h3
  replace FI : ∀ x, x < n → x ≠ t → I230 x = I x := fun x h1 h2 => (k233 x (by omega)).trans (FI x h1 h2)
  clear e231 k232 k233 z B
  obtain ⟨s234, e235, B, k236⟩ := pR_L T 0 36 (n + 24) rfl ⟨none, rfl⟩
  refine OkE.bs e235 ?_
  replace T : Lay s234 t [.inl (7, [none, none, none, some (some (n + 0)), some (some (n + 1)), some (some (n + 2)), some (some (n + 3)), none, none, none, none, none, some (some (n + 4)), some (some (n + 5)), some (some (n + 6)), some (some (n + 7)), some (some (n + 8)), some (some (n + 9)), some (some (n + 10)), some (some (n + 11)), some (some (n + 12)), none, none, none, some (some (n + 13)), none, some (some (n + 14)), some (some (n + 15)), some (some (n + 16)), some (some (n + 17)), some (some (n + 18)), some (some (n + 19)), some (some (n + 20)), some (some (n + 21)), some (some (n + 22)), some (some (n + 23)), some (some (n + 24)), some none, some none, none, some none, some none, some none, some none, some none, none, none, none, none, none, none, none, some none, some none, some none, some none, some none, some none, some none, some none, some none, none, some none, some none, some none, some none, some none])] := B
  replace A : Lay s234 n [.inr (0, 2, 0), .inr (0, 5, 0), .inr (0, 5, 0), .inr (0, 5, 0), .inr (0, 100, 0), .inr (0, 5, 0), .inr (0, 60, 0), .inr (0, 60, 0), .inr (0, 60, 0), .inr (0, 60, 0), .inr (0, 60, 0), .inr (0, 500, 0), .inr (0, 101, 0), .inr (1, 100, 0), .inr (0, 24, 0), .inr (0, 48, 0), .inr (0, 5, 0), .inr (0, 5, 0), .inr (0, 5, 0), .inr (0, 5, 0), .inr (0, 5, 0), .inr (0, 5, 0), .inr (0, 240, 0), .inr (0, 240, 0), .inr (0, 240, 0)] := A.kept (fun x h1 h2 => k236 x (by omega))
  replace FS : ∀ x, x < n → x ≠ t → s234 x = sh x := fun x h1 h2 => (k236 x (by omega)).trans (FS x h1 h2)
  clear e235 k236 B
  obtain ⟨s237, I238, e239, B, k240, k241, z⟩ := nAI_K (I := I230) (c := 240) (n := n + 25) A 0 (Or.inl rfl) (by omega) rfl
  refine OkE.b2s e239 (OkE.addN 20 823 rfl rfl ?_)
  replace A : Lay s237 n [.inr (0, 2, 0), .inr (0, 5, 0), .inr (0, 5, 0), .inr (0, 5, 0), .inr (0, 100, 0), .inr (0, 5, 0), .inr (0, 60, 0), .inr (0, 60, 0), .inr (0, 60, 0), .inr (0, 60, 0), .inr (0, 60, 0), .inr (0, 500, 0), .inr (0, 101, 0), .inr (1, 100, 0), .inr (0, 24, 0), .inr (0, 48, 0), .inr (0, 5, 0), .inr (0, 5, 0), .inr (0, 5, 0), .inr (0, 5, 0), .inr (0, 5, 0), .inr (0, 5, 0), .inr (0, 240, 0), .inr (0, 240, 0), .inr (0, 240, 0), .inr (0, 240, 0)] := B
  replace T : Lay s237 t [.inl (7, [none, none, none, some (some (n + 0)), some (some (n + 1)), some (some (n + 2)), some (some (n + 3)), none, none, none, none, none, some (some (n + 4)), some (some (n + 5)), some (some (n + 6)), some (some (n + 7)), some (some (n + 8)), some (some (n + 9)), some (some (n + 10)), some (some (n + 11)), some (some (n + 12)), none, none, none, some (some (n + 13)), none, some (some (n + 14)), some (some (n + 15)), some (some (n + 16)), some (some (n + 17)), some (some (n + 18)), some (some (n + 19)), some (some (n + 20)), some (some (n + 21)), some (some (n + 22)), some (some (n + 23)), some (some (n + 24)), some none, some none, none, some none, some none, some none, some none, some none, none, none, none, none, none, none, none, some none, some none, some none, some none, some none, some none, some none, some none, some none, none, some none, some none, some none, some none, some none])] := T.kept (fun x h1 h2 => k240 x (by simp at h2; omega))
  replace V : Vals I238 t [3, 10, 0, 0, 0, 0, 0, 0, (-1), 0, 0, 0, 0, 0, 0, 0, 0, 0, 0, 0, 0, 0, 0, 0, 0, 0, 0, 0, 0, 0, 0, 0, 0, 0, 0, 0, 0, 0, 0, 0, 0, 0, 0, 0, 0, 0, 0, 0, 0, 0, 0, 0, 0, 0, 0, 0, 0, 0, 0, 0, 0, 0, 0, 0, 0, 0, 0] := V.kept (k241 t (by omega))
  replace FS : ∀ x, x < n → x ≠ t → s237 x = sh x := fun x h1 h2 => (k240 x (by omega)).trans (FS x h1 h2)
  replace Z : ∀ x j, n ≤ x → x < n + 26 → x ≠ n + 42 → I238 x j = 0 := fun x j h1 h2 h3 => by
    by_cases hx : x = n + 25
    · rw [hx]
      exact z j
    · rw [k241 x hx]
      exact Z x j h1 (by omega) h3
  replace FI : ∀ x, x < n → x ≠ t → I238 x = I x := fun x h1 h2 => (k241 x (by omega)).trans (FI x h1 h2)
  clear e239 k240 k241 z B
  obtain ⟨s242, e243, B, k244⟩ := pR_L T 0 37 (n + 25) rfl ⟨none, rfl⟩
  refine OkE.bs e243 ?_
  replace T : Lay s242 t [.inl (7, [none, none, none, some (some (n + 0)), some (some (n + 1)), some (some (n + 2)), some (some (n + 3)), none, none, none, none, none, some (some (n + 4)), some (some (n + 5)), some (some (n + 6)), some (some (n + 7)), some (some (n + 8)), some (some (n + 9)), some (some (n + 10)), some (some (n + 11)), some (some (n + 12)), none, none, none, some (some (n + 13)), none, some (some (n + 14)), some (some (n + 15)), some (some (n + 16)), some (some (n + 17)), some (some (n + 18)), some (some (n + 19)), some (some (n + 20)), some (some (n + 21)), some (some (n + 22)), some (some (n + 23)), some (some (n + 24)), some (some (n + 25)), some none, none, some none, some none, some none, some none, some none, none, none, none, none, none, none, none, some none, some none, some none, some none, some none, some none, some none, some none, some none, none, some none, some none, some none, some none, some none])] := B
  replace A : Lay s242 n [.inr (0, 2, 0), .inr (0, 5, 0), .inr (0, 5, 0), .inr (0, 5, 0), .inr (0, 100, 0), .inr (0, 5, 0), .inr (0, 60, 0), .inr (0, 60, 0), .inr (0, 60, 0), .inr (0, 60, 0), .inr (0, 60, 0), .inr (0, 500, 0), .inr (0, 101, 0), .inr (1, 100, 0), .inr (0, 24, 0), .inr (0, 48, 0), .inr (0, 5, 0), .inr (0, 5, 0), .inr (0, 5, 0), .inr (0, 5, 0), .inr (0, 5, 0), .inr (0, 5, 0), .inr (0, 240, 0), .inr (0, 240, 0), .inr (0, 240, 0), .inr (0, 240, 0)] := A.kept (fun x h1 h2 => k244 x (by omega))
  replace FS : ∀ x, x < n → x ≠ t → s242 x = sh x := fun x h1 h2 => (k244 x (by omega)).trans (FS x h1 h2)
  clear e243 k244 B
  obtain ⟨s245, I246, e247, B, k248, k249, z⟩ := nAI_K (I := I238) (c := 240) (n := n + 26) A 0 (Or.inl rfl) (by omega) rfl
  refine OkE.b2s e247 (OkE.addN 19 583 rfl rfl ?_)
  replace A : Lay s245 n [.inr (0, 2, 0), .inr (0, 5, 0), .inr (0, 5, 0), .inr (0, 5, 0), .inr (0, 100, 0), .inr (0, 5, 0), .inr (0, 60, 0), .inr (0, 60, 0), .inr (0, 60, 0), .inr (0, 60, 0), .inr (0, 60, 0), .inr (0, 500, 0), .inr (0, 101, 0), .inr (1, 100, 0), .inr (0, 24, 0), .inr (0, 48, 0), .inr (0, 5, 0), .inr (0, 5, 0), .inr (0, 5, 0), .inr (0, 5, 0), .inr (0, 5, 0), .inr (0, 5, 0), .inr (0, 240, 0), .inr (0, 240, 0), .inr (0, 240, 0), .inr (0, 240, 0), .inr (0, 240, 0)] := B
  replace T : Lay s245 t [.inl (7, [none, none, none, some (some (n + 0)), some (some (n + 1)), some (some (n + 2)), some (some (n + 3)), none, none, none, none, none, some (some (n + 4)), some (some (n + 5)), some (some (n + 6)), some (some (n + 7)), some (some (n + 8)), some (some (n + 9)), some (some (n + 10)), some (some (n + 11)), some (some (n + 12)), none, none, none, some (some (n + 13)), none, some (some (n + 14)), some (some (n + 15)), some (some (n + 16)), some (some (n + 17)), some (some (n + 18)), some (some (n + 19)), some (some (n + 20)), some (some (n + 21)), some (some (n + 22)), some (some (n + 23)), some (some (n + 24)), some (some (n + 25)), some none, none, some none, some none, some none, some none, some none, none, none, none, none, none, none, none, some none, some none, some none, some none, some none, some none, some none, some none, some none, none, some none, some none, some none, some none, some none])] := T.kept (fun x h1 h2 => k248 x (by simp at h2; omega))
  replace V : Vals I246 t [3, 10, 0, 0, 0, 0, 0, 0, (-1), 0, 0, 0, 0, 0, 0, 0, 0, 0, 0, 0, 0, 0, 0, 0, 0, 0, 0, 0, 0, 0, 0, 0, 0, 0, 0, 0, 0, 0, 0, 0, 0, 0, 0, 0, 0, 0, 0, 0, 0, 0, 0, 0, 0, 0, 0, 0, 0, 0, 0, 0, 0, 0, 0, 0, 0, 0, 0] := V.kept (k249 t (by omega))
  replace FS : ∀ x, x < n → x ≠ t → s245 x = sh x := fun x h1 h2 => (k248 x (by omega)).trans (FS x h1 h2)
  replace Z : ∀ x j, n ≤ x → x < n + 27 → x ≠ n + 42 → I246 x j = 0 := fun x j h1 h2 h3 => by
    by_cases hx : x = n + 26
    · rw [hx]
      exact z j
    · rw [k249 x hx]
      exact Z x j h1 (by omega) h3
  replace FI : ∀ x, x < n → x ≠ t → I246 x = I x := fun x h1 h2 => (k249 x (by omega)).trans (FI x h1 h2)
  clear e247 k248 k249 z B
  obtain ⟨s250, e251, B, k252⟩ := pR_L T 0 38 (n + 26) rfl ⟨none, rfl⟩
  refine OkE.bs e251 ?_
  replace T : Lay s250 t [.inl (7, [none, none, none, some (some (n + 0)), some (some (n + 1)), some (some (n + 2)), some (some (n + 3)), none, none, none, none, none, some (some (n + 4)), some (some (n + 5)), some (some (n + 6)), some (some (n + 7)), some (some (n + 8)), some (some (n + 9)), some (some (n + 10)), some (some (n + 11)), some (some (n + 12)), none, none, none, some (some (n + 13)), none, some (some (n + 14)), some (some (n + 15)), some (some (n + 16)), some (some (n + 17)), some (some (n + 18)), some (some (n + 19)), some (some (n + 20)), some (some (n + 21)), some (some (n + 22)), some (some (n + 23)), some (some (n + 24)), some (some (n + 25)), some (some (n + 26)), none, some none, some none, some none, some none, some none, none, none, none, none, none, none, none, some none, some none, some none, some none, some none, some none, some none, some none, some none, none, some none, some none, some none, some none, some none])] := B
  replace A : Lay s250 n [.inr (0, 2, 0), .inr (0, 5, 0), .inr (0, 5, 0), .inr (0, 5, 0), .inr (0, 100, 0), .inr (0, 5, 0), .inr (0, 60, 0), .inr (0, 60, 0), .inr (0, 60, 0), .inr (0, 60, 0), .inr (0, 60, 0), .inr (0, 500, 0), .inr (0, 101, 0), .inr (1, 100, 0), .inr (0, 24, 0), .inr (0, 48, 0), .inr (0, 5, 0), .inr (0, 5, 0), .inr (0, 5, 0), .inr (0, 5, 0), .inr (0, 5, 0), .inr (0, 5, 0), .inr (0, 240, 0), .inr (0, 240, 0), .inr (0, 240, 0), .inr (0, 240, 0), .inr (0, 240, 0)] := A.kept (fun x h1 h2 => k252 x (by omega))
  replace FS : ∀ x, x < n → x ≠ t → s250 x = sh x := fun x h1 h2 => (k252 x (by omega)).trans (FS x h1 h2)
  clear e251 k252 B
  obtain ⟨I253, e254, k255, W⟩ := pI_K (I := I246) T 0 39 0 V rfl rfl
  refine OkE.bs e254 ?_
  replace V : Vals I253 t [3, 10, 0, 0, 0, 0, 0, 0, (-1), 0, 0, 0, 0, 0, 0, 0, 0, 0, 0, 0, 0, 0, 0, 0, 0, 0, 0, 0, 0, 0, 0, 0, 0, 0, 0, 0, 0, 0, 0, 0, 0, 0, 0, 0, 0, 0, 0, 0, 0, 0, 0, 0, 0, 0, 0, 0, 0, 0, 0, 0, 0, 0, 0, 0, 0, 0, 0] := W
  replace Z : ∀ x j, n ≤ x → x < n + 27 → x ≠ n + 42 → I253 x j = 0 := fun x j h1 h2 h3 => by
    rw [k255 x (by omega)]
    exact Z x j h1 h2 h3
  replace FI : ∀ x, x < n → x ≠ t → I253 x = I x := fun x h1 h2 => (k255 x (by omega)).trans (FI x h1 h2)
  clear e254 k255 W
  obtain ⟨s256, I257, e258, B, k259, k260, z⟩ := nAI_K (I := I253) (c := 10) (n := n + 27) A 0 (Or.inl rfl) (by omega) rfl
  refine OkE.b2s e258 (OkE.addN 18 573 rfl rfl ?_)
  replace A : Lay s256 n [.inr (0, 2, 0), .inr (0, 5, 0), .inr (0, 5, 0), .inr (0, 5, 0), .inr (0, 100, 0), .inr (0, 5, 0), .inr (0, 60, 0), .inr (0, 60, 0), .inr (0, 60, 0), .inr (0, 60, 0), .inr (0, 60, 0), .inr (0, 500, 0), .inr (0, 101, 0), .inr (1, 100, 0), .inr (0, 24, 0), .inr (0, 48, 0), .inr (0, 5, 0), .inr (0, 5, 0), .inr (0, 5, 0), .inr (0, 5, 0), .inr (0, 5, 0), .inr (0, 5, 0), .inr (0, 240, 0), .inr (0, 240, 0), .inr (0, 240, 0), .inr (0, 240, 0), .inr (0, 240, 0), .inr (0, 10, 0)] := B
  replace T : Lay s256 t [.inl (7, [none, none, none, some (some (n + 0)), some (some (n + 1)), some (some (n + 2)), some (some (n + 3)), none, none, none, none, none, some (some (n + 4)), some (some (n + 5)), some (some (n + 6)), some (some (n + 7)), some (some (n + 8)), some (some (n + 9)), some (some (n + 10)), some (some (n + 11)), some (some (n + 12)), none, none, none, some (some (n + 13)), none, some (some (n + 14)), some (some (n + 15)), some (some (n + 16)), some (some (n + 17)), some (some (n + 18)), some (some (n + 19)), some (some (n + 20)), some (some (n + 21)), some (some (n + 22)), some (some (n + 23)), some (some (n + 24)), some (some (n + 25)), some (some (n + 26)), none, some none, some none, some none, some none, some none, none, none, none, none, none, none, none, some none, some none, some none, some none, some none, some none, some none, some none, some none, none, some none, some none, some none, some none, some none])] := T.kept (fun x h1 h2 => k259 x (by simp at h2; omega))
  replace V : Vals I257 t [3, 10, 0, 0, 0, 0, 0, 0, (-1), 0, 0, 0, 0, 0, 0, 0, 0, 0, 0, 0, 0, 0, 0, 0, 0, 0, 0, 0, 0, 0, 0, 0, 0, 0, 0, 0, 0, 0, 0, 0, 0, 0, 0, 0, 0, 0, 0, 0, 0, 0, 0, 0, 0, 0, 0, 0, 0, 0, 0, 0, 0, 0, 0, 0, 0, 0, 0] := V.kept (k260 t (by omega))
  replace FS : ∀ x, x < n → x ≠ t → s256 x = sh x := fun x h1 h2 => (k259 x (by omega)).trans (FS x h1 h2)
  replace Z : ∀ x j, n ≤ x → x < n + 28 → x ≠ n + 42 → I257 x j = 0 := fun x j h1 h2 h3 => by
    by_cases hx : x = n + 27
    · rw [hx]
      exact z j
    · rw [k260 x hx]
      exact Z x j h1 (by omega) h3
  replace FI : ∀ x, x < n → x ≠ t → I257 x = I x := fun x h1 h2 => (k260 x (by omega)).trans (FI x h1 h2)
  clear e258 k259 k260 z B
  obtain ⟨s261, e262, B, k263⟩ := pR_L T 0 40 (n + 27) rfl ⟨none, rfl⟩
  refine OkE.bs e262 ?_
  replace T : Lay s261 t [.inl (7, [none, none, none, some (some (n + 0)), some (some (n + 1)), some (some (n + 2)), some (some (n + 3)), none, none, none, none, none, some (some (n + 4)), some (some (n + 5)), some (some (n + 6)), some (some (n + 7)), some (some (n + 8)), some (some (n + 9)), some (some (n + 10)), some (some (n + 11)), some (some (n + 12)), none, none, none, some (some (n + 13)), none, some (some (n + 14)), some (some (n + 15)), some (some (n + 16)), some (some (n + 17)), some (some (n + 18)), some (some (n + 19)), some (some (n + 20)), some (some (n + 21)), some (some (n + 22)), some (some (n + 23)), some (some (n + 24)), some (some (n + 25)), some (some (n + 26)), none, some (some (n + 27)), some none, some none, some none, some none, none, none, none, none, none, none, none, some none, some none, some none, some none, some none, some none, some none, some none, some none, none, some none, some none, some none, some none, some none])] := B
  replace A : Lay s261 n [.inr (0, 2, 0), .inr (0, 5, 0), .inr (0, 5, 0), .inr (0, 5, 0), .inr (0, 100, 0), .inr (0, 5, 0), .inr (0, 60, 0), .inr (0, 60, 0), .inr (0, 60, 0), .inr (0, 60, 0), .inr (0, 60, 0), .inr (0, 500, 0), .inr (0, 101, 0), .inr (1, 100, 0), .inr (0, 24, 0), .inr (0, 48, 0), .inr (0, 5, 0), .inr (0, 5, 0), .inr (0, 5, 0), .inr (0, 5, 0), .inr (0, 5, 0), .inr (0, 5, 0), .inr (0, 240, 0), .inr (0, 240, 0), .inr (0, 240, 0), .inr (0, 240, 0), .inr (0, 240, 0), .inr (0, 10, 0)] := A.kept (fun x h1 h2 => k263 x (by omega))
  replace FS : ∀ x, x < n → x ≠ t → s261 x = sh x := fun x h1 h2 => (k263 x (by omega)).trans (FS x h1 h2)
  clear e262 k263 B
  obtain ⟨s264, I265, e266, B, k267, k268, z⟩ := nAI_K (I := I257) (c := 10) (n := n + 28) A 0 (Or.inl rfl) (by omega) rfl
  refine OkE.b2s e266 (OkE.addN 17 563 rfl rfl ?_)
  replace A : Lay s264 n [.inr (0, 2, 0), .inr (0, 5, 0), .inr (0, 5, 0), .inr (0, 5, 0), .inr (0, 100, 0), .inr (0, 5, 0), .inr (0, 60, 0), .inr (0, 60, 0), .inr (0, 60, 0), .inr (0, 60, 0), .inr (0, 60, 0), .inr (0, 500, 0), .inr (0, 101, 0), .inr (1, 100, 0), .inr (0, 24, 0), .inr (0, 48, 0), .inr (0, 5, 0), .inr (0, 5, 0), .inr (0, 5, 0), .inr (0, 5, 0), .inr (0, 5, 0), .inr (0, 5, 0), .inr (0, 240, 0), .inr (0, 240, 0), .inr (0, 240, 0), .inr (0, 240, 0), .inr (0, 240, 0), .inr (0, 10, 0), .inr (0, 10, 0)] := B
  replace T : Lay s264 t [.inl (7, [none, none, none, some (some (n + 0)), some (some (n + 1)), some (some (n + 2)), some (some (n + 3)), none, none, none, none, none, some (some (n + 4)), some (some (n + 5)), some (some (n + 6)), some (some (n + 7)), some (some (n + 8)), some (some (n + 9)), some (some (n + 10)), some (some (n + 11)), some (some (n + 12)), none, none, none, some (some (n + 13)), none, some (some (n + 14)), some (some (n + 15)), some (some (n + 16)), some (some (n + 17)), some (some (n + 18)), some (some (n + 19)), some (some (n + 20)), some (some (n + 21)), some (some (n + 22)), some (some (n + 23)), some (some (n + 24)), some (some (n + 25)), some (some (n + 26)), none, some (some (n + 27)), some none, some none, some none, some none, none, none, none, none, none, none, none, some none, some none, some none, some none, some none, some none, some none, some none, some none, none, some none, some none, some none, some none, some none])] := T.kept (fun x h1 h2 => k267 x (by simp at h2; omega))
  replace V : Vals I265 t [3, 10, 0, 0, 0, 0, 0, 0, (-1), 0, 0, 0, 0, 0, 0, 0, 0, 0, 0, 0, 0, 0, 0, 0, 0, 0, 0, 0, 0, 0, 0, 0, 0, 0, 0, 0, 0, 0, 0, 0, 0, 0, 0, 0, 0, 0, 0, 0, 0, 0, 0, 0, 0, 0, 0, 0, 0, 0, 0, 0, 0, 0, 0, 0, 0, 0, 0] := V.kept (k268 t (by omega))
  replace FS : ∀ x, x < n → x ≠ t → s264 x = sh x := fun x h1 h2 => (k267 x (by omega)).trans (FS x h1 h2)
  replace Z : ∀ x j, n ≤ x → x < n + 29 → x ≠ n + 42 → I265 x j = 0 := fun x j h1 h2 h3 => by
    by_cases hx : x = n + 28
    · rw [hx]
      exact z j
    · rw [k268 x hx]
      exact Z x j h1 (by omega) h3
  replace FI : ∀ x, x < n → x ≠ t → I265 x = I x := fun x h1 h2 => (k268 x (by omega)).trans (FI x h1 h2)
  clear e266 k267 k268 z B
  obtain ⟨s269, e270, B, k271⟩ := pR_L T 0 41 (n + 28) rfl ⟨none, rfl⟩
  refine OkE.bs e270 ?_
  replace T : Lay s269 t [.inl (7, [none, none, none, some (some (n + 0)), some (some (n + 1)), some (some (n + 2)), some (some (n + 3)), none, none, none, none, none, some (some (n + 4)), some (some (n + 5)), some (some (n + 6)), some (some (n + 7)), some (some (n + 8)), some (some (n + 9)), some (some (n + 10)), some (some (n + 11)), some (some (n + 12)), none, none, none, some (some (n + 13)), none, some (some (n + 14)), some (some (n + 15)), some (some (n + 16)), some (some (n + 17)), some (some (n + 18)), some (some (n + 19)), some (some (n + 20)), some (some (n + 21)), some (some (n + 22)), some (some (n + 23)), some (some (n + 24)), some (some (n + 25)), some (some (n + 26)), none, some (some (n + 27)), some (some (n + 28)), some none, some none, some none, none, none, none, none, none, none, none, some none, some none, some none, some none, some none, some none, some none, some none, some none, none, some none, some none, some none, some none, some none])] := B
  replace A : Lay s269 n [.inr (0, 2, 0), .inr (0, 5, 0), .inr (0, 5, 0), .inr (0, 5, 0), .inr (0, 100, 0), .inr (0, 5, 0), .inr (0, 60, 0), .inr (0, 60, 0), .inr (0, 60, 0), .inr (0, 60, 0), .inr (0, 60, 0), .inr (0, 500, 0), .inr (0, 101, 0), .inr (1, 100, 0), .inr (0, 24, 0), .inr (0, 48, 0), .inr (0, 5, 0), .inr (0, 5, 0), .inr (0, 5, 0), .inr (0, 5, 0), .inr (0, 5, 0), .inr (0, 5, 0), .inr (0, 240, 0), .inr (0, 240, 0), .inr (0, 240, 0), .inr (0, 240, 0), .inr (0, 240, 0), .inr (0, 10, 0), .inr (0, 10, 0)] := A.kept (fun x h1 h2 => k271 x (by omega))
  replace FS : ∀ x, x < n → x ≠ t → s269 x = sh x := fun x h1 h2 => (k271 x (by omega)).trans (FS x h1 h2)
  clear e270 k271 B
  obtain ⟨s272, I273, e274, B, k275, k276, z⟩ := nAI_K (I := I265) (c := 10) (n := n + 29) A 0 (Or.inl rfl) (by omega) rfl
  refine OkE.b2s e274 (OkE.addN 16 553 rfl rfl ?_)
  replace A : Lay s272 n [.inr (0, 2, 0), .inr (0, 5, 0), .inr (0, 5, 0), .inr (0, 5, 0), .inr (0, 100, 0), .inr (0, 5, 0), .inr (0, 60, 0), .inr (0, 60, 0), .inr (0, 60, 0), .inr (0, 60, 0), .inr (0, 60, 0), .inr (0, 500, 0), .inr (0, 101, 0), .inr (1, 100, 0), .inr (0, 24, 0), .inr (0, 48, 0), .inr (0, 5, 0), .inr (0, 5, 0), .inr (0, 5, 0), .inr (0, 5, 0), .inr (0, 5, 0), .inr (0, 5, 0), .inr (0, 240, 0), .inr (0, 240, 0), .inr (0, 240, 0), .inr (0, 240, 0), .inr (0, 240, 0), .inr (0, 10, 0), .inr (0, 10, 0), .inr (0, 10, 0)] := B
  replace T : Lay s272 t [.inl (7, [none, none, none, some (some (n + 0)), some (some (n + 1)), some (some (n + 2)), some (some (n + 3)), none, none, none, none, none, some (some (n + 4)), some (some (n + 5)), some (some (n + 6)), some (some (n + 7)), some (some (n + 8)), some (some (n + 9)), some (some (n + 10)), some (some (n + 11)), some (some (n + 12)), none, none, none, some (some (n + 13)), none, some (some (n + 14)), some (some (n + 15)), some (some (n + 16)), some (some (n + 17)), some (some (n + 18)), some (some (n + 19)), some (some (n + 20)), some (some (n + 21)), some (some (n + 22)), some (some (n + 23)), some (some (n + 24)), some (some (n + 25)), some (some (n + 26)), none, some (some (n + 27)), some (some (n + 28)), some none, some none, some none, none, none, none, none, none, none, none, some none, some none, some none, some none, some none, some none, some none, some none, some none, none, some none, some none, some none, some none, some none])] := T.kept (fun x h1 h2 => k275 x (by simp at h2; omega))
  replace V : Vals I273 t [3, 10, 0, 0, 0, 0, 0, 0, (-1), 0, 0, 0, 0, 0, 0, 0, 0, 0, 0, 0, 0, 0, 0, 0, 0, 0, 0, 0, 0, 0, 0, 0, 0, 0, 0, 0, 0, 0, 0, 0, 0, 0, 0, 0, 0, 0, 0, 0, 0, 0, 0, 0, 0, 0, 0, 0, 0, 0, 0, 0, 0, 0, 0, 0, 0, 0, 0] := V.kept (k276 t (by omega))
  replace FS : ∀ x, x < n → x ≠ t → s272 x = sh x := fun x h1 h2 => (k275 x (by omega)).trans (FS x h1 h2)
  replace Z : ∀ x j, n ≤ x → x < n + 30 → x ≠ n + 42 → I273 x j = 0 := fun x j h1 h2 h3 => by
    by_cases hx : x = n + 29
    · rw [hx]
      exact z j
    · rw [k276 x hx]
      exact Z x j h1 (by omega) h3
  replace FI : ∀ x, x < n → x ≠ t → I273 x = I x := fun x h1 h2 => (k276 x (by omega)).trans (FI x h1 h2)
  clear e274 k275 k276 z B
  obtain ⟨s277, e278, B, k279⟩ := pR_L T 0 42 (n + 29) rfl ⟨none, rfl⟩
  refine OkE.bs e278 ?_
  replace T : Lay s277 t [.inl (7, [none, none, none, some (some (n + 0)), some (some (n + 1)), some (some (n + 2)), some (some (n + 3)), none, none, none, none, none, some (some (n + 4)), some (some (n + 5)), some (some (n + 6)), some (some (n + 7)), some (some (n + 8)), some (some (n + 9)), some (some (n + 10)), some (some (n + 11)), some (some (n + 12)), none, none, none, some (some (n + 13)), none, some (some (n + 14)), some (some (n + 15)), some (some (n + 16)), some (some (n + 17)), some (some (n + 18)), some (some (n + 19)), some (some (n + 20)), some (some (n + 21)), some (some (n + 22)), some (some (n + 23)), some (some (n + 24)), some (some (n + 25)), some (some (n + 26)), none, some (some (n + 27)), some (some (n + 28)), some (some (n + 29)), some none, some none, none, none, none, none, none, none, none, some none, some none, some none, some none, some none, some none, some none, some none, some none, none, some none, some none, some none, some none, some none])] := B
  replace A : Lay s277 n [.inr (0, 2, 0), .inr (0, 5, 0), .inr (0, 5, 0), .inr (0, 5, 0), .inr (0, 100, 0), .inr (0, 5, 0), .inr (0, 60, 0), .inr (0, 60, 0), .inr (0, 60, 0), .inr (0, 60, 0), .inr (0, 60, 0), .inr (0, 500, 0), .inr (0, 101, 0), .inr (1, 100, 0), .inr (0, 24, 0), .inr (0, 48, 0), .inr (0, 5, 0), .inr (0, 5, 0), .inr (0, 5, 0), .inr (0, 5, 0), .inr (0, 5, 0), .inr (0, 5, 0), .inr (0, 240, 0), .inr (0, 240, 0), .inr (0, 240, 0), .inr (0, 240, 0), .inr (0, 240, 0), .inr (0, 10, 0), .inr (0, 10, 0), .inr (0, 10, 0)] := A.kept (fun x h1 h2 => k279 x (by omega))
  replace FS : ∀ x, x < n → x ≠ t → s277 x = sh x := fun x h1 h2 => (k279 x (by omega)).trans (FS x h1 h2)
  clear e278 k279 B
  obtain ⟨s280, I281, e282, B, k283, k284, z⟩ := nAI_K (I := I273) (c := 10) (n := n + 30) A 0 (Or.inl rfl) (by omega) rfl
  refine OkE.b2s e282 (OkE.addN 15 543 rfl rfl ?_)
  replace A : Lay s280 n [.inr (0, 2, 0), .inr (0, 5, 0), .inr (0, 5, 0), .inr (0, 5, 0), .inr (0, 100, 0), .inr (0, 5, 0), .inr (0, 60, 0), .inr (0, 60, 0), .inr (0, 60, 0), .inr (0, 60, 0), .inr (0, 60, 0), .inr (0, 500, 0), .inr (0, 101, 0), .inr (1, 100, 0), .inr (0, 24, 0), .inr (0, 48, 0), .inr (0, 5, 0), .inr (0, 5, 0), .inr (0, 5, 0), .inr (0, 5, 0), .inr (0, 5, 0), .inr (0, 5, 0), .inr (0, 240, 0), .inr (0, 240, 0), .inr (0, 240, 0), .inr (0, 240, 0), .inr (0, 240, 0), .inr (0, 10, 0), .inr (0, 10, 0), .inr (0, 10, 0), .inr (0, 10, 0)] := B
  replace T : Lay s280 t [.inl (7, [none, none, none, some (some (n + 0)), some (some (n + 1)), some (some (n + 2)), some (some (n + 3)), none, none, none, none, none, some (some (n + 4)), some (some (n + 5)), some (some (n + 6)), some (some (n + 7)), some (some (n + 8)), some (some (n + 9)), some (some (n + 10)), some (some (n + 11)), some (some (n + 12)), none, none, none, some (some (n + 13)), none, some (some (n + 14)), some (some (n + 15)), some (some (n + 16)), some (some (n + 17)), some (some (n + 18)), some (some (n + 19)), some (some (n + 20)), some (some (n + 21)), some (some (n + 22)), some (some (n + 23)), some (some (n + 24)), some (some (n + 25)), some (some (n + 26)), none, some (some (n + 27)), some (some (n + 28)), some (some (n + 29)), some none, some none, none, none, none, none, none, none, none, some none, some none, some none, some none, some none, some none, some none, some none, some none, none, some none, some none, some none, some none, some none])] := T.kept (fun x h1 h2 => k283 x (by simp at h2; omega))
  replace V : Vals I281 t [3, 10, 0, 0, 0, 0, 0, 0, (-1), 0, 0, 0, 0, 0, 0, 0, 0, 0, 0, 0, 0, 0, 0, 0, 0, 0, 0, 0, 0, 0, 0, 0, 0, 0, 0, 0, 0, 0, 0, 0, 0, 0, 0, 0, 0, 0, 0, 0, 0, 0, 0, 0, 0, 0, 0, 0, 0, 0, 0, 0, 0, 0, 0, 0, 0, 0, 0] := V.kept (k284 t (by omega))
  replace FS : ∀ x, x < n → x ≠ t → s280 x = sh x := fun x h1 h2 => (k283 x (by omega)).trans (FS x h1 h2)
  replace Z : ∀ x j, n ≤ x → x < n + 31 → x ≠ n + 42 → I281 x j = 0 := fun x j h1 h2 h3 => by
    by_cases hx : x = n + 30
    · rw [hx]
      exact z j
    · rw [k284 x hx]
      exact Z x j h1 (by omega) h3
  replace FI : ∀ x, x < n → x ≠ t → I281 x = I x := fun x h1 h2 => (k284 x (by omega)).trans (FI x h1 h2)
  clear e282 k283 k284 z B
  obtain ⟨s285, e286, B, k287⟩ := pR_L T 0 43 (n + 30) rfl ⟨none, rfl⟩
  refine OkE.bs e286 ?_
  replace T : Lay s285 t [.inl (7, [none, none, none, some (some (n + 0)), some (some (n + 1)), some (some (n + 2)), some (some (n + 3)), none, none, none, none, none, some (some (n + 4)), some (some (n + 5)), some (some (n + 6)), some (some (n + 7)), some (some (n + 8)), some (some (n + 9)), some (some (n + 10)), some (some (n + 11)), some (some (n + 12)), none, none, none, some (some (n + 13)), none, some (some (n + 14)), some (some (n + 15)), some (some (n + 16)), some (some (n + 17)), some (some (n + 18)), some (some (n + 19)), some (some (n + 20)), some (some (n + 21)), some (some (n + 22)), some (some (n + 23)), some (some (n + 24)), some (some (n + 25)), some (some (n + 26)), none, some (some (n + 27)), some (some (n + 28)), some (some (n + 29)), some (some (n + 30)), some none, none, none, none, none, none, none, none, some none, some none, some none, some none, some none, some none, some none, some none, some none, none, some none, some none, some none, some none, some none])] := B
  replace A : Lay s285 n [.inr (0, 2, 0), .inr (0, 5, 0), .inr (0, 5, 0), .inr (0, 5, 0), .inr (0, 100, 0), .inr (0, 5, 0), .inr (0, 60, 0), .inr (0, 60, 0), .inr (0, 60, 0), .inr (0, 60, 0), .inr (0, 60, 0), .inr (0, 500, 0), .inr (0, 101, 0), .inr (1, 100, 0), .inr (0, 24, 0), .inr (0, 48, 0), .inr (0, 5, 0), .inr (0, 5, 0), .inr (0, 5, 0), .inr (0, 5, 0), .inr (0, 5, 0), .inr (0, 5, 0), .inr (0, 240, 0), .inr (0, 240, 0), .inr (0, 240, 0), .inr (0, 240, 0), .inr (0, 240, 0), .inr (0, 10, 0), .inr (0, 10, 0), .inr (0, 10, 0), .inr (0, 10, 0)] := A.kept (fun x h1 h2 => k287 x (by omega))
  replace FS : ∀ x, x < n → x ≠ t → s285 x = sh x := fun x h1 h2 => (k287 x (by omega)).trans (FS x h1 h2)
  clear e286 k287 B
  obtain ⟨s288, I289, e290, B, k291, k292, z⟩ := nAI_K (I := I281) (c := 10) (n := n + 31) A 0 (Or.inl rfl) (by omega) rfl
  refine OkE.b2s e290 (OkE.addN 14 533 rfl rfl ?_)
  replace A : Lay s288 n [.inr (0, 2, 0), .inr (0, 5, 0), .inr (0, 5, 0), .inr (0, 5, 0), .inr (0, 100, 0), .inr (0, 5, 0), .inr (0, 60, 0), .inr (0, 60, 0), .inr (0, 60, 0), .inr (0, 60, 0), .inr (0, 60, 0), .inr (0, 500, 0), .inr (0, 101, 0), .inr (1, 100, 0), .inr (0, 24, 0), .inr (0, 48, 0), .inr (0, 5, 0), .inr (0, 5, 0), .inr (0, 5, 0), .inr (0, 5, 0), .inr (0, 5, 0), .inr (0, 5, 0), .inr (0, 240, 0), .inr (0, 240, 0), .inr (0, 240, 0), .inr (0, 240, 0), .inr (0, 240, 0), .inr (0, 10, 0), .inr (0, 10, 0), .inr (0, 10, 0), .inr (0, 10, 0), .inr (0, 10, 0)] := B
  replace T : Lay s288 t [.inl (7, [none, none, none, some (some (n + 0)), some (some (n + 1)), some (some (n + 2)), some (some (n + 3)), none, none, none, none, none, some (some (n + 4)), some (some (n + 5)), some (some (n + 6)), some (some (n + 7)), some (some (n + 8)), some (some (n + 9)), some (some (n + 10)), some (some (n + 11)), some (some (n + 12)), none, none, none, some (some (n + 13)), none, some (some (n + 14)), some (some (n + 15)), some (some (n + 16)), some (some (n + 17)), some (some (n + 18)), some (some (n + 19)), some (some (n + 20)), some (some (n + 21)), some (some (n + 22)), some (some (n + 23)), some (some (n + 24)), some (some (n + 25)), some (some (n + 26)), none, some (some (n + 27)), some (some (n + 28)), some (some (n + 29)), some (some (n + 30)), some none, none, none, none, none, none, none, none, some none, some none, some none, some none, some none, some none, some none, some none, some none, none, some none, some none, some none, some none, some none])] := T.kept (fun x h1 h2 => k291 x (by simp at h2; omega))
  replace V : Vals I289 t [3, 10, 0, 0, 0, 0, 0, 0, (-1), 0, 0, 0, 0, 0, 0, 0, 0, 0, 0, 0, 0, 0, 0, 0, 0, 0, 0, 0, 0, 0, 0, 0, 0, 0, 0, 0, 0, 0, 0, 0, 0, 0, 0, 0, 0, 0, 0, 0, 0, 0, 0, 0, 0, 0, 0, 0, 0, 0, 0, 0, 0, 0, 0, 0, 0, 0, 0] := V.kept (k292 t (by omega))
  replace FS : ∀ x, x < n → x ≠ t → s288 x = sh x := fun x h1 h2 => (k291 x (by omega)).trans (FS x h1 h2)
  replace Z : ∀ x j, n ≤ x → x < n + 32 → x ≠ n + 42 → I289 x j = 0 := fun x j h1 h2 h3 => by
    by_cases hx : x = n + 31
    · rw [hx]
      exact z j
    · rw [k292 x hx]
      exact Z x j h1 (by omega) h3
  replace FI : ∀ x, x < n → x ≠ t → I289 x = I x := fun x h1 h2 => (k292 x (by omega)).trans (FI x h1 h2)
  clear e290 k291 k292 z B
  obtain ⟨s293, e294, B, k295⟩ := pR_L T 0 44 (n + 31) rfl ⟨none, rfl⟩
  refine OkE.bs e294 ?_
  replace T : Lay s293 t [.inl (7, [none, none, none, some (some (n + 0)), some (some (n + 1)), some (some (n + 2)), some (some (n + 3)), none, none, none, none, none, some (some (n + 4)), some (some (n + 5)), some (some (n + 6)), some (some (n + 7)), some (some (n + 8)), some (some (n + 9)), some (some (n + 10)), some (some (n + 11)), some (some (n + 12)), none, none, none, some (some (n + 13)), none, some (some (n + 14)), some (some (n + 15)), some (some (n + 16)), some (some (n + 17)), some (some (n + 18)), some (some (n + 19)), some (some (n + 20)), some (some (n + 21)), some (some (n + 22)), some (some (n + 23)), some (some (n + 24)), some (some (n + 25)), some (some (n + 26)), none, some (some (n + 27)), some (some (n + 28)), some (some (n + 29)), some (some (n + 30)), some (some (n + 31)), none, none, none, none, none, none, none, some none, some none, some none, some none, some none, some none, some none, some none, some none, none, some none, some none, some none, some none, some none])] := B
  replace A : Lay s293 n [.inr (0, 2, 0), .inr (0, 5, 0), .inr (0, 5, 0), .inr (0, 5, 0), .inr (0, 100, 0), .inr (0, 5, 0), .inr (0, 60, 0), .inr (0, 60, 0), .inr (0, 60, 0), .inr (0, 60, 0), .inr (0, 60, 0), .inr (0, 500, 0), .inr (0, 101, 0), .inr (1, 100, 0), .inr (0, 24, 0), .inr (0, 48, 0), .inr (0, 5, 0), .inr (0, 5, 0), .inr (0, 5, 0), .inr (0, 5, 0), .inr (0, 5, 0), .inr (0, 5, 0), .inr (0, 240, 0), .inr (0, 240, 0), .inr (0, 240, 0), .inr (0, 240, 0), .inr (0, 240, 0), .inr (0, 10, 0), .inr (0, 10, 0), .inr (0, 10, 0), .inr (0, 10, 0), .inr (0, 10, 0)] := A.kept (fun x h1 h2 => k295 x (by omega))
  replace FS : ∀ x, x < n → x ≠ t → s293 x = sh x := fun x h1 h2 => (k295 x (by omega)).trans (FS x h1 h2)
  clear e294 k295 B
  obtain ⟨I296, e297, k298, W⟩ := pI_K (I := I289) T 0 45 0 V rfl rfl
  refine OkE.bs e297 ?_
  replace V : Vals I296 t [3, 10, 0, 0, 0, 0, 0, 0, (-1), 0, 0, 0, 0, 0, 0, 0, 0, 0, 0, 0, 0, 0, 0, 0, 0, 0, 0, 0, 0, 0, 0, 0, 0, 0, 0, 0, 0, 0, 0, 0, 0, 0, 0, 0, 0, 0, 0, 0, 0, 0, 0, 0, 0, 0, 0, 0, 0, 0, 0, 0, 0, 0, 0, 0, 0, 0, 0] := W
  replace Z : ∀ x j, n ≤ x → x < n + 32 → x ≠ n + 42 → I296 x j = 0 := fun x j h1 h2 h3 => by
    rw [k298 x (by omega)]
    exact Z x j h1 h2 h3
  replace FI : ∀ x, x < n → x ≠ t → I296 x = I x := fun x h1 h2 => (k298 x (by omega)).trans (FI x h1 h2)
  clear e297 k298 W
  obtain ⟨I299, e300, k301, W⟩ := pI_K (I := I296) T 0 46 3 V rfl rfl
  refine OkE.bs e300 ?_
  replace V : Vals I299 t [3, 10, 0, 0, 0, 0, 0, 0, (-1), 0, 0, 0, 0, 0, 0, 0, 0, 0, 0, 0, 0, 0, 0, 0, 0, 0, 0, 0, 0, 0, 0, 0, 0, 0, 0, 0, 0, 0, 0, 0, 0, 0, 0, 0, 0, 0, 3, 0, 0, 0, 0, 0, 0, 0, 0, 0, 0, 0, 0, 0, 0, 0, 0, 0, 0, 0, 0] := W
  replace Z : ∀ x j, n ≤ x → x < n + 32 → x ≠ n + 42 → I299 x j = 0 := fun x j h1 h2 h3 => by
    rw [k301 x (by omega)]
    exact Z x j h1 h2 h3
  replace FI : ∀ x, x < n → x ≠ t → I299 x = I x := fun x h1 h2 => (k301 x (by omega)).trans (FI x h1 h2)
  clear e300 k301 W
  obtain ⟨I302, e303, k304, W⟩ := pI_K (I := I299) T 0 47 10 V rfl rfl
  refine OkE.bs e303 ?_
  replace V : Vals I302 t [3, 10, 0, 0, 0, 0, 0, 0, (-1), 0, 0, 0, 0, 0, 0, 0, 0, 0, 0, 0, 0, 0, 0, 0, 0, 0, 0, 0, 0, 0, 0, 0, 0, 0, 0, 0, 0, 0, 0, 0, 0, 0, 0, 0, 0, 0, 3, 10, 0, 0, 0, 0, 0, 0, 0, 0, 0, 0, 0, 0, 0, 0, 0, 0, 0, 0, 0] := W
  replace Z : ∀ x j, n ≤ x → x < n + 32 → x ≠ n + 42 → I302 x j = 0 := fun x j h1 h2 h3 => by
    rw [k304 x (by omega)]
    exact Z x j h1 h2 h3
  replace FI : ∀ x, x < n → x ≠ t → I302 x = I x := fun x h1 h2 => (k304 x (by omega)).trans (FI x h1 h2)
  clear e303 k304 W
  obtain ⟨I305, e306, k307, W⟩ := pI_K (I := I302) T 0 48 0 V rfl rfl
  refine OkE.bs e306 ?_
  replace V : Vals I305 t [3, 10, 0, 0, 0, 0, 0, 0, (-1), 0, 0, 0, 0, 0, 0, 0, 0, 0, 0, 0, 0, 0, 0, 0, 0, 0, 0, 0, 0, 0, 0, 0, 0, 0, 0, 0, 0, 0, 0, 0, 0, 0, 0, 0, 0, 0, 3, 10, 0, 0, 0, 0, 0, 0, 0, 0, 0, 0, 0, 0, 0, 0, 0, 0, 0, 0, 0] := W
  replace Z : ∀ x j, n ≤ x → x < n + 32 → x ≠ n + 42 → I305 x j = 0 := fun x j h1 h2 h3 => by
    rw [k307 x (by omega)]
    exact Z x j h1 h2 h3
  replace FI : ∀ x, x < n → x ≠ t → I305 x = I x := fun x h1 h2 => (k307 x (by omega)).trans (FI x h1 h2)
  clear e306 k307 W
  obtain ⟨I308, e309, k310, W⟩ := pI_K (I := I305) T 0 49 (-1) V rfl rfl
  refine OkE.bs e309 ?_
  replace V : Vals I308 t [3, 10, 0, 0, 0, 0, 0, 0, (-1), 0, 0, 0, 0, 0, 0, 0, 0, 0, 0, 0, 0, 0, 0, 0, 0, 0, 0, 0, 0, 0, 0, 0, 0, 0, 0, 0, 0, 0, 0, 0, 0, 0, 0, 0, 0, 0, 3, 10, 0, (-1), 0, 0, 0, 0, 0, 0, 0, 0, 0, 0, 0, 0, 0, 0, 0, 0, 0] := W
  replace Z : ∀ x j, n ≤ x → x < n + 32 → x ≠ n + 42 → I308 x j = 0 := fun x j h1 h2 h3 => by
    rw [k310 x (by omega)]
    exact Z x j h1 h2 h3
  replace FI : ∀ x, x < n → x ≠ t → I308 x = I x := fun x h1 h2 => (k310 x (by omega)).trans (FI x h1 h2)
  clear e309 k310 W
  obtain ⟨I311, e312, k313, W⟩ := pI_K (I := I308) T 0 50 0 V rfl rfl
  refine OkE.bs e312 ?_
  replace V : Vals I311 t [3, 10, 0, 0, 0, 0, 0, 0, (-1), 0, 0, 0, 0, 0, 0, 0, 0, 0, 0, 0, 0, 0, 0, 0, 0, 0, 0, 0, 0, 0, 0, 0, 0, 0, 0, 0, 0, 0, 0, 0, 0, 0, 0, 0, 0, 0, 3, 10, 0, (-1), 0, 0, 0, 0, 0, 0, 0, 0, 0, 0, 0, 0, 0, 0, 0, 0, 0] := W
  replace Z : ∀ x j, n ≤ x → x < n + 32 → x ≠ n + 42 → I311 x j = 0 := fun x j h1 h2 h3 => by
    rw [k313 x (by omega)]
    exact Z x j h1 h2 h3
  replace FI : ∀ x, x < n → x ≠ t → I311 x = I x := fun x h1 h2 => (k313 x (by omega)).trans (FI x h1 h2)
  clear e312 k313 W
  obtain ⟨I314, e315, k316, W⟩ := pI_K (I := I311) T 0 51 0 V rfl rfl
  refine OkE.bs e315 ?_
  replace V : Vals I314 t [3, 10, 0, 0, 0, 0, 0, 0, (-1), 0, 0, 0, 0, 0, 0, 0, 0, 0, 0, 0, 0, 0, 0, 0, 0, 0, 0, 0, 0, 0, 0, 0, 0, 0, 0, 0, 0, 0, 0, 0, 0, 0, 0, 0, 0, 0, 3, 10, 0, (-1), 0, 0, 0, 0, 0, 0, 0, 0, 0, 0, 0, 0, 0, 0, 0, 0, 0] := W
  replace Z : ∀ x j, n ≤ x → x < n + 32 → x ≠ n + 42 → I314 x j = 0 := fun x j h1 h2 h3 => by
    rw [k316 x (by omega)]
    exact Z x j h1 h2 h3
  replace FI : ∀ x, x < n → x ≠ t → I314 x = I x := fun x h1 h2 => (k316 x (by omega)).trans (FI x h1 h2)
  clear e315 k316 W
  obtain ⟨s317, I318, e319, B, k320, k321, z⟩ := nAI_K (I := I314) (c := 2) (n := n + 32) A 0 (Or.inl rfl) (by omega) rfl
  refine OkE.b2s e319 (OkE.addN 13 531 rfl rfl ?_)
  replace A : Lay s317 n [.inr (0, 2, 0), .inr (0, 5, 0), .inr (0, 5, 0), .inr (0, 5, 0), .inr (0, 100, 0), .inr (0, 5, 0), .inr (0, 60, 0), .inr (0, 60, 0), .inr (0, 60, 0), .inr (0, 60, 0), .inr (0, 60, 0), .inr (0, 500, 0), .inr (0, 101, 0), .inr (1, 100, 0), .inr (0, 24, 0), .inr (0, 48, 0), .inr (0, 5, 0), .inr (0, 5, 0), .inr (0, 5, 0), .inr (0, 5, 0), .inr (0, 5, 0), .inr (0, 5, 0), .inr (0, 240, 0), .inr (0, 240, 0), .inr (0, 240, 0), .inr (0, 240, 0), .inr (0, 240, 0), .inr (0, 10, 0), .inr (0, 10, 0), .inr (0, 10, 0), .inr (0, 10, 0), .inr (0, 10, 0), .inr (0, 2, 0)] := B
  replace T : Lay s317 t [.inl (7, [none, none, none, some (some (n + 0)), some (some (n + 1)), some (some (n + 2)), some (some (n + 3)), none, none, none, none, none, some (some (n + 4)), some (some (n + 5)), some (some (n + 6)), some (some (n + 7)), some (some (n + 8)), some (some (n + 9)), some (some (n + 10)), some (some (n + 11)), some (some (n + 12)), none, none, none, some (some (n + 13)), none, some (some (n + 14)), some (some (n + 15)), some (some (n + 16)), some (some (n + 17)), some (some (n + 18)), some (some (n + 19)), some (some (n + 20)), some (some (n + 21)), some (some (n + 22)), some (some (n + 23)), some (some (n + 24)), some (some (n + 25)), some (some (n + 26)), none, some (some (n + 27)), some (some (n + 28)), some (some (n + 29)), some (some (n + 30)), some (some (n + 31)), none, none, none, none, none, none, none, some none, some none, some none, some none, some none, some none, some none, some none, some none, none, some none, some none, some none, some none, some none])] := T.kept (fun x h1 h2 => k320 x (by simp at h2; omega))
  replace V : Vals I318 t [3, 10, 0, 0, 0, 0, 0, 0, (-1), 0, 0, 0, 0, 0, 0, 0, 0, 0, 0, 0, 0, 0, 0, 0, 0, 0, 0, 0, 0, 0, 0, 0, 0, 0, 0, 0, 0, 0, 0, 0, 0, 0, 0, 0, 0, 0, 3, 10, 0, (-1), 0, 0, 0, 0, 0, 0, 0, 0, 0, 0, 0, 0, 0, 0, 0, 0, 0] := V.kept (k321 t (by omega))
  replace FS : ∀ x, x < n → x ≠ t → s317 x = sh x := fun x h1 h2 => (k320 x (by omega)).trans (FS x h1 h2)
  replace Z : ∀ x j, n ≤ x → x < n + 33 → x ≠ n + 42 → I318 x j = 0 := fun x j h1 h2 h3 => by
    by_cases hx : x = n + 32
    · rw [hx]
      exact z j
    · rw [k321 x hx]
      exact Z x j h1 (by omega) h3
  replace FI : ∀ x, x < n → x ≠ t → I318 x = I x := fun x h1 h2 => (k321 x (by omega)).trans (FI x h1 h2)
  clear e319 k320 k321 z B
  obtain ⟨s322, e323, B, k324⟩ := pR_L T 0 52 (n + 32) rfl ⟨none, rfl⟩
  refine OkE.bs e323 ?_
  replace T : Lay s322 t [.inl (7, [none, none, none, some (some (n + 0)), some (some (n + 1)), some (some (n + 2)), some (some (n + 3)), none, none, none, none, none, some (some (n + 4)), some (some (n + 5)), some (some (n + 6)), some (some (n + 7)), some (some (n + 8)), some (some (n + 9)), some (some (n + 10)), some (some (n + 11)), some (some (n + 12)), none, none, none, some (some (n + 13)), none, some (some (n + 14)), some (some (n + 15)), some (some (n + 16)), some (some (n + 17)), some (some (n + 18)), some (some (n + 19)), some (some (n + 20)), some (some (n + 21)), some (some (n + 22)), some (some (n + 23)), some (some (n + 24)), some (some (n + 25)), some (some (n + 26)), none, some (some (n + 27)), some (some (n + 28)), some (some (n + 29)), some (some (n + 30)), some (some (n + 31)), none, none, none, none, none, none, none, some (some (n + 32)), some none, some none, some none, some none, some none, some none, some none, some none, none, some none, some none, some none, some none, some none])] := B
  replace A : Lay s322 n [.inr (0, 2, 0), .inr (0, 5, 0), .inr (0, 5, 0), .inr (0, 5, 0), .inr (0, 100, 0), .inr (0, 5, 0), .inr (0, 60, 0), .inr (0, 60, 0), .inr (0, 60, 0), .inr (0, 60, 0), .inr (0, 60, 0), .inr (0, 500, 0), .inr (0, 101, 0), .inr (1, 100, 0), .inr (0, 24, 0), .inr (0, 48, 0), .inr (0, 5, 0), .inr (0, 5, 0), .inr (0, 5, 0), .inr (0, 5, 0), .inr (0, 5, 0), .inr (0, 5, 0), .inr (0, 240, 0), .inr (0, 240, 0), .inr (0, 240, 0), .inr (0, 240, 0), .inr (0, 240, 0), .inr (0, 10, 0), .inr (0, 10, 0), .inr (0, 10, 0), .inr (0, 10, 0), .inr (0, 10, 0), .inr (0, 2, 0)] := A.kept (fun x h1 h2 => k324 x (by omega))
  replace FS : ∀ x, x < n → x ≠ t → s322 x = sh x := fun x h1 h2 => (k324 x (by omega)).trans (FS x h1 h2)
  clear e323 k324 B
  obtain ⟨s325, I326, e327, B, k328, k329, z⟩ := nAI_K (I := I318) (c := 5) (n := n + 33) A 0 (Or.inl rfl) (by omega) rfl
  refine OkE.b2s e327 (OkE.addN 12 526 rfl rfl ?_)
  replace A : Lay s325 n [.inr (0, 2, 0), .inr (0, 5, 0), .inr (0, 5, 0), .inr (0, 5, 0), .inr (0, 100, 0), .inr (0, 5, 0), .inr (0, 60, 0), .inr (0, 60, 0), .inr (0, 60, 0), .inr (0, 60, 0), .inr (0, 60, 0), .inr (0, 500, 0), .inr (0, 101, 0), .inr (1, 100, 0), .inr (0, 24, 0), .inr (0, 48, 0), .inr (0, 5, 0), .inr (0, 5, 0), .inr (0, 5, 0), .inr (0, 5, 0), .inr (0, 5, 0), .inr (0, 5, 0), .inr (0, 240, 0), .inr (0, 240, 0), .inr (0, 240, 0), .inr (0, 240, 0), .inr (0, 240, 0), .inr (0, 10, 0), .inr (0, 10, 0), .inr (0, 10, 0), .inr (0, 10, 0), .inr (0, 10, 0), .inr (0, 2, 0), .inr (0, 5, 0)] := B
  replace T : Lay s325 t [.inl (7, [none, none, none, some (some (n + 0)), some (some (n + 1)), some (some (n + 2)), some (some (n + 3)), none, none, none, none, none, some (some (n + 4)), some (some (n + 5)), some (some (n + 6)), some (some (n + 7)), some (some (n + 8)), some (some (n + 9)), some (some (n + 10)), some (some (n + 11)), some (some (n + 12)), none, none, none, some (some (n + 13)), none, some (some (n + 14)), some (some (n + 15)), some (some (n + 16)), some (some (n + 17)), some (some (n + 18)), some (some (n + 19)), some (some (n + 20)), some (some (n + 21)), some (some (n + 22)), some (some (n + 23)), some (some (n + 24)), some (some (n + 25)), some (some (n + 26)), none, some (some (n + 27)), some (some (n + 28)), some (some (n + 29)), some (some (n + 30)), some (some (n + 31)), none, none, none, none, none, none, none, some (some (n + 32)), some none, some none, some none, some none, some none, some none, some none, some none, none, some none, some none, some none, some none, some none])] := T.kept (fun x h1 h2 => k328 x (by simp at h2; omega))
  replace V : Vals I326 t [3, 10, 0, 0, 0, 0, 0, 0, (-1), 0, 0, 0, 0, 0, 0, 0, 0, 0, 0, 0, 0, 0, 0, 0, 0, 0, 0, 0, 0, 0, 0, 0, 0, 0, 0, 0, 0, 0, 0, 0, 0, 0, 0, 0, 0, 0, 3, 10, 0, (-1), 0, 0, 0, 0, 0, 0, 0, 0, 0, 0, 0, 0, 0, 0, 0, 0, 0] := V.kept (k329 t (by omega))
  replace FS : ∀ x, x < n → x ≠ t → s325 x = sh x := fun x h1 h2 => (k328 x (by omega)).trans (FS x h1 h2)
  replace Z : ∀ x j, n ≤ x → x < n + 34 → x ≠ n + 42 → I326 x j = 0 := fun x j h1 h2 h3 => by
    by_cases hx : x = n + 33
    · rw [hx]
      exact z j
    · rw [k329 x hx]
      exact Z x j h1 (by omega) h3
  replace FI : ∀ x, x < n → x ≠ t → I326 x = I x := fun x h1 h2 => (k329 x (by omega)).trans (FI x h1 h2)
  clear e327 k328 k329 z B
  obtain ⟨s330, e331, B, k332⟩ := pR_L T 0 53 (n + 33) rfl ⟨none, rfl⟩
  refine OkE.bs e331 ?_
  replace T : Lay s330 t [.inl (7, [none, none, none, some (some (n + 0)), some (some (n + 1)), some (some (n + 2)), some (some (n + 3)), none, none, none, none, none, some (some (n + 4)), some (some (n + 5)), some (some (n + 6)), some (some (n + 7)), some (some (n + 8)), some (some (n + 9)), some (some (n + 10)), some (some (n + 11)), some (some (n + 12)), none, none, none, some (some (n + 13)), none, some (some (n + 14)), some (some (n + 15)), some (some (n + 16)), some (some (n + 17)), some (some (n + 18)), some (some (n + 19)), some (some (n + 20)), some (some (n + 21)), some (some (n + 22)), some (some (n + 23)), some (some (n + 24)), some (some (n + 25)), some (some (n + 26)), none, some (some (n + 27)), some (some (n + 28)), some (some (n + 29)), some (some (n + 30)), some (some (n + 31)), none, none, none, none, none, none, none, some (some (n + 32)), some (some (n + 33)), some none, some none, some none, some none, some none, some none, some none, none, some none, some none, some none, some none, some none])] := B
  replace A : Lay s330 n [.inr (0, 2, 0), .inr (0, 5, 0), .inr (0, 5, 0), .inr (0, 5, 0), .inr (0, 100, 0), .inr (0, 5, 0), .inr (0, 60, 0), .inr (0, 60, 0), .inr (0, 60, 0), .inr (0, 60, 0), .inr (0, 60, 0), .inr (0, 500, 0), .inr (0, 101, 0), .inr (1, 100, 0), .inr (0, 24, 0), .inr (0, 48, 0), .inr (0, 5, 0), .inr (0, 5, 0), .inr (0, 5, 0), .inr (0, 5, 0), .inr (0, 5, 0), .inr (0, 5, 0), .inr (0, 240, 0), .inr (0, 240, 0), .inr (0, 240, 0), .inr (0, 240, 0), .inr (0, 240, 0), .inr (0, 10, 0), .inr (0, 10, 0), .inr (0, 10, 0), .inr (0, 10, 0), .inr (0, 10, 0), .inr (0, 2, 0), .inr (0, 5, 0)] := A.kept (fun x h1 h2 => k332 x (by omega))
  replace FS : ∀ x, x < n → x ≠ t → s330 x = sh x := fun x h1 h2 => (k332 x (by omega)).trans (FS x h1 h2)
  clear e331 k332 B
  obtain ⟨s333, I334, e335, B, k336, k337, z⟩ := nAI_K (I := I326) (c := 5) (n := n + 34) A 0 (Or.inl rfl) (by omega) rfl
  refine OkE.b2s e335 (OkE.addN 11 521 rfl rfl ?_)
  replace A : Lay s333 n [.inr (0, 2, 0), .inr (0, 5, 0), .inr (0, 5, 0), .inr (0, 5, 0), .inr (0, 100, 0), .inr (0, 5, 0), .inr (0, 60, 0), .inr (0, 60, 0), .inr (0, 60, 0), .inr (0, 60, 0), .inr (0, 60, 0), .inr (0, 500, 0), .inr (0, 101, 0), .inr (1, 100, 0), .inr (0, 24, 0), .inr (0, 48, 0), .inr (0, 5, 0), .inr (0, 5, 0), .inr (0, 5, 0), .inr (0, 5, 0), .inr (0, 5, 0), .inr (0, 5, 0), .inr (0, 240, 0), .inr (0, 240, 0), .inr (0, 240, 0), .inr (0, 240, 0), .inr (0, 240, 0), .inr (0, 10, 0), .inr (0, 10, 0), .inr (0, 10, 0), .inr (0, 10, 0), .inr (0, 10, 0), .inr (0, 2, 0), .inr (0, 5, 0), .inr (0, 5, 0)] := B
  replace T : Lay s333 t [.inl (7, [none, none, none, some (some (n + 0)), some (some (n + 1)), some (some (n + 2)), some (some (n + 3)), none, none, none, none, none, some (some (n + 4)), some (some (n + 5)), some (some (n + 6)), some (some (n + 7)), some (some (n + 8)), some (some (n + 9)), some (some (n + 10)), some (some (n + 11)), some (some (n + 12)), none, none, none, some (some (n + 13)), none, some (some (n + 14)), some (some (n + 15)), some (some (n + 16)), some (some (n + 17)), some (some (n + 18)), some (some (n + 19)), some (some (n + 20)), some (some (n + 21)), some (some (n + 22)), some (some (n + 23)), some (some (n + 24)), some (some (n + 25)), some (some (n + 26)), none, some (some (n + 27)), some (some (n + 28)), some (some (n + 29)), some (some (n + 30)), some (some (n + 31)), none, none, none, none, none, none, none, some (some (n + 32)), some (some (n + 33)), some none, some none, some none, some none, some none, some none, some none, none, some none, some none, some none, some none, some none])] := T.kept (fun x h1 h2 => k336 x (by simp at h2; omega))
  replace V : Vals I334 t [3, 10, 0, 0, 0, 0, 0, 0, (-1), 0, 0, 0, 0, 0, 0, 0, 0, 0, 0, 0, 0, 0, 0, 0, 0, 0, 0, 0, 0, 0, 0, 0, 0, 0, 0, 0, 0, 0, 0, 0, 0, 0, 0, 0, 0, 0, 3, 10, 0, (-1), 0, 0, 0, 0, 0, 0, 0, 0, 0, 0, 0, 0, 0, 0, 0, 0, 0] := V.kept (k337 t (by omega))
  replace FS : ∀ x, x < n → x ≠ t → s333 x = sh x := fun x h1 h2 => (k336 x (by omega)).trans (FS x h1 h2)
  replace Z : ∀ x j, n ≤ x → x < n + 35 → x ≠ n + 42 → I334 x j = 0 := fun x j h1 h2 h3 => by
    by_cases hx : x = n + 34
    · rw [hx]
      exact z j
    · rw [k337 x hx]
      exact Z x j h1 (by omega) h3
  replace FI : ∀ x, x < n → x ≠ t → I334 x = I x := fun x h1 h2 => (k337 x (by omega)).trans (FI x h1 h2)
  clear e335 k336 k337 z B
  obtain ⟨s338, e339, B, k340⟩ := pR_L T 0 54 (n + 34) rfl ⟨none, rfl⟩
  refine OkE.bs e339 ?_
  replace T : Lay s338 t [.inl (7, [none, none, none, some (some (n + 0)), some (some (n + 1)), some (some (n + 2)), some (some (n + 3)), none, none, none, none, none, some (some (n + 4)), some (some (n + 5)), some (some (n + 6)), some (some (n + 7)), some (some (n + 8)), some (some (n + 9)), some (some (n + 10)), some (some (n + 11)), some (some (n + 12)), none, none, none, some (some (n + 13)), none, some (some (n + 14)), some (some (n + 15)), some (some (n + 16)), some (some (n + 17)), some (some (n + 18)), some (some (n + 19)), some (some (n + 20)), some (some (n + 21)), some (some (n + 22)), some (some (n + 23)), some (some (n + 24)), some (some (n + 25)), some (some (n + 26)), none, some (some (n + 27)), some (some (n + 28)), some (some (n + 29)), some (some (n + 30)), some (some (n + 31)), none, none, none, none, none, none, none, some (some (n + 32)), some (some (n + 33)), some (some (n + 34)), some none, some none, some none, some none, some none, some none, none, some none, some none, some none, some none, some none])] := B
  replace A : Lay s338 n [.inr (0, 2, 0), .inr (0, 5, 0), .inr (0, 5, 0), .inr (0, 5, 0), .inr (0, 100, 0), .inr (0, 5, 0), .inr (0, 60, 0), .inr (0, 60, 0), .inr (0, 60, 0), .inr (0, 60, 0), .inr (0, 60, 0), .inr (0, 500, 0), .inr (0, 101, 0), .inr (1, 100, 0), .inr (0, 24, 0), .inr (0, 48, 0), .inr (0, 5, 0), .inr (0, 5, 0), .inr (0, 5, 0), .inr (0, 5, 0), .inr (0, 5, 0), .inr (0, 5, 0), .inr (0, 240, 0), .inr (0, 240, 0), .inr (0, 240, 0), .inr (0, 240, 0), .inr (0, 240, 0), .inr (0, 10, 0), .inr (0, 10, 0), .inr (0, 10, 0), .inr (0, 10, 0), .inr (0, 10, 0), .inr (0, 2, 0), .inr (0, 5, 0), .inr (0, 5, 0)] := A.kept (fun x h1 h2 => k340 x (by omega))
  replace FS : ∀ x, x < n → x ≠ t → s338 x = sh x := fun x h1 h2 => (k340 x (by omega)).trans (FS x h1 h2)
  clear e339 k340 B
  obtain ⟨s341, I342, e343, B, k344, k345, z⟩ := nAI_K (I := I334) (c := 5) (n := n + 35) A 0 (Or.inl rfl) (by omega) rfl
  refine OkE.b2s e343 (OkE.addN 10 516 rfl rfl ?_)
  replace A : Lay s341 n [.inr (0, 2, 0), .inr (0, 5, 0), .inr (0, 5, 0), .inr (0, 5, 0), .inr (0, 100, 0), .inr (0, 5, 0), .inr (0, 60, 0), .inr (0, 60, 0), .inr (0, 60, 0), .inr (0, 60, 0), .inr (0, 60, 0), .inr (0, 500, 0), .inr (0, 101, 0), .inr (1, 100, 0), .inr (0, 24, 0), .inr (0, 48, 0), .inr (0, 5, 0), .inr (0, 5, 0), .inr (0, 5, 0), .inr (0, 5, 0), .inr (0, 5, 0), .inr (0, 5, 0), .inr (0, 240, 0), .inr (0, 240, 0), .inr (0, 240, 0), .inr (0, 240, 0), .inr (0, 240, 0), .inr (0, 10, 0), .inr (0, 10, 0), .inr (0, 10, 0), .inr (0, 10, 0), .inr (0, 10, 0), .inr (0, 2, 0), .inr (0, 5, 0), .inr (0, 5, 0), .inr (0, 5, 0)] := B
  replace T : Lay s341 t [.inl (7, [none, none, none, some (some (n + 0)), some (some (n + 1)), some (some (n + 2)), some (some (n + 3)), none, none, none, none, none, some (some (n + 4)), some (some (n + 5)), some (some (n + 6)), some (some (n + 7)), some (some (n + 8)), some (some (n + 9)), some (some (n + 10)), some (some (n + 11)), some (some (n + 12)), none, none, none, some (some (n + 13)), none, some (some (n + 14)), some (some (n + 15)), some (some (n + 16)), some (some (n + 17)), some (some (n + 18)), some (some (n + 19)), some (some (n + 20)), some (some (n + 21)), some (some (n + 22)), some (some (n + 23)), some (some (n + 24)), some (some (n + 25)), some (some (n + 26)), none, some (some (n + 27)), some (some (n + 28)), some (some (n + 29)), some (some (n + 30)), some (some (n + 31)), none, none, none, none, none, none, none, some (some (n + 32)), some (some (n + 33)), some (some (n + 34)), some none, some none, some none, some none, some none, some none, none, some none, some none, some none, some none, some none])] := T.kept (fun x h1 h2 => k344 x (by simp at h2; omega))
  replace V : Vals I342 t [3, 10, 0, 0, 0, 0, 0, 0, (-1), 0, 0, 0, 0, 0, 0, 0, 0, 0, 0, 0, 0, 0, 0, 0, 0, 0, 0, 0, 0, 0, 0, 0, 0, 0, 0, 0, 0, 0, 0, 0, 0, 0, 0, 0, 0, 0, 3, 10, 0, (-1), 0, 0, 0, 0, 0, 0, 0, 0, 0, 0, 0, 0, 0, 0, 0, 0, 0] := V.kept (k345 t (by omega))
  replace FS : ∀ x, x < n → x ≠ t → s341 x = sh x := fun x h1 h2 => (k344 x (by omega)).trans (FS x h1 h2)
  replace Z : ∀ x j, n ≤ x → x < n + 36 → x ≠ n + 42 → I342 x j = 0 := fun x j h1 h2 h3 => by
    by_cases hx : x = n + 35
    · rw [hx]
      exact z j
    · rw [k345 x hx]
      exact Z x j h1 (by omega) h3
  replace FI : ∀ x, x < n → x ≠ t → I342 x = I x := fun x h1 h2 => (k345 x (by omega)).trans (FI x h1 h2)
  clear e343 k344 k345 z B
  obtain ⟨s346, e347, B, k348⟩ := pR_L T 0 55 (n + 35) rfl ⟨none, rfl⟩
  refine OkE.bs e347 ?_
  replace T : Lay s346 t [.inl (7, [none, none, none, some (some (n + 0)), some (some (n + 1)), some (some (n + 2)), some (some (n + 3)), none, none, none, none, none, some (some (n + 4)), some (some (n + 5)), some (some (n + 6)), some (some (n + 7)), some (some (n + 8)), some (some (n + 9)), some (some (n + 10)), some (some (n + 11)), some (some (n + 12)), none, none, none, some (some (n + 13)), none, some (some (n + 14)), some (some (n + 15)), some (some (n + 16)), some (some (n + 17)), some (some (n + 18)), some (some (n + 19)), some (some (n + 20)), some (some (n + 21)), some (some (n + 22)), some (some (n + 23)), some (some (n + 24)), some (some (n + 25)), some (some (n + 26)), none, some (some (n + 27)), some (some (n + 28)), some (some (n + 29)), some (some (n + 30)), some (some (n + 31)), none, none, none, none, none, none, none, some (some (n + 32)), some (some (n + 33)), some (some (n + 34)), some (some (n + 35)), some none, some none, some none, some none, some none, none, some none, some none, some none, some none, some none])] := B
  replace A : Lay s346 n [.inr (0, 2, 0), .inr (0, 5, 0), .inr (0, 5, 0), .inr (0, 5, 0), .inr (0, 100, 0), .inr (0, 5, 0), .inr (0, 60, 0), .inr (0, 60, 0), .inr (0, 60, 0), .inr (0, 60, 0), .inr (0, 60, 0), .inr (0, 500, 0), .inr (0, 101, 0), .inr (1, 100, 0), .inr (0, 24, 0), .inr (0, 48, 0), .inr (0, 5, 0), .inr (0, 5, 0), .inr (0, 5, 0), .inr (0, 5, 0), .inr (0, 5, 0), .inr (0, 5, 0), .inr (0, 240, 0), .inr (0, 240, 0), .inr (0, 240, 0), .inr (0, 240, 0), .inr (0, 240, 0), .inr (0, 10, 0), .inr (0, 10, 0), .inr (0, 10, 0), .inr (0, 10, 0), .inr (0, 10, 0), .inr (0, 2, 0), .inr (0, 5, 0), .inr (0, 5, 0), .inr (0, 5, 0)] := A.kept (fun x h1 h2 => k348 x (by omega))
  replace FS : ∀ x, x < n → x ≠ t → s346 x = sh x := fun x h1 h2 => (k348 x (by omega)).trans (FS x h1 h2)
  clear e347 k348 B
  obtain ⟨s349, I350, e351, B, k352, k353, z⟩ := nAI_K (I := I342) (c := 24) (n := n + 36) A 0 (Or.inl rfl) (by omega) rfl
  refine OkE.b2s e351 (OkE.addN 9 492 rfl rfl ?_)
  replace A : Lay s349 n [.inr (0, 2, 0), .inr (0, 5, 0), .inr (0, 5, 0), .inr (0, 5, 0), .inr (0, 100, 0), .inr (0, 5, 0), .inr (0, 60, 0), .inr (0, 60, 0), .inr (0, 60, 0), .inr (0, 60, 0), .inr (0, 60, 0), .inr (0, 500, 0), .inr (0, 101, 0), .inr (1, 100, 0), .inr (0, 24, 0), .inr (0, 48, 0), .inr (0, 5, 0), .inr (0, 5, 0), .inr (0, 5, 0), .inr (0, 5, 0), .inr (0, 5, 0), .inr (0, 5, 0), .inr (0, 240, 0), .inr (0, 240, 0), .inr (0, 240, 0), .inr (0, 240, 0), .inr (0, 240, 0), .inr (0, 10, 0), .inr (0, 10, 0), .inr (0, 10, 0), .inr (0, 10, 0), .inr (0, 10, 0), .inr (0, 2, 0), .inr (0, 5, 0), .inr (0, 5, 0), .inr (0, 5, 0), .inr (0, 24, 0)] := B
  replace T : Lay s349 t [.inl (7, [none, none, none, some (some (n + 0)), some (some (n + 1)), some (some (n + 2)), some (some (n + 3)), none, none, none, none, none, some (some (n + 4)), some (some (n + 5)), some (some (n + 6)), some (some (n + 7)), some (some (n + 8)), some (some (n + 9)), some (some (n + 10)), some (some (n + 11)), some (some (n + 12)), none, none, none, some (some (n + 13)), none, some (some (n + 14)), some (some (n + 15)), some (some (n + 16)), some (some (n + 17)), some (some (n + 18)), some (some (n + 19)), some (some (n + 20)), some (some (n + 21)), some (some (n + 22)), some (some (n + 23)), some (some (n + 24)), some (some (n + 25)), some (some (n + 26)), none, some (some (n + 27)), some (some (n + 28)), some (some (n + 29)), some (some (n + 30)), some (some (n + 31)), none, none, none, none, none, none, none, some (some (n + 32)), some (some (n + 33)), some (some (n + 34)), some (some (n + 35)), some none, some none, some none, some none, some none, none, some none, some none, some none, some none, some none])] := T.kept (fun x h1 h2 => k352 x (by simp at h2; omega))
  replace V : Vals I350 t [3, 10, 0, 0, 0, 0, 0, 0, (-1), 0, 0, 0, 0, 0, 0, 0, 0, 0, 0, 0, 0, 0, 0, 0, 0, 0, 0, 0, 0, 0, 0, 0, 0, 0, 0, 0, 0, 0, 0, 0, 0, 0, 0, 0, 0, 0, 3, 10, 0, (-1), 0, 0, 0, 0, 0, 0, 0, 0, 0, 0, 0, 0, 0, 0, 0, 0, 0] := V.kept (k353 t (by omega))
  replace FS : ∀ x, x < n → x ≠ t → s349 x = sh x := fun x h1 h2 => (k352 x (by omega)).trans (FS x h1 h2)
  replace Z : ∀ x j, n ≤ x → x < n + 37 → x ≠ n + 42 → I350 x j = 0 := fun x j h1 h2 h3 => by
    by_cases hx : x = n + 36
    · rw [hx]
      exact z j
    · rw [k353 x hx]
      exact Z x j h1 (by omega) h3
  replace FI : ∀ x, x < n → x ≠ t → I350 x = I x := fun x h1 h2 => (k353 x (by omega)).trans (FI x h1 h2)
  clear e351 k352 k353 z B
  obtain ⟨s354, e355, B, k356⟩ := pR_L T 0 56 (n + 36) rfl ⟨none, rfl⟩
  refine OkE.bs e355 ?_
  replace T : Lay s354 t [.inl (7, [none, none, none, some (some (n + 0)), some (some (n + 1)), some (some (n + 2)), some (some (n + 3)), none, none, none, none, none, some (some (n + 4)), some (some (n + 5)), some (some (n + 6)), some (some (n + 7)), some (some (n + 8)), some (some (n + 9)), some (some (n + 10)), some (some (n + 11)), some (some (n + 12)), none, none, none, some (some (n + 13)), none, some (some (n + 14)), some (some (n + 15)), some (some (n + 16)), some (some (n + 17)), some (some (n + 18)), some (some (n + 19)), some (some (n + 20)), some (some (n + 21)), some (some (n + 22)), some (some (n + 23)), some (some (n + 24)), some (some (n + 25)), some (some (n + 26)), none, some (some (n + 27)), some (some (n + 28)), some (some (n + 29)), some (some (n + 30)), some (some (n + 31)), none, none, none, none, none, none, none, some (some (n + 32)), some (some (n + 33)), some (some (n + 34)), some (some (n + 35)), some (some (n + 36)), some none, some none, some none, some none, none, some none, some none, some none, some none, some none])] := B
  replace A : Lay s354 n [.inr (0, 2, 0), .inr (0, 5, 0), .inr (0, 5, 0), .inr (0, 5, 0), .inr (0, 100, 0), .inr (0, 5, 0), .inr (0, 60, 0), .inr (0, 60, 0), .inr (0, 60, 0), .inr (0, 60, 0), .inr (0, 60, 0), .inr (0, 500, 0), .inr (0, 101, 0), .inr (1, 100, 0), .inr (0, 24, 0), .inr (0, 48, 0), .inr (0, 5, 0), .inr (0, 5, 0), .inr (0, 5, 0), .inr (0, 5, 0), .inr (0, 5, 0), .inr (0, 5, 0), .inr (0, 240, 0), .inr (0, 240, 0), .inr (0, 240, 0), .inr (0, 240, 0), .inr (0, 240, 0), .inr (0, 10, 0), .inr (0, 10, 0), .inr (0, 10, 0), .inr (0, 10, 0), .inr (0, 10, 0), .inr (0, 2, 0), .inr (0, 5, 0), .inr (0, 5, 0), .inr (0, 5, 0), .inr (0, 24, 0)] := A.kept (fun x h1 h2 => k356 x (by omega))
  replace FS : ∀ x, x < n → x ≠ t → s354 x = sh x := fun x h1 h2 => (k356 x (by omega)).trans (FS x h1 h2)
  clear e355 k356 B
  obtain ⟨s357, I358, e359, B, k360, k361, z⟩ := nAI_K (I := I350) (c := 10) (n := n + 37) A 0 (Or.inl rfl) (by omega) rfl
  refine OkE.b2s e359 (OkE.addN 8 482 rfl rfl ?_)
  replace A : Lay s357 n [.inr (0, 2, 0), .inr (0, 5, 0), .inr (0, 5, 0), .inr (0, 5, 0), .inr (0, 100, 0), .inr (0, 5, 0), .inr (0, 60, 0), .inr (0, 60, 0), .inr (0, 60, 0), .inr (0, 60, 0), .inr (0, 60, 0), .inr (0, 500, 0), .inr (0, 101, 0), .inr (1, 100, 0), .inr (0, 24, 0), .inr (0, 48, 0), .inr (0, 5, 0), .inr (0, 5, 0), .inr (0, 5, 0), .inr (0, 5, 0), .inr (0, 5, 0), .inr (0, 5, 0), .inr (0, 240, 0), .inr (0, 240, 0), .inr (0, 240, 0), .inr (0, 240, 0), .inr (0, 240, 0), .inr (0, 10, 0), .inr (0, 10, 0), .inr (0, 10, 0), .inr (0, 10, 0), .inr (0, 10, 0), .inr (0, 2, 0), .inr (0, 5, 0), .inr (0, 5, 0), .inr (0, 5, 0), .inr (0, 24, 0), .inr (0, 10, 0)] := B
  replace T : Lay s357 t [.inl (7, [none, none, none, some (some (n + 0)), some (some (n + 1)), some (some (n + 2)), some (some (n + 3)), none, none, none, none, none, some (some (n + 4)), some (some (n + 5)), some (some (n + 6)), some (some (n + 7)), some (some (n + 8)), some (some (n + 9)), some (some (n + 10)), some (some (n + 11)), some (some (n + 12)), none, none, none, some (some (n + 13)), none, some (some (n + 14)), some (some (n + 15)), some (some (n + 16)), some (some (n + 17)), some (some (n + 18)), some (some (n + 19)), some (some (n + 20)), some (some (n + 21)), some (some (n + 22)), some (some (n + 23)), some (some (n + 24)), some (some (n + 25)), some (some (n + 26)), none, some (some (n + 27)), some (some (n + 28)), some (some (n + 29)), some (some (n + 30)), some (some (n + 31)), none, none, none, none, none, none, none, some (some (n + 32)), some (some (n + 33)), some (some (n + 34)), some (some (n + 35)), some (some (n + 36)), some none, some none, some none, some none, none, some none, some none, some none, some none, some none])] := T.kept (fun x h1 h2 => k360 x (by simp at h2; omega))
  replace V : Vals I358 t [3, 10, 0, 0, 0, 0, 0, 0, (-1), 0, 0, 0, 0, 0, 0, 0, 0, 0, 0, 0, 0, 0, 0, 0, 0, 0, 0, 0, 0, 0, 0, 0, 0, 0, 0, 0, 0, 0, 0, 0, 0, 0, 0, 0, 0, 0, 3, 10, 0, (-1), 0, 0, 0, 0, 0, 0, 0, 0, 0, 0, 0, 0, 0, 0, 0, 0, 0] := V.kept (k361 t (by omega))
  replace FS : ∀ x, x < n → x ≠ t → s357 x = sh x := fun x h1 h2 => (k360 x (by omega)).trans (FS x h1 h2)
  replace Z : ∀ x j, n ≤ x → x < n + 38 → x ≠ n + 42 → I358 x j = 0 := fun x j h1 h2 h3 => by
    by_cases hx : x = n + 37
    · rw [hx]
      exact z j
    · rw [k361 x hx]
      exact Z x j h1 (by omega) h3
  replace FI : ∀ x, x < n → x ≠ t → I358 x = I x := fun x h1 h2 => (k361 x (by omega)).trans (FI x h1 h2)
  clear e359 k360 k361 z B
  obtain ⟨s362, e363, B, k364⟩ := pR_L T 0 57 (n + 37) rfl ⟨none, rfl⟩
  refine OkE.bs e363 ?_
  replace T : Lay s362 t [.inl (7, [none, none, none, some (some (n + 0)), some (some (n + 1)), some (some (n + 2)), some (some (n + 3)), none, none, none, none, none, some (some (n + 4)), some (some (n + 5)), some (some (n + 6)), some (some (n + 7)), some (some (n + 8)), some (some (n + 9)), some (some (n + 10)), some (some (n + 11)), some (some (n + 12)), none, none, none, some (some (n + 13)), none, some (some (n + 14)), some (some (n + 15)), some (some (n + 16)), some (some (n + 17)), some (some (n + 18)), some (some (n + 19)), some (some (n + 20)), some (some (n + 21)), some (some (n + 22)), some (some (n + 23)), some (some (n + 24)), some (some (n + 25)), some (some (n + 26)), none, some (some (n + 27)), some (some (n + 28)), some (some (n + 29)), some (some (n + 30)), some (some (n + 31)), none, none, none, none, none, none, none, some (some (n + 32)), some (some (n + 33)), some (some (n + 34)), some (some (n + 35)), some (some (n + 36)), some (some (n + 37)), some none, some none, some none, none, some none, some none, some none, some none, some none])] := B
  replace A : Lay s362 n [.inr (0, 2, 0), .inr (0, 5, 0), .inr (0, 5, 0), .inr (0, 5, 0), .inr (0, 100, 0), .inr (0, 5, 0), .inr (0, 60, 0), .inr (0, 60, 0), .inr (0, 60, 0), .inr (0, 60, 0), .inr (0, 60, 0), .inr (0, 500, 0), .inr (0, 101, 0), .inr (1, 100, 0), .inr (0, 24, 0), .inr (0, 48, 0), .inr (0, 5, 0), .inr (0, 5, 0), .inr (0, 5, 0), .inr (0, 5, 0), .inr (0, 5, 0), .inr (0, 5, 0), .inr (0, 240, 0), .inr (0, 240, 0), .inr (0, 240, 0), .inr (0, 240, 0), .inr (0, 240, 0), .inr (0, 10, 0), .inr (0, 10, 0), .inr (0, 10, 0), .inr (0, 10, 0), .inr (0, 10, 0), .inr (0, 2, 0), .inr (0, 5, 0), .inr (0, 5, 0), .inr (0, 5, 0), .inr (0, 24, 0), .inr (0, 10, 0)] := A.kept (fun x h1 h2 => k364 x (by omega))
  replace FS : ∀ x, x < n → x ≠ t → s362 x = sh x := fun x h1 h2 => (k364 x (by omega)).trans (FS x h1 h2)
  clear e363 k364 B
  obtain ⟨s365, I366, e367, B, k368, k369, z⟩ := nAI_K (I := I358) (c := 10) (n := n + 38) A 0 (Or.inl rfl) (by omega) rfl
  refine OkE.b2s e367 (OkE.addN 7 472 rfl rfl ?_)
  replace A : Lay s365 n [.inr (0, 2, 0), .inr (0, 5, 0), .inr (0, 5, 0), .inr (0, 5, 0), .inr (0, 100, 0), .inr (0, 5, 0), .inr (0, 60, 0), .inr (0, 60, 0), .inr (0, 60, 0), .inr (0, 60, 0), .inr (0, 60, 0), .inr (0, 500, 0), .inr (0, 101, 0), .inr (1, 100, 0), .inr (0, 24, 0), .inr (0, 48, 0), .inr (0, 5, 0), .inr (0, 5, 0), .inr (0, 5, 0), .inr (0, 5, 0), .inr (0, 5, 0), .inr (0, 5, 0), .inr (0, 240, 0), .inr (0, 240, 0), .inr (0, 240, 0), .inr (0, 240, 0), .inr (0, 240, 0), .inr (0, 10, 0), .inr (0, 10, 0), .inr (0, 10, 0), .inr (0, 10, 0), .inr (0, 10, 0), .inr (0, 2, 0), .inr (0, 5, 0), .inr (0, 5, 0), .inr (0, 5, 0), .inr (0, 24, 0), .inr (0, 10, 0), .inr (0, 10, 0)] := B
  replace T : Lay s365 t [.inl (7, [none, none, none, some (some (n + 0)), some (some (n + 1)), some (some (n + 2)), some (some (n + 3)), none, none, none, none, none, some (some (n + 4)), some (some (n + 5)), some (some (n + 6)), some (some (n + 7)), some (some (n + 8)), some (some (n + 9)), some (some (n + 10)), some (some (n + 11)), some (some (n + 12)), none, none, none, some (some (n + 13)), none, some (some (n + 14)), some (some (n + 15)), some (some (n + 16)), some (some (n + 17)), some (some (n + 18)), some (some (n + 19)), some (some (n + 20)), some (some (n + 21)), some (some (n + 22)), some (some (n + 23)), some (some (n + 24)), some (some (n + 25)), some (some (n + 26)), none, some (some (n + 27)), some (some (n + 28)), some (some (n + 29)), some (some (n + 30)), some (some (n + 31)), none, none, none, none, none, none, none, some (some (n + 32)), some (some (n + 33)), some (some (n + 34)), some (some (n + 35)), some (some (n + 36)), some (some (n + 37)), some none, some none, some none, none, some none, some none, some none, some none, some none])] := T.kept (fun x h1 h2 => k368 x (by simp at h2; omega))
  replace V : Vals I366 t [3, 10, 0, 0, 0, 0, 0, 0, (-1), 0, 0, 0, 0, 0, 0, 0, 0, 0, 0, 0, 0, 0, 0, 0, 0, 0, 0, 0, 0, 0, 0, 0, 0, 0, 0, 0, 0, 0, 0, 0, 0, 0, 0, 0, 0, 0, 3, 10, 0, (-1), 0, 0, 0, 0, 0, 0, 0, 0, 0, 0, 0, 0, 0, 0, 0, 0, 0] := V.kept (k369 t (by omega))
  replace FS : ∀ x, x < n → x ≠ t → s365 x = sh x := fun x h1 h2 => (k368 x (by omega)).trans (FS x h1 h2)
  replace Z : ∀ x j, n ≤ x → x < n + 39 → x ≠ n + 42 → I366 x j = 0 := fun x j h1 h2 h3 => by
    by_cases hx : x = n + 38
    · rw [hx]
      exact z j
    · rw [k369 x hx]
      exact Z x j h1 (by omega) h3
  replace FI : ∀ x, x < n → x ≠ t → I366 x = I x := fun x h1 h2 => (k369 x (by omega)).trans (FI x h1 h2)
  clear e367 k368 k369 z B
  obtain ⟨s370, e371, B, k372⟩ := pR_L T 0 58 (n + 38) rfl ⟨none, rfl⟩
  refine OkE.bs e371 ?_
  replace T : Lay s370 t [.inl (7, [none, none, none, some (some (n + 0)), some (some (n + 1)), some (some (n + 2)), some (some (n + 3)), none, none, none, none, none, some (some (n + 4)), some (some (n + 5)), some (some (n + 6)), some (some (n + 7)), some (some (n + 8)), some (some (n + 9)), some (some (n + 10)), some (some (n + 11)), some (some (n + 12)), none, none, none, some (some (n + 13)), none, some (some (n + 14)), some (some (n + 15)), some (some (n + 16)), some (some (n + 17)), some (some (n + 18)), some (some (n + 19)), some (some (n + 20)), some (some (n + 21)), some (some (n + 22)), some (some (n + 23)), some (some (n + 24)), some (some (n + 25)), some (some (n + 26)), none, some (some (n + 27)), some (some (n + 28)), some (some (n + 29)), some (some (n + 30)), some (some (n + 31)), none, none, none, none, none, none, none, some (some (n + 32)), some (some (n + 33)), some (some (n + 34)), some (some (n + 35)), some (some (n + 36)), some (some (n + 37)), some (some (n + 38)), some none, some none, none, some none, some none, some none, some none, some none])] := B
  replace A : Lay s370 n [.inr (0, 2, 0), .inr (0, 5, 0), .inr (0, 5, 0), .inr (0, 5, 0), .inr (0, 100, 0), .inr (0, 5, 0), .inr (0, 60, 0), .inr (0, 60, 0), .inr (0, 60, 0), .inr (0, 60, 0), .inr (0, 60, 0), .inr (0, 500, 0), .inr (0, 101, 0), .inr (1, 100, 0), .inr (0, 24, 0), .inr (0, 48, 0), .inr (0, 5, 0), .inr (0, 5, 0), .inr (0, 5, 0), .inr (0, 5, 0), .inr (0, 5, 0), .inr (0, 5, 0), .inr (0, 240, 0), .inr (0, 240, 0), .inr (0, 240, 0), .inr (0, 240, 0), .inr (0, 240, 0), .inr (0, 10, 0), .inr (0, 10, 0), .inr (0, 10, 0), .inr (0, 10, 0), .inr (0, 10, 0), .inr (0, 2, 0), .inr (0, 5, 0), .inr (0, 5, 0), .inr (0, 5, 0), .inr (0, 24, 0), .inr (0, 10, 0), .inr (0, 10, 0)] := A.kept (fun x h1 h2 => k372 x (by omega))
  replace FS : ∀ x, x < n → x ≠ t → s370 x = sh x := fun x h1 h2 => (k372 x (by omega)).trans (FS x h1 h2)
  clear e371 k372 B
  obtain ⟨s373, I374, e375, B, k376, k377, z⟩ := nAI_K (I := I366) (c := 10) (n := n + 39) A 0 (Or.inl rfl) (by omega) rfl
  refine OkE.b2s e375 (OkE.addN 6 462 rfl rfl ?_)
  replace A : Lay s373 n [.inr (0, 2, 0), .inr (0, 5, 0), .inr (0, 5, 0), .inr (0, 5, 0), .inr (0, 100, 0), .inr (0, 5, 0), .inr (0, 60, 0), .inr (0, 60, 0), .inr (0, 60, 0), .inr (0, 60, 0), .inr (0, 60, 0), .inr (0, 500, 0), .inr (0, 101, 0), .inr (1, 100, 0), .inr (0, 24, 0), .inr (0, 48, 0), .inr (0, 5, 0), .inr (0, 5, 0), .inr (0, 5, 0), .inr (0, 5, 0), .inr (0, 5, 0), .inr (0, 5, 0), .inr (0, 240, 0), .inr (0, 240, 0), .inr (0, 240, 0), .inr (0, 240, 0), .inr (0, 240, 0), .inr (0, 10, 0), .inr (0, 10, 0), .inr (0, 10, 0), .inr (0, 10, 0), .inr (0, 10, 0), .inr (0, 2, 0), .inr (0, 5, 0), .inr (0, 5, 0), .inr (0, 5, 0), .inr (0, 24, 0), .inr (0, 10, 0), .inr (0, 10, 0), .inr (0, 10, 0)] := B
  replace T : Lay s373 t [.inl (7, [none, none, none, some (some (n + 0)), some (some (n + 1)), some (some (n + 2)), some (some (n + 3)), none, none, none, none, none, some (some (n + 4)), some (some (n + 5)), some (some (n + 6)), some (some (n + 7)), some (some (n + 8)), some (some (n + 9)), some (some (n + 10)), some (some (n + 11)), some (some (n + 12)), none, none, none, some (some (n + 13)), none, some (some (n + 14)), some (some (n + 15)), some (some (n + 16)), some (some (n + 17)), some (some (n + 18)), some (some (n + 19)), some (some (n + 20)), some (some (n + 21)), some (some (n + 22)), some (some (n + 23)), some (some (n + 24)), some (some (n + 25)), some (some (n + 26)), none, some (some (n + 27)), some (some (n + 28)), some (some (n + 29)), some (some (n + 30)), some (some (n + 31)), none, none, none, none, none, none, none, some (some (n + 32)), some (some (n + 33)), some (some (n + 34)), some (some (n + 35)), some (some (n + 36)), some (some (n + 37)), some (some (n + 38)), some none, some none, none, some none, some none, some none, some none, some none])] := T.kept (fun x h1 h2 => k376 x (by simp at h2; omega))
  replace V : Vals I374 t [3, 10, 0, 0, 0, 0, 0, 0, (-1), 0, 0, 0, 0, 0, 0, 0, 0, 0, 0, 0, 0, 0, 0, 0, 0, 0, 0, 0, 0, 0, 0, 0, 0, 0, 0, 0, 0, 0, 0, 0, 0, 0, 0, 0, 0, 0, 3, 10, 0, (-1), 0, 0, 0, 0, 0, 0, 0, 0, 0, 0, 0, 0, 0, 0, 0, 0, 0] := V.kept (k377 t (by omega))
  replace FS : ∀ x, x < n → x ≠ t → s373 x = sh x := fun x h1 h2 => (k376 x (by omega)).trans (FS x h1 h2)
  replace Z : ∀ x j, n ≤ x → x < n + 40 → x ≠ n + 42 → I374 x j = 0 := fun x j h1 h2 h3 => by
    by_cases hx : x = n + 39
    · rw [hx]
      exact z j
    · rw [k377 x hx]
      exact Z x j h1 (by omega) h3
  replace FI : ∀ x, x < n → x ≠ t → I374 x = I x := fun x h1 h2 => (k377 x (by omega)).trans (FI x h1 h2)
  clear e375 k376 k377 z B
  obtain ⟨s378, e379, B, k380⟩ := pR_L T 0 59 (n + 39) rfl ⟨none, rfl⟩
  refine OkE.bs e379 ?_
  replace T : Lay s378 t [.inl (7, [none, none, none, some (some (n + 0)), some (some (n + 1)), some (some (n + 2)), some (some (n + 3)), none, none, none, none, none, some (some (n + 4)), some (some (n + 5)), some (some (n + 6)), some (some (n + 7)), some (some (n + 8)), some (some (n + 9)), some (some (n + 10)), some (some (n + 11)), some (some (n + 12)), none, none, none, some (some (n + 13)), none, some (some (n + 14)), some (some (n + 15)), some (some (n + 16)), some (some (n + 17)), some (some (n + 18)), some (some (n + 19)), some (some (n + 20)), some (some (n + 21)), some (some (n + 22)), some (some (n + 23)), some (some (n + 24)), some (some (n + 25)), some (some (n + 26)), none, some (some (n + 27)), some (some (n + 28)), some (some (n + 29)), some (some (n + 30)), some (some (n + 31)), none, none, none, none, none, none, none, some (some (n + 32)), some (some (n + 33)), some (some (n + 34)), some (some (n + 35)), some (some (n + 36)), some (some (n + 37)), some (some (n + 38)), some (some (n + 39)), some none, none, some none, some none, some none, some none, some none])] := B
  replace A : Lay s378 n [.inr (0, 2, 0), .inr (0, 5, 0), .inr (0, 5, 0), .inr (0, 5, 0), .inr (0, 100, 0), .inr (0, 5, 0), .inr (0, 60, 0), .inr (0, 60, 0), .inr (0, 60, 0), .inr (0, 60, 0), .inr (0, 60, 0), .inr (0, 500, 0), .inr (0, 101, 0), .inr (1, 100, 0), .inr (0, 24, 0), .inr (0, 48, 0), .inr (0, 5, 0), .inr (0, 5, 0), .inr (0, 5, 0), .inr (0, 5, 0), .inr (0, 5, 0), .inr (0, 5, 0), .inr (0, 240, 0), .inr (0, 240, 0), .inr (0, 240, 0), .inr (0, 240, 0), .inr (0, 240, 0), .inr (0, 10, 0), .inr (0, 10, 0), .inr (0, 10, 0), .inr (0, 10, 0), .inr (0, 10, 0), .inr (0, 2, 0), .inr (0, 5, 0), .inr (0, 5, 0), .inr (0, 5, 0), .inr (0, 24, 0), .inr (0, 10, 0), .inr (0, 10, 0), .inr (0, 10, 0)] := A.kept (fun x h1 h2 => k380 x (by omega))
  replace FS : ∀ x, x < n → x ≠ t → s378 x = sh x := fun x h1 h2 => (k380 x (by omega)).trans (FS x h1 h2)
  clear e379 k380 B
  obtain ⟨s381, I382, e383, B, k384, k385, z⟩ := nAI_K (I := I374) (c := 10) (n := n + 40) A 0 (Or.inl rfl) (by omega) rfl
  refine OkE.b2s e383 (OkE.addN 5 452 rfl rfl ?_)
  replace A : Lay s381 n [.inr (0, 2, 0), .inr (0, 5, 0), .inr (0, 5, 0), .inr (0, 5, 0), .inr (0, 100, 0), .inr (0, 5, 0), .inr (0, 60, 0), .inr (0, 60, 0), .inr (0, 60, 0), .inr (0, 60, 0), .inr (0, 60, 0), .inr (0, 500, 0), .inr (0, 101, 0), .inr (1, 100, 0), .inr (0, 24, 0), .inr (0, 48, 0), .inr (0, 5, 0), .inr (0, 5, 0), .inr (0, 5, 0), .inr (0, 5, 0), .inr (0, 5, 0), .inr (0, 5, 0), .inr (0, 240, 0), .inr (0, 240, 0), .inr (0, 240, 0), .inr (0, 240, 0), .inr (0, 240, 0), .inr (0, 10, 0), .inr (0, 10, 0), .inr (0, 10, 0), .inr (0, 10, 0), .inr (0, 10, 0), .inr (0, 2, 0), .inr (0, 5, 0), .inr (0, 5, 0), .inr (0, 5, 0), .inr (0, 24, 0), .inr (0, 10, 0), .inr (0, 10, 0), .inr (0, 10, 0), .inr (0, 10, 0)] := B
  replace T : Lay s381 t [.inl (7, [none, none, none, some (some (n + 0)), some (some (n + 1)), some (some (n + 2)), some (some (n + 3)), none, none, none, none, none, some (some (n + 4)), some (some (n + 5)), some (some (n + 6)), some (some (n + 7)), some (some (n + 8)), some (some (n + 9)), some (some (n + 10)), some (some (n + 11)), some (some (n + 12)), none, none, none, some (some (n + 13)), none, some (some (n + 14)), some (some (n + 15)), some (some (n + 16)), some (some (n + 17)), some (some (n + 18)), some (some (n + 19)), some (some (n + 20)), some (some (n + 21)), some (some (n + 22)), some (some (n + 23)), some (some (n + 24)), some (some (n + 25)), some (some (n + 26)), none, some (some (n + 27)), some (some (n + 28)), some (some (n + 29)), some (some (n + 30)), some (some (n + 31)), none, none, none, none, none, none, none, some (some (n + 32)), some (some (n + 33)), some (some (n + 34)), some (some (n + 35)), some (some (n + 36)), some (some (n + 37)), some (some (n + 38)), some (some (n + 39)), some none, none, some none, some none, some none, some none, some none])] := T.kept (fun x h1 h2 => k384 x (by simp at h2; omega))
  replace V : Vals I382 t [3, 10, 0, 0, 0, 0, 0, 0, (-1), 0, 0, 0, 0, 0, 0, 0, 0, 0, 0, 0, 0, 0, 0, 0, 0, 0, 0, 0, 0, 0, 0, 0, 0, 0, 0, 0, 0, 0, 0, 0, 0, 0, 0, 0, 0, 0, 3, 10, 0, (-1), 0, 0, 0, 0, 0, 0, 0, 0, 0, 0, 0, 0, 0, 0, 0, 0, 0] := V.kept (k385 t (by omega))
  replace FS : ∀ x, x < n → x ≠ t → s381 x = sh x := fun x h1 h2 => (k384 x (by omega)).trans (FS x h1 h2)
  replace Z : ∀ x j, n ≤ x → x < n + 41 → x ≠ n + 42 → I382 x j = 0 := fun x j h1 h2 h3 => by
    by_cases hx : x = n + 40
    · rw [hx]
      exact z j
    · rw [k385 x hx]
      exact Z x j h1 (by omega) h3
  replace FI : ∀ x, x < n → x ≠ t → I382 x = I x := fun x h1 h2 => (k385 x (by omega)).trans (FI x h1 h2)
  clear e383 k384 k385 z B
  obtain ⟨s386, e387, B, k388⟩ := pR_L T 0 60 (n + 40) rfl ⟨none, rfl⟩
  refine OkE.bs e387 ?_
  replace T : Lay s386 t [.inl (7, [none, none, none, some (some (n + 0)), some (some (n + 1)), some (some (n + 2)), some (some (n + 3)), none, none, none, none, none, some (some (n + 4)), some (some (n + 5)), some (some (n + 6)), some (some (n + 7)), some (some (n + 8)), some (some (n + 9)), some (some (n + 10)), some (some (n + 11)), some (some (n + 12)), none, none, none, some (some (n + 13)), none, some (some (n + 14)), some (some (n + 15)), some (some (n + 16)), some (some (n + 17)), some (some (n + 18)), some (some (n + 19)), some (some (n + 20)), some (some (n + 21)), some (some (n + 22)), some (some (n + 23)), some (some (n + 24)), some (some (n + 25)), some (some (n + 26)), none, some (some (n + 27)), some (some (n + 28)), some (some (n + 29)), some (some (n + 30)), some (some (n + 31)), none, none, none, none, none, none, none, some (some (n + 32)), some (some (n + 33)), some (some (n + 34)), some (some (n + 35)), some (some (n + 36)), some (some (n + 37)), some (some (n + 38)), some (some (n + 39)), some (some (n + 40)), none, some none, some none, some none, some none, some none])] := B
  replace A : Lay s386 n [.inr (0, 2, 0), .inr (0, 5, 0), .inr (0, 5, 0), .inr (0, 5, 0), .inr (0, 100, 0), .inr (0, 5, 0), .inr (0, 60, 0), .inr (0, 60, 0), .inr (0, 60, 0), .inr (0, 60, 0), .inr (0, 60, 0), .inr (0, 500, 0), .inr (0, 101, 0), .inr (1, 100, 0), .inr (0, 24, 0), .inr (0, 48, 0), .inr (0, 5, 0), .inr (0, 5, 0), .inr (0, 5, 0), .inr (0, 5, 0), .inr (0, 5, 0), .inr (0, 5, 0), .inr (0, 240, 0), .inr (0, 240, 0), .inr (0, 240, 0), .inr (0, 240, 0), .inr (0, 240, 0), .inr (0, 10, 0), .inr (0, 10, 0), .inr (0, 10, 0), .inr (0, 10, 0), .inr (0, 10, 0), .inr (0, 2, 0), .inr (0, 5, 0), .inr (0, 5, 0), .inr (0, 5, 0), .inr (0, 24, 0), .inr (0, 10, 0), .inr (0, 10, 0), .inr (0, 10, 0), .inr (0, 10, 0)] := A.kept (fun x h1 h2 => k388 x (by omega))
  replace FS : ∀ x, x < n → x ≠ t → s386 x = sh x := fun x h1 h2 => (k388 x (by omega)).trans (FS x h1 h2)
  clear e387 k388 B
  obtain ⟨I389, e390, k391, W⟩ := pI_K (I := I382) T 0 61 0 V rfl rfl
  refine OkE.bs e390 ?_
  replace V : Vals I389 t [3, 10, 0, 0, 0, 0, 0, 0, (-1), 0, 0, 0, 0, 0, 0, 0, 0, 0, 0, 0, 0, 0, 0, 0, 0, 0, 0, 0, 0, 0, 0, 0, 0, 0, 0, 0, 0, 0, 0, 0, 0, 0, 0, 0, 0, 0, 3, 10, 0, (-1), 0, 0, 0, 0, 0, 0, 0, 0, 0, 0, 0, 0, 0, 0, 0, 0, 0] := W
  replace Z : ∀ x j, n ≤ x → x < n + 41 → x ≠ n + 42 → I389 x j = 0 := fun x j h1 h2 h3 => by
    rw [k391 x (by omega)]
    exact Z x j h1 h2 h3
  replace FI : ∀ x, x < n → x ≠ t → I389 x = I x := fun x h1 h2 => (k391 x (by omega)).trans (FI x h1 h2)
  clear e390 k391 W
  obtain ⟨s392, I393, e394, B, k395, k396, z⟩ := nAI_K (I := I389) (c := 20) (n := n + 41) A 0 (Or.inl rfl) (by omega) rfl
  refine OkE.b2s e394 (OkE.addN 4 432 rfl rfl ?_)
  replace A : Lay s392 n [.inr (0, 2, 0), .inr (0, 5, 0), .inr (0, 5, 0), .inr (0, 5, 0), .inr (0, 100, 0), .inr (0, 5, 0), .inr (0, 60, 0), .inr (0, 60, 0), .inr (0, 60, 0), .inr (0, 60, 0), .inr (0, 60, 0), .inr (0, 500, 0), .inr (0, 101, 0), .inr (1, 100, 0), .inr (0, 24, 0), .inr (0, 48, 0), .inr (0, 5, 0), .inr (0, 5, 0), .inr (0, 5, 0), .inr (0, 5, 0), .inr (0, 5, 0), .inr (0, 5, 0), .inr (0, 240, 0), .inr (0, 240, 0), .inr (0, 240, 0), .inr (0, 240, 0), .inr (0, 240, 0), .inr (0, 10, 0), .inr (0, 10, 0), .inr (0, 10, 0), .inr (0, 10, 0), .inr (0, 10, 0), .inr (0, 2, 0), .inr (0, 5, 0), .inr (0, 5, 0), .inr (0, 5, 0), .inr (0, 24, 0), .inr (0, 10, 0), .inr (0, 10, 0), .inr (0, 10, 0), .inr (0, 10, 0), .inr (0, 20, 0)] := B
  replace T : Lay s392 t [.inl (7, [none, none, none, some (some (n + 0)), some (some (n + 1)), some (some (n + 2)), some (some (n + 3)), none, none, none, none, none, some (some (n + 4)), some (some (n + 5)), some (some (n + 6)), some (some (n + 7)), some (some (n + 8)), some (some (n + 9)), some (some (n + 10)), some (some (n + 11)), some (some (n + 12)), none, none, none, some (some (n + 13)), none, some (some (n + 14)), some (some (n + 15)), some (some (n + 16)), some (some (n + 17)), some (some (n + 18)), some (some (n + 19)), some (some (n + 20)), some (some (n + 21)), some (some (n + 22)), some (some (n + 23)), some (some (n + 24)), some (some (n + 25)), some (some (n + 26)), none, some (some (n + 27)), some (some (n + 28)), some (some (n + 29)), some (some (n + 30)), some (some (n + 31)), none, none, none, none, none, none, none, some (some (n + 32)), some (some (n + 33)), some (some (n + 34)), some (some (n + 35)), some (some (n + 36)), some (some (n + 37)), some (some (n + 38)), some (some (n + 39)), some (some (n + 40)), none, some none, some none, some none, some none, some none])] := T.kept (fun x h1 h2 => k395 x (by simp at h2; omega))
  replace V : Vals I393 t [3, 10, 0, 0, 0, 0, 0, 0, (-1), 0, 0, 0, 0, 0, 0, 0, 0, 0, 0, 0, 0, 0, 0, 0, 0, 0, 0, 0, 0, 0, 0, 0, 0, 0, 0, 0, 0, 0, 0, 0, 0, 0, 0, 0, 0, 0, 3, 10, 0, (-1), 0, 0, 0, 0, 0, 0, 0, 0, 0, 0, 0, 0, 0, 0, 0, 0, 0] := V.kept (k396 t (by omega))
  replace FS : ∀ x, x < n → x ≠ t → s392 x = sh x := fun x h1 h2 => (k395 x (by omega)).trans (FS x h1 h2)
  replace Z : ∀ x j, n ≤ x → x < n + 42 → x ≠ n + 42 → I393 x j = 0 := fun x j h1 h2 h3 => by
    by_cases hx : x = n + 41
    · rw [hx]
      exact z j
    · rw [k396 x hx]
      exact Z x j h1 (by omega) h3
  replace FI : ∀ x, x < n → x ≠ t → I393 x = I x := fun x h1 h2 => (k396 x (by omega)).trans (FI x h1 h2)
  clear e394 k395 k396 z B
  obtain ⟨s397, e398, B, k399⟩ := pR_L T 0 62 (n + 41) rfl ⟨none, rfl⟩
  refine OkE.bs e398 ?_
  replace T : Lay s397 t [.inl (7, [none, none, none, some (some (n + 0)), some (some (n + 1)), some (some (n + 2)), some (some (n + 3)), none, none, none, none, none, some (some (n + 4)), some (some (n + 5)), some (some (n + 6)), some (some (n + 7)), some (some (n + 8)), some (some (n + 9)), some (some (n + 10)), some (some (n + 11)), some (some (n + 12)), none, none, none, some (some (n + 13)), none, some (some (n + 14)), some (some (n + 15)), some (some (n + 16)), some (some (n + 17)), some (some (n + 18)), some (some (n + 19)), some (some (n + 20)), some (some (n + 21)), some (some (n + 22)), some (some (n + 23)), some (some (n + 24)), some (some (n + 25)), some (some (n + 26)), none, some (some (n + 27)), some (some (n + 28)), some (some (n + 29)), some (some (n + 30)), some (some (n + 31)), none, none, none, none, none, none, none, some (some (n + 32)), some (some (n + 33)), some (some (n + 34)), some (some (n + 35)), some (some (n + 36)), some (some (n + 37)), some (some (n + 38)), some (some (n + 39)), some (some (n + 40)), none, some (some (n + 41)), some none, some none, some none, some none])] := B
  replace A : Lay s397 n [.inr (0, 2, 0), .inr (0, 5, 0), .inr (0, 5, 0), .inr (0, 5, 0), .inr (0, 100, 0), .inr (0, 5, 0), .inr (0, 60, 0), .inr (0, 60, 0), .inr (0, 60, 0), .inr (0, 60, 0), .inr (0, 60, 0), .inr (0, 500, 0), .inr (0, 101, 0), .inr (1, 100, 0), .inr (0, 24, 0), .inr (0, 48, 0), .inr (0, 5, 0), .inr (0, 5, 0), .inr (0, 5, 0), .inr (0, 5, 0), .inr (0, 5, 0), .inr (0, 5, 0), .inr (0, 240, 0), .inr (0, 240, 0), .inr (0, 240, 0), .inr (0, 240, 0), .inr (0, 240, 0), .inr (0, 10, 0), .inr (0, 10, 0), .inr (0, 10, 0), .inr (0, 10, 0), .inr (0, 10, 0), .inr (0, 2, 0), .inr (0, 5, 0), .inr (0, 5, 0), .inr (0, 5, 0), .inr (0, 24, 0), .inr (0, 10, 0), .inr (0, 10, 0), .inr (0, 10, 0), .inr (0, 10, 0), .inr (0, 20, 0)] := A.kept (fun x h1 h2 => k399 x (by omega))
  replace FS : ∀ x, x < n → x ≠ t → s397 x = sh x := fun x h1 h2 => (k399 x (by omega)).trans (FS x h1 h2)
  clear e398 k399 B
  obtain ⟨s400, I401, e402, B, k403, k404, z⟩ := nAI_K (I := I393) (c := 6) (n := n + 42) A 0 (Or.inl rfl) (by omega) rfl
  refine OkE.b2s e402 (OkE.addN 3 426 rfl rfl ?_)
  replace A : Lay s400 n [.inr (0, 2, 0), .inr (0, 5, 0), .inr (0, 5, 0), .inr (0, 5, 0), .inr (0, 100, 0), .inr (0, 5, 0), .inr (0, 60, 0), .inr (0, 60, 0), .inr (0, 60, 0), .inr (0, 60, 0), .inr (0, 60, 0), .inr (0, 500, 0), .inr (0, 101, 0), .inr (1, 100, 0), .inr (0, 24, 0), .inr (0, 48, 0), .inr (0, 5, 0), .inr (0, 5, 0), .inr (0, 5, 0), .inr (0, 5, 0), .inr (0, 5, 0), .inr (0, 5, 0), .inr (0, 240, 0), .inr (0, 240, 0), .inr (0, 240, 0), .inr (0, 240, 0), .inr (0, 240, 0), .inr (0, 10, 0), .inr (0, 10, 0), .inr (0, 10, 0), .inr (0, 10, 0), .inr (0, 10, 0), .inr (0, 2, 0), .inr (0, 5, 0), .inr (0, 5, 0), .inr (0, 5, 0), .inr (0, 24, 0), .inr (0, 10, 0), .inr (0, 10, 0), .inr (0, 10, 0), .inr (0, 10, 0), .inr (0, 20, 0), .inr (0, 6, 0)] := B
  replace T : Lay s400 t [.inl (7, [none, none, none, some (some (n + 0)), some (some (n + 1)), some (some (n + 2)), some (some (n + 3)), none, none, none, none, none, some (some (n + 4)), some (some (n + 5)), some (some (n + 6)), some (some (n + 7)), some (some (n + 8)), some (some (n + 9)), some (some (n + 10)), some (some (n + 11)), some (some (n + 12)), none, none, none, some (some (n + 13)), none, some (some (n + 14)), some (some (n + 15)), some (some (n + 16)), some (some (n + 17)), some (some (n + 18)), some (some (n + 19)), some (some (n + 20)), some (some (n + 21)), some (some (n + 22)), some (some (n + 23)), some (some (n + 24)), some (some (n + 25)), some (some (n + 26)), none, some (some (n + 27)), some (some (n + 28)), some (some (n + 29)), some (some (n + 30)), some (some (n + 31)), none, none, none, none, none, none, none, some (some (n + 32)), some (some (n + 33)), some (some (n + 34)), some (some (n + 35)), some (some (n + 36)), some (some (n + 37)), some (some (n + 38)), some (some (n + 39)), some (some (n + 40)), none, some (some (n + 41)), some none, some none, some none, some none])] := T.kept (fun x h1 h2 => k403 x (by simp at h2; omega))
  replace V : Vals I401 t [3, 10, 0, 0, 0, 0, 0, 0, (-1), 0, 0, 0, 0, 0, 0, 0, 0, 0, 0, 0, 0, 0, 0, 0, 0, 0, 0, 0, 0, 0, 0, 0, 0, 0, 0, 0, 0, 0, 0, 0, 0, 0, 0, 0, 0, 0, 3, 10, 0, (-1), 0, 0, 0, 0, 0, 0, 0, 0, 0, 0, 0, 0, 0, 0, 0, 0, 0] := V.kept (k404 t (by omega))
  replace FS : ∀ x, x < n → x ≠ t → s400 x = sh x := fun x h1 h2 => (k403 x (by omega)).trans (FS x h1 h2)
  replace Z : ∀ x j, n ≤ x → x < n + 43 → x ≠ n + 42 → I401 x j = 0 := fun x j h1 h2 h3 => by
    by_cases hx : x = n + 42
    · rw [hx]
      exact z j
    · rw [k404 x hx]
      exact Z x j h1 (by omega) h3
  replace FI : ∀ x, x < n → x ≠ t → I401 x = I x := fun x h1 h2 => (k404 x (by omega)).trans (FI x h1 h2)
  clear e402 k403 k404 z B
  obtain ⟨I405, e406, k407, v408⟩ := sI_K (I := I401) A 42 0 (-1) rfl (by omega) (by omega)
  refine OkE.bs e406 ?_
  replace V : Vals I405 t [3, 10, 0, 0, 0, 0, 0, 0, (-1), 0, 0, 0, 0, 0, 0, 0, 0, 0, 0, 0, 0, 0, 0, 0, 0, 0, 0, 0, 0, 0, 0, 0, 0, 0, 0, 0, 0, 0, 0, 0, 0, 0, 0, 0, 0, 0, 3, 10, 0, (-1), 0, 0, 0, 0, 0, 0, 0, 0, 0, 0, 0, 0, 0, 0, 0, 0, 0] := V.kept (k407 t (by omega))
  replace Z : ∀ x j, n ≤ x → x < n + 43 → x ≠ n + 42 → I405 x j = 0 := fun x j h1 h2 h3 => by
    rw [k407 x (by omega)]
    exact Z x j h1 h2 h3
  replace FI : ∀ x, x < n → x ≠ t → I405 x = I x := fun x h1 h2 => (k407 x (by omega)).trans (FI x h1 h2)
  clear e406 k407
  obtain ⟨I409, e410, k411, v412⟩ := sI_K (I := I405) A 42 1 (-1) rfl (by omega) (by omega)
  refine OkE.bs e410 ?_
  replace V : Vals I409 t [3, 10, 0, 0, 0, 0, 0, 0, (-1), 0, 0, 0, 0, 0, 0, 0, 0, 0, 0, 0, 0, 0, 0, 0, 0, 0, 0, 0, 0, 0, 0, 0, 0, 0, 0, 0, 0, 0, 0, 0, 0, 0, 0, 0, 0, 0, 3, 10, 0, (-1), 0, 0, 0, 0, 0, 0, 0, 0, 0, 0, 0, 0, 0, 0, 0, 0, 0] := V.kept (k411 t (by omega))
  replace Z : ∀ x j, n ≤ x → x < n + 43 → x ≠ n + 42 → I409 x j = 0 := fun x j h1 h2 h3 => by
    rw [k411 x (by omega)]
    exact Z x j h1 h2 h3
  replace FI : ∀ x, x < n → x ≠ t → I409 x = I x := fun x h1 h2 => (k411 x (by omega)).trans (FI x h1 h2)
  clear e410 k411
  obtain ⟨I413, e414, k415, v416⟩ := sI_K (I := I409) A 42 2 (-1) rfl (by omega) (by omega)
  refine OkE.bs e414 ?_
  replace V : Vals I413 t [3, 10, 0, 0, 0, 0, 0, 0, (-1), 0, 0, 0, 0, 0, 0, 0, 0, 0, 0, 0, 0, 0, 0, 0, 0, 0, 0, 0, 0, 0, 0, 0, 0, 0, 0, 0, 0, 0, 0, 0, 0, 0, 0, 0, 0, 0, 3, 10, 0, (-1), 0, 0, 0, 0, 0, 0, 0, 0, 0, 0, 0, 0, 0, 0, 0, 0, 0] := V.kept (k415 t (by omega))
  replace Z : ∀ x j, n ≤ x → x < n + 43 → x ≠ n + 42 → I413 x j = 0 := fun x j h1 h2 h3 => by
    rw [k415 x (by omega)]
    exact Z x j h1 h2 h3
  replace FI : ∀ x, x < n → x ≠ t → I413 x = I x := fun x h1 h2 => (k415 x (by omega)).trans (FI x h1 h2)
  clear e414 k415
  obtain ⟨I417, e418, k419, v420⟩ := sI_K (I := I413) A 42 3 (-1) rfl (by omega) (by omega)
  refine OkE.bs e418 ?_
  replace V : Vals I417 t [3, 10, 0, 0, 0, 0, 0, 0, (-1), 0, 0, 0, 0, 0, 0, 0, 0, 0, 0, 0, 0, 0, 0, 0, 0, 0, 0, 0, 0, 0, 0, 0, 0, 0, 0, 0, 0, 0, 0, 0, 0, 0, 0, 0, 0, 0, 3, 10, 0, (-1), 0, 0, 0, 0, 0, 0, 0, 0, 0, 0, 0, 0, 0, 0, 0, 0, 0] := V.kept (k419 t (by omega))
  replace Z : ∀ x j, n ≤ x → x < n + 43 → x ≠ n + 42 → I417 x j = 0 := fun x j h1 h2 h3 => by
    rw [k419 x (by omega)]
    exact Z x j h1 h2 h3
  replace FI : ∀ x, x < n → x ≠ t → I417 x = I x := fun x h1 h2 => (k419 x (by omega)).trans (FI x h1 h2)
  clear e418 k419
  obtain ⟨I421, e422, k423, v424⟩ := sI_K (I := I417) A 42 4 (-1) rfl (by omega) (by omega)
  refine OkE.bs e422 ?_
  replace V : Vals I421 t [3, 10, 0, 0, 0, 0, 0, 0, (-1), 0, 0, 0, 0, 0, 0, 0, 0, 0, 0, 0, 0, 0, 0, 0, 0, 0, 0, 0, 0, 0, 0, 0, 0, 0, 0, 0, 0, 0, 0, 0, 0, 0, 0, 0, 0, 0, 3, 10, 0, (-1), 0, 0, 0, 0, 0, 0, 0, 0, 0, 0, 0, 0, 0, 0, 0, 0, 0] := V.kept (k423 t (by omega))
  replace Z : ∀ x j, n ≤ x → x < n + 43 → x ≠ n + 42 → I421 x j = 0 := fun x j h1 h2 h3 => by
    rw [k423 x (by omega)]
    exact Z x j h1 h2 h3
  replace FI : ∀ x, x < n → x ≠ t → I421 x = I x := fun x h1 h2 => (k423 x (by omega)).trans (FI x h1 h2)
  clear e422 k423
  obtain ⟨I425, e426, k427, v428⟩ := sI_K (I := I421) A 42 5 (-1) rfl (by omega) (by omega)
  refine OkE.bs e426 ?_
  replace V : Vals I425 t [3, 10, 0, 0, 0, 0, 0, 0, (-1), 0, 0, 0, 0, 0, 0, 0, 0, 0, 0, 0, 0, 0, 0, 0, 0, 0, 0, 0, 0, 0, 0, 0, 0, 0, 0, 0, 0, 0, 0, 0, 0, 0, 0, 0, 0, 0, 3, 10, 0, (-1), 0, 0, 0, 0, 0, 0, 0, 0, 0, 0, 0, 0, 0, 0, 0, 0, 0] := V.kept (k427 t (by omega))
  replace Z : ∀ x j, n ≤ x → x < n + 43 → x ≠ n + 42 → I425 x j = 0 := fun x j h1 h2 h3 => by
    rw [k427 x (by omega)]
    exact Z x j h1 h2 h3
  replace FI : ∀ x, x < n → x ≠ t → I425 x = I x := fun x h1 h2 => (k427 x (by omega)).trans (FI x h1 h2)
  clear e426 k427
  have Y : ∀ j, j < 6 → I425 (n + 42) j = -1 := fun j hj => by
    rcases (show j = 0 ∨ j = 1 ∨ j = 2 ∨ j = 3 ∨ j = 4 ∨ j = 5 by omega) with rfl | rfl | rfl | rfl | rfl | rfl <;> simp [v428, v424, v420, v416, v412, v408, upd]
  clear v408 v412 v416 v420 v424 v428
  obtain ⟨s429, e430, B, k431⟩ := pR_L T 0 63 (n + 42) rfl ⟨none, rfl⟩
  refine OkE.bs e430 ?_
  replace T : Lay s429 t [.inl (7, [none, none, none, some (some (n + 0)), some (some (n + 1)), some (some (n + 2)), some (some (n + 3)), none, none, none, none, none, some (some (n + 4)), some (some (n + 5)), some (some (n + 6)), some (some (n + 7)), some (some (n + 8)), some (some (n + 9)), some (some (n + 10)), some (some (n + 11)), some (some (n + 12)), none, none, none, some (some (n + 13)), none, some (some (n + 14)), some (some (n + 15)), some (some (n + 16)), some (some (n + 17)), some (some (n + 18)), some (some (n + 19)), some (some (n + 20)), some (some (n + 21)), some (some (n + 22)), some (some (n + 23)), some (some (n + 24)), some (some (n + 25)), some (some (n + 26)), none, some (some (n + 27)), some (some (n + 28)), some (some (n + 29)), some (some (n + 30)), some (some (n + 31)), none, none, none, none, none, none, none, some (some (n + 32)), some (some (n + 33)), some (some (n + 34)), some (some (n + 35)), some (some (n + 36)), some (some (n + 37)), some (some (n + 38)), some (some (n + 39)), some (some (n + 40)), none, some (some (n + 41)), some (some (n + 42)), some none, some none, some none])] := B
  replace A : Lay s429 n [.inr (0, 2, 0), .inr (0, 5, 0), .inr (0, 5, 0), .inr (0, 5, 0), .inr (0, 100, 0), .inr (0, 5, 0), .inr (0, 60, 0), .inr (0, 60, 0), .inr (0, 60, 0), .inr (0, 60, 0), .inr (0, 60, 0), .inr (0, 500, 0), .inr (0, 101, 0), .inr (1, 100, 0), .inr (0, 24, 0), .inr (0, 48, 0), .inr (0, 5, 0), .inr (0, 5, 0), .inr (0, 5, 0), .inr (0, 5, 0), .inr (0, 5, 0), .inr (0, 5, 0), .inr (0, 240, 0), .inr (0, 240, 0), .inr (0, 240, 0), .inr (0, 240, 0), .inr (0, 240, 0), .inr (0, 10, 0), .inr (0, 10, 0), .inr (0, 10, 0), .inr (0, 10, 0), .inr (0, 10, 0), .inr (0, 2, 0), .inr (0, 5, 0), .inr (0, 5, 0), .inr (0, 5, 0), .inr (0, 24, 0), .inr (0, 10, 0), .inr (0, 10, 0), .inr (0, 10, 0), .inr (0, 10, 0), .inr (0, 20, 0), .inr (0, 6, 0)] := A.kept (fun x h1 h2 => k431 x (by omega))
  replace FS : ∀ x, x < n → x ≠ t → s429 x = sh x := fun x h1 h2 => (k431 x (by omega)).trans (FS x h1 h2)
  clear e430 k431 B
  obtain ⟨s432, I433, e434, B, k435, k436, z⟩ := nAI_K (I := I425) (c := 6) (n := n + 43) A 0 (Or.inl rfl) (by omega) rfl
  refine OkE.b2s e434 (OkE.addN 2 420 rfl rfl ?_)
  replace A : Lay s432 n [.inr (0, 2, 0), .inr (0, 5, 0), .inr (0, 5, 0), .inr (0, 5, 0), .inr (0, 100, 0), .inr (0, 5, 0), .inr (0, 60, 0), .inr (0, 60, 0), .inr (0, 60, 0), .inr (0, 60, 0), .inr (0, 60, 0), .inr (0, 500, 0), .inr (0, 101, 0), .inr (1, 100, 0), .inr (0, 24, 0), .inr (0, 48, 0), .inr (0, 5, 0), .inr (0, 5, 0), .inr (0, 5, 0), .inr (0, 5, 0), .inr (0, 5, 0), .inr (0, 5, 0), .inr (0, 240, 0), .inr (0, 240, 0), .inr (0, 240, 0), .inr (0, 240, 0), .inr (0, 240, 0), .inr (0, 10, 0), .inr (0, 10, 0), .inr (0, 10, 0), .inr (0, 10, 0), .inr (0, 10, 0), .inr (0, 2, 0), .inr (0, 5, 0), .inr (0, 5, 0), .inr (0, 5, 0), .inr (0, 24, 0), .inr (0, 10, 0), .inr (0, 10, 0), .inr (0, 10, 0), .inr (0, 10, 0), .inr (0, 20, 0), .inr (0, 6, 0), .inr (0, 6, 0)] := B
  replace T : Lay s432 t [.inl (7, [none, none, none, some (some (n + 0)), some (some (n + 1)), some (some (n + 2)), some (some (n + 3)), none, none, none, none, none, some (some (n + 4)), some (some (n + 5)), some (some (n + 6)), some (some (n + 7)), some (some (n + 8)), some (some (n + 9)), some (some (n + 10)), some (some (n + 11)), some (some (n + 12)), none, none, none, some (some (n + 13)), none, some (some (n + 14)), some (some (n + 15)), some (some (n + 16)), some (some (n + 17)), some (some (n + 18)), some (some (n + 19)), some (some (n + 20)), some (some (n + 21)), some (some (n + 22)), some (some (n + 23)), some (some (n + 24)), some (some (n + 25)), some (some (n + 26)), none, some (some (n + 27)), some (some (n + 28)), some (some (n + 29)), some (some (n + 30)), some (some (n + 31)), none, none, none, none, none, none, none, some (some (n + 32)), some (some (n + 33)), some (some (n + 34)), some (some (n + 35)), some (some (n + 36)), some (some (n + 37)), some (some (n + 38)), some (some (n + 39)), some (some (n + 40)), none, some (some (n + 41)), some (some (n + 42)), some none, some none, some none])] := T.kept (fun x h1 h2 => k435 x (by simp at h2; omega))
  replace V : Vals I433 t [3, 10, 0, 0, 0, 0, 0, 0, (-1), 0, 0, 0, 0, 0, 0, 0, 0, 0, 0, 0, 0, 0, 0, 0, 0, 0, 0, 0, 0, 0, 0, 0, 0, 0, 0, 0, 0, 0, 0, 0, 0, 0, 0, 0, 0, 0, 3, 10, 0, (-1), 0, 0, 0, 0, 0, 0, 0, 0, 0, 0, 0, 0, 0, 0, 0, 0, 0] := V.kept (k436 t (by omega))
  replace FS : ∀ x, x < n → x ≠ t → s432 x = sh x := fun x h1 h2 => (k435 x (by omega)).trans (FS x h1 h2)
  replace Z : ∀ x j, n ≤ x → x < n + 44 → x ≠ n + 42 → I433 x j = 0 := fun x j h1 h2 h3 => by
    by_cases hx : x = n + 43
    · rw [hx]
      exact z j
    · rw [k436 x hx]
      exact Z x j h1 (by omega) h3
  replace Y : ∀ j, j < 6 → I433 (n + 42) j = -1 := fun j hj => by rw [k436 _ (by omega)]; exact Y j hj
  replace FI : ∀ x, x < n → x ≠ t → I433 x = I x := fun x h1 h2 => (k436 x (by omega)).trans (FI x h1 h2)
  clear e434 k435 k436 z B
  obtain ⟨s437, e438, B, k439⟩ := pR_L T 0 64 (n + 43) rfl ⟨none, rfl⟩
  refine OkE.bs e438 ?_
  replace T : Lay s437 t [.inl (7, [none, none, none, some (some (n + 0)), some (some (n + 1)), some (some (n + 2)), some (some (n + 3)), none, none, none, none, none, some (some (n + 4)), some (some (n + 5)), some (some (n + 6)), some (some (n + 7)), some (some (n + 8)), some (some (n + 9)), some (some (n + 10)), some (some (n + 11)), some (some (n + 12)), none, none, none, some (some (n + 13)), none, some (some (n + 14)), some (some (n + 15)), some (some (n + 16)), some (some (n + 17)), some (some (n + 18)), some (some (n + 19)), some (some (n + 20)), some (some (n + 21)), some (some (n + 22)), some (some (n + 23)), some (some (n + 24)), some (some (n + 25)), some (some (n + 26)), none, some (some (n + 27)), some (some (n + 28)), some (some (n + 29)), some (some (n + 30)), some (some (n + 31)), none, none, none, none, none, none, none, some (some (n + 32)), some (some (n + 33)), some (some (n + 34)), some (some (n + 35)), some (some (n + 36)), some (some (n + 37)), some (some (n + 38)), some (some (n + 39)), some (some (n + 40)), none, some (some (n + 41)), some (some (n + 42)), some (some (n + 43)), some none, some none])] := B
  replace A : Lay s437 n [.inr (0, 2, 0), .inr (0, 5, 0), .inr (0, 5, 0), .inr (0, 5, 0), .inr (0, 100, 0), .inr (0, 5, 0), .inr (0, 60, 0), .inr (0, 60, 0), .inr (0, 60, 0), .inr (0, 60, 0), .inr (0, 60, 0), .inr (0, 500, 0), .inr (0, 101, 0), .inr (1, 100, 0), .inr (0, 24, 0), .inr (0, 48, 0), .inr (0, 5, 0), .inr (0, 5, 0), .inr (0, 5, 0), .inr (0, 5, 0), .inr (0, 5, 0), .inr (0, 5, 0), .inr (0, 240, 0), .inr (0, 240, 0), .inr (0, 240, 0), .inr (0, 240, 0), .inr (0, 240, 0), .inr (0, 10, 0), .inr (0, 10, 0), .inr (0, 10, 0), .inr (0, 10, 0), .inr (0, 10, 0), .inr (0, 2, 0), .inr (0, 5, 0), .inr (0, 5, 0), .inr (0, 5, 0), .inr (0, 24, 0), .inr (0, 10, 0), .inr (0, 10, 0), .inr (0, 10, 0), .inr (0, 10, 0), .inr (0, 20, 0), .inr (0, 6, 0), .inr (0, 6, 0)] := A.kept (fun x h1 h2 => k439 x (by omega))
  replace FS : ∀ x, x < n → x ≠ t → s437 x = sh x := fun x h1 h2 => (k439 x (by omega)).trans (FS x h1 h2)
  clear e438 k439 B
  obtain ⟨s440, L441, e442, B, k443, k444, z⟩ := nAL_K (L := L) (c := 360) (n := n + 44) A (by omega) rfl
  refine OkE.b2s e442 (OkE.addN 1 60 rfl rfl ?_)
  replace A : Lay s440 n [.inr (0, 2, 0), .inr (0, 5, 0), .inr (0, 5, 0), .inr (0, 5, 0), .inr (0, 100, 0), .inr (0, 5, 0), .inr (0, 60, 0), .inr (0, 60, 0), .inr (0, 60, 0), .inr (0, 60, 0), .inr (0, 60, 0), .inr (0, 500, 0), .inr (0, 101, 0), .inr (1, 100, 0), .inr (0, 24, 0), .inr (0, 48, 0), .inr (0, 5, 0), .inr (0, 5, 0), .inr (0, 5, 0), .inr (0, 5, 0), .inr (0, 5, 0), .inr (0, 5, 0), .inr (0, 240, 0), .inr (0, 240, 0), .inr (0, 240, 0), .inr (0, 240, 0), .inr (0, 240, 0), .inr (0, 10, 0), .inr (0, 10, 0), .inr (0, 10, 0), .inr (0, 10, 0), .inr (0, 10, 0), .inr (0, 2, 0), .inr (0, 5, 0), .inr (0, 5, 0), .inr (0, 5, 0), .inr (0, 24, 0), .inr (0, 10, 0), .inr (0, 10, 0), .inr (0, 10, 0), .inr (0, 10, 0), .inr (0, 20, 0), .inr (0, 6, 0), .inr (0, 6, 0), .inr (2, 360, 0)] := B
  replace T : Lay s440 t [.inl (7, [none, none, none, some (some (n + 0)), some (some (n + 1)), some (some (n + 2)), some (some (n + 3)), none, none, none, none, none, some (some (n + 4)), some (some (n + 5)), some (some (n + 6)), some (some (n + 7)), some (some (n + 8)), some (some (n + 9)), some (some (n + 10)), some (some (n + 11)), some (some (n + 12)), none, none, none, some (some (n + 13)), none, some (some (n + 14)), some (some (n + 15)), some (some (n + 16)), some (some (n + 17)), some (some (n + 18)), some (some (n + 19)), some (some (n + 20)), some (some (n + 21)), some (some (n + 22)), some (some (n + 23)), some (some (n + 24)), some (some (n + 25)), some (some (n + 26)), none, some (some (n + 27)), some (some (n + 28)), some (some (n + 29)), some (some (n + 30)), some (some (n + 31)), none, none, none, none, none, none, none, some (some (n + 32)), some (some (n + 33)), some (some (n + 34)), some (some (n + 35)), some (some (n + 36)), some (some (n + 37)), some (some (n + 38)), some (some (n + 39)), some (some (n + 40)), none, some (some (n + 41)), some (some (n + 42)), some (some (n + 43)), some none, some none])] := T.kept (fun x h1 h2 => k443 x (by simp at h2; omega))
  replace FS : ∀ x, x < n → x ≠ t → s440 x = sh x := fun x h1 h2 => (k443 x (by omega)).trans (FS x h1 h2)
  replace FL : ∀ x, x < n → L441 x = L x := fun x h1 => (k444 x (by omega)).trans (FL x h1)
  have ZL : ∀ j, L441 (n + 44) j = 0 := z
  clear e442 k443 k444 z B
  obtain ⟨s445, e446, B, k447⟩ := pR_L T 0 65 (n + 44) rfl ⟨none, rfl⟩
  refine OkE.bs e446 ?_
  replace T : Lay s445 t [.inl (7, [none, none, none, some (some (n + 0)), some (some (n + 1)), some (some (n + 2)), some (some (n + 3)), none, none, none, none, none, some (some (n + 4)), some (some (n + 5)), some (some (n + 6)), some (some (n + 7)), some (some (n + 8)), some (some (n + 9)), some (some (n + 10)), some (some (n + 11)), some (some (n + 12)), none, none, none, some (some (n + 13)), none, some (some (n + 14)), some (some (n + 15)), some (some (n + 16)), some (some (n + 17)), some (some (n + 18)), some (some (n + 19)), some (some (n + 20)), some (some (n + 21)), some (some (n + 22)), some (some (n + 23)), some (some (n + 24)), some (some (n + 25)), some (some (n + 26)), none, some (some (n + 27)), some (some (n + 28)), some (some (n + 29)), some (some (n + 30)), some (some (n + 31)), none, none, none, none, none, none, none, some (some (n + 32)), some (some (n + 33)), some (some (n + 34)), some (some (n + 35)), some (some (n + 36)), some (some (n + 37)), some (some (n + 38)), some (some (n + 39)), some (some (n + 40)), none, some (some (n + 41)), some (some (n + 42)), some (some (n + 43)), some (some (n + 44)), some none])] := B
  replace A : Lay s445 n [.inr (0, 2, 0), .inr (0, 5, 0), .inr (0, 5, 0), .inr (0, 5, 0), .inr (0, 100, 0), .inr (0, 5, 0), .inr (0, 60, 0), .inr (0, 60, 0), .inr (0, 60, 0), .inr (0, 60, 0), .inr (0, 60, 0), .inr (0, 500, 0), .inr (0, 101, 0), .inr (1, 100, 0), .inr (0, 24, 0), .inr (0, 48, 0), .inr (0, 5, 0), .inr (0, 5, 0), .inr (0, 5, 0), .inr (0, 5, 0), .inr (0, 5, 0), .inr (0, 5, 0), .inr (0, 240, 0), .inr (0, 240, 0), .inr (0, 240, 0), .inr (0, 240, 0), .inr (0, 240, 0), .inr (0, 10, 0), .inr (0, 10, 0), .inr (0, 10, 0), .inr (0, 10, 0), .inr (0, 10, 0), .inr (0, 2, 0), .inr (0, 5, 0), .inr (0, 5, 0), .inr (0, 5, 0), .inr (0, 24, 0), .inr (0, 10, 0), .inr (0, 10, 0), .inr (0, 10, 0), .inr (0, 10, 0), .inr (0, 20, 0), .inr (0, 6, 0), .inr (0, 6, 0), .inr (2, 360, 0)] := A.kept (fun x h1 h2 => k447 x (by omega))
  replace FS : ∀ x, x < n → x ≠ t → s445 x = sh x := fun x h1 h2 => (k447 x (by omega)).trans (FS x h1 h2)
  clear e446 k447 B
  obtain ⟨s448, L449, e450, B, k451, k452, z⟩ := nAL_K (L := L441) (c := 60) (n := n + 45) A (by omega) rfl
  refine OkE.b2s e450 (OkE.addN 0 0 rfl rfl ?_)
  replace A : Lay s448 n [.inr (0, 2, 0), .inr (0, 5, 0), .inr (0, 5, 0), .inr (0, 5, 0), .inr (0, 100, 0), .inr (0, 5, 0), .inr (0, 60, 0), .inr (0, 60, 0), .inr (0, 60, 0), .inr (0, 60, 0), .inr (0, 60, 0), .inr (0, 500, 0), .inr (0, 101, 0), .inr (1, 100, 0), .inr (0, 24, 0), .inr (0, 48, 0), .inr (0, 5, 0), .inr (0, 5, 0), .inr (0, 5, 0), .inr (0, 5, 0), .inr (0, 5, 0), .inr (0, 5, 0), .inr (0, 240, 0), .inr (0, 240, 0), .inr (0, 240, 0), .inr (0, 240, 0), .inr (0, 240, 0), .inr (0, 10, 0), .inr (0, 10, 0), .inr (0, 10, 0), .inr (0, 10, 0), .inr (0, 10, 0), .inr (0, 2, 0), .inr (0, 5, 0), .inr (0, 5, 0), .inr (0, 5, 0), .inr (0, 24, 0), .inr (0, 10, 0), .inr (0, 10, 0), .inr (0, 10, 0), .inr (0, 10, 0), .inr (0, 20, 0), .inr (0, 6, 0), .inr (0, 6, 0), .inr (2, 360, 0), .inr (2, 60, 0)] := B
  replace T : Lay s448 t [.inl (7, [none, none, none, some (some (n + 0)), some (some (n + 1)), some (some (n + 2)), some (some (n + 3)), none, none, none, none, none, some (some (n + 4)), some (some (n + 5)), some (some (n + 6)), some (some (n + 7)), some (some (n + 8)), some (some (n + 9)), some (some (n + 10)), some (some (n + 11)), some (some (n + 12)), none, none, none, some (some (n + 13)), none, some (some (n + 14)), some (some (n + 15)), some (some (n + 16)), some (some (n + 17)), some (some (n + 18)), some (some (n + 19)), some (some (n + 20)), some (some (n + 21)), some (some (n + 22)), some (some (n + 23)), some (some (n + 24)), some (some (n + 25)), some (some (n + 26)), none, some (some (n + 27)), some (some (n + 28)), some (some (n + 29)), some (some (n + 30)), some (some (n + 31)), none, none, none, none, none, none, none, some (some (n + 32)), some (some (n + 33)), some (some (n + 34)), some (some (n + 35)), some (some (n + 36)), some (some (n + 37)), some (some (n + 38)), some (some (n + 39)), some (some (n + 40)), none, some (some (n + 41)), some (some (n + 42)), some (some (n + 43)), some (some (n + 44)), some none])] := T.kept (fun x h1 h2 => k451 x (by simp at h2; omega))
  replace FS : ∀ x, x < n → x ≠ t → s448 x = sh x := fun x h1 h2 => (k451 x (by omega)).trans (FS x h1 h2)
  replace FL : ∀ x, x < n → L449 x = L x := fun x h1 => (k452 x (by omega)).trans (FL x h1)
  replace ZL : ∀ j, L449 (n + 44) j = 0 := fun j => by rw [k452 _ (by omega)]; exact ZL j
  clear e450 k451 k452 z B
  obtain ⟨s453, e454, B, k455⟩ := pR_L T 0 66 (n + 45) rfl ⟨none, rfl⟩
  refine OkE.bs e454 ?_
  replace T : Lay s453 t [.inl (7, [none, none, none, some (some (n + 0)), some (some (n + 1)), some (some (n + 2)), some (some (n + 3)), none, none, none, none, none, some (some (n + 4)), some (some (n + 5)), some (some (n + 6)), some (some (n + 7)), some (some (n + 8)), some (some (n + 9)), some (some (n + 10)), some (some (n + 11)), some (some (n + 12)), none, none, none, some (some (n + 13)), none, some (some (n + 14)), some (some (n + 15)), some (some (n + 16)), some (some (n + 17)), some (some (n + 18)), some (some (n + 19)), some (some (n + 20)), some (some (n + 21)), some (some (n + 22)), some (some (n + 23)), some (some (n + 24)), some (some (n + 25)), some (some (n + 26)), none, some (some (n + 27)), some (some (n + 28)), some (some (n + 29)), some (some (n + 30)), some (some (n + 31)), none, none, none, none, none, none, none, some (some (n + 32)), some (some (n + 33)), some (some (n + 34)), some (some (n + 35)), some (some (n + 36)), some (some (n + 37)), some (some (n + 38)), some (some (n + 39)), some (some (n + 40)), none, some (some (n + 41)), some (some (n + 42)), some (some (n + 43)), some (some (n + 44)), some (some (n + 45))])] := B
  replace A : Lay s453 n [.inr (0, 2, 0), .inr (0, 5, 0), .inr (0, 5, 0), .inr (0, 5, 0), .inr (0, 100, 0), .inr (0, 5, 0), .inr (0, 60, 0), .inr (0, 60, 0), .inr (0, 60, 0), .inr (0, 60, 0), .inr (0, 60, 0), .inr (0, 500, 0), .inr (0, 101, 0), .inr (1, 100, 0), .inr (0, 24, 0), .inr (0, 48, 0), .inr (0, 5, 0), .inr (0, 5, 0), .inr (0, 5, 0), .inr (0, 5, 0), .inr (0, 5, 0), .inr (0, 5, 0), .inr (0, 240, 0), .inr (0, 240, 0), .inr (0, 240, 0), .inr (0, 240, 0), .inr (0, 240, 0), .inr (0, 10, 0), .inr (0, 10, 0), .inr (0, 10, 0), .inr (0, 10, 0), .inr (0, 10, 0), .inr (0, 2, 0), .inr (0, 5, 0), .inr (0, 5, 0), .inr (0, 5, 0), .inr (0, 24, 0), .inr (0, 10, 0), .inr (0, 10, 0), .inr (0, 10, 0), .inr (0, 10, 0), .inr (0, 20, 0), .inr (0, 6, 0), .inr (0, 6, 0), .inr (2, 360, 0), .inr (2, 60, 0)] := A.kept (fun x h1 h2 => k455 x (by omega))
  replace FS : ∀ x, x < n → x ≠ t → s453 x = sh x := fun x h1 h2 => (k455 x (by omega)).trans (FS x h1 h2)
  clear e454 k455 B
  refine OkE.ret ⟨T 0 _ rfl, A, rfl, FS, FI, FL, V, Z, Y, ZL⟩
