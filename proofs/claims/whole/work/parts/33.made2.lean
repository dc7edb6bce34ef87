/-! LAYER 2: the other constructors -/
def Vals (I : IH) (t : Nat) (vs : List Int32) : Prop := ∀ (k : Nat) (v : Int32), vs[k]? = some v → I t k = v
def Zer (I : IH) (a b : Nat) : Prop := ∀ x j, a ≤ x → x < b → I x j = 0
theorem Vals.kept {I I' : IH} {t : Nat} {vs : List Int32} (h : Vals I t vs) (e : I' t = I t) : Vals I' t vs := fun k v hv => by rw [e]; exact h k v hv
def OkE {ρ : Type} (o : Option ((Nat × Nat) × ρ)) (e s : Nat) (P : ρ → Prop) : Prop := ∃ x, o = some ((e, s), x) ∧ P x
theorem OkE.bs {α ρ : Type} {o : Option α} {f : α → Option ((Nat × Nat) × ρ)} {e s : Nat} {P : ρ → Prop} {x : α} (h : o = some x) (k : OkE (f x) e s P) : OkE (o.bind f) e s P := by
  subst h
  exact k
theorem OkE.b2s {α β ρ : Type} {o : Option (α × β)} {f : α → β → Option ((Nat × Nat) × ρ)} {e s : Nat} {P : ρ → Prop} {x : α} {y : β} (h : o = some (x, y)) (k : OkE (f x y) e s P) : OkE (b2 o f) e s P := by
  subst h
  exact k
theorem OkE.addN {ρ : Type} {c k e s : Nat} {o : Option ((Nat × Nat) × ρ)} {P : ρ → Prop} (e' s' : Nat) (h1 : c + e' = e) (h2 : k + s' = s) (h : OkE o e' s' P) : OkE (addE c k o) e s P := by
  obtain ⟨x, rfl, hx⟩ := h
  subst h1
  subst h2
  exact ⟨x, rfl, hx⟩
theorem OkE.ret {ρ : Type} {P : ρ → Prop} {x : ρ} (h : P x) : OkE (some ((0, 0), x)) 0 0 P := ⟨x, rfl, h⟩
section MK
variable {sh : SH} {I : IH} {L : LH} {a o : Nat} {ds : List shD} {ci k N t g n c : Nat} {fs : List (Option (Option Nat))}
theorem nAI_K (h : Lay sh a ds) (ty : Nat) (ht : ty = 0 ∨ ty = 1) (hc : c ≤ 100000) (hn : a + ds.length = n) : ∃ sh' I', nAI sh I n ty (nI c) = some (sh', I') ∧ Lay sh' a (ds ++ [.inr (ty, c, 0)]) ∧ (∀ x, x ≠ n → sh' x = sh x) ∧ (∀ x, x ≠ n → I' x = I x) ∧ ∀ j, I' n j = 0 := by
  obtain ⟨s, e, A, k⟩ := nAI_L (I := I) h hn hc ty ht
  exact ⟨s, _, e, A, k, fun x hx => upR_ne hx, fun j => by rw [upR_same]⟩
theorem nAL_K (h : Lay sh a ds) (hc : c ≤ 100000) (hn : a + ds.length = n) : ∃ sh' L', nAL sh L n (nI c) = some (sh', L') ∧ Lay sh' a (ds ++ [.inr (2, c, 0)]) ∧ (∀ x, x ≠ n → sh' x = sh x) ∧ (∀ x, x ≠ n → L' x = L x) ∧ ∀ j, L' n j = 0 := by
  obtain ⟨s, e, A, k⟩ := nAL_L (L := L) h hn hc
  exact ⟨s, _, e, A, k, fun x hx => upR_ne hx, fun j => by rw [upR_same]⟩
theorem nM_K {N K : Nat} (h : Lay sh a ds) (hN : N ≤ 100000) (hK : K ≤ 100000) (hn : a + ds.length = n) : ∃ sh' I', nM sh I n (nI N) (nI K) = some (sh', I') ∧ Lay sh' a (ds ++ .inr (4, N, n + 1) :: List.replicate N (.inr (0, K, 0))) ∧ (∀ x, x < n ∨ n + N < x → sh' x = sh x) ∧ (∀ x, x ≤ n ∨ n + N < x → I' x = I x) ∧ ∀ x j, n < x → x ≤ n + N → I' x j = 0 := by
  obtain ⟨s, e, A, k⟩ := nM_L (I := I) h hn hN hK
  exact ⟨s, _, e, A, k, fun x hx => by unfold nMI; rw [if_neg (by omega)], fun x j h1 h2 => by unfold nMI; rw [if_pos ⟨h1, h2⟩]⟩
theorem pI_K (h : Lay sh a ds) (o k : Nat) (v : Int32) {vs : List Int32} (hV : Vals I (a + o) vs) (hd : ds[o]? = some (.inl (ci, fs))) (hk : fs[k]? = some none) : ∃ I', pI sh I ci (a + o) k v = some I' ∧ (∀ x, x ≠ a + o → I' x = I x) ∧ Vals I' (a + o) (vs.set k v) := by
  refine ⟨_, pI_L h o k hd hk v, fun x hx => upR_ne hx, fun k' v' hv => ?_⟩
  rw [upR_same]
  by_cases hkk : k = k'
  · subst hkk
    rw [upd_eq]
    rw [List.getElem?_set] at hv
    split at hv
    · split at hv
      · exact Option.some.inj hv
      · cases hv
    · next q => exact absurd rfl q
  · rw [upd_ne (Ne.symm hkk)]
    rw [List.getElem?_set_ne hkk] at hv
    exact hV _ _ hv
theorem sI_K (h : Lay sh a ds) (o j : Nat) (v : Int32) (hd : ds[o]? = some (.inr (0, N, g))) (hj : j < N) (hN : N < 2 ^ 31) : ∃ I', sI sh I (a + o) (nI j) v = some I' ∧ (∀ x, x ≠ a + o → I' x = I x) ∧ I' (a + o) = upd (I (a + o)) j v := ⟨_, sI_L h o hd hj hN v, fun x hx => upR_ne hx, upR_same⟩
end MK

/-- a Water's cells behind it -/
def wArea (n : Nat) : List shD := [.inr (0, 48, 0), .inr (4, 4, n + 2), .inr (0, 5, 0), .inr (0, 5, 0), .inr (0, 5, 0), .inr (0, 5, 0), .inr (4, 5, n + 7), .inr (0, 3, 0), .inr (0, 3, 0), .inr (0, 3, 0), .inr (0, 3, 0), .inr (0, 3, 0), .inr (4, 5, n + 13), .inr (0, 48, 0), .inr (0, 48, 0), .inr (0, 48, 0), .inr (0, 48, 0), .inr (0, 48, 0), .inr (4, 5, n + 19), .inr (0, 48, 0), .inr (0, 48, 0), .inr (0, 48, 0), .inr (0, 48, 0), .inr (0, 48, 0), .inr (4, 5, n + 25), .inr (0, 48, 0), .inr (0, 48, 0), .inr (0, 48, 0), .inr (0, 48, 0), .inr (0, 48, 0), .inr (4, 5, n + 31), .inr (0, 48, 0), .inr (0, 48, 0), .inr (0, 48, 0), .inr (0, 48, 0), .inr (0, 48, 0), .inr (4, 5, n + 37), .inr (0, 48, 0), .inr (0, 48, 0), .inr (0, 48, 0), .inr (0, 48, 0), .inr (0, 48, 0), .inr (0, 10, 0)]
def wObj (n w : Nat) : shD := .inl (5, [some (some (w)), some (some (n + 0)), some (some (n + 1)), some (some (n + 6)), some (some (n + 12)), some (some (n + 18)), some (some (n + 24)), some (some (n + 30)), some (some (n + 36)), some (some (n + 42))])
theorem ok_X5 {sh : SH} {I : IH} {t w n : Nat} (h : isD sh t (.inl (5, [some none, some none, some none, some none, some none, some none, some none, some none, some none, some none]))) (ht : t < n) : OkE (fX5_init t w sh I n) 43 1327 (fun q => isD q.1 t (wObj n w) ∧ Lay q.1 n (wArea n) ∧ q.2.2 = n + 43 ∧ (∀ x, x < n → x ≠ t → q.1 x = sh x) ∧ (∀ x, x < n → q.2.1 x = I x)) := by
  unfold fX5_init
  simp only [c_4, c_5, c_10, c_48, c_3, Nat.add_assoc, Nat.reduceAdd]
  have T : Lay sh t _ := Lay.one h
  have A : Lay sh n [] := Lay.nil
  obtain ⟨s1, I2, e3, A, k4, k5, z⟩ := nAI_K (I := I) (c := 48) (n := n + 0) A 0 (Or.inl rfl) (by omega) rfl
  refine OkE.b2s e3 (OkE.addN 42 1279 rfl rfl ?_)
  have T : Lay s1 t _ := T.kept (fun x h1 h2 => k4 x (by simp at h2; omega))
  obtain ⟨s6, e7, T, k8⟩ := pR_L T 0 1 (n + 0) rfl ⟨none, rfl⟩
  refine OkE.bs e7 ?_
  have A : Lay s6 n _ := A.kept (fun x h1 h2 => k8 x (by omega))
  obtain ⟨s9, I10, e11, A, k12, k13, z⟩ := nM_K (I := I2) (N := 4) (K := 5) (n := n + 1) A (by omega) (by omega) rfl
  refine OkE.b2s e11 (OkE.addN 37 1255 rfl rfl ?_)
  have T : Lay s9 t _ := T.kept (fun x h1 h2 => k12 x (by simp at h2; omega))
  obtain ⟨s14, e15, T, k16⟩ := pR_L T 0 2 (n + 1) rfl ⟨none, rfl⟩
  refine OkE.bs e15 ?_
  have A : Lay s14 n _ := A.kept (fun x h1 h2 => k16 x (by omega))
  obtain ⟨s17, I18, e19, A, k20, k21, z⟩ := nM_K (I := I10) (N := 5) (K := 3) (n := n + 6) A (by omega) (by omega) rfl
  refine OkE.b2s e19 (OkE.addN 31 1235 rfl rfl ?_)
  have T : Lay s17 t _ := T.kept (fun x h1 h2 => k20 x (by simp at h2; omega))
  obtain ⟨s22, e23, T, k24⟩ := pR_L T 0 3 (n + 6) rfl ⟨none, rfl⟩
  refine OkE.bs e23 ?_
  have A : Lay s22 n _ := A.kept (fun x h1 h2 => k24 x (by omega))
  obtain ⟨s25, I26, e27, A, k28, k29, z⟩ := nM_K (I := I18) (N := 5) (K := 48) (n := n + 12) A (by omega) (by omega) rfl
  refine OkE.b2s e27 (OkE.addN 25 990 rfl rfl ?_)
  have T : Lay s25 t _ := T.kept (fun x h1 h2 => k28 x (by simp at h2; omega))
  obtain ⟨s30, e31, T, k32⟩ := pR_L T 0 4 (n + 12) rfl ⟨none, rfl⟩
  refine OkE.bs e31 ?_
  have A : Lay s30 n _ := A.kept (fun x h1 h2 => k32 x (by omega))
  obtain ⟨s33, I34, e35, A, k36, k37, z⟩ := nM_K (I := I26) (N := 5) (K := 48) (n := n + 18) A (by omega) (by omega) rfl
  refine OkE.b2s e35 (OkE.addN 19 745 rfl rfl ?_)
  have T : Lay s33 t _ := T.kept (fun x h1 h2 => k36 x (by simp at h2; omega))
  obtain ⟨s38, e39, T, k40⟩ := pR_L T 0 5 (n + 18) rfl ⟨none, rfl⟩
  refine OkE.bs e39 ?_
  have A : Lay s38 n _ := A.kept (fun x h1 h2 => k40 x (by omega))
  obtain ⟨s41, I42, e43, A, k44, k45, z⟩ := nM_K (I := I34) (N := 5) (K := 48) (n := n + 24) A (by omega) (by omega) rfl
  refine OkE.b2s e43 (OkE.addN 13 500 rfl rfl ?_)
  have T : Lay s41 t _ := T.kept (fun x h1 h2 => k44 x (by simp at h2; omega))
  obtain ⟨s46, e47, T, k48⟩ := pR_L T 0 6 (n + 24) rfl ⟨none, rfl⟩
  refine OkE.bs e47 ?_
  have A : Lay s46 n _ := A.kept (fun x h1 h2 => k48 x (by omega))
  obtain ⟨s49, I50, e51, A, k52, k53, z⟩ := nM_K (I := I42) (N := 5) (K := 48) (n := n + 30) A (by omega) (by omega) rfl
  refine OkE.b2s e51 (OkE.addN 7 255 rfl rfl ?_)
  have T : Lay s49 t _ := T.kept (fun x h1 h2 => k52 x (by simp at h2; omega))
  obtain ⟨s54, e55, T, k56⟩ := pR_L T 0 7 (n + 30) rfl ⟨none, rfl⟩
  refine OkE.bs e55 ?_
  have A : Lay s54 n _ := A.kept (fun x h1 h2 => k56 x (by omega))
  obtain ⟨s57, I58, e59, A, k60, k61, z⟩ := nM_K (I := I50) (N := 5) (K := 48) (n := n + 36) A (by omega) (by omega) rfl
  refine OkE.b2s e59 (OkE.addN 1 10 rfl rfl ?_)
  have T : Lay s57 t _ := T.kept (fun x h1 h2 => k60 x (by simp at h2; omega))
  obtain ⟨s62, e63, T, k64⟩ := pR_L T 0 8 (n + 36) rfl ⟨none, rfl⟩
  refine OkE.bs e63 ?_
  have A : Lay s62 n _ := A.kept (fun x h1 h2 => k64 x (by omega))
  obtain ⟨s65, I66, e67, A, k68, k69, z⟩ := nAI_K (I := I58) (c := 10) (n := n + 42) A 0 (Or.inl rfl) (by omega) rfl
  refine OkE.b2s e67 (OkE.addN 0 0 rfl rfl ?_)
  have T : Lay s65 t _ := T.kept (fun x h1 h2 => k68 x (by simp at h2; omega))
  obtain ⟨s70, e71, T, k72⟩ := pR_L T 0 9 (n + 42) rfl ⟨none, rfl⟩
  refine OkE.bs e71 ?_
  have A : Lay s70 n _ := A.kept (fun x h1 h2 => k72 x (by omega))
  obtain ⟨s73, e74, T, k75⟩ := pR_L T 0 0 (w) rfl ⟨none, rfl⟩
  refine OkE.bs e74 ?_
  have A : Lay s73 n _ := A.kept (fun x h1 h2 => k75 x (by omega))
  refine OkE.ret ⟨T 0 _ rfl, A, rfl, fun x h1 h2 => ?_, fun x h1 => ?_⟩
  · exact (show s73 x = sh x from by rw [k75 x (by omega), k72 x (by omega), k68 x (by omega), k64 x (by omega), k60 x (by omega), k56 x (by omega), k52 x (by omega), k48 x (by omega), k44 x (by omega), k40 x (by omega), k36 x (by omega), k32 x (by omega), k28 x (by omega), k24 x (by omega), k20 x (by omega), k16 x (by omega), k12 x (by omega), k8 x (by omega), k4 x (by omega)])
  · exact (show I66 x = I x from by rw [k69 x (by omega), k61 x (by omega), k53 x (by omega), k45 x (by omega), k37 x (by omega), k29 x (by omega), k21 x (by omega), k13 x (by omega), k5 x (by omega)])
theorem ok_X0 {sh : SH} {I : IH} {t n : Nat} (h : isD sh t (.inl (0, [none, none, none, some none, none]))) (ht : t < n) : OkE (fX0_init t sh I n) 1 20 (fun q => isD q.1 t (.inl (0, [none, none, none, some (some (n + 0)), none])) ∧ Lay q.1 n [.inr (0, 20, 0)] ∧ q.2.2 = n + 1 ∧ (∀ x, x < n → x ≠ t → q.1 x = sh x) ∧ (∀ x, x < n → q.2.1 x = I x)) := by
  unfold fX0_init
  have T : Lay sh t _ := Lay.one h
  have A : Lay sh n [] := Lay.nil
  obtain ⟨s1, I2, e3, A, k4, k5, z⟩ := nAI_K (I := I) (c := 20) (n := n + 0) A 0 (Or.inl rfl) (by omega) rfl
  refine OkE.b2s e3 (OkE.addN 0 0 rfl rfl ?_)
  have T : Lay s1 t _ := T.kept (fun x h1 h2 => k4 x (by simp at h2; omega))
  obtain ⟨s6, e7, T, k8⟩ := pR_L T 0 3 (n + 0) rfl ⟨none, rfl⟩
  refine OkE.bs e7 ?_
  have A : Lay s6 n _ := A.kept (fun x h1 h2 => k8 x (by omega))
  refine OkE.ret ⟨T 0 _ rfl, A, rfl, fun x h1 h2 => ?_, fun x h1 => ?_⟩
  · exact (show s6 x = sh x from by rw [k8 x (by omega), k4 x (by omega)])
  · exact (show I2 x = I x from by rw [k5 x (by omega)])
theorem ok_X3 {sh : SH} {I : IH} {L : LH} {t n : Nat} (h : isD sh t (.inl (3, [none, none, some none]))) (ht : t < n) (hz : ∀ k, I t k = 0) : OkE (fX3_init t sh I L n) 1 60 (fun q => isD q.1 t (.inl (3, [none, none, some (some (n + 0))])) ∧ Lay q.1 n [.inr (2, 60, 0)] ∧ q.2.2.2 = n + 1 ∧ (∀ x, x < n → x ≠ t → q.1 x = sh x) ∧ (∀ x, x ≠ t → q.2.1 x = I x) ∧ (∀ x, x ≠ n → q.2.2.1 x = L x) ∧ q.2.1 t 0 = -1 ∧ q.2.1 t 1 = 0 ∧ ∀ j, q.2.2.1 n j = 0) := by
  unfold fX3_init
  have T : Lay sh t _ := Lay.one h
  have A : Lay sh n [] := Lay.nil
  have V : Vals I t [0, 0, 0] := fun k v hv => by
    rw [hz]
    match k, hv with
    | 0, hv => exact Option.some.inj (show some 0 = some v from hv)
    | 1, hv => exact Option.some.inj (show some 0 = some v from hv)
    | 2, hv => exact Option.some.inj (show some 0 = some v from hv)
    | k + 3, hv => simp at hv
  obtain ⟨I1, e2, k3, V⟩ := pI_K (I := I) T 0 0 (-1) V rfl rfl
  refine OkE.bs e2 ?_
  obtain ⟨s4, L5, e6, A, k7, k8, z⟩ := nAL_K (L := L) (c := 60) (n := n + 0) A (by omega) rfl
  refine OkE.b2s e6 (OkE.addN 0 0 rfl rfl ?_)
  have T : Lay s4 t _ := T.kept (fun x h1 h2 => k7 x (by simp at h2; omega))
  have ZL0 : ∀ j, L5 (n + 0) j = 0 := z
  obtain ⟨s9, e10, T, k11⟩ := pR_L T 0 2 (n + 0) rfl ⟨none, rfl⟩
  refine OkE.bs e10 ?_
  have A : Lay s9 n _ := A.kept (fun x h1 h2 => k11 x (by omega))
  refine OkE.ret ⟨T 0 _ rfl, A, rfl, fun x h1 h2 => ?_, fun x h1 => ?_, fun x h1 => ?_, V 0 _ rfl, V 1 _ rfl, ZL0⟩
  · exact (show s9 x = sh x from by rw [k11 x (by omega), k7 x (by omega)])
  · exact (show I1 x = I x from by rw [k3 x (by omega)])
  · exact (show L5 x = L x from by rw [k8 x (by omega)])
/-- the model's cells behind it -/
def mArea : List shD := [.inr (0, 2, 0), .inr (0, 5, 0), .inr (0, 5, 0), .inr (0, 5, 0), .inr (0, 100, 0), .inr (0, 5, 0), .inr (0, 60, 0), .inr (0, 60, 0), .inr (0, 60, 0), .inr (0, 60, 0), .inr (0, 60, 0), .inr (0, 500, 0), .inr (0, 101, 0), .inr (1, 100, 0), .inr (0, 24, 0), .inr (0, 48, 0), .inr (0, 5, 0), .inr (0, 5, 0), .inr (0, 5, 0), .inr (0, 5, 0), .inr (0, 5, 0), .inr (0, 5, 0), .inr (0, 240, 0), .inr (0, 240, 0), .inr (0, 240, 0), .inr (0, 240, 0), .inr (0, 240, 0), .inr (0, 10, 0), .inr (0, 10, 0), .inr (0, 10, 0), .inr (0, 10, 0), .inr (0, 10, 0), .inr (0, 2, 0), .inr (0, 5, 0), .inr (0, 5, 0), .inr (0, 5, 0), .inr (0, 24, 0), .inr (0, 10, 0), .inr (0, 10, 0), .inr (0, 10, 0), .inr (0, 10, 0), .inr (0, 20, 0), .inr (0, 6, 0), .inr (0, 6, 0), .inr (2, 360, 0), .inr (2, 60, 0)]
def mObj (n : Nat) : shD := .inl (7, [none, none, none, some (some (n + 0)), some (some (n + 1)), some (some (n + 2)), some (some (n + 3)), none, none, none, none, none, some (some (n + 4)), some (some (n + 5)), some (some (n + 6)), some (some (n + 7)), some (some (n + 8)), some (some (n + 9)), some (some (n + 10)), some (some (n + 11)), some (some (n + 12)), none, none, none, some (some (n + 13)), none, some (some (n + 14)), some (some (n + 15)), some (some (n + 16)), some (some (n + 17)), some (some (n + 18)), some (some (n + 19)), some (some (n + 20)), some (some (n + 21)), some (some (n + 22)), some (some (n + 23)), some (some (n + 24)), some (some (n + 25)), some (some (n + 26)), none, some (some (n + 27)), some (some (n + 28)), some (some (n + 29)), some (some (n + 30)), some (some (n + 31)), none, none, none, none, none, none, none, some (some (n + 32)), some (some (n + 33)), some (some (n + 34)), some (some (n + 35)), some (some (n + 36)), some (some (n + 37)), some (some (n + 38)), some (some (n + 39)), some (some (n + 40)), none, some (some (n + 41)), some (some (n + 42)), some (some (n + 43)), some (some (n + 44)), some (some (n + 45))])
def mVals : List Int32 := [3, 10, 0, 0, 0, 0, 0, 0, (-1), 0, 0, 0, 0, 0, 0, 0, 0, 0, 0, 0, 0, 0, 0, 0, 0, 0, 0, 0, 0, 0, 0, 0, 0, 0, 0, 0, 0, 0, 0, 0, 0, 0, 0, 0, 0, 0, 3, 10, 0, (-1), 0, 0, 0, 0, 0, 0, 0, 0, 0, 0, 0, 0, 0, 0, 0, 0, 0]
def dObj7 : List (Option (Option Nat)) := [none, none, none, some none, some none, some none, some none, none, none, none, none, none, some none, some none, some none, some none, some none, some none, some none, some none, some none, none, none, none, some none, none, some none, some none, some none, some none, some none, some none, some none, some none, some none, some none, some none, some none, some none, none, some none, some none, some none, some none, some none, none, none, none, none, none, none, none, some none, some none, some none, some none, some none, some none, some none, some none, some none, none, some none, some none, some none, some none, some none]
