/-! LAYER 2: what the constructors make -/
theorem c_2 : (2 : Int32).toNatClampNeg = 2 := rfl
theorem c_3 : (3 : Int32).toNatClampNeg = 3 := rfl
theorem c_4 : (4 : Int32).toNatClampNeg = 4 := rfl
theorem c_5 : (5 : Int32).toNatClampNeg = 5 := rfl
theorem c_10 : (10 : Int32).toNatClampNeg = 10 := rfl
theorem c_20 : (20 : Int32).toNatClampNeg = 20 := rfl
theorem c_24 : (24 : Int32).toNatClampNeg = 24 := rfl
theorem c_48 : (48 : Int32).toNatClampNeg = 48 := rfl
theorem c_60 : (60 : Int32).toNatClampNeg = 60 := rfl
theorem c_6 : (6 : Int32).toNatClampNeg = 6 := rfl
theorem c_100 : (100 : Int32).toNatClampNeg = 100 := rfl
theorem c_144 : (144 : Int32).toNatClampNeg = 144 := rfl
theorem ok_fill {sh : SH} {x N g : Nat} {v : Int32} {I : IH} (h : isD sh x (.inr (0, N, g))) (hN : N < 1000) : fJ7_fill_53178 sh x v I = some (upR I x (fun j => if j < N then v else I x j)) := by
  have hL : Lay sh x [.inr (0, N, g)] := Lay.one h
  have key : ∀ (k i fuel : Nat) (J : IH), N = i + k → k < fuel → J = upR I x (fun j => if j < i then v else I x j) → fJ7_fill_53178_b5 sh fuel x v (nI i) (nI N) J = some (upR I x (fun j => if j < N then v else I x j)) := by
    intro k
    induction k with
    | zero =>
      intro i fuel J h1 h2 h3
      obtain ⟨f, rfl⟩ : ∃ f, fuel = f + 1 := ⟨fuel - 1, by omega⟩
      have h1 : N = i := h1
      subst h1
      rw [fJ7_fill_53178_b5, if_pos (nI_le (Nat.le_refl _) (by omega)), h3]
    | succ k ih =>
      intro i fuel J h1 h2 h3
      obtain ⟨f, rfl⟩ : ∃ f, fuel = f + 1 := ⟨fuel - 1, by omega⟩
      rw [fJ7_fill_53178_b5, if_neg (nI_ge (by omega) (by omega))]
      have e := sI_L (I := J) hL 0 rfl (j := i) (by omega) (by omega) v
      have e : sI sh J x (nI i) v = some (upR J x (upd (J x) i v)) := e
      rw [e, Option.bind_some, nI_1]
      refine ih (i + 1) f _ (by omega) (by omega) ?_
      rw [h3]
      funext b
      by_cases hb : b = x
      · subst hb
        rw [upR_same, upR_same]
        funext j
        rw [upR_same]
        by_cases hj : j = i
        · subst hj
          rw [upd_eq, if_pos (by omega)]
        · rw [upd_ne hj]
          by_cases hlt : j < i
          · rw [if_pos hlt, if_pos (by omega)]
          · rw [if_neg hlt, if_neg (by omega)]
      · rw [upR_ne hb, upR_ne hb, upR_ne hb]
  unfold fJ7_fill_53178
  have e := aL_L hL 0 rfl (show tyD 0 < 5 by decide)
  have e : aL sh x = some (nI N) := e
  rw [e, Option.bind_some]
  refine key N 0 1000 I (by omega) (by omega) ?_
  funext b
  by_cases hb : b = x
  · subst hb
    rw [upR_same]
    funext j
    rw [if_neg (by omega)]
  · rw [upR_ne hb]
/-- a Valley's cells behind it -/
def vArea (n : Nat) : List shD := [.inr (4, 4, n + 1), .inr (0, 5, 0), .inr (0, 5, 0), .inr (0, 5, 0), .inr (0, 5, 0), .inr (0, 144, 0)]
def vObj (n : Nat) : shD := .inl (4, [some (some n), some (some (n + 5))])
theorem ok_X4 {sh : SH} {I : IH} {t n : Nat} (h : isD sh t (.inl (4, [some none, some none]))) (ht : t < n) : Ok (fX4_init t sh I n) (fun q => q.1 = (6, 168) ∧ isD q.2.1 t (vObj n) ∧ Lay q.2.1 n (vArea n) ∧ q.2.2.2 = n + 6 ∧ (∀ x, x < n → x ≠ t → q.2.1 x = sh x) ∧ (∀ x, x < n → q.2.2.1 x = I x) ∧ (∀ j, j < 5 → q.2.2.1 (n + 1) j = 1 ∧ q.2.2.1 (n + 2) j = 0 ∧ q.2.2.1 (n + 3) j = 99 ∧ q.2.2.1 (n + 4) j = 0) ∧ ∀ j, j < 144 → q.2.2.1 (n + 5) j = 0) := by
  unfold fX4_init
  obtain ⟨s1, e1, L1, k1⟩ := nM_L (sh := sh) (I := I) (Lay.nil (sh := sh) (a := n)) (n := n) (N := 4) (K := 5) rfl (by omega) (by omega)
  have L1 : Lay s1 n [.inr (4, 4, n + 1), .inr (0, 5, 0), .inr (0, 5, 0), .inr (0, 5, 0), .inr (0, 5, 0)] := L1
  refine Ok.b2s e1 (Ok.addE ?_)
  obtain ⟨s2, e2, L2, k2⟩ := pR_L (Lay.one (isD_same (k1 t (Or.inl ht)) h)) 0 0 n rfl ⟨none, rfl⟩
  refine Ok.bs e2 ?_
  simp only [c_4]
  have L1 : Lay s2 n _ := L1.kept (fun x h1 h2 => k2 x (by omega))
  obtain ⟨s3, e3, L3, k3⟩ := nAI_L (I := nMI I n 4) L1 (n := n + (1 + 4)) (c := 144) rfl (by omega) 0 (Or.inl rfl)
  refine Ok.b2s e3 (Ok.addE ?_)
  have L2 : Lay s3 t _ := L2.kept (fun x h1 h2 => k3 x (by simp at h2; omega))
  obtain ⟨s4, e4, L4, k4⟩ := pR_L L2 0 1 (n + (1 + 4)) rfl ⟨none, rfl⟩
  refine Ok.bs e4 ?_
  have L3 : Lay s4 n (vArea n) := L3.kept (fun x h1 h2 => k4 x (by omega))
  have L4 : isD s4 t (vObj n) := L4 0 _ rfl
  have L5 : Lay s4 t [vObj n] := Lay.one L4
  refine Ok.bs (gR_L L5 0 0 rfl rfl) ?_
  refine Ok.bs (aR_L L3 0 rfl (j := 0) (by omega) (by omega)) ?_
  refine Ok.bs (ok_fill (N := 5) (g := 0) (L3 1 _ rfl) (by omega)) ?_
  refine Ok.bs (gR_L L5 0 0 rfl rfl) ?_
  refine Ok.bs (aR_L L3 0 rfl (j := 2) (by omega) (by omega)) ?_
  refine Ok.bs (ok_fill (N := 5) (g := 0) (L3 3 _ rfl) (by omega)) ?_
  refine Ok.ret ⟨rfl, L4, L3, rfl, fun x h1 h2 => ?_, fun x h1 => ?_, fun j hj => ⟨?_, ?_, ?_, ?_⟩, fun j hj => ?_⟩
  · show s4 x = sh x
    rw [k4 x (by omega), k3 x (by omega), k2 x (by omega), k1 x (Or.inl h1)]
  · show upR _ _ _ x = I x
    rw [up_ne (by omega), up_ne (by omega), up_ne (by omega)]
    unfold nMI
    rw [if_neg (by omega)]
  · show upR _ (n + 1 + 2) _ (n + 1) j = 1
    rw [up_ne (by omega)]
    show upR _ (n + 1 + 0) _ (n + 1 + 0) j = 1
    rw [upR_same, if_pos hj]
  · show upR _ (n + 1 + 2) _ (n + 2) j = 0
    rw [up_ne (by omega), up_ne (by omega), up_ne (by omega)]
    unfold nMI
    rw [if_pos (by omega)]
  · show upR _ (n + 1 + 2) _ (n + 1 + 2) j = 99
    rw [upR_same, if_pos hj]
  · show upR _ (n + 1 + 2) _ (n + 4) j = 0
    rw [up_ne (by omega), up_ne (by omega), up_ne (by omega)]
    unfold nMI
    rw [if_pos (by omega)]
  · show upR _ (n + 1 + 2) _ (n + (1 + 4)) j = 0
    rw [up_ne (by omega), up_ne (by omega), upR_same]
/-- a State's cells behind it -/
def sArea (n : Nat) : List shD := [.inr (0, 2, 0), .inr (0, 3, 0), .inr (4, 5, n + 3), .inr (0, 3, 0), .inr (0, 3, 0), .inr (0, 3, 0), .inr (0, 3, 0), .inr (0, 3, 0), .inr (4, 10, n + 9), .inr (0, 4, 0), .inr (0, 4, 0), .inr (0, 4, 0), .inr (0, 4, 0), .inr (0, 4, 0), .inr (0, 4, 0), .inr (0, 4, 0), .inr (0, 4, 0), .inr (0, 4, 0), .inr (0, 4, 0), .inr (0, 24, 0)]
def sObj (n w : Nat) : shD := .inl (2, [none, some (some n), some (some (n + 1)), some (some (n + 2)), some (some (n + 8)), none, some (some (n + 19)), none, some (some w)])
theorem ok_X2 {sh : SH} {I : IH} {t w n : Nat} (h : isD sh t (.inl (2, [none, some none, some none, some none, some none, none, some none, none, some none]))) (ht : t < n) : Ok (fX2_init t w sh I n) (fun q => q.1 = (20, 99) ∧ isD q.2.1 t (sObj n w) ∧ Lay q.2.1 n (sArea n) ∧ q.2.2.2 = n + 20 ∧ (∀ x, x < n → x ≠ t → q.2.1 x = sh x) ∧ (∀ x, x < n → x ≠ t → q.2.2.1 x = I x) ∧ q.2.2.1 t = upd (I t) 0 3 ∧ (∀ x j, n ≤ x → x < n + 20 → x ≠ n + 2 → x ≠ n + 8 → q.2.2.1 x j = if x = n + 1 ∧ j = 0 then 10 else 0)) := by
  unfold fX2_init
  have T0 : Lay sh t _ := Lay.one h
  refine Ok.bs (pI_L T0 0 0 rfl rfl 3) ?_
  generalize hI1 : upR I (t + 0) (upd (I (t + 0)) 0 3) = I1
  have hI1 : upR I t (upd (I t) 0 3) = I1 := hI1
  obtain ⟨s1, e1, A, k1⟩ := nAI_L (I := I1) (Lay.nil (sh := sh) (a := n)) (n := n) (c := 2) rfl (by omega) 0 (Or.inl rfl)
  refine Ok.b2s e1 (Ok.addE ?_)
  have T0 : Lay s1 t _ := T0.kept (fun x h1 h2 => k1 x (by simp at h2; omega))
  obtain ⟨s2, e2, T0, k2⟩ := pR_L T0 0 1 n rfl ⟨none, rfl⟩
  refine Ok.bs e2 ?_
  have A : Lay s2 n _ := A.kept (fun x h1 h2 => k2 x (by omega))
  obtain ⟨s3, e3, A, k3⟩ := nAI_L (I := upR I1 n (fun _ => 0)) A (n := n + 1) (c := 3) rfl (by omega) 0 (Or.inl rfl)
  refine Ok.b2s e3 (Ok.addE ?_)
  refine Ok.bs (sI_L A 1 rfl (j := 0) (by omega) (by omega) 10) ?_
  refine Ok.bs (sI_L A 1 rfl (j := 1) (by omega) (by omega) 0) ?_
  refine Ok.bs (sI_L A 1 rfl (j := 2) (by omega) (by omega) 0) ?_
  have T0 : Lay s3 t _ := T0.kept (fun x h1 h2 => k3 x (by simp at h2; omega))
  obtain ⟨s4, e4, T0, k4⟩ := pR_L T0 0 2 (n + 1) rfl ⟨none, rfl⟩
  refine Ok.bs e4 ?_
  have A : Lay s4 n _ := A.kept (fun x h1 h2 => k4 x (by omega))
  generalize hI2 : upR _ (n + 1) (upd _ 2 0) = I2
  obtain ⟨s5, e5, A, k5⟩ := nM_L (I := I2) A (n := n + 1 + 1) (N := 5) (K := 3) rfl (by omega) (by omega)
  refine Ok.b2s e5 (Ok.addE ?_)
  have T0 : Lay s5 t _ := T0.kept (fun x h1 h2 => k5 x (by simp at h2; omega))
  obtain ⟨s6, e6, T0, k6⟩ := pR_L T0 0 3 (n + 1 + 1) rfl ⟨none, rfl⟩
  refine Ok.bs e6 ?_
  simp only [c_5, c_10]
  have A : Lay s6 n _ := A.kept (fun x h1 h2 => k6 x (by omega))
  obtain ⟨s7, e7, A, k7⟩ := nM_L (I := nMI I2 (n + 1 + 1) 5) A (n := n + 1 + 1 + (1 + 5)) (N := 10) (K := 4) rfl (by omega) (by omega)
  refine Ok.b2s e7 (Ok.addE ?_)
  have T0 : Lay s7 t _ := T0.kept (fun x h1 h2 => k7 x (by simp at h2; omega))
  obtain ⟨s8, e8, T0, k8⟩ := pR_L T0 0 4 (n + 1 + 1 + (1 + 5)) rfl ⟨none, rfl⟩
  refine Ok.bs e8 ?_
  have A : Lay s8 n _ := A.kept (fun x h1 h2 => k8 x (by omega))
  obtain ⟨s9, e9, A, k9⟩ := nAI_L (I := nMI (nMI I2 (n + 1 + 1) 5) (n + 1 + 1 + (1 + 5)) 10) A (n := n + 1 + 1 + (1 + 5) + (1 + 10)) (c := 24) rfl (by omega) 0 (Or.inl rfl)
  refine Ok.b2s e9 (Ok.addE ?_)
  have T0 : Lay s9 t _ := T0.kept (fun x h1 h2 => k9 x (by simp at h2; omega))
  obtain ⟨s10, e10, T0, k10⟩ := pR_L T0 0 6 (n + 1 + 1 + (1 + 5) + (1 + 10)) rfl ⟨none, rfl⟩
  refine Ok.bs e10 ?_
  obtain ⟨s11, e11, T0, k11⟩ := pR_L T0 0 8 w rfl ⟨none, rfl⟩
  refine Ok.bs e11 ?_
  have A : Lay s11 n _ := A.kept (fun x h1 h2 => (k11 x (by omega)).trans (k10 x (by omega)))
  have hI2' : ∀ x j, I2 x j = if x = n + 1 then (if j = 0 then 10 else 0) else if x = n then 0 else I1 x j := by
    intro x j
    rw [← hI2]
    by_cases hx : x = n + 1
    · subst hx
      rw [upR_same, if_pos rfl]
      by_cases h2 : j = 2
      · subst h2
        rw [upd_eq]
        rfl
      · rw [upd_ne h2]
        show upR _ (n + 1) _ (n + 1) j = _
        rw [upR_same]
        by_cases h3 : j = 1
        · subst h3
          rw [upd_eq]
          rfl
        · rw [upd_ne h3]
          show upR _ (n + 1) _ (n + 1) j = _
          rw [upR_same]
          by_cases h4 : j = 0
          · subst h4
            rw [upd_eq]
            rfl
          · rw [upd_ne h4, if_neg h4]
            rw [upR_same]
    · rw [if_neg hx, up_ne hx]
      show upR _ (n + 1) _ x j = _
      rw [up_ne hx]
      show upR _ (n + 1) _ x j = _
      rw [up_ne hx, up_ne hx]
      by_cases h1 : x = n
      · rw [if_pos h1]
        subst h1
        rw [upR_same]
      · rw [if_neg h1, up_ne h1]
  refine Ok.ret ⟨rfl, T0 0 _ rfl, A, rfl, fun x h1 h2 => ?_, fun x h1 h2 => ?_, ?_, fun x j h1 h2 hn2 hn8 => ?_⟩
  · show s11 x = sh x
    rw [k11 x (by omega), k10 x (by omega), k9 x (by omega), k8 x (by omega), k7 x (by omega), k6 x (by omega), k5 x (by omega), k4 x (by omega), k3 x (by omega), k2 x (by omega), k1 x (by omega)]
  · show upR _ _ _ x = I x
    rw [up_ne (by omega)]
    unfold nMI
    rw [if_neg (by omega), if_neg (by omega)]
    funext j
    rw [hI2', if_neg (by omega), if_neg (by omega), ← hI1, up_ne h2]
  · show upR _ _ _ t = _
    rw [up_ne (by omega)]
    unfold nMI
    rw [if_neg (by omega), if_neg (by omega)]
    funext j
    rw [hI2', if_neg (by omega), if_neg (by omega), ← hI1, upR_same]
  · show upR _ _ _ x j = _
    by_cases h3 : x = n + 1 + 1 + (1 + 5) + (1 + 10)
    · subst h3
      rw [upR_same, if_neg (by omega)]
    · rw [up_ne h3]
      unfold nMI
      by_cases h4 : n + 1 + 1 + (1 + 5) < x ∧ x ≤ n + 1 + 1 + (1 + 5) + 10
      · rw [if_pos h4, if_neg (by omega)]
      · rw [if_neg h4]
        by_cases h5 : n + 1 + 1 < x ∧ x ≤ n + 1 + 1 + 5
        · rw [if_pos h5, if_neg (by omega)]
        · rw [if_neg h5, hI2']
          by_cases h6 : x = n + 1
          · rw [if_pos h6]
            by_cases h7 : j = 0
            · rw [if_pos h7, if_pos ⟨h6, h7⟩]
            · rw [if_neg h7, if_neg (fun z => h7 z.2)]
          · rw [if_neg h6]
            by_cases h7 : x = n
            · rw [if_pos h7, if_neg (fun z => h6 z.1)]
            · omega
