/-! LAYER 2: the class's constructor, to its end -/
theorem OkE.mono {ρ : Type} {o : Option ((Nat × Nat) × ρ)} {e s : Nat} {P Q : ρ → Prop} (h : OkE o e s P) (k : ∀ x, P x → Q x) : OkE o e s Q := by
  obtain ⟨x, h1, h2⟩ := h
  exact ⟨x, h1, k x h2⟩
theorem oke_X0 {sh : SH} {I : IH} {t n : Nat} (h : isD sh t dActs) (ht : t < n) : OkE (fX0_init t sh I n) 1 20 (fun q => isD q.1 t (oActs n) ∧ Lay q.1 n [.inr (0, 20, 0)] ∧ q.2.2 = n + 1 ∧ (∀ x, x < n → x ≠ t → q.1 x = sh x) ∧ (∀ x, x < n → q.2.1 x = I x)) := by
  unfold fX0_init
  have T : Lay sh t [dActs] := Lay.one h
  obtain ⟨s1, I2, e3, B, k4, k5, z⟩ := nAI_K (I := I) (c := 20) (n := n + 0) (Lay.nil (sh := sh) (a := n)) 0 (Or.inl rfl) (by omega) rfl
  refine OkE.b2s e3 (OkE.addN 0 0 rfl rfl ?_)
  replace T : Lay s1 t [dActs] := T.kept (fun x h1 h2 => k4 x (by simp at h2; omega))
  obtain ⟨s6, e7, C, k8⟩ := pR_L T 0 3 (n + 0) rfl ⟨none, rfl⟩
  refine OkE.bs e7 ?_
  refine OkE.ret ⟨C 0 _ rfl, Lay.kept B (fun x h1 h2 => k8 x (by omega)), rfl, fun x h1 h2 => ?_, fun x h1 => k5 x (by omega)⟩
  show s6 x = sh x
  rw [k8 x (by omega), k4 x (by omega)]
/-- the class's first 98 cells; i tapes stand in their row -/
def base98 (a i : Nat) : List shD := [oHours a] ++ [sObj (a + 9) (a + 2)] ++ [vObj (a + 3)] ++ vArea (a + 3) ++ sArea (a + 9) ++ [sObj (a + 30) (a + 2)] ++ sArea (a + 30) ++ [wObj (a + 51) (a + 1)] ++ wArea (a + 51) ++ [oActs (a + 95)] ++ [.inr (0, 20, 0)] ++ [.inr (0, 100, 0)] ++ [.inr (10 + i, 6, a + 98)]
def tapesD (a : Nat) : Nat → List shD
  | 0 => []
  | i + 1 => tapesD a i ++ [oTape (a + (98 + 2 * i)), .inr (2, 60, 0)]
theorem tapesD_len (a : Nat) : ∀ i, (tapesD a i).length = 2 * i
  | 0 => rfl
  | i + 1 => by
    show (tapesD a i ++ [oTape (a + (98 + 2 * i)), .inr (2, 60, 0)]).length = 2 * (i + 1)
    rw [List.length_append, tapesD_len a i]
    show 2 * i + 2 = 2 * (i + 1)
    omega
theorem base98_len (a i : Nat) : (base98 a i).length = 98 := rfl
theorem base98_set (a i : Nat) (t : List shD) : ((base98 a i) ++ t).set 97 (.inr (10 + (i + 1), 6, a + 98)) = base98 a (i + 1) ++ t := by
  rw [List.set_append_left 97 _ (by rw [base98_len]; omega)]
  rfl
theorem ok_tapes {s : SH} {a : Nat} (B : Lay s a (base98 a 0)) (I : IH) (L : LH) : OkE (fX6_init_b85 a 1000 0 s I L (a + 98)) 12 378 (fun q => Lay q.1 a (base98 a 6 ++ tapesD a 6) ∧ q.2.2.2 = a + 110 ∧ (∀ x, x < a → q.1 x = s x) ∧ (∀ x, x < a + 98 → q.2.1 x = I x) ∧ (∀ x, x < a + 98 → q.2.2.1 x = L x) ∧ ∀ i, i < 6 → q.2.1 (a + (98 + 2 * i)) 0 = -1 ∧ q.2.1 (a + (98 + 2 * i)) 1 = 0 ∧ ∀ j, q.2.2.1 (a + (98 + 2 * i) + 1) j = 0) := by
  have key : ∀ m i fuel (s' : SH) (I' : IH) (L' : LH), i + m = 6 → m < fuel → Lay s' a (base98 a i ++ tapesD a i) → (∀ x, x < a → s' x = s x) → (∀ x, x < a + 98 → I' x = I x) → (∀ x, x < a + 98 → L' x = L x) → (∀ q, q < i → I' (a + (98 + 2 * q)) 0 = -1 ∧ I' (a + (98 + 2 * q)) 1 = 0 ∧ ∀ j, L' (a + (98 + 2 * q) + 1) j = 0) → OkE (fX6_init_b85 a fuel (nI i) s' I' L' (a + (98 + 2 * i))) (2 * m) (63 * m) (fun q => Lay q.1 a (base98 a 6 ++ tapesD a 6) ∧ q.2.2.2 = a + 110 ∧ (∀ x, x < a → q.1 x = s x) ∧ (∀ x, x < a + 98 → q.2.1 x = I x) ∧ (∀ x, x < a + 98 → q.2.2.1 x = L x) ∧ ∀ i, i < 6 → q.2.1 (a + (98 + 2 * i)) 0 = -1 ∧ q.2.1 (a + (98 + 2 * i)) 1 = 0 ∧ ∀ j, q.2.2.1 (a + (98 + 2 * i) + 1) j = 0) := by
    intro m
    induction m with
    | zero =>
      intro i fuel s' I' L' h1 h2 W f1 f2 f3 hv
      obtain rfl : i = 6 := h1
      obtain ⟨f, rfl⟩ : ∃ f, fuel = f + 1 := ⟨fuel - 1, by omega⟩
      rw [fX6_init_b85]
      refine OkE.bs (gR_L W 0 8 rfl rfl) ?_
      refine OkE.bs (aL_L W 97 rfl (by decide)) ?_
      rw [if_pos (nI_le (Nat.le_refl _) (by omega))]
      exact OkE.ret ⟨W, rfl, f1, f2, f3, hv⟩
    | succ m ih =>
      intro i fuel s' I' L' h1 h2 W f1 f2 f3 hv
      obtain ⟨f, rfl⟩ : ∃ f, fuel = f + 1 := ⟨fuel - 1, by omega⟩
      have hlen : (base98 a i ++ tapesD a i).length = 98 + 2 * i := by rw [List.length_append, base98_len, tapesD_len]
      rw [show 2 * (m + 1) = 2 + 2 * m by omega, show 63 * (m + 1) = 63 + 63 * m by omega]
      refine ok_tape (by omega) W (by rw [List.getElem?_append_left (by rw [base98_len]; omega)]; rfl) (by rw [List.getElem?_append_left (by rw [base98_len]; omega)]; rfl) hlen ?_
      intro s2 I2 L2 W2 g1 g2 g3 v1 v2 v3
      rw [List.append_assoc, base98_set] at W2
      refine ih (i + 1) f s2 I2 L2 (by omega) (by omega) W2 (fun x hx => (g1 x hx).trans (f1 x hx)) (fun x hx => (g2 x (by omega)).trans (f2 x hx)) (fun x hx => (g3 x (by omega)).trans (f3 x hx)) (fun q hq => ?_)
      by_cases hqi : q = i
      · subst hqi
        exact ⟨v1, v2, v3⟩
      · rw [g2 (a + (98 + 2 * q)) (by omega), g3 (a + (98 + 2 * q) + 1) (by omega)]
        exact hv q (by omega)
  exact key 6 0 1000 s I L rfl (by omega) (by rw [show base98 a 0 ++ tapesD a 0 = base98 a 0 from List.append_nil _]; exact B) (fun _ _ => rfl) (fun _ _ => rfl) (fun _ _ => rfl) (fun q hq => absurd hq (by omega))
theorem ok_X6 {sh : SH} {I : IH} {L : LH} {a : Nat} (H : isD sh a (.inl (6, [some none, some none, none, some none, some none, some none, none, none, some none]))) (VZ : ∀ k, I a k = 0) : OkE (fX6_init a sh I L (a + 1)) 109 2232 (fun q => Lay q.1 a (base98 a 6 ++ tapesD a 6) ∧ q.2.2.2 = a + 110 ∧ (∀ x, x < a → q.1 x = sh x) ∧ (∀ x, x < a → q.2.1 x = I x) ∧ (∀ x, x < a → q.2.2.1 x = L x) ∧ (∀ k, q.2.1 a k = 0) ∧ (∀ k, q.2.1 (a + 1) k = if k = 0 then 3 else 0) ∧ (∀ k, q.2.1 (a + 29) k = if k = 0 then 3 else 0) ∧ (∀ j, j < 5 → q.2.1 (a + 4) j = 1 ∧ q.2.1 (a + 5) j = 0 ∧ q.2.1 (a + 6) j = 99 ∧ q.2.1 (a + 7) j = 0) ∧ (∀ j, j < 144 → q.2.1 (a + 8) j = 0) ∧ (∀ x j, a + 9 ≤ x → x < a + 29 → x ≠ a + 11 → x ≠ a + 17 → q.2.1 x j = if x = a + 10 ∧ j = 0 then 10 else 0) ∧ (∀ x j, a + 30 ≤ x → x < a + 50 → x ≠ a + 32 → x ≠ a + 38 → q.2.1 x j = if x = a + 31 ∧ j = 0 then 10 else 0) ∧ (∀ k, q.2.1 (a + 94) k = 0) ∧ ∀ i, i < 6 → q.2.1 (a + (98 + 2 * i)) 0 = -1 ∧ q.2.1 (a + (98 + 2 * i)) 1 = 0 ∧ ∀ j, q.2.2.1 (a + (98 + 2 * i) + 1) j = 0) := by
  unfold fX6_init
  have FS : ∀ x, x < a → sh x = sh x := fun _ _ => rfl
  have FI : ∀ x, x < a → I x = I x := fun _ _ => rfl
  refine OkE.b2s rfl (OkE.addN 108 2223 (by decide) (by decide) ?_)
  obtain ⟨T, h1⟩ := nO_K (sh := sh) (a := a) (n := a + 1) (ds := []) 2 [none, some none, some none, some none, some none, none, some none, none, some none] fkd2
  have h1f : ∀ x, x < a + 1 → x ≠ a + 1 → nO sh (a + 1) 2 x = sh x := fun x _ hx => h1 x hx
  have h1i : ∀ x, x < a + 1 → x ≠ a + 1 → nOI I (a + 1) x = I x := fun x _ hx => by unfold nOI; rw [upR_ne hx]
  have h1z : ∀ k, nOI I (a + 1) (a + 1) k = 0 := fun k => by unfold nOI; rw [upR_same]
  generalize hsh1 : nO sh (a + 1) 2 = s2 at *
  generalize hIh1 : nOI I (a + 1) = I3 at *
  clear hsh1 hIh1
  replace T : isD s2 (a + 1) dState := T
  replace H : isD s2 (a) (.inl (6, [some none, some none, none, some none, some none, some none, none, none, some none])) := isD_same (h1f _ (by omega) (by omega)) H
  replace FS : ∀ x, x < a → s2 x = sh x := fun x h1 => (h1f x (by omega) (by omega)).trans (FS x h1)
  replace VZ : ∀ k, I3 (a) k = 0 := fun k => by rw [h1i _ (by omega) (by omega)]; exact VZ k
  replace FI : ∀ x, x < a → I3 x = I x := fun x h1 => (h1i x (by omega) (by omega)).trans (FI x h1)
  have TZ := h1z
  refine OkE.b2s rfl (OkE.addN 107 2221 (by decide) (by decide) ?_)
  obtain ⟨V, h4⟩ := nO_K (sh := s2) (a := a) (n := a + 2) (ds := []) 4 [some none, some none] fkd4
  have h4f : ∀ x, x < a + 2 → x ≠ a + 2 → nO s2 (a + 2) 4 x = s2 x := fun x _ hx => h4 x hx
  have h4i : ∀ x, x < a + 2 → x ≠ a + 2 → nOI I3 (a + 2) x = I3 x := fun x _ hx => by unfold nOI; rw [upR_ne hx]
  have h4z : ∀ k, nOI I3 (a + 2) (a + 2) k = 0 := fun k => by unfold nOI; rw [upR_same]
  generalize hsh4 : nO s2 (a + 2) 4 = s5 at *
  generalize hIh4 : nOI I3 (a + 2) = I6 at *
  clear hsh4 hIh4
  replace V : isD s5 (a + 2) dValley := V
  replace H : isD s5 (a) (.inl (6, [some none, some none, none, some none, some none, some none, none, none, some none])) := isD_same (h4f _ (by omega) (by omega)) H
  replace T : isD s5 (a + 1) dState := isD_same (h4f _ (by omega) (by omega)) T
  replace FS : ∀ x, x < a → s5 x = sh x := fun x h1 => (h4f x (by omega) (by omega)).trans (FS x h1)
  replace VZ : ∀ k, I6 (a) k = 0 := fun k => by rw [h4i _ (by omega) (by omega)]; exact VZ k
  replace TZ : ∀ k, I6 (a + 1) k = 0 := fun k => by rw [h4i _ (by omega) (by omega)]; exact TZ k
  replace FI : ∀ x, x < a → I6 x = I x := fun x h1 => (h4i x (by omega) (by omega)).trans (FI x h1)
  refine OkE.bE3 101 2053 (oke_X4 (I := I6) (t := a + 2) V (by omega)) rfl rfl ?_
  intro s7 I8 n9 q10
  obtain ⟨q10a, q10b, q10c, q10d, q10e, q10f, q10g⟩ := q10
  have q10c : n9 = a + 9 := q10c
  subst q10c
  replace q10d : ∀ x, x < a + 3 → x ≠ a + 2 → s7 x = s5 x := q10d
  have q10h : ∀ x, x < a + 3 → x ≠ a + 3 → I8 x = I6 x := fun x hx _ => q10e x hx
  replace H : isD s7 (a) (.inl (6, [some none, some none, none, some none, some none, some none, none, none, some none])) := isD_same (q10d _ (by omega) (by omega)) H
  replace T : isD s7 (a + 1) dState := isD_same (q10d _ (by omega) (by omega)) T
  replace FS : ∀ x, x < a → s7 x = sh x := fun x h1 => (q10d x (by omega) (by omega)).trans (FS x h1)
  replace VZ : ∀ k, I8 (a) k = 0 := fun k => by rw [q10h _ (by omega) (by omega)]; exact VZ k
  replace TZ : ∀ k, I8 (a + 1) k = 0 := fun k => by rw [q10h _ (by omega) (by omega)]; exact TZ k
  replace FI : ∀ x, x < a → I8 x = I x := fun x h1 => (q10h x (by omega) (by omega)).trans (FI x h1)
  have V : isD s7 (a + 2) (vObj (a + 3)) := q10a
  have VA : Lay s7 (a + 3) (vArea (a + 3)) := q10b
  have VV : ∀ j, j < 5 → I8 (a + 4) j = 1 ∧ I8 (a + 5) j = 0 ∧ I8 (a + 6) j = 99 ∧ I8 (a + 7) j = 0 := q10f
  have VW : ∀ j, j < 144 → I8 (a + 8) j = 0 := q10g
  clear q10a q10b q10d q10e q10f q10g q10h
  refine OkE.bE3 81 1954 (oke_X2 (I := I8) (t := a + 1) (w := a + 2) T (by omega)) rfl rfl ?_
  intro s11 I12 n13 q14
  obtain ⟨q14a, q14b, q14c, q14d, q14e, q14f, q14g⟩ := q14
  have q14c : n13 = a + 29 := q14c
  subst q14c
  replace q14d : ∀ x, x < a + 9 → x ≠ a + 1 → s11 x = s7 x := q14d
  replace q14e : ∀ x, x < a + 9 → x ≠ a + 1 → I12 x = I8 x := q14e
  have TS : ∀ k, I12 (a + 1) k = if k = 0 then 3 else 0 := fun k => by
    have h9 : I12 (a + 1) = upd (I8 (a + 1)) 0 3 := q14f
    rw [h9]
    by_cases hk : k = 0
    · subst hk; rw [upd_eq, if_pos rfl]
    · rw [upd_ne hk, if_neg hk]; exact TZ k
  replace H : isD s11 (a) (.inl (6, [some none, some none, none, some none, some none, some none, none, none, some none])) := isD_same (q14d _ (by omega) (by omega)) H
  replace V : isD s11 (a + 2) (vObj (a + 3)) := isD_same (q14d _ (by omega) (by omega)) V
  replace VA : Lay s11 (a + 3) (vArea (a + 3)) := VA.kept (fun x h1 h2 => q14d x (by have h3 : x < a + 3 + 6 := h2; omega) (by have h3 : x < a + 3 + 6 := h2; omega))
  replace FS : ∀ x, x < a → s11 x = sh x := fun x h1 => (q14d x (by omega) (by omega)).trans (FS x h1)
  replace VZ : ∀ k, I12 (a) k = 0 := fun k => by rw [q14e _ (by omega) (by omega)]; exact VZ k
  replace VV : ∀ j, j < 5 → I12 (a + 4) j = 1 ∧ I12 (a + 5) j = 0 ∧ I12 (a + 6) j = 99 ∧ I12 (a + 7) j = 0 := fun j hj => by rw [q14e (a + 4) (by omega) (by omega), q14e (a + 5) (by omega) (by omega), q14e (a + 6) (by omega) (by omega), q14e (a + 7) (by omega) (by omega)]; exact VV j hj
  replace VW : ∀ j, j < 144 → I12 (a + 8) j = 0 := fun j hj => by rw [q14e _ (by omega) (by omega)]; exact VW j hj
  replace FI : ∀ x, x < a → I12 x = I x := fun x h1 => (q14e x (by omega) (by omega)).trans (FI x h1)
  have T : isD s11 (a + 1) (sObj (a + 9) (a + 2)) := q14a
  have TA : Lay s11 (a + 9) (sArea (a + 9)) := q14b
  have TV : ∀ x j, a + 9 ≤ x → x < a + 29 → x ≠ a + 11 → x ≠ a + 17 → I12 x j = if x = a + 10 ∧ j = 0 then 10 else 0 := q14g
  clear q14a q14b q14d q14e q14f q14g TZ
  obtain ⟨s15, h16e, h16b, h16f⟩ := pR_L (Lay.one H) 0 0 (a + 1) rfl ⟨none, rfl⟩
  refine OkE.bs h16e ?_
  replace h16f : ∀ x, x ≠ a → s15 x = s11 x := h16f
  have h16g : ∀ x, True → x ≠ a → s15 x = s11 x := fun x _ hx => h16f x hx
  replace H : isD s15 a (.inl (6, [some (some (a + 1)), some none, none, some none, some none, some none, none, none, some none])) := h16b 0 _ rfl
  replace V : isD s15 (a + 2) (vObj (a + 3)) := isD_same (h16f _ (by omega)) V
  replace VA : Lay s15 (a + 3) (vArea (a + 3)) := VA.kept (fun x h1 h2 => h16f x (by omega))
  replace T : isD s15 (a + 1) (sObj (a + 9) (a + 2)) := isD_same (h16f _ (by omega)) T
  replace TA : Lay s15 (a + 9) (sArea (a + 9)) := TA.kept (fun x h1 h2 => h16f x (by omega))
  replace FS : ∀ x, x < a → s15 x = sh x := fun x h1 => (h16f x (by omega)).trans (FS x h1)
  clear h16e h16b h16f h16g
  refine OkE.b2s rfl (OkE.addN 80 1945 (by decide) (by decide) ?_)
  obtain ⟨K, h17⟩ := nO_K (sh := s15) (a := a) (n := a + 29) (ds := []) 2 [none, some none, some none, some none, some none, none, some none, none, some none] fkd2
  have h17f : ∀ x, x < a + 29 → x ≠ a + 29 → nO s15 (a + 29) 2 x = s15 x := fun x _ hx => h17 x hx
  have h17i : ∀ x, x < a + 29 → x ≠ a + 29 → nOI I12 (a + 29) x = I12 x := fun x _ hx => by unfold nOI; rw [upR_ne hx]
  have h17z : ∀ k, nOI I12 (a + 29) (a + 29) k = 0 := fun k => by unfold nOI; rw [upR_same]
  generalize hsh17 : nO s15 (a + 29) 2 = s18 at *
  generalize hIh17 : nOI I12 (a + 29) = I19 at *
  clear hsh17 hIh17
  replace K : isD s18 (a + 29) dState := K
  replace H : isD s18 (a) (.inl (6, [some (some (a + 1)), some none, none, some none, some none, some none, none, none, some none])) := isD_same (h17f _ (by omega) (by omega)) H
  replace V : isD s18 (a + 2) (vObj (a + 3)) := isD_same (h17f _ (by omega) (by omega)) V
  replace VA : Lay s18 (a + 3) (vArea (a + 3)) := VA.kept (fun x h1 h2 => h17f x (by have h3 : x < a + 3 + 6 := h2; omega) (by have h3 : x < a + 3 + 6 := h2; omega))
  replace T : isD s18 (a + 1) (sObj (a + 9) (a + 2)) := isD_same (h17f _ (by omega) (by omega)) T
  replace TA : Lay s18 (a + 9) (sArea (a + 9)) := TA.kept (fun x h1 h2 => h17f x (by have h3 : x < a + 9 + 20 := h2; omega) (by have h3 : x < a + 9 + 20 := h2; omega))
  replace FS : ∀ x, x < a → s18 x = sh x := fun x h1 => (h17f x (by omega) (by omega)).trans (FS x h1)
  replace VZ : ∀ k, I19 (a) k = 0 := fun k => by rw [h17i _ (by omega) (by omega)]; exact VZ k
  replace VV : ∀ j, j < 5 → I19 (a + 4) j = 1 ∧ I19 (a + 5) j = 0 ∧ I19 (a + 6) j = 99 ∧ I19 (a + 7) j = 0 := fun j hj => by rw [h17i (a + 4) (by omega) (by omega), h17i (a + 5) (by omega) (by omega), h17i (a + 6) (by omega) (by omega), h17i (a + 7) (by omega) (by omega)]; exact VV j hj
  replace VW : ∀ j, j < 144 → I19 (a + 8) j = 0 := fun j hj => by rw [h17i _ (by omega) (by omega)]; exact VW j hj
  replace TS : ∀ k, I19 (a + 1) k = if k = 0 then 3 else 0 := fun k => by rw [h17i _ (by omega) (by omega)]; exact TS k
  replace TV : ∀ x j, a + 9 ≤ x → x < a + 29 → x ≠ a + 11 → x ≠ a + 17 → I19 x j = if x = a + 10 ∧ j = 0 then 10 else 0 := fun x j h1 h2 h3 h4 => by rw [h17i _ (by omega) (by omega)]; exact TV x j h1 h2 h3 h4
  replace FI : ∀ x, x < a → I19 x = I x := fun x h1 => (h17i x (by omega) (by omega)).trans (FI x h1)
  have KZ := h17z
  refine OkE.bs (gR_L (Lay.one H) 0 0 rfl rfl) ?_
  refine OkE.bs (gR_L (Lay.one T) 0 8 rfl rfl) ?_
  refine OkE.bE3 60 1846 (oke_X2 (I := I19) (t := a + 29) (w := a + 2) K (by omega)) rfl rfl ?_
  intro s20 I21 n22 q23
  obtain ⟨q23a, q23b, q23c, q23d, q23e, q23f, q23g⟩ := q23
  have q23c : n22 = a + 50 := q23c
  subst q23c
  replace q23d : ∀ x, x < a + 30 → x ≠ a + 29 → s20 x = s18 x := q23d
  replace q23e : ∀ x, x < a + 30 → x ≠ a + 29 → I21 x = I19 x := q23e
  have KS : ∀ k, I21 (a + 29) k = if k = 0 then 3 else 0 := fun k => by
    have h9 : I21 (a + 29) = upd (I19 (a + 29)) 0 3 := q23f
    rw [h9]
    by_cases hk : k = 0
    · subst hk; rw [upd_eq, if_pos rfl]
    · rw [upd_ne hk, if_neg hk]; exact KZ k
  replace H : isD s20 (a) (.inl (6, [some (some (a + 1)), some none, none, some none, some none, some none, none, none, some none])) := isD_same (q23d _ (by omega) (by omega)) H
  replace V : isD s20 (a + 2) (vObj (a + 3)) := isD_same (q23d _ (by omega) (by omega)) V
  replace VA : Lay s20 (a + 3) (vArea (a + 3)) := VA.kept (fun x h1 h2 => q23d x (by have h3 : x < a + 3 + 6 := h2; omega) (by have h3 : x < a + 3 + 6 := h2; omega))
  replace T : isD s20 (a + 1) (sObj (a + 9) (a + 2)) := isD_same (q23d _ (by omega) (by omega)) T
  replace TA : Lay s20 (a + 9) (sArea (a + 9)) := TA.kept (fun x h1 h2 => q23d x (by have h3 : x < a + 9 + 20 := h2; omega) (by have h3 : x < a + 9 + 20 := h2; omega))
  replace FS : ∀ x, x < a → s20 x = sh x := fun x h1 => (q23d x (by omega) (by omega)).trans (FS x h1)
  replace VZ : ∀ k, I21 (a) k = 0 := fun k => by rw [q23e _ (by omega) (by omega)]; exact VZ k
  replace VV : ∀ j, j < 5 → I21 (a + 4) j = 1 ∧ I21 (a + 5) j = 0 ∧ I21 (a + 6) j = 99 ∧ I21 (a + 7) j = 0 := fun j hj => by rw [q23e (a + 4) (by omega) (by omega), q23e (a + 5) (by omega) (by omega), q23e (a + 6) (by omega) (by omega), q23e (a + 7) (by omega) (by omega)]; exact VV j hj
  replace VW : ∀ j, j < 144 → I21 (a + 8) j = 0 := fun j hj => by rw [q23e _ (by omega) (by omega)]; exact VW j hj
  replace TS : ∀ k, I21 (a + 1) k = if k = 0 then 3 else 0 := fun k => by rw [q23e _ (by omega) (by omega)]; exact TS k
  replace TV : ∀ x j, a + 9 ≤ x → x < a + 29 → x ≠ a + 11 → x ≠ a + 17 → I21 x j = if x = a + 10 ∧ j = 0 then 10 else 0 := fun x j h1 h2 h3 h4 => by rw [q23e _ (by omega) (by omega)]; exact TV x j h1 h2 h3 h4
  replace FI : ∀ x, x < a → I21 x = I x := fun x h1 => (q23e x (by omega) (by omega)).trans (FI x h1)
  have K : isD s20 (a + 29) (sObj (a + 30) (a + 2)) := q23a
  have KA : Lay s20 (a + 30) (sArea (a + 30)) := q23b
  have KV : ∀ x j, a + 30 ≤ x → x < a + 50 → x ≠ a + 32 → x ≠ a + 38 → I21 x j = if x = a + 31 ∧ j = 0 then 10 else 0 := q23g
  clear q23a q23b q23d q23e q23f q23g KZ
  obtain ⟨s24, h25e, h25b, h25f⟩ := pR_L (Lay.one H) 0 1 (a + 29) rfl ⟨none, rfl⟩
  refine OkE.bs h25e ?_
  replace h25f : ∀ x, x ≠ a → s24 x = s20 x := h25f
  have h25g : ∀ x, True → x ≠ a → s24 x = s20 x := fun x _ hx => h25f x hx
  replace H : isD s24 a (.inl (6, [some (some (a + 1)), some (some (a + 29)), none, some none, some none, some none, none, none, some none])) := h25b 0 _ rfl
  replace V : isD s24 (a + 2) (vObj (a + 3)) := isD_same (h25f _ (by omega)) V
  replace VA : Lay s24 (a + 3) (vArea (a + 3)) := VA.kept (fun x h1 h2 => h25f x (by omega))
  replace T : isD s24 (a + 1) (sObj (a + 9) (a + 2)) := isD_same (h25f _ (by omega)) T
  replace TA : Lay s24 (a + 9) (sArea (a + 9)) := TA.kept (fun x h1 h2 => h25f x (by omega))
  replace K : isD s24 (a + 29) (sObj (a + 30) (a + 2)) := isD_same (h25f _ (by omega)) K
  replace KA : Lay s24 (a + 30) (sArea (a + 30)) := KA.kept (fun x h1 h2 => h25f x (by omega))
  replace FS : ∀ x, x < a → s24 x = sh x := fun x h1 => (h25f x (by omega)).trans (FS x h1)
  clear h25e h25b h25f h25g
  refine OkE.b2s rfl (OkE.addN 59 1836 (by decide) (by decide) ?_)
  obtain ⟨W, h26⟩ := nO_K (sh := s24) (a := a) (n := a + 50) (ds := []) 5 [some none, some none, some none, some none, some none, some none, some none, some none, some none, some none] fkd5
  have h26f : ∀ x, x < a + 50 → x ≠ a + 50 → nO s24 (a + 50) 5 x = s24 x := fun x _ hx => h26 x hx
  have h26i : ∀ x, x < a + 50 → x ≠ a + 50 → nOI I21 (a + 50) x = I21 x := fun x _ hx => by unfold nOI; rw [upR_ne hx]
  have h26z : ∀ k, nOI I21 (a + 50) (a + 50) k = 0 := fun k => by unfold nOI; rw [upR_same]
  generalize hsh26 : nO s24 (a + 50) 5 = s27 at *
  generalize hIh26 : nOI I21 (a + 50) = I28 at *
  clear hsh26 hIh26
  replace W : isD s27 (a + 50) dWater := W
  replace H : isD s27 (a) (.inl (6, [some (some (a + 1)), some (some (a + 29)), none, some none, some none, some none, none, none, some none])) := isD_same (h26f _ (by omega) (by omega)) H
  replace V : isD s27 (a + 2) (vObj (a + 3)) := isD_same (h26f _ (by omega) (by omega)) V
  replace VA : Lay s27 (a + 3) (vArea (a + 3)) := VA.kept (fun x h1 h2 => h26f x (by have h3 : x < a + 3 + 6 := h2; omega) (by have h3 : x < a + 3 + 6 := h2; omega))
  replace T : isD s27 (a + 1) (sObj (a + 9) (a + 2)) := isD_same (h26f _ (by omega) (by omega)) T
  replace TA : Lay s27 (a + 9) (sArea (a + 9)) := TA.kept (fun x h1 h2 => h26f x (by have h3 : x < a + 9 + 20 := h2; omega) (by have h3 : x < a + 9 + 20 := h2; omega))
  replace K : isD s27 (a + 29) (sObj (a + 30) (a + 2)) := isD_same (h26f _ (by omega) (by omega)) K
  replace KA : Lay s27 (a + 30) (sArea (a + 30)) := KA.kept (fun x h1 h2 => h26f x (by have h3 : x < a + 30 + 20 := h2; omega) (by have h3 : x < a + 30 + 20 := h2; omega))
  replace FS : ∀ x, x < a → s27 x = sh x := fun x h1 => (h26f x (by omega) (by omega)).trans (FS x h1)
  replace VZ : ∀ k, I28 (a) k = 0 := fun k => by rw [h26i _ (by omega) (by omega)]; exact VZ k
  replace VV : ∀ j, j < 5 → I28 (a + 4) j = 1 ∧ I28 (a + 5) j = 0 ∧ I28 (a + 6) j = 99 ∧ I28 (a + 7) j = 0 := fun j hj => by rw [h26i (a + 4) (by omega) (by omega), h26i (a + 5) (by omega) (by omega), h26i (a + 6) (by omega) (by omega), h26i (a + 7) (by omega) (by omega)]; exact VV j hj
  replace VW : ∀ j, j < 144 → I28 (a + 8) j = 0 := fun j hj => by rw [h26i _ (by omega) (by omega)]; exact VW j hj
  replace TS : ∀ k, I28 (a + 1) k = if k = 0 then 3 else 0 := fun k => by rw [h26i _ (by omega) (by omega)]; exact TS k
  replace TV : ∀ x j, a + 9 ≤ x → x < a + 29 → x ≠ a + 11 → x ≠ a + 17 → I28 x j = if x = a + 10 ∧ j = 0 then 10 else 0 := fun x j h1 h2 h3 h4 => by rw [h26i _ (by omega) (by omega)]; exact TV x j h1 h2 h3 h4
  replace KS : ∀ k, I28 (a + 29) k = if k = 0 then 3 else 0 := fun k => by rw [h26i _ (by omega) (by omega)]; exact KS k
  replace KV : ∀ x j, a + 30 ≤ x → x < a + 50 → x ≠ a + 32 → x ≠ a + 38 → I28 x j = if x = a + 31 ∧ j = 0 then 10 else 0 := fun x j h1 h2 h3 h4 => by rw [h26i _ (by omega) (by omega)]; exact KV x j h1 h2 h3 h4
  replace FI : ∀ x, x < a → I28 x = I x := fun x h1 => (h26i x (by omega) (by omega)).trans (FI x h1)
  refine OkE.bs (gR_L (Lay.one H) 0 0 rfl rfl) ?_
  refine OkE.bE3 16 509 (ok_X5 (I := I28) (t := a + 50) (w := a + 1) W (by omega)) rfl rfl ?_
  intro s29 I30 n31 q32
  obtain ⟨q32a, q32b, q32c, q32d, q32e⟩ := q32
  have q32c : n31 = a + 94 := q32c
  subst q32c
  replace q32d : ∀ x, x < a + 51 → x ≠ a + 50 → s29 x = s27 x := q32d
  replace q32e : ∀ x, x < a + 51 → x ≠ a + 50 → I30 x = I28 x := q32e
  replace H : isD s29 (a) (.inl (6, [some (some (a + 1)), some (some (a + 29)), none, some none, some none, some none, none, none, some none])) := isD_same (q32d _ (by omega) (by omega)) H
  replace V : isD s29 (a + 2) (vObj (a + 3)) := isD_same (q32d _ (by omega) (by omega)) V
  replace VA : Lay s29 (a + 3) (vArea (a + 3)) := VA.kept (fun x h1 h2 => q32d x (by have h3 : x < a + 3 + 6 := h2; omega) (by have h3 : x < a + 3 + 6 := h2; omega))
  replace T : isD s29 (a + 1) (sObj (a + 9) (a + 2)) := isD_same (q32d _ (by omega) (by omega)) T
  replace TA : Lay s29 (a + 9) (sArea (a + 9)) := TA.kept (fun x h1 h2 => q32d x (by have h3 : x < a + 9 + 20 := h2; omega) (by have h3 : x < a + 9 + 20 := h2; omega))
  replace K : isD s29 (a + 29) (sObj (a + 30) (a + 2)) := isD_same (q32d _ (by omega) (by omega)) K
  replace KA : Lay s29 (a + 30) (sArea (a + 30)) := KA.kept (fun x h1 h2 => q32d x (by have h3 : x < a + 30 + 20 := h2; omega) (by have h3 : x < a + 30 + 20 := h2; omega))
  replace FS : ∀ x, x < a → s29 x = sh x := fun x h1 => (q32d x (by omega) (by omega)).trans (FS x h1)
  replace VZ : ∀ k, I30 (a) k = 0 := fun k => by rw [q32e _ (by omega) (by omega)]; exact VZ k
  replace VV : ∀ j, j < 5 → I30 (a + 4) j = 1 ∧ I30 (a + 5) j = 0 ∧ I30 (a + 6) j = 99 ∧ I30 (a + 7) j = 0 := fun j hj => by rw [q32e (a + 4) (by omega) (by omega), q32e (a + 5) (by omega) (by omega), q32e (a + 6) (by omega) (by omega), q32e (a + 7) (by omega) (by omega)]; exact VV j hj
  replace VW : ∀ j, j < 144 → I30 (a + 8) j = 0 := fun j hj => by rw [q32e _ (by omega) (by omega)]; exact VW j hj
  replace TS : ∀ k, I30 (a + 1) k = if k = 0 then 3 else 0 := fun k => by rw [q32e _ (by omega) (by omega)]; exact TS k
  replace TV : ∀ x j, a + 9 ≤ x → x < a + 29 → x ≠ a + 11 → x ≠ a + 17 → I30 x j = if x = a + 10 ∧ j = 0 then 10 else 0 := fun x j h1 h2 h3 h4 => by rw [q32e _ (by omega) (by omega)]; exact TV x j h1 h2 h3 h4
  replace KS : ∀ k, I30 (a + 29) k = if k = 0 then 3 else 0 := fun k => by rw [q32e _ (by omega) (by omega)]; exact KS k
  replace KV : ∀ x j, a + 30 ≤ x → x < a + 50 → x ≠ a + 32 → x ≠ a + 38 → I30 x j = if x = a + 31 ∧ j = 0 then 10 else 0 := fun x j h1 h2 h3 h4 => by rw [q32e _ (by omega) (by omega)]; exact KV x j h1 h2 h3 h4
  replace FI : ∀ x, x < a → I30 x = I x := fun x h1 => (q32e x (by omega) (by omega)).trans (FI x h1)
  have W : isD s29 (a + 50) (wObj (a + 51) (a + 1)) := q32a
  have WA : Lay s29 (a + 51) (wArea (a + 51)) := q32b
  clear q32a q32b q32d q32e
  obtain ⟨s33, h34e, h34b, h34f⟩ := pR_L (Lay.one H) 0 3 (a + 50) rfl ⟨none, rfl⟩
  refine OkE.bs h34e ?_
  replace h34f : ∀ x, x ≠ a → s33 x = s29 x := h34f
  have h34g : ∀ x, True → x ≠ a → s33 x = s29 x := fun x _ hx => h34f x hx
  replace H : isD s33 a (.inl (6, [some (some (a + 1)), some (some (a + 29)), none, some (some (a + 50)), some none, some none, none, none, some none])) := h34b 0 _ rfl
  replace V : isD s33 (a + 2) (vObj (a + 3)) := isD_same (h34f _ (by omega)) V
  replace VA : Lay s33 (a + 3) (vArea (a + 3)) := VA.kept (fun x h1 h2 => h34f x (by omega))
  replace T : isD s33 (a + 1) (sObj (a + 9) (a + 2)) := isD_same (h34f _ (by omega)) T
  replace TA : Lay s33 (a + 9) (sArea (a + 9)) := TA.kept (fun x h1 h2 => h34f x (by omega))
  replace K : isD s33 (a + 29) (sObj (a + 30) (a + 2)) := isD_same (h34f _ (by omega)) K
  replace KA : Lay s33 (a + 30) (sArea (a + 30)) := KA.kept (fun x h1 h2 => h34f x (by omega))
  replace W : isD s33 (a + 50) (wObj (a + 51) (a + 1)) := isD_same (h34f _ (by omega)) W
  replace WA : Lay s33 (a + 51) (wArea (a + 51)) := WA.kept (fun x h1 h2 => h34f x (by omega))
  replace FS : ∀ x, x < a → s33 x = sh x := fun x h1 => (h34f x (by omega)).trans (FS x h1)
  clear h34e h34b h34f h34g
  refine OkE.b2s rfl (OkE.addN 15 504 (by decide) (by decide) ?_)
  obtain ⟨A, h35⟩ := nO_K (sh := s33) (a := a) (n := a + 94) (ds := []) 0 [none, none, none, some none, none] fkd0
  have h35f : ∀ x, x < a + 94 → x ≠ a + 94 → nO s33 (a + 94) 0 x = s33 x := fun x _ hx => h35 x hx
  have h35i : ∀ x, x < a + 94 → x ≠ a + 94 → nOI I30 (a + 94) x = I30 x := fun x _ hx => by unfold nOI; rw [upR_ne hx]
  have h35z : ∀ k, nOI I30 (a + 94) (a + 94) k = 0 := fun k => by unfold nOI; rw [upR_same]
  generalize hsh35 : nO s33 (a + 94) 0 = s36 at *
  generalize hIh35 : nOI I30 (a + 94) = I37 at *
  clear hsh35 hIh35
  replace A : isD s36 (a + 94) dActs := A
  replace H : isD s36 (a) (.inl (6, [some (some (a + 1)), some (some (a + 29)), none, some (some (a + 50)), some none, some none, none, none, some none])) := isD_same (h35f _ (by omega) (by omega)) H
  replace V : isD s36 (a + 2) (vObj (a + 3)) := isD_same (h35f _ (by omega) (by omega)) V
  replace VA : Lay s36 (a + 3) (vArea (a + 3)) := VA.kept (fun x h1 h2 => h35f x (by have h3 : x < a + 3 + 6 := h2; omega) (by have h3 : x < a + 3 + 6 := h2; omega))
  replace T : isD s36 (a + 1) (sObj (a + 9) (a + 2)) := isD_same (h35f _ (by omega) (by omega)) T
  replace TA : Lay s36 (a + 9) (sArea (a + 9)) := TA.kept (fun x h1 h2 => h35f x (by have h3 : x < a + 9 + 20 := h2; omega) (by have h3 : x < a + 9 + 20 := h2; omega))
  replace K : isD s36 (a + 29) (sObj (a + 30) (a + 2)) := isD_same (h35f _ (by omega) (by omega)) K
  replace KA : Lay s36 (a + 30) (sArea (a + 30)) := KA.kept (fun x h1 h2 => h35f x (by have h3 : x < a + 30 + 20 := h2; omega) (by have h3 : x < a + 30 + 20 := h2; omega))
  replace W : isD s36 (a + 50) (wObj (a + 51) (a + 1)) := isD_same (h35f _ (by omega) (by omega)) W
  replace WA : Lay s36 (a + 51) (wArea (a + 51)) := WA.kept (fun x h1 h2 => h35f x (by have h3 : x < a + 51 + 43 := h2; omega) (by have h3 : x < a + 51 + 43 := h2; omega))
  replace FS : ∀ x, x < a → s36 x = sh x := fun x h1 => (h35f x (by omega) (by omega)).trans (FS x h1)
  replace VZ : ∀ k, I37 (a) k = 0 := fun k => by rw [h35i _ (by omega) (by omega)]; exact VZ k
  replace VV : ∀ j, j < 5 → I37 (a + 4) j = 1 ∧ I37 (a + 5) j = 0 ∧ I37 (a + 6) j = 99 ∧ I37 (a + 7) j = 0 := fun j hj => by rw [h35i (a + 4) (by omega) (by omega), h35i (a + 5) (by omega) (by omega), h35i (a + 6) (by omega) (by omega), h35i (a + 7) (by omega) (by omega)]; exact VV j hj
  replace VW : ∀ j, j < 144 → I37 (a + 8) j = 0 := fun j hj => by rw [h35i _ (by omega) (by omega)]; exact VW j hj
  replace TS : ∀ k, I37 (a + 1) k = if k = 0 then 3 else 0 := fun k => by rw [h35i _ (by omega) (by omega)]; exact TS k
  replace TV : ∀ x j, a + 9 ≤ x → x < a + 29 → x ≠ a + 11 → x ≠ a + 17 → I37 x j = if x = a + 10 ∧ j = 0 then 10 else 0 := fun x j h1 h2 h3 h4 => by rw [h35i _ (by omega) (by omega)]; exact TV x j h1 h2 h3 h4
  replace KS : ∀ k, I37 (a + 29) k = if k = 0 then 3 else 0 := fun k => by rw [h35i _ (by omega) (by omega)]; exact KS k
  replace KV : ∀ x j, a + 30 ≤ x → x < a + 50 → x ≠ a + 32 → x ≠ a + 38 → I37 x j = if x = a + 31 ∧ j = 0 then 10 else 0 := fun x j h1 h2 h3 h4 => by rw [h35i _ (by omega) (by omega)]; exact KV x j h1 h2 h3 h4
  replace FI : ∀ x, x < a → I37 x = I x := fun x h1 => (h35i x (by omega) (by omega)).trans (FI x h1)
  have AZ := h35z
  refine OkE.bE3 14 484 (oke_X0 (I := I37) (t := a + 94) A (by omega)) rfl rfl ?_
  intro s38 I39 n40 q41
  obtain ⟨q41a, q41b, q41c, q41d, q41e⟩ := q41
  have q41c : n40 = a + 96 := q41c
  subst q41c
  replace q41d : ∀ x, x < a + 95 → x ≠ a + 94 → s38 x = s36 x := q41d
  have q41h : ∀ x, x < a + 95 → x ≠ a + 95 → I39 x = I37 x := fun x hx _ => q41e x hx
  replace H : isD s38 (a) (.inl (6, [some (some (a + 1)), some (some (a + 29)), none, some (some (a + 50)), some none, some none, none, none, some none])) := isD_same (q41d _ (by omega) (by omega)) H
  replace V : isD s38 (a + 2) (vObj (a + 3)) := isD_same (q41d _ (by omega) (by omega)) V
  replace VA : Lay s38 (a + 3) (vArea (a + 3)) := VA.kept (fun x h1 h2 => q41d x (by have h3 : x < a + 3 + 6 := h2; omega) (by have h3 : x < a + 3 + 6 := h2; omega))
  replace T : isD s38 (a + 1) (sObj (a + 9) (a + 2)) := isD_same (q41d _ (by omega) (by omega)) T
  replace TA : Lay s38 (a + 9) (sArea (a + 9)) := TA.kept (fun x h1 h2 => q41d x (by have h3 : x < a + 9 + 20 := h2; omega) (by have h3 : x < a + 9 + 20 := h2; omega))
  replace K : isD s38 (a + 29) (sObj (a + 30) (a + 2)) := isD_same (q41d _ (by omega) (by omega)) K
  replace KA : Lay s38 (a + 30) (sArea (a + 30)) := KA.kept (fun x h1 h2 => q41d x (by have h3 : x < a + 30 + 20 := h2; omega) (by have h3 : x < a + 30 + 20 := h2; omega))
  replace W : isD s38 (a + 50) (wObj (a + 51) (a + 1)) := isD_same (q41d _ (by omega) (by omega)) W
  replace WA : Lay s38 (a + 51) (wArea (a + 51)) := WA.kept (fun x h1 h2 => q41d x (by have h3 : x < a + 51 + 43 := h2; omega) (by have h3 : x < a + 51 + 43 := h2; omega))
  replace FS : ∀ x, x < a → s38 x = sh x := fun x h1 => (q41d x (by omega) (by omega)).trans (FS x h1)
  replace VZ : ∀ k, I39 (a) k = 0 := fun k => by rw [q41h _ (by omega) (by omega)]; exact VZ k
  replace VV : ∀ j, j < 5 → I39 (a + 4) j = 1 ∧ I39 (a + 5) j = 0 ∧ I39 (a + 6) j = 99 ∧ I39 (a + 7) j = 0 := fun j hj => by rw [q41h (a + 4) (by omega) (by omega), q41h (a + 5) (by omega) (by omega), q41h (a + 6) (by omega) (by omega), q41h (a + 7) (by omega) (by omega)]; exact VV j hj
  replace VW : ∀ j, j < 144 → I39 (a + 8) j = 0 := fun j hj => by rw [q41h _ (by omega) (by omega)]; exact VW j hj
  replace TS : ∀ k, I39 (a + 1) k = if k = 0 then 3 else 0 := fun k => by rw [q41h _ (by omega) (by omega)]; exact TS k
  replace TV : ∀ x j, a + 9 ≤ x → x < a + 29 → x ≠ a + 11 → x ≠ a + 17 → I39 x j = if x = a + 10 ∧ j = 0 then 10 else 0 := fun x j h1 h2 h3 h4 => by rw [q41h _ (by omega) (by omega)]; exact TV x j h1 h2 h3 h4
  replace KS : ∀ k, I39 (a + 29) k = if k = 0 then 3 else 0 := fun k => by rw [q41h _ (by omega) (by omega)]; exact KS k
  replace KV : ∀ x j, a + 30 ≤ x → x < a + 50 → x ≠ a + 32 → x ≠ a + 38 → I39 x j = if x = a + 31 ∧ j = 0 then 10 else 0 := fun x j h1 h2 h3 h4 => by rw [q41h _ (by omega) (by omega)]; exact KV x j h1 h2 h3 h4
  replace AZ : ∀ k, I39 (a + 94) k = 0 := fun k => by rw [q41h _ (by omega) (by omega)]; exact AZ k
  replace FI : ∀ x, x < a → I39 x = I x := fun x h1 => (q41h x (by omega) (by omega)).trans (FI x h1)
  have A : isD s38 (a + 94) (oActs (a + 95)) := q41a
  have AA : Lay s38 (a + 95) [.inr (0, 20, 0)] := q41b
  clear q41a q41b q41d q41e q41h
  obtain ⟨s42, h43e, h43b, h43f⟩ := pR_L (Lay.one H) 0 4 (a + 94) rfl ⟨none, rfl⟩
  refine OkE.bs h43e ?_
  replace h43f : ∀ x, x ≠ a → s42 x = s38 x := h43f
  have h43g : ∀ x, True → x ≠ a → s42 x = s38 x := fun x _ hx => h43f x hx
  replace H : isD s42 a (.inl (6, [some (some (a + 1)), some (some (a + 29)), none, some (some (a + 50)), some (some (a + 94)), some none, none, none, some none])) := h43b 0 _ rfl
  replace V : isD s42 (a + 2) (vObj (a + 3)) := isD_same (h43f _ (by omega)) V
  replace VA : Lay s42 (a + 3) (vArea (a + 3)) := VA.kept (fun x h1 h2 => h43f x (by omega))
  replace T : isD s42 (a + 1) (sObj (a + 9) (a + 2)) := isD_same (h43f _ (by omega)) T
  replace TA : Lay s42 (a + 9) (sArea (a + 9)) := TA.kept (fun x h1 h2 => h43f x (by omega))
  replace K : isD s42 (a + 29) (sObj (a + 30) (a + 2)) := isD_same (h43f _ (by omega)) K
  replace KA : Lay s42 (a + 30) (sArea (a + 30)) := KA.kept (fun x h1 h2 => h43f x (by omega))
  replace W : isD s42 (a + 50) (wObj (a + 51) (a + 1)) := isD_same (h43f _ (by omega)) W
  replace WA : Lay s42 (a + 51) (wArea (a + 51)) := WA.kept (fun x h1 h2 => h43f x (by omega))
  replace A : isD s42 (a + 94) (oActs (a + 95)) := isD_same (h43f _ (by omega)) A
  replace AA : Lay s42 (a + 95) [.inr (0, 20, 0)] := AA.kept (fun x h1 h2 => h43f x (by omega))
  replace FS : ∀ x, x < a → s42 x = sh x := fun x h1 => (h43f x (by omega)).trans (FS x h1)
  clear h43e h43b h43f h43g
  obtain ⟨s44, I45, q46e, q46b, q46f, q46i, -⟩ := nAI_K (sh := s42) (I := I39) (c := 100) (n := a + 96) (Lay.nil (a := a + 96)) 0 (Or.inl rfl) (by omega) rfl
  refine OkE.b2s q46e (OkE.addN 13 384 rfl rfl ?_)
  have q46g : ∀ x, x < a + 96 → x ≠ a + 96 → s44 x = s42 x := fun x _ hx => q46f x hx
  have q46j : ∀ x, x < a + 96 → x ≠ a + 96 → I45 x = I39 x := fun x _ hx => q46i x hx
  replace H : isD s44 (a) (.inl (6, [some (some (a + 1)), some (some (a + 29)), none, some (some (a + 50)), some (some (a + 94)), some none, none, none, some none])) := isD_same (q46g _ (by omega) (by omega)) H
  replace V : isD s44 (a + 2) (vObj (a + 3)) := isD_same (q46g _ (by omega) (by omega)) V
  replace VA : Lay s44 (a + 3) (vArea (a + 3)) := VA.kept (fun x h1 h2 => q46g x (by have h3 : x < a + 3 + 6 := h2; omega) (by have h3 : x < a + 3 + 6 := h2; omega))
  replace T : isD s44 (a + 1) (sObj (a + 9) (a + 2)) := isD_same (q46g _ (by omega) (by omega)) T
  replace TA : Lay s44 (a + 9) (sArea (a + 9)) := TA.kept (fun x h1 h2 => q46g x (by have h3 : x < a + 9 + 20 := h2; omega) (by have h3 : x < a + 9 + 20 := h2; omega))
  replace K : isD s44 (a + 29) (sObj (a + 30) (a + 2)) := isD_same (q46g _ (by omega) (by omega)) K
  replace KA : Lay s44 (a + 30) (sArea (a + 30)) := KA.kept (fun x h1 h2 => q46g x (by have h3 : x < a + 30 + 20 := h2; omega) (by have h3 : x < a + 30 + 20 := h2; omega))
  replace W : isD s44 (a + 50) (wObj (a + 51) (a + 1)) := isD_same (q46g _ (by omega) (by omega)) W
  replace WA : Lay s44 (a + 51) (wArea (a + 51)) := WA.kept (fun x h1 h2 => q46g x (by have h3 : x < a + 51 + 43 := h2; omega) (by have h3 : x < a + 51 + 43 := h2; omega))
  replace A : isD s44 (a + 94) (oActs (a + 95)) := isD_same (q46g _ (by omega) (by omega)) A
  replace AA : Lay s44 (a + 95) [.inr (0, 20, 0)] := AA.kept (fun x h1 h2 => q46g x (by have h3 : x < a + 95 + 1 := h2; omega) (by have h3 : x < a + 95 + 1 := h2; omega))
  replace FS : ∀ x, x < a → s44 x = sh x := fun x h1 => (q46g x (by omega) (by omega)).trans (FS x h1)
  replace VZ : ∀ k, I45 (a) k = 0 := fun k => by rw [q46j _ (by omega) (by omega)]; exact VZ k
  replace VV : ∀ j, j < 5 → I45 (a + 4) j = 1 ∧ I45 (a + 5) j = 0 ∧ I45 (a + 6) j = 99 ∧ I45 (a + 7) j = 0 := fun j hj => by rw [q46j (a + 4) (by omega) (by omega), q46j (a + 5) (by omega) (by omega), q46j (a + 6) (by omega) (by omega), q46j (a + 7) (by omega) (by omega)]; exact VV j hj
  replace VW : ∀ j, j < 144 → I45 (a + 8) j = 0 := fun j hj => by rw [q46j _ (by omega) (by omega)]; exact VW j hj
  replace TS : ∀ k, I45 (a + 1) k = if k = 0 then 3 else 0 := fun k => by rw [q46j _ (by omega) (by omega)]; exact TS k
  replace TV : ∀ x j, a + 9 ≤ x → x < a + 29 → x ≠ a + 11 → x ≠ a + 17 → I45 x j = if x = a + 10 ∧ j = 0 then 10 else 0 := fun x j h1 h2 h3 h4 => by rw [q46j _ (by omega) (by omega)]; exact TV x j h1 h2 h3 h4
  replace KS : ∀ k, I45 (a + 29) k = if k = 0 then 3 else 0 := fun k => by rw [q46j _ (by omega) (by omega)]; exact KS k
  replace KV : ∀ x j, a + 30 ≤ x → x < a + 50 → x ≠ a + 32 → x ≠ a + 38 → I45 x j = if x = a + 31 ∧ j = 0 then 10 else 0 := fun x j h1 h2 h3 h4 => by rw [q46j _ (by omega) (by omega)]; exact KV x j h1 h2 h3 h4
  replace AZ : ∀ k, I45 (a + 94) k = 0 := fun k => by rw [q46j _ (by omega) (by omega)]; exact AZ k
  replace FI : ∀ x, x < a → I45 x = I x := fun x h1 => (q46j x (by omega) (by omega)).trans (FI x h1)
  have X : Lay s44 (a + 96) [.inr (0, 100, 0)] := q46b
  clear q46e q46b q46f q46i q46g q46j
  obtain ⟨s47, h48e, h48b, h48f⟩ := pR_L (Lay.one H) 0 5 (a + 96) rfl ⟨none, rfl⟩
  refine OkE.bs h48e ?_
  replace h48f : ∀ x, x ≠ a → s47 x = s44 x := h48f
  have h48g : ∀ x, True → x ≠ a → s47 x = s44 x := fun x _ hx => h48f x hx
  replace H : isD s47 a (.inl (6, [some (some (a + 1)), some (some (a + 29)), none, some (some (a + 50)), some (some (a + 94)), some (some (a + 96)), none, none, some none])) := h48b 0 _ rfl
  replace V : isD s47 (a + 2) (vObj (a + 3)) := isD_same (h48f _ (by omega)) V
  replace VA : Lay s47 (a + 3) (vArea (a + 3)) := VA.kept (fun x h1 h2 => h48f x (by omega))
  replace T : isD s47 (a + 1) (sObj (a + 9) (a + 2)) := isD_same (h48f _ (by omega)) T
  replace TA : Lay s47 (a + 9) (sArea (a + 9)) := TA.kept (fun x h1 h2 => h48f x (by omega))
  replace K : isD s47 (a + 29) (sObj (a + 30) (a + 2)) := isD_same (h48f _ (by omega)) K
  replace KA : Lay s47 (a + 30) (sArea (a + 30)) := KA.kept (fun x h1 h2 => h48f x (by omega))
  replace W : isD s47 (a + 50) (wObj (a + 51) (a + 1)) := isD_same (h48f _ (by omega)) W
  replace WA : Lay s47 (a + 51) (wArea (a + 51)) := WA.kept (fun x h1 h2 => h48f x (by omega))
  replace A : isD s47 (a + 94) (oActs (a + 95)) := isD_same (h48f _ (by omega)) A
  replace AA : Lay s47 (a + 95) [.inr (0, 20, 0)] := AA.kept (fun x h1 h2 => h48f x (by omega))
  replace X : Lay s47 (a + 96) [.inr (0, 100, 0)] := X.kept (fun x h1 h2 => h48f x (by omega))
  replace FS : ∀ x, x < a → s47 x = sh x := fun x h1 => (h48f x (by omega)).trans (FS x h1)
  clear h48e h48b h48f h48g
  obtain ⟨s49, q50e, q50b, q50f⟩ := nAR_L (sh := s47) (Lay.nil (a := a + 97)) (n := a + 97) (c := 6) rfl (by omega) (a + 98)
  refine OkE.bs q50e (OkE.addN 12 378 rfl rfl ?_)
  have q50g : ∀ x, x < a + 97 → x ≠ a + 97 → s49 x = s47 x := fun x _ hx => q50f x hx
  replace H : isD s49 (a) (.inl (6, [some (some (a + 1)), some (some (a + 29)), none, some (some (a + 50)), some (some (a + 94)), some (some (a + 96)), none, none, some none])) := isD_same (q50g _ (by omega) (by omega)) H
  replace V : isD s49 (a + 2) (vObj (a + 3)) := isD_same (q50g _ (by omega) (by omega)) V
  replace VA : Lay s49 (a + 3) (vArea (a + 3)) := VA.kept (fun x h1 h2 => q50g x (by have h3 : x < a + 3 + 6 := h2; omega) (by have h3 : x < a + 3 + 6 := h2; omega))
  replace T : isD s49 (a + 1) (sObj (a + 9) (a + 2)) := isD_same (q50g _ (by omega) (by omega)) T
  replace TA : Lay s49 (a + 9) (sArea (a + 9)) := TA.kept (fun x h1 h2 => q50g x (by have h3 : x < a + 9 + 20 := h2; omega) (by have h3 : x < a + 9 + 20 := h2; omega))
  replace K : isD s49 (a + 29) (sObj (a + 30) (a + 2)) := isD_same (q50g _ (by omega) (by omega)) K
  replace KA : Lay s49 (a + 30) (sArea (a + 30)) := KA.kept (fun x h1 h2 => q50g x (by have h3 : x < a + 30 + 20 := h2; omega) (by have h3 : x < a + 30 + 20 := h2; omega))
  replace W : isD s49 (a + 50) (wObj (a + 51) (a + 1)) := isD_same (q50g _ (by omega) (by omega)) W
  replace WA : Lay s49 (a + 51) (wArea (a + 51)) := WA.kept (fun x h1 h2 => q50g x (by have h3 : x < a + 51 + 43 := h2; omega) (by have h3 : x < a + 51 + 43 := h2; omega))
  replace A : isD s49 (a + 94) (oActs (a + 95)) := isD_same (q50g _ (by omega) (by omega)) A
  replace AA : Lay s49 (a + 95) [.inr (0, 20, 0)] := AA.kept (fun x h1 h2 => q50g x (by have h3 : x < a + 95 + 1 := h2; omega) (by have h3 : x < a + 95 + 1 := h2; omega))
  replace X : Lay s49 (a + 96) [.inr (0, 100, 0)] := X.kept (fun x h1 h2 => q50g x (by have h3 : x < a + 96 + 1 := h2; omega) (by have h3 : x < a + 96 + 1 := h2; omega))
  replace FS : ∀ x, x < a → s49 x = sh x := fun x h1 => (q50g x (by omega) (by omega)).trans (FS x h1)
  have Y : Lay s49 (a + 97) [.inr (10, 6, a + 98)] := q50b
  clear q50e q50b q50f q50g
  obtain ⟨s51, h52e, h52b, h52f⟩ := pR_L (Lay.one H) 0 8 (a + 97) rfl ⟨none, rfl⟩
  refine OkE.bs h52e ?_
  replace h52f : ∀ x, x ≠ a → s51 x = s49 x := h52f
  have h52g : ∀ x, True → x ≠ a → s51 x = s49 x := fun x _ hx => h52f x hx
  replace H : isD s51 a (.inl (6, [some (some (a + 1)), some (some (a + 29)), none, some (some (a + 50)), some (some (a + 94)), some (some (a + 96)), none, none, some (some (a + 97))])) := h52b 0 _ rfl
  replace V : isD s51 (a + 2) (vObj (a + 3)) := isD_same (h52f _ (by omega)) V
  replace VA : Lay s51 (a + 3) (vArea (a + 3)) := VA.kept (fun x h1 h2 => h52f x (by omega))
  replace T : isD s51 (a + 1) (sObj (a + 9) (a + 2)) := isD_same (h52f _ (by omega)) T
  replace TA : Lay s51 (a + 9) (sArea (a + 9)) := TA.kept (fun x h1 h2 => h52f x (by omega))
  replace K : isD s51 (a + 29) (sObj (a + 30) (a + 2)) := isD_same (h52f _ (by omega)) K
  replace KA : Lay s51 (a + 30) (sArea (a + 30)) := KA.kept (fun x h1 h2 => h52f x (by omega))
  replace W : isD s51 (a + 50) (wObj (a + 51) (a + 1)) := isD_same (h52f _ (by omega)) W
  replace WA : Lay s51 (a + 51) (wArea (a + 51)) := WA.kept (fun x h1 h2 => h52f x (by omega))
  replace A : isD s51 (a + 94) (oActs (a + 95)) := isD_same (h52f _ (by omega)) A
  replace AA : Lay s51 (a + 95) [.inr (0, 20, 0)] := AA.kept (fun x h1 h2 => h52f x (by omega))
  replace X : Lay s51 (a + 96) [.inr (0, 100, 0)] := X.kept (fun x h1 h2 => h52f x (by omega))
  replace Y : Lay s51 (a + 97) [.inr (10, 6, a + 98)] := Y.kept (fun x h1 h2 => h52f x (by omega))
  replace FS : ∀ x, x < a → s51 x = sh x := fun x h1 => (h52f x (by omega)).trans (FS x h1)
  clear h52e h52b h52f h52g
  have B : Lay s51 a (base98 a 0) := (((((((((((((Lay.one H).app (Lay.one T) rfl).app (Lay.one V) rfl).app VA rfl).app TA rfl).app (Lay.one K) rfl).app KA rfl).app (Lay.one W) rfl).app WA rfl).app (Lay.one A) rfl).app AA rfl).app X rfl).app Y rfl)
  clear H T V VA TA K KA W WA A AA X Y
  refine OkE.mono (ok_tapes B I45 L) ?_
  intro z hz
  obtain ⟨z1, z2, z3, z4, z5, z6⟩ := hz
  refine ⟨z1, z2, fun x hx => ?_, fun x hx => ?_, fun x hx => z5 x (by omega), fun k => ?_, fun k => ?_, fun k => ?_, fun j hj => ?_, fun j hj => ?_, fun x j h1 h2 h3 h4 => ?_, fun x j h1 h2 h3 h4 => ?_, fun k => ?_, z6⟩
  · rw [z3 x hx]; exact FS x hx
  · rw [z4 x (by omega)]; exact FI x hx
  · rw [z4 a (by omega)]; exact VZ k
  · rw [z4 (a + 1) (by omega)]; exact TS k
  · rw [z4 (a + 29) (by omega)]; exact KS k
  · rw [z4 (a + 4) (by omega), z4 (a + 5) (by omega), z4 (a + 6) (by omega), z4 (a + 7) (by omega)]; exact VV j hj
  · rw [z4 (a + 8) (by omega)]; exact VW j hj
  · rw [z4 x (by omega)]; exact TV x j h1 h2 h3 h4
  · rw [z4 x (by omega)]; exact KV x j h1 h2 h3 h4
  · rw [z4 (a + 94) (by omega)]; exact AZ k
