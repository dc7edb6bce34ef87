/-! LAYER 2: what lies at which address; reading and writing there -/
abbrev shD : Type := (Nat × List (Option (Option Nat))) ⊕ (Nat × Nat × Nat)
def tyD (t : Nat) : Nat := if 10 ≤ t then 3 else t
def fillD (t N : Nat) : Nat := if t = 4 then N else t - 10
def rD (t g j : Nat) : Nat := if t = 4 then g + j else g + 2 * j
/-- an object with these fields, or an array: kind (10 + i: of tapes, the first i set), length, where its rows begin -/
def isD (sh : SH) (x : Nat) (d : shD) : Prop := match d with
  | .inl (ci, fs) => ∃ fk, sh x = some (.inl (ci, fk)) ∧ ∀ (k : Nat) (v : Option (Option Nat)), fs[k]? = some v → fk k = v
  | .inr (t, N, g) => ∃ rf, sh x = some (.inr (tyD t, N, rf)) ∧ ∀ j, j < fillD t N → rf j = some (rD t g j)
def Lay (sh : SH) (a : Nat) (ds : List shD) : Prop := ∀ (o : Nat) (d : shD), ds[o]? = some d → isD sh (a + o) d
theorem isD_same {sh sh' : SH} {x : Nat} {d : shD} (h : sh' x = sh x) (hd : isD sh x d) : isD sh' x d := by
  unfold isD at *
  rw [h]
  exact hd
section LAY
variable {sh : SH} {I : IH} {L : LH} {a o : Nat} {ds : List shD} {ci k N t g : Nat} {fs : List (Option (Option Nat))}
theorem Lay.obj (h : Lay sh a ds) (hd : ds[o]? = some (.inl (ci, fs))) : ∃ fk, sh (a + o) = some (.inl (ci, fk)) ∧ ∀ (k : Nat) (v : Option (Option Nat)), fs[k]? = some v → fk k = v := h o _ hd
theorem Lay.arr (h : Lay sh a ds) (hd : ds[o]? = some (.inr (t, N, g))) : ∃ rf, sh (a + o) = some (.inr (tyD t, N, rf)) ∧ ∀ j, j < fillD t N → rf j = some (rD t g j) := h o _ hd
theorem gR_L (h : Lay sh a ds) (o k : Nat) {r : Nat} (hd : ds[o]? = some (.inl (ci, fs))) (hk : fs[k]? = some (some (some r))) : gR sh ci (a + o) k = some r := by
  obtain ⟨fk, h1, h2⟩ := h.obj hd
  simp [gR, h1, h2 _ _ hk]
theorem gI_L (h : Lay sh a ds) (o k : Nat) (hd : ds[o]? = some (.inl (ci, fs))) (hk : fs[k]? = some none) : gI sh I ci (a + o) k = some (I (a + o) k) := by
  obtain ⟨fk, h1, h2⟩ := h.obj hd
  simp [gI, h1, h2 _ _ hk]
theorem pI_L (h : Lay sh a ds) (o k : Nat) (hd : ds[o]? = some (.inl (ci, fs))) (hk : fs[k]? = some none) (v : Int32) : pI sh I ci (a + o) k v = some (upR I (a + o) (upd (I (a + o)) k v)) := by
  obtain ⟨fk, h1, h2⟩ := h.obj hd
  simp [pI, h1, h2 _ _ hk]
theorem ck_L (h : Lay sh a ds) (o : Nat) (hd : ds[o]? = some (.inl (ci, fs))) : ck sh ci (a + o) = some () := by
  obtain ⟨fk, h1, h2⟩ := h.obj hd
  simp [ck, h1]
theorem aL_L (h : Lay sh a ds) (o : Nat) (hd : ds[o]? = some (.inr (t, N, g))) (ht : tyD t < 5) : aL sh (a + o) = some (nI N) := by
  obtain ⟨rf, h1, h2⟩ := h.arr hd
  show aL sh (a + o) = some (Int32.ofNat N)
  simp [aL, h1, ht]
theorem aI_L (h : Lay sh a ds) (o : Nat) (hd : ds[o]? = some (.inr (t, N, g))) {j : Nat} (hj : j < N) (hN : N < 2 ^ 31) : aI sh I (tyD t) (a + o) (nI j) = some (I (a + o) j) := by
  obtain ⟨rf, h1, h2⟩ := h.arr hd
  simp only [aI, h1]
  rw [if_pos ⟨trivial, nI_in hj hN⟩, nI_clamp (by omega)]
theorem aJ_L (h : Lay sh a ds) (o : Nat) (hd : ds[o]? = some (.inr (2, N, g))) {j : Nat} (hj : j < N) (hN : N < 2 ^ 31) : aJ sh L (a + o) (nI j) = some (L (a + o) j) := by
  obtain ⟨rf, h1, h2⟩ := h.arr hd
  simp only [aJ, h1]
  rw [if_pos ⟨rfl, nI_in hj hN⟩, nI_clamp (by omega)]
theorem sI_L (h : Lay sh a ds) (o : Nat) (hd : ds[o]? = some (.inr (0, N, g))) {j : Nat} (hj : j < N) (hN : N < 2 ^ 31) (v : Int32) : sI sh I (a + o) (nI j) v = some (upR I (a + o) (upd (I (a + o)) j v)) := by
  obtain ⟨rf, h1, h2⟩ := h.arr hd
  simp only [sI, h1]
  rw [if_pos ⟨rfl, nI_in hj hN⟩, nI_clamp (by omega)]
theorem sZ_L (h : Lay sh a ds) (o : Nat) (hd : ds[o]? = some (.inr (1, N, g))) {j : Nat} (hj : j < N) (hN : N < 2 ^ 31) (v : Int32) : sZ sh I (a + o) (nI j) v = some (upR I (a + o) (upd (I (a + o)) j (vp_nar .boolean v))) := by
  obtain ⟨rf, h1, h2⟩ := h.arr hd
  simp only [sZ, h1]
  rw [if_pos ⟨rfl, nI_in hj hN⟩, nI_clamp (by omega)]
theorem sJ_L (h : Lay sh a ds) (o : Nat) (hd : ds[o]? = some (.inr (2, N, g))) {j : Nat} (hj : j < N) (hN : N < 2 ^ 31) (v : Int64) : sJ sh L (a + o) (nI j) v = some (upR L (a + o) (vp_updL (L (a + o)) j v)) := by
  obtain ⟨rf, h1, h2⟩ := h.arr hd
  simp only [sJ, h1]
  rw [if_pos ⟨rfl, nI_in hj hN⟩, nI_clamp (by omega)]
theorem aR_L (h : Lay sh a ds) (o : Nat) (hd : ds[o]? = some (.inr (4, N, g))) {j : Nat} (hj : j < N) (hN : N < 2 ^ 31) : aR sh 4 (a + o) (nI j) = some (g + j) := by
  obtain ⟨rf, h1, h2⟩ := h.arr hd
  simp only [aR, h1]
  rw [if_pos ⟨rfl, nI_in hj hN⟩, nI_clamp (by omega)]
  exact h2 j hj
theorem aRT_L (h : Lay sh a ds) (o : Nat) {i : Nat} (hd : ds[o]? = some (.inr (10 + i, N, g))) {j : Nat} (hj : j < N) (hi : j < i) (hN : N < 2 ^ 31) : aR sh 3 (a + o) (nI j) = some (g + 2 * j) := by
  obtain ⟨rf, h1, h2⟩ := h.arr hd
  have e1 : tyD (10 + i) = 3 := if_pos (by omega)
  have e2 : fillD (10 + i) N = i := by unfold fillD; rw [if_neg (by omega)]; omega
  have e3 : rD (10 + i) g j = g + 2 * j := if_neg (by omega)
  rw [e1] at h1
  rw [e2] at h2
  simp only [aR, h1]
  rw [if_pos ⟨trivial, nI_in hj hN⟩, nI_clamp (by omega), h2 j hi, e3]
/-- making: the next cells behind -/
theorem Lay.push (h : Lay sh a ds) {sh' : SH} {d : shD} (h1 : ∀ x, x < a + ds.length → sh' x = sh x) (h2 : isD sh' (a + ds.length) d) : Lay sh' a (ds ++ [d]) := by
  intro o d' hd
  by_cases ho : o < ds.length
  · rw [List.getElem?_append_left ho] at hd
    exact isD_same (h1 _ (by omega)) (h o d' hd)
  · rw [List.getElem?_append_right (by omega)] at hd
    have h3 := (List.getElem?_eq_some_iff.mp hd).1
    have h4 : o = ds.length := by simp at h3; omega
    subst h4
    simp at hd
    subst hd
    exact h2
theorem nAI_L (h : Lay sh a ds) {n c : Nat} (hn : a + ds.length = n) (hc : c ≤ 100000) (t : Nat) (ht : t = 0 ∨ t = 1) : ∃ sh', nAI sh I n t (nI c) = some (sh', upR I n (fun _ => 0)) ∧ Lay sh' a (ds ++ [.inr (t, c, 0)]) ∧ ∀ x, x ≠ n → sh' x = sh x := by
  refine ⟨upS sh n (.inr (t, c, fun _ => none)), ?_, ?_, fun x hx => upS_ne hx⟩
  · unfold nAI
    rw [nI_clamp (by omega), if_pos ⟨nI_pos (by omega), hc⟩]
  · refine h.push (fun x hx => upS_ne (by omega)) ?_
    rw [hn]
    refine ⟨fun _ => none, ?_, fun j hj => ?_⟩
    · rw [upS_same]
      rcases ht with rfl | rfl <;> rfl
    · exfalso
      rcases ht with rfl | rfl <;> simp [fillD] at hj
theorem nAL_L (h : Lay sh a ds) {n c : Nat} (hn : a + ds.length = n) (hc : c ≤ 100000) : ∃ sh', nAL sh L n (nI c) = some (sh', upR L n (fun _ => 0)) ∧ Lay sh' a (ds ++ [.inr (2, c, 0)]) ∧ ∀ x, x ≠ n → sh' x = sh x := by
  refine ⟨upS sh n (.inr (2, c, fun _ => none)), ?_, ?_, fun x hx => upS_ne hx⟩
  · unfold nAL
    rw [nI_clamp (by omega), if_pos ⟨nI_pos (by omega), hc⟩]
  · refine h.push (fun x hx => upS_ne (by omega)) ?_
    rw [hn]
    refine ⟨fun _ => none, ?_, fun j hj => ?_⟩
    · rw [upS_same]
      rfl
    · exfalso
      simp [fillD] at hj
theorem nAR_L (h : Lay sh a ds) {n c : Nat} (hn : a + ds.length = n) (hc : c ≤ 100000) (g : Nat) : ∃ sh', nAR sh n (nI c) = some sh' ∧ Lay sh' a (ds ++ [.inr (10, c, g)]) ∧ ∀ x, x ≠ n → sh' x = sh x := by
  refine ⟨upS sh n (.inr (3, c, fun _ => none)), ?_, ?_, fun x hx => upS_ne hx⟩
  · unfold nAR
    rw [nI_clamp (by omega), if_pos ⟨nI_pos (by omega), hc⟩]
  · refine h.push (fun x hx => upS_ne (by omega)) ?_
    rw [hn]
    refine ⟨fun _ => none, ?_, fun j hj => ?_⟩
    · rw [upS_same]
      rfl
    · exfalso
      simp [fillD] at hj
theorem nO_L (h : Lay sh a ds) {n : Nat} (hn : a + ds.length = n) (ci : Nat) (fs : List (Option (Option Nat))) (hf : ∀ (k : Nat) (v : Option (Option Nat)), fs[k]? = some v → fkD ci k = v) : Lay (nO sh n ci) a (ds ++ [.inl (ci, fs)]) ∧ ∀ x, x ≠ n → nO sh n ci x = sh x := by
  refine ⟨h.push (fun x hx => upS_ne (by omega)) ?_, fun x hx => upS_ne hx⟩
  rw [hn]
  exact ⟨fkD ci, upS_same, hf⟩
/-- a reference is put into a field -/
theorem pR_L (h : Lay sh a ds) (o k r : Nat) (hd : ds[o]? = some (.inl (ci, fs))) (hk : ∃ z, fs[k]? = some (some z)) : ∃ sh', pR sh ci (a + o) k r = some sh' ∧ Lay sh' a (ds.set o (.inl (ci, fs.set k (some (some r))))) ∧ ∀ x, x ≠ a + o → sh' x = sh x := by
  obtain ⟨fk, h1, h2⟩ := h.obj hd
  obtain ⟨z, hk⟩ := hk
  have h3 := h2 _ _ hk
  refine ⟨upS sh (a + o) (.inl (ci, va_up fk k (some (some r)))), ?_, ?_, fun x hx => upS_ne hx⟩
  · simp [pR, h1, h3]
  · intro o' d' hd'
    by_cases ho : o = o'
    · subst ho
      have hl := (List.getElem?_eq_some_iff.mp hd).1
      rw [List.getElem?_set_self hl] at hd'
      obtain rfl := Option.some.inj hd'
      refine ⟨_, upS_same, fun k' v' hv' => ?_⟩
      by_cases hkk : k = k'
      · subst hkk
        have hlk := (List.getElem?_eq_some_iff.mp hk).1
        rw [List.getElem?_set_self hlk] at hv'
        simpa [va_up] using hv'
      · rw [List.getElem?_set_ne hkk] at hv'
        rw [← h2 _ _ hv']
        simp [va_up, Ne.symm hkk]
    · rw [List.getElem?_set_ne ho] at hd'
      exact isD_same (upS_ne (by omega)) (h o' d' hd')
/-- a tape is put into the row of tapes -/
theorem sR_L (h : Lay sh a ds) (o i : Nat) (hd : ds[o]? = some (.inr (10 + i, N, g))) {r : Nat} (hr : r = g + 2 * i) (hi : i < N) (hN : N < 2 ^ 31) {o' : Nat} {fs' : List (Option (Option Nat))} (hr2 : r = a + o') (hd' : ds[o']? = some (.inl (3, fs'))) : ∃ sh', sR sh (a + o) (nI i) r = some sh' ∧ Lay sh' a (ds.set o (.inr (10 + (i + 1), N, g))) ∧ ∀ x, x ≠ a + o → sh' x = sh x := by
  obtain ⟨rf, h1, h2⟩ := h.arr hd
  obtain ⟨fk, h3, -⟩ := h.obj hd'
  have e1 : ∀ q, tyD (10 + q) = 3 := fun q => if_pos (by omega)
  have e2 : ∀ q, fillD (10 + q) N = q := fun q => by unfold fillD; rw [if_neg (by omega)]; omega
  have e3 : ∀ q j, rD (10 + q) g j = g + 2 * j := fun q j => if_neg (by omega)
  rw [e1] at h1
  rw [e2] at h2
  rw [← hr2] at h3
  refine ⟨upS sh (a + o) (.inr (3, N, va_up rf i (some r))), ?_, ?_, fun x hx => upS_ne hx⟩
  · simp only [sR, h1, h3]
    rw [if_pos ⟨trivial, nI_in hi hN⟩, nI_clamp (by omega)]
  · intro o2 d2 hd2
    by_cases ho : o = o2
    · subst ho
      have hl := (List.getElem?_eq_some_iff.mp hd).1
      rw [List.getElem?_set_self hl] at hd2
      obtain rfl := Option.some.inj hd2
      refine ⟨va_up rf i (some r), ?_, fun j hj => ?_⟩
      · rw [upS_same, e1]
      · rw [e2] at hj
        rw [e3]
        by_cases hji : j = i
        · subst hji
          simp [va_up, hr]
        · have h9 := h2 j (by omega)
          rw [e3] at h9
          simp [va_up, hji, h9]
    · rw [List.getElem?_set_ne ho] at hd2
      exact isD_same (upS_ne (by omega)) (h o2 d2 hd2)
theorem nM_L (h : Lay sh a ds) {n N K : Nat} (hn : a + ds.length = n) (hN : N ≤ 100000) (hK : K ≤ 100000) : ∃ sh', nM sh I n (nI N) (nI K) = some (sh', nMI I n N) ∧ Lay sh' a (ds ++ .inr (4, N, n + 1) :: List.replicate N (.inr (0, K, 0))) ∧ ∀ x, x < n ∨ n + N < x → sh' x = sh x := by
  refine ⟨nMS sh n N K, ?_, ?_, fun x hx => ?_⟩
  · unfold nM
    rw [nI_clamp (by omega), nI_clamp (by omega), if_pos ⟨⟨nI_pos (by omega), hN⟩, nI_pos (by omega), hK⟩]
  · intro o d hd
    by_cases ho : o < ds.length
    · rw [List.getElem?_append_left ho] at hd
      refine isD_same ?_ (h o d hd)
      unfold nMS
      rw [if_neg (by omega), if_neg (by omega)]
    · rw [List.getElem?_append_right (by omega)] at hd
      by_cases h0 : o - ds.length = 0
      · rw [h0] at hd
        simp at hd
        subst hd
        refine ⟨fun j => if j < N then some (n + 1 + j) else none, ?_, fun j hj => ?_⟩
        · have e : a + o = n := by omega
          rw [e]
          unfold nMS
          rw [if_pos rfl]
          rfl
        · have hj : j < N := hj
          simp [hj, rD]
      · obtain ⟨q, hq⟩ : ∃ q, o - ds.length = q + 1 := ⟨o - ds.length - 1, by omega⟩
        rw [hq, List.getElem?_cons_succ, List.getElem?_replicate] at hd
        split at hd
        · next hqN =>
          obtain rfl := Option.some.inj hd
          refine ⟨fun _ => none, ?_, fun j hj => absurd hj (by simp [fillD])⟩
          unfold nMS
          rw [if_neg (by omega), if_pos (by omega)]
          rfl
        · cases hd
  · unfold nMS
    rw [if_neg (by omega), if_neg (by omega)]
end LAY
