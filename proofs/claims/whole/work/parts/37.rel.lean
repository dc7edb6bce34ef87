/-! LAYER 2: what holds between the class's cells and the reference's -/
def TB (x y : Int32) : Prop := (∃ c, c < 128 ∧ x = nI c ∧ y = nI c) ∨ (∃ c, 128 ≤ c ∧ c < 256 ∧ x = nI c ∧ y < 0)
/-- the value of signs (a clause's expression behind its operands) in an hour under a sky -/
def tstS (h k : Nat) (t : Nat) : Bool :=
  let v := if t < 1000 then h % 24 else if t < 2000 then h / 24 else k
  let q := t / 100 % 10
  if q = 0 then decide (v < t % 100) else if q = 1 then decide (v = t % 100) else decide (v > t % 100)
def evL (h k : Nat) : List Int32 → List Bool → Option (List Bool)
  | [], st => some st
  | t :: ts, st =>
    if t = -33 then (match st with
      | x :: r => evL h k ts ((!x) :: r)
      | [] => none)
    else if t < 0 then (match st with
      | y :: x :: r => evL h k ts ((if t = -38 then x && y else x || y) :: r)
      | _ => none)
    else evL h k ts (tstS h k (nv t) :: st)
/-- the signs from one place on -/
def sgL (sg : Nat → Int32) (f : Nat) : Nat → List Int32
  | 0 => []
  | m + 1 => sg f :: sgL sg (f + 1) m
def lastN (wd sp nu : Nat → Nat) (W p d : Nat) : Nat → Nat
  | 0 => d
  | c + 1 => if wd c = W ∧ sp c = p then nu c else lastN wd sp nu W p d c
def sumN (wd nu : Nat → Nat) (M : Nat → Bool) : Nat → Nat
  | 0 => 0
  | c + 1 => sumN wd nu M c + (if wd c = 0 ∧ M c = true then nu c else 0)
/-- the situation of an hour under a sky -/
def sit (h k : Nat) : Nat := (h / 24 * 3 + k) * 24 + h % 24
/-- a told clause in the reference's rows -/
def CLs (I : IH) (a F c wd sp nu : Nat) (M : Nat → Nat → Bool) : Prop :=
  I (a + 117) (12 * F + c) = nI wd ∧ wd ≤ 4 ∧ (wd ≠ 0 → I (a + 118) (12 * F + c) = nI sp ∧ sp < 5) ∧ I (a + 119) (12 * F + c) = nI nu ∧ nu ≤ 99 ∧
  (wd = 0 → ∃ f m, I (a + 120) (12 * F + c) = nI f ∧ I (a + 121) (12 * F + c) = nI (f + m) ∧ 100 * F ≤ f ∧ f + m ≤ 100 * F + 100 ∧ (∀ j, f ≤ j → j < f + m → I (a + 122) j = -33 ∨ I (a + 122) j = -38 ∨ I (a + 122) j = -124 ∨ Bd (I (a + 122) j) 0 2299) ∧ ∀ h k, h < 48 → k < 3 → evL h k (sgL (I (a + 122)) f m) [] = some [M h k])
/-- a valley of the class tells what the reference's clauses of number f tell -/
def VR (I : IH) (a w : Nat) (f : Int32) : Prop := ∃ (C : Nat) (wd sp nu : Nat → Nat) (M : Nat → Nat → Nat → Bool),
  ((f = -1 ∧ C = 0) ∨ (∃ F, f = nI F ∧ F < 5 ∧ F < nv (I (a + 110) 7) ∧ I (a + 116) F = nI C ∧ C ≤ 12 ∧ ∀ c, c < C → CLs I a F c (wd c) (sp c) (nu c) (M c))) ∧
  (∀ p, p < 5 → I (w + 2 + 0) p = nI (min 20 (lastN wd sp nu 1 p 1 C)) ∧ I (w + 2 + 1) p = nI (lastN wd sp nu 2 p 0 C) ∧ I (w + 2 + 2) p = nI (lastN wd sp nu 3 p 99 C) ∧ I (w + 2 + 3) p = nI (lastN wd sp nu 4 p 0 C)) ∧
  (∀ h k, h < 48 → k < 3 → I (w + 6) (sit h k) = nI (sumN wd nu (fun c => M c h k) C)) ∧ ∀ c, c < C → nu c ≤ 99
theorem VR.kept {I I' : IH} {a w : Nat} {f : Int32} (h : VR I a w f) (e1 : ∀ x, w + 2 ≤ x → x < w + 7 → I' x = I x) (e2 : ∀ x, a + 116 ≤ x → x ≤ a + 122 → I' x = I x) (e3 : I' (a + 110) 7 = I (a + 110) 7) : VR I' a w f := by
  obtain ⟨C, wd, sp, nu, M, h1, h2, h3, h4⟩ := h
  refine ⟨C, wd, sp, nu, M, ?_, fun p hp => ?_, fun h k hh hk => ?_, h4⟩
  · rcases h1 with h1 | ⟨F, q1, q2, q3, q4, q5, q6⟩
    · exact Or.inl h1
    · refine Or.inr ⟨F, q1, q2, by rw [e3]; exact q3, by rw [e2 _ (by omega) (by omega)]; exact q4, q5, fun c hc => ?_⟩
      have := q6 c hc
      unfold CLs at this ⊢
      rw [e2 (a + 117) (by omega) (by omega), e2 (a + 118) (by omega) (by omega), e2 (a + 119) (by omega) (by omega), e2 (a + 120) (by omega) (by omega), e2 (a + 121) (by omega) (by omega), e2 (a + 122) (by omega) (by omega)]
      exact this
  · rw [e1 _ (by omega) (by omega), e1 _ (by omega) (by omega), e1 _ (by omega) (by omega), e1 _ (by omega) (by omega)]
    exact h2 p hp
  · rw [e1 _ (by omega) (by omega)]
    exact h3 h k hh hk
/-- the parts of the relation -/
def C1 (x m : Int32) : Prop := m = x ∧ Bd x 1 5
def C2 (cs ms : Nat → Int32) : Prop := ∀ d, d < 2 → ms d = cs d ∧ Bd (cs d) 0 2
def C3 (co : Nat → Int32) (mA mB : Int32) : Prop := mA = co 0 ∧ mB = co 1 ∧ ∃ A B, A + B ≤ 10 ∧ co 0 = nI A ∧ co 1 = nI B ∧ co 2 = nI (10 - A - B)
def C4 (I : IH) (u : Nat) (kd vv hh : Nat → Int32) : Prop := ∀ p, p < 5 → kd p = I (u + p) 0 ∧ vv p = I (u + p) 1 ∧ hh p = I (u + p) 2 ∧ Bd (I (u + p) 0) 0 6 ∧ Bd (I (u + p) 1) 0 10 ∧ Bd (I (u + p) 2) 0 16777215
def C5 (x m : Int32) (N : Nat) : Prop := m = x ∧ Bd x 0 N
def C6 (I : IH) (u : Nat) (x : Int32) (pl ho cu wo : Nat → Int32) : Prop := ∀ w, w < 10 → w < nv x → pl w = I (u + w) 0 ∧ ho w = I (u + w) 1 ∧ cu w = I (u + w) 2 ∧ wo w = I (u + w) 3 ∧ Bd (I (u + w) 0) 0 4 ∧ Bd (I (u + w) 1) 0 47 ∧ Bd (I (u + w) 2) 1 30 ∧ Bd (I (u + w) 3) 1 9
def C8 (x : Int32) (cd dy : Nat → Int32) : Prop := ∀ d, d < 24 → d < nv x → dy d = cd d ∧ Bd (cd d) 0 99
def C10 (x : Int32) (tc tm : Nat → Int32) : Prop := ∀ j, j < 100 → j < nv x → TB (tc j) (tm j)
def C14 (x : Int32) (bc bm : Nat → Int32) : Prop := ∀ j, j < 20 → j < nv x → bm j = bc j
def C15 (I : IH) (L : LH) (a : Nat) : Prop := ∀ i, i < 6 → I (a + 153) i = I (a + 98 + 2 * i) 0 ∧ I (a + 154) i = I (a + 98 + 2 * i) 1 ∧ Bd (I (a + 98 + 2 * i) 1) 0 60 ∧ ((I (a + 98 + 2 * i) 0 = -1 ∧ I (a + 98 + 2 * i) 1 = 0) ∨ Bd (I (a + 98 + 2 * i) 0) 0 4) ∧ ∀ k, k < 60 → L (a + 155) (60 * i + k) = L (a + 99 + 2 * i) k
/-- a state of the class against the reference's fields -/
def SR (I : IH) (t u : Nat) (mP mA mB mD mW : Int32) (sky kd vv hh dy pl ho cu wo : Nat → Int32) : Prop :=
  C1 (I t 0) mP ∧ C2 (I u) sky ∧ C3 (I (u + 1)) mA mB ∧ C4 I (u + 3) kd vv hh ∧ C5 (I t 5) mW 10 ∧ C6 I (u + 9) (I t 5) pl ho cu wo ∧ C5 (I t 7) mD 24 ∧ C8 (I t 7) (I (u + 19)) dy
def SRnow (I : IH) (a : Nat) : Prop := SR I (a + 1) (a + 9) (I (a + 110) 0) (I (a + 110) 1) (I (a + 110) 2) (I (a + 110) 25) (I (a + 110) 39) (I (a + 111)) (I (a + 112)) (I (a + 113)) (I (a + 114)) (I (a + 125)) (I (a + 138)) (I (a + 139)) (I (a + 140)) (I (a + 141))
def SRkept (I : IH) (a : Nat) : Prop := SR I (a + 29) (a + 30) (I (a + 110) 46) (I (a + 110) 47) (I (a + 110) 48) (I (a + 110) 50) (I (a + 110) 51) (I (a + 143)) (I (a + 144)) (I (a + 145)) (I (a + 146)) (I (a + 147)) (I (a + 148)) (I (a + 149)) (I (a + 150)) (I (a + 151))
def XR (I : IH) (a : Nat) : Prop := C5 (I a 6) (I (a + 110) 9) 100 ∧ C10 (I a 6) (I (a + 96)) (I (a + 115))
def KR (I : IH) (a : Nat) : Prop := C5 (I (a + 94) 4) (I (a + 110) 61) 1000 ∧ C14 (I (a + 94) 4) (I (a + 95)) (I (a + 152))
def FR (I : IH) (a : Nat) : Prop := I (a + 110) 45 = I a 2 ∧ (I a 2 = 0 ∨ I a 2 = 1)
def wOK (a w n : Nat) : Prop := (w = a + 2 ∨ a + 157 ≤ w) ∧ w + 7 ≤ n
def Rel (s : SH) (I : IH) (L : LH) (n a w1 w2 : Nat) : Prop :=
  WW s a w1 w2 ∧ (a + 157 ≤ n ∧ wOK a w1 n ∧ wOK a w2 n) ∧ SRnow I a ∧ SRkept I a ∧ (C5 (I a 7) (I (a + 110) 7) 5 ∧ VR I a w1 (I (a + 110) 8) ∧ VR I a w2 (I (a + 110) 49)) ∧ XR I a ∧ KR I a ∧ FR I a ∧ C15 I L a
/-- what does not change -/
theorem SR.kept {I I' : IH} {t u : Nat} {mP mA mB mD mW mP' mA' mB' mD' mW' : Int32} {sky kd vv hh dy pl ho cu wo sky' kd' vv' hh' dy' pl' ho' cu' wo' : Nat → Int32} (h : SR I t u mP mA mB mD mW sky kd vv hh dy pl ho cu wo) (e1 : ∀ k, k = 0 ∨ k = 5 ∨ k = 7 → I' t k = I t k) (e2 : ∀ x, u ≤ x → x < u + 20 → I' x = I x) (e3 : mP' = mP ∧ mA' = mA ∧ mB' = mB ∧ mD' = mD ∧ mW' = mW) (e4 : sky' = sky ∧ kd' = kd ∧ vv' = vv ∧ hh' = hh ∧ dy' = dy ∧ pl' = pl ∧ ho' = ho ∧ cu' = cu ∧ wo' = wo) : SR I' t u mP' mA' mB' mD' mW' sky' kd' vv' hh' dy' pl' ho' cu' wo' := by
  obtain ⟨rfl, rfl, rfl, rfl, rfl⟩ := e3
  obtain ⟨rfl, rfl, rfl, rfl, rfl, rfl, rfl, rfl, rfl⟩ := e4
  obtain ⟨h1, h2, h3, h4, h5, h6, h7, h8⟩ := h
  unfold SR
  rw [e1 0 (by omega), e1 5 (by omega), e1 7 (by omega), e2 u (by omega) (by omega), e2 (u + 1) (by omega) (by omega), e2 (u + 19) (by omega) (by omega)]
  refine ⟨h1, h2, h3, fun p hp => ?_, h5, fun w hw hw2 => ?_, h7, h8⟩
  · rw [e2 (u + 3 + p) (by omega) (by omega)]
    exact h4 p hp
  · rw [e2 (u + 9 + w) (by omega) (by omega)]
    exact h6 w hw hw2
theorem SRnow.kept {I I' : IH} {a : Nat} (h : SRnow I a) (e1 : ∀ x k, (x = a + 1 ∧ (k = 0 ∨ k = 5 ∨ k = 7)) ∨ (x = a + 110 ∧ (k = 0 ∨ k = 1 ∨ k = 2 ∨ k = 25 ∨ k = 39)) → I' x k = I x k) (e2 : ∀ x, (a + 9 ≤ x ∧ x < a + 29) ∨ (a + 111 ≤ x ∧ x ≤ a + 114) ∨ x = a + 125 ∨ (a + 138 ≤ x ∧ x ≤ a + 141) → I' x = I x) : SRnow I' a :=
  SR.kept h (fun k hk => e1 _ k (by omega)) (fun x h1 h2 => e2 x (by omega)) ⟨e1 _ _ (by omega), e1 _ _ (by omega), e1 _ _ (by omega), e1 _ _ (by omega), e1 _ _ (by omega)⟩ ⟨e2 _ (by omega), e2 _ (by omega), e2 _ (by omega), e2 _ (by omega), e2 _ (by omega), e2 _ (by omega), e2 _ (by omega), e2 _ (by omega), e2 _ (by omega)⟩
theorem SRkept.kept {I I' : IH} {a : Nat} (h : SRkept I a) (e1 : ∀ x k, (x = a + 29 ∧ (k = 0 ∨ k = 5 ∨ k = 7)) ∨ (x = a + 110 ∧ (k = 46 ∨ k = 47 ∨ k = 48 ∨ k = 50 ∨ k = 51)) → I' x k = I x k) (e2 : ∀ x, (a + 30 ≤ x ∧ x < a + 50) ∨ (a + 143 ≤ x ∧ x ≤ a + 151) → I' x = I x) : SRkept I' a :=
  SR.kept h (fun k hk => e1 _ k (by omega)) (fun x h1 h2 => e2 x (by omega)) ⟨e1 _ _ (by omega), e1 _ _ (by omega), e1 _ _ (by omega), e1 _ _ (by omega), e1 _ _ (by omega)⟩ ⟨e2 _ (by omega), e2 _ (by omega), e2 _ (by omega), e2 _ (by omega), e2 _ (by omega), e2 _ (by omega), e2 _ (by omega), e2 _ (by omega), e2 _ (by omega)⟩
theorem XR.kept {I I' : IH} {a : Nat} (h : XR I a) (e1 : I' a 6 = I a 6 ∧ I' (a + 110) 9 = I (a + 110) 9) (e2 : I' (a + 96) = I (a + 96) ∧ I' (a + 115) = I (a + 115)) : XR I' a := by
  unfold XR
  rw [e1.1, e1.2, e2.1, e2.2]
  exact h
theorem KR.kept {I I' : IH} {a : Nat} (h : KR I a) (e1 : I' (a + 94) 4 = I (a + 94) 4 ∧ I' (a + 110) 61 = I (a + 110) 61) (e2 : I' (a + 95) = I (a + 95) ∧ I' (a + 152) = I (a + 152)) : KR I' a := by
  unfold KR
  rw [e1.1, e1.2, e2.1, e2.2]
  exact h
theorem FR.kept {I I' : IH} {a : Nat} (h : FR I a) (e1 : I' a 2 = I a 2 ∧ I' (a + 110) 45 = I (a + 110) 45) : FR I' a := by
  unfold FR
  rw [e1.1, e1.2]
  exact h
theorem C15.kept {I I' : IH} {L : LH} {a : Nat} (h : C15 I L a) (e : ∀ x, (a + 98 ≤ x ∧ x < a + 110) ∨ x = a + 153 ∨ x = a + 154 → I' x = I x) : C15 I' L a := fun i hi => by
  rw [e (a + 153) (by omega), e (a + 154) (by omega), e (a + 98 + 2 * i) (by omega)]
  exact h i hi
theorem VV.kept {I I' : IH} {a w1 w2 n : Nat} (o1 : wOK a w1 n) (o2 : wOK a w2 n) (h : C5 (I a 7) (I (a + 110) 7) 5 ∧ VR I a w1 (I (a + 110) 8) ∧ VR I a w2 (I (a + 110) 49)) (e1 : ∀ x k, (x = a ∧ k = 7) ∨ (x = a + 110 ∧ (k = 7 ∨ k = 8 ∨ k = 49)) → I' x k = I x k) (e2 : ∀ x, (a + 4 ≤ x ∧ x < a + 9) ∨ (a + 116 ≤ x ∧ x ≤ a + 122) ∨ (a + 157 ≤ x ∧ x < n) → I' x = I x) : C5 (I' a 7) (I' (a + 110) 7) 5 ∧ VR I' a w1 (I' (a + 110) 8) ∧ VR I' a w2 (I' (a + 110) 49) := by
  unfold wOK at o1 o2
  rw [e1 a 7 (by omega), e1 (a + 110) 7 (by omega), e1 (a + 110) 8 (by omega), e1 (a + 110) 49 (by omega)]
  exact ⟨h.1, h.2.1.kept (fun x h1 h2 => e2 x (by omega)) (fun x h1 h2 => e2 x (by omega)) (e1 _ _ (by omega)), h.2.2.kept (fun x h1 h2 => e2 x (by omega)) (fun x h1 h2 => e2 x (by omega)) (e1 _ _ (by omega))⟩
/-- cells that only serve while a call runs -/
def scr1 (a x : Nat) : Prop := (a + 51 ≤ x ∧ x ≤ a + 93) ∨ x = a + 124 ∨ (a + 126 ≤ x ∧ x ≤ a + 137) ∨ x = a + 142
theorem Rel.kept {s : SH} {I I' : IH} {L : LH} {n a w1 w2 : Nat} (R : Rel s I L n a w1 w2) (e : ∀ x, x < n → ¬ scr1 a x → I' x = I x) : Rel s I' L n a w1 w2 := by
  obtain ⟨r1, ⟨r2, r3, r4⟩, r5, r6, r7, r8, r9, r10, r11⟩ := R
  unfold scr1 at e
  refine ⟨r1, ⟨r2, r3, r4⟩, r5.kept (fun x k h => ?_) (fun x h => e x (by omega) (by omega)), r6.kept (fun x k h => ?_) (fun x h => e x (by omega) (by omega)), VV.kept r3 r4 r7 (fun x k h => ?_) (fun x h => e x (by omega) (by omega)), r8.kept ⟨?_, ?_⟩ ⟨e _ (by omega) (by omega), e _ (by omega) (by omega)⟩, r9.kept ⟨?_, ?_⟩ ⟨e _ (by omega) (by omega), e _ (by omega) (by omega)⟩, r10.kept ⟨?_, ?_⟩, r11.kept (fun x h => e x (by omega) (by omega))⟩
  all_goals rw [e _ (by omega) (by omega)]
