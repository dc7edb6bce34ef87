/-! LAYER 2: the start of both, and the law whole -/
theorem Lay.sub {sh : SH} {a : Nat} {ds : List shD} (h : Lay sh a ds) (k m : Nat) : Lay sh (a + k) ((ds.drop k).take m) := by
  intro o d hd
  rw [List.getElem?_take] at hd
  split at hd
  · rw [List.getElem?_drop] at hd
    have := h (k + o) d hd
    rw [Nat.add_assoc]
    exact this
  · cases hd
section PURE
variable {s : SH} {I : IH} {L : LH} {a : Nat}
set_option maxRecDepth 20000 in
theorem WW_start (B : Lay s a (base98 a 6 ++ tapesD a 6)) (M1 : isD s (a + 110) (mObj (a + 111))) (M2 : Lay s (a + 111) mArea) : WW s a (a + 2) (a + 2) :=
  ⟨B.sub 0 3, B.sub 3 6, B.sub 9 20, B.sub 29 1, B.sub 30 20, B.sub 50 1, B.sub 51 43, B.sub 94 4, B.sub 98 12, Lay.one M1, M2, B.sub 2 7, B.sub 2 7⟩
theorem Bd0 (hi : Nat) : Bd 0 0 hi := ⟨rfl, Nat.zero_le _, Nat.zero_le _⟩
theorem nv0 : nv 0 = 0 := rfl
theorem SR_start {t u : Nat} {mP mA mB mD mW : Int32} {sky kd vv hh dy pl ho cu wo : Nat → Int32} (h1 : ∀ k, I t k = if k = 0 then 3 else 0) (h2 : ∀ x j, u ≤ x → x < u + 20 → x ≠ u + 2 → x ≠ u + 8 → I x j = if x = u + 1 ∧ j = 0 then 10 else 0) (e1 : mP = 3) (e2 : mA = 10) (e3 : mB = 0) (e4 : mD = 0) (e5 : mW = 0) (f1 : ∀ j, sky j = 0) (f2 : ∀ j, kd j = 0) (f3 : ∀ j, vv j = 0) (f4 : ∀ j, hh j = 0) : SR I t u mP mA mB mD mW sky kd vv hh dy pl ho cu wo := by
  have t0 : I t 0 = 3 := (h1 0).trans rfl
  have t5 : I t 5 = 0 := (h1 5).trans rfl
  have t7 : I t 7 = 0 := (h1 7).trans rfl
  have c : ∀ j, I (u + 1) j = if j = 0 then 10 else 0 := fun j => by
    rw [h2 (u + 1) j (by omega) (by omega) (by omega) (by omega)]
    by_cases hj : j = 0
    · rw [if_pos ⟨rfl, hj⟩, if_pos hj]
    · rw [if_neg (fun h => hj h.2), if_neg hj]
  have z : ∀ x j, u ≤ x → x < u + 20 → x ≠ u + 1 → x ≠ u + 2 → x ≠ u + 8 → I x j = 0 := fun x j g1 g2 g3 g4 g5 => by
    rw [h2 x j g1 g2 g4 g5, if_neg (fun h => g3 h.1)]
  unfold SR
  rw [t0, t5, t7, e1, e2, e3, e4, e5]
  refine ⟨⟨rfl, by decide, by decide, by decide⟩, fun d hd => ⟨?_, ?_⟩, ⟨(c 0).symm.trans rfl |>.symm ▸ rfl, (c 1).symm, 10, 0, by omega, c 0, c 1, c 2⟩, fun p hp => ?_, ⟨rfl, Bd0 10⟩, fun w hw hw2 => ?_, ⟨rfl, Bd0 24⟩, fun d hd hd2 => ?_⟩
  · rw [f1, z u d (by omega) (by omega) (by omega) (by omega) (by omega)]
  · rw [z u d (by omega) (by omega) (by omega) (by omega) (by omega)]
    exact Bd0 2
  · have zz : ∀ j, I (u + 3 + p) j = 0 := fun j => z _ j (by omega) (by omega) (by omega) (by omega) (by omega)
    rw [zz, zz, zz, f2, f3, f4]
    exact ⟨rfl, rfl, rfl, Bd0 6, Bd0 10, Bd0 16777215⟩
  · rw [nv0] at hw2
    omega
  · rw [nv0] at hd2
    omega
theorem Rel_start {n : Nat} (W : WW s a (a + 2) (a + 2)) (hn : a + 157 ≤ n) (p1 : ∀ k, I a k = 0) (p2 : ∀ k, I (a + 1) k = if k = 0 then 3 else 0) (p3 : ∀ k, I (a + 29) k = if k = 0 then 3 else 0) (p4 : ∀ j, j < 5 → I (a + 4) j = 1 ∧ I (a + 5) j = 0 ∧ I (a + 6) j = 99 ∧ I (a + 7) j = 0) (p5 : ∀ j, j < 144 → I (a + 8) j = 0) (p6 : ∀ x j, a + 9 ≤ x → x < a + 29 → x ≠ a + 11 → x ≠ a + 17 → I x j = if x = a + 10 ∧ j = 0 then 10 else 0) (p7 : ∀ x j, a + 30 ≤ x → x < a + 50 → x ≠ a + 32 → x ≠ a + 38 → I x j = if x = a + 31 ∧ j = 0 then 10 else 0) (p8 : ∀ k, I (a + 94) k = 0) (p9 : ∀ i, i < 6 → I (a + (98 + 2 * i)) 0 = -1 ∧ I (a + (98 + 2 * i)) 1 = 0 ∧ ∀ j, L (a + (98 + 2 * i) + 1) j = 0) (q1 : Vals I (a + 110) mVals) (q2 : ∀ x j, a + 111 ≤ x → x < a + 155 → x ≠ a + 153 → I x j = 0) (q3 : ∀ j, j < 6 → I (a + 153) j = -1) (q4 : ∀ j, L (a + 155) j = 0) : Rel s I L n a (a + 2) (a + 2) := by
  have q : ∀ x, a + 111 ≤ x → x < a + 155 → x ≠ a + 153 → ∀ j, I x j = 0 := fun x g1 g2 g3 j => q2 x j g1 g2 g3
  have v : ∀ (k : Nat) (z : Int32), mVals[k]? = some z → I (a + 110) k = z := q1
  have hV : ∀ f : Int32, f = -1 → VR I a (a + 2) f := fun f hf => by
    refine ⟨0, fun _ => 0, fun _ => 0, fun _ => 0, fun _ _ _ => false, Or.inl ⟨hf, rfl⟩, fun p hp => ?_, fun h k hh hk => ?_, fun c hc => by omega⟩
    · obtain ⟨z1, z2, z3, z4⟩ := p4 p hp
      exact ⟨z1, z2, z3, z4⟩
    · exact p5 _ (sit_lt hh hk)
  refine ⟨W, ⟨hn, ⟨Or.inl rfl, by omega⟩, ⟨Or.inl rfl, by omega⟩⟩, ?_, ?_, ⟨⟨?_, ?_⟩, hV _ (v 8 _ rfl), hV _ (v 49 _ rfl)⟩, ⟨⟨?_, ?_⟩, fun j hj hj2 => ?_⟩, ⟨⟨?_, ?_⟩, fun j hj hj2 => ?_⟩, ⟨?_, Or.inl (p1 2)⟩, fun i hi => ?_⟩
  · exact SR_start p2 p6 (v 0 _ rfl) (v 1 _ rfl) (v 2 _ rfl) (v 25 _ rfl) (v 39 _ rfl) (q _ (by omega) (by omega) (by omega)) (q _ (by omega) (by omega) (by omega)) (q _ (by omega) (by omega) (by omega)) (q _ (by omega) (by omega) (by omega))
  · exact SR_start p3 p7 (v 46 _ rfl) (v 47 _ rfl) (v 48 _ rfl) (v 50 _ rfl) (v 51 _ rfl) (q _ (by omega) (by omega) (by omega)) (q _ (by omega) (by omega) (by omega)) (q _ (by omega) (by omega) (by omega)) (q _ (by omega) (by omega) (by omega))
  · rw [p1, v 7 _ rfl]
  · rw [p1]
    exact Bd0 5
  · rw [p1, v 9 _ rfl]
  · rw [p1]
    exact Bd0 100
  · rw [p1, nv0] at hj2
    omega
  · rw [p8, v 61 _ rfl]
  · rw [p8]
    exact Bd0 1000
  · rw [p8, nv0] at hj2
    omega
  · rw [p1, v 45 _ rfl]
  · obtain ⟨r1, r2, r3⟩ := p9 i hi
    have r1 : I (a + 98 + 2 * i) 0 = -1 := by rw [Nat.add_assoc]; exact r1
    have r2 : I (a + 98 + 2 * i) 1 = 0 := by rw [Nat.add_assoc]; exact r2
    rw [r1, r2, q3 i hi, q (a + 154) (by omega) (by omega) (by omega) i]
    refine ⟨rfl, rfl, Bd0 60, Or.inl ⟨rfl, rfl⟩, fun k hk => ?_⟩
    rw [q4, show a + 99 + 2 * i = a + (98 + 2 * i) + 1 by omega, r3 k]
end PURE
theorem law_pure : LawPure := by
  intro xs LN n0 hLN
  -- the class's object
  obtain ⟨k1, k2⟩ := nO_K (a := 0) (ds := []) (sh := fun _ => none) (n := n0) 6 [some none, some none, none, some none, some none, some none, none, none, some none] fkd6
  obtain ⟨⟨s1, I1, L1, n1⟩, e1, B, g1, g2, g3, g4, p1, p2, p3, p4, p5, p6, p7, p8, p9⟩ := ok_X6 (I := nOI (fun _ _ => 0) n0) (L := fun _ _ => 0) k1 (fun k => by unfold nOI; rw [upR_same])
  replace g1 : n1 = n0 + 110 := g1
  subst g1
  -- the reference's
  obtain ⟨m1, m2⟩ := nO_K (a := 0) (ds := []) (sh := s1) (n := n0 + 110) 7 dObj7 fkd7
  obtain ⟨⟨s2, I2, L2, n2⟩, e2, B1, B2, h1, h2, h3, h4, q1, q2, q3, q4⟩ := ok_X7 (I := nOI I1 (n0 + 110)) (L := L1) (n := n0 + 111) m1 (by omega) (fun k => by unfold nOI; rw [upR_same])
  replace h1 : n2 = n0 + 111 + 46 := h1
  subst h1
  replace B : Lay s1 n0 (base98 n0 6 ++ tapesD n0 6) := B
  replace B1 : isD s2 (n0 + 110) (mObj (n0 + 111)) := B1
  replace B2 : Lay s2 (n0 + 111) mArea := B2
  replace h2 : ∀ x, x < n0 + 111 → x ≠ n0 + 110 → s2 x = nO s1 (n0 + 110) 7 x := h2
  replace h3 : ∀ x, x < n0 + 111 → x ≠ n0 + 110 → I2 x = nOI I1 (n0 + 110) x := h3
  replace h4 : ∀ x, x < n0 + 111 → L2 x = L1 x := h4
  have hI : ∀ x, x < n0 + 110 → I2 x = I1 x := fun x hx => by
    rw [h3 x (by omega) (by omega)]
    exact upR_ne (by omega)
  have hlen : (base98 n0 6 ++ tapesD n0 6).length = 110 := by
    rw [List.length_append, base98_len, tapesD_len]
  have B' : Lay s2 n0 (base98 n0 6 ++ tapesD n0 6) := B.kept (fun x x1 x2 => by
    rw [hlen] at x2
    rw [h2 x (by omega) (by omega), m2 x (by omega)])
  have R : Rel s2 I2 L2 (n0 + 111 + 46) n0 (n0 + 2) (n0 + 2) := by
    refine Rel_start (WW_start B' B1 B2) (by omega) (fun k => ?_) (fun k => ?_) (fun k => ?_) (fun j hj => ?_) (fun j hj => ?_) (fun x j x1 x2 x3 x4 => ?_) (fun x j x1 x2 x3 x4 => ?_) (fun k => ?_) (fun i hi => ?_) q1 (fun x j x1 x2 x3 => q2 x j x1 (by omega) (by omega)) q3 q4
    · rw [hI _ (by omega)]; exact p1 k
    · rw [hI _ (by omega)]; exact p2 k
    · rw [hI _ (by omega)]; exact p3 k
    · rw [hI _ (by omega), hI _ (by omega), hI _ (by omega), hI _ (by omega)]; exact p4 j hj
    · rw [hI _ (by omega)]; exact p5 j hj
    · rw [hI _ (by omega)]; exact p6 x j x1 x2 x3 x4
    · rw [hI _ (by omega)]; exact p7 x j x1 x2 x3 x4
    · rw [hI _ (by omega)]; exact p8 k
    · rw [hI _ (by omega), h4 _ (by omega)]; exact p9 i hi
  obtain ⟨c, k, s', I', L', n', e3, hc, hk⟩ := law_loop (xs := xs) hLN 512 1000 0 s2 I2 L2 _ _ _ (by omega) (by omega) (by omega) R
  refine ⟨1 + (109 + (1 + (46 + c))), 9 + (2232 + (67 + (3008 + k))), s', I', L', n', ?_, by omega, by omega⟩
  unfold fL_law
  rw [b2_some, e1]
  show addE 1 9 (addE 109 2232 (b2 (some (nO s1 (n0 + 110) 7, nOI I1 (n0 + 110))) fun h13 i14 => addE 1 67 (bE4 (fX7_init (n0 + 110) (nO s1 (n0 + 110) 7) (nOI I1 (n0 + 110)) L1 (n0 + 110 + 1)) fun h17 i18 l19 n20 => fL_law_b18 xs LN 1000 n0 (n0 + 110) 0 h17 i18 l19 n20))) = _
  rw [b2_some, show fX7_init (n0 + 110) (nO s1 (n0 + 110) 7) (nOI I1 (n0 + 110)) L1 (n0 + 110 + 1) = some ((46, 3008), (s2, I2, L2, n0 + 111 + 46)) from e2]
  show addE 1 9 (addE 109 2232 (addE 1 67 (addE 46 3008 (fL_law_b18 xs LN 1000 n0 (n0 + 110) (nI 0) s2 I2 L2 (n0 + 111 + 46))))) = _
  rw [e3]
  rfl
