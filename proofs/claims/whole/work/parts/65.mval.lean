/-! LAYER 2: valley() of both -/
theorem sgL_congr {f' f : Nat → Int32} : ∀ (m q : Nat), (∀ j, q ≤ j → j < q + m → f' j = f j) → sgL f' q m = sgL f q m
  | 0, _, _ => rfl
  | m + 1, q, h => by
    rw [sgL, sgL, h q (Nat.le_refl _) (by omega), sgL_congr m (q + 1) (fun j h1 h2 => h j (by omega) (by omega))]
theorem VR.keptF {I I' : IH} {a w F : Nat} {f : Int32} (h : VR I a w f) (hF : nv (I (a + 110) 7) = F) (hF' : F ≤ nv (I' (a + 110) 7)) (e1 : ∀ x k, w + 2 ≤ x → x < w + 7 → I' x k = I x k) (e2 : ∀ x k, a + 116 ≤ x → x ≤ a + 122 → ¬ (x = a + 116 ∧ k = F) → ¬ (x = a + 122 ∧ 100 * F ≤ k) → ¬ ((a + 117 ≤ x ∧ x ≤ a + 121) ∧ 12 * F ≤ k) → I' x k = I x k) : VR I' a w f := by
  obtain ⟨C, wd, sp, nu, M, h1, h2, h3, h4⟩ := h
  refine ⟨C, wd, sp, nu, M, ?_, fun p hp => ?_, fun h k hh hk => ?_, h4⟩
  · rcases h1 with h1 | ⟨F2, q1, q2, q3, q4, q5, q6⟩
    · exact Or.inl h1
    · refine Or.inr ⟨F2, q1, q2, by omega, by rw [e2 _ _ (by omega) (by omega) (by omega) (by omega) (by omega)]; exact q4, q5, fun c hc => ?_⟩
      obtain ⟨r1, r2, r3, r4, r5, r6⟩ := q6 c hc
      have k : ∀ x, a + 117 ≤ x → x ≤ a + 121 → I' x (12 * F2 + c) = I x (12 * F2 + c) := fun x h1 h2 => e2 x _ (by omega) (by omega) (by omega) (by omega) (by omega)
      refine ⟨by rw [k _ (by omega) (by omega)]; exact r1, r2, fun h9 => by rw [k _ (by omega) (by omega)]; exact r3 h9, by rw [k _ (by omega) (by omega)]; exact r4, r5, fun h9 => ?_⟩
      obtain ⟨u, m, t1, t2, t3, t4, t5, t6⟩ := r6 h9
      have kk : ∀ j, u ≤ j → j < u + m → I' (a + 122) j = I (a + 122) j := fun j g1 g2 => e2 _ _ (by omega) (by omega) (by omega) (by omega) (by omega)
      refine ⟨u, m, by rw [k _ (by omega) (by omega)]; exact t1, by rw [k _ (by omega) (by omega)]; exact t2, t3, t4, fun j g1 g2 => by rw [kk j g1 g2]; exact t5 j g1 g2, fun h k hh hk => ?_⟩
      rw [sgL_congr m u kk]
      exact t6 h k hh hk
  · rw [e1 _ _ (by omega) (by omega), e1 _ _ (by omega) (by omega), e1 _ _ (by omega) (by omega), e1 _ _ (by omega) (by omega)]
    exact h2 p hp
  · rw [e1 _ _ (by omega) (by omega)]
    exact h3 h k hh hk
theorem getD_mem {l : List Cl} {q : Nat} (h : q < l.length) : l.getD q cl0 ∈ l := by
  rw [List.getD_eq_getElem?_getD, List.getElem?_eq_getElem h]
  exact List.getElem_mem h
/-- a new valley tells what its clauses' cells say -/
theorem VR.new {I : IH} {a w F : Nat} {l : List Cl} (hF : F < 5) (h7 : F < nv (I (a + 110) 7)) (h116 : I (a + 116) F = nI l.length) (hl : l.length ≤ 12) (hc : ∀ c ∈ l, cOK c) (hx : ∀ q, q < l.length → CLx I a (100 * F) (12 * F + q) (l.getD q cl0)) (hv : VT I w l) : VR I a w (nI F) := by
  refine ⟨l.length, wdL l, spL l, nuL l, fun c h k => MqL l c (sit h k), Or.inr ⟨F, rfl, hF, h7, h116, hl, fun c hcl => ?_⟩, hv.1, fun h k hh hk => hv.2 _ (sit_lt hh hk), fun c hcl => (hc _ (getD_mem hcl)).2.2⟩
  obtain ⟨q1, q2, q3, q4⟩ := hx c hcl
  obtain ⟨o1, o2, o3⟩ := hc _ (getD_mem hcl)
  refine ⟨q1, o1, fun h9 => ⟨q2 h9, o2⟩, q3, o3, fun h9 => ?_⟩
  obtain ⟨f, r1, r2, r3, r4, r5, r6, r7⟩ := q4 h9
  refine ⟨f, (l.getD c cl0).2.2.2.1.length, r1, r2, r3, r4, fun j g1 g2 => ?_, fun h k hh hk => ?_⟩
  · have hj : j - f < (l.getD c cl0).2.2.2.1.length := by omega
    have h1 := r5 (j - f) _ (List.getElem?_eq_getElem hj)
    rw [show f + (j - f) = j by omega] at h1
    rw [h1]
    exact r6 _ (List.getElem_mem hj)
  · rw [r5.sg_eq]
    have h1 := r7 h k hh hk [] []
    rw [List.append_nil] at h1
    exact h1
section MVAL
variable {s : SH} {I : IH} {L : LH} {n a w1 w2 : Nat}
theorem m_valley (R : Rel s I L n a w1 w2) : ∃ c k z s' I1 I2 n' w, c ≤ 60 ∧ k ≤ 7600 ∧ fX6_valley a s I n = some ((c, k), (z, s', I1, n')) ∧ fX7_valley s' (a + 110) I1 = some (z, I2) ∧ Rel s' I2 L n' a w w2 := by
  obtain ⟨W, ⟨hn, ho1, ho2⟩, S1, S2, ⟨⟨c1, c2, -, c3⟩, V1, V2⟩, ⟨⟨x1, x2, -, x3⟩, X⟩, K, Fg, T15⟩ := id R
  generalize hv : nv (I a 7) = v at c2 c3
  by_cases hv5 : v < 5
  · generalize hT : nv (I a 6) = T at x2 x3
    have h9 : I (a + 110) 9 = nI T := x1.trans x2
    have h7 : I (a + 110) 7 = nI v := c1.trans c2
    have hb : ∀ j, j < T → (I (a + 96) j = nI (nv (I (a + 96) j)) ∧ nv (I (a + 96) j) < 256) ∧ (nv (I (a + 96) j) < 128 → I (a + 115) j = nI (nv (I (a + 96) j))) ∧ (128 ≤ nv (I (a + 96) j) → I (a + 115) j < 0) := fun j hj => by
      rcases X j (by omega) (by omega) with ⟨c, g1, g2, g3⟩ | ⟨c, g1, g2, g3, g4⟩
      · rw [g2, nv_nI (by omega)]
        exact ⟨⟨rfl, by omega⟩, fun _ => g3, fun h8 => by omega⟩
      · rw [g3, nv_nI (by omega)]
        exact ⟨⟨rfl, g2⟩, fun h8 => by omega, fun _ => g4⟩
    obtain ⟨A, z, s', I1, e1, a1, f1, h6, M⟩ := vl_cls (tx := fun j => nv (I (a + 96) j)) W hn ho1 ho2 c2 hv5 x2 x3 (fun j hj => (hb j hj).1)
    have g7 : I1 (a + 110) 7 = nI v := by rw [f1 _ _ (by omega) (by omega)]; exact h7
    have g9 : I1 (a + 110) 9 = nI T := by rw [f1 _ _ (by omega) (by omega)]; exact h9
    have gt : ∀ j, j < T → (fun j => nv (I (a + 96) j)) j < 256 ∧ ((fun j => nv (I (a + 96) j)) j < 128 → I1 (a + 115) j = nI ((fun j => nv (I (a + 96) j)) j)) ∧ (128 ≤ (fun j => nv (I (a + 96) j)) j → I1 (a + 115) j < 0) := fun j hj => by
      rw [f1 _ _ (by omega) (by omega)]
      exact ⟨(hb j hj).1.2, (hb j hj).2⟩
    -- all but what valley() writes
    have rest : ∀ (w : Nat) (I2 : IH), WW s' a w w2 → wOK a w (n + 8 + A) → Off (OV a v) I1 I2 → I2 (a + 110) 9 = 0 → C5 (I2 a 7) (I2 (a + 110) 7) 5 → v ≤ nv (I2 (a + 110) 7) → VR I2 a w (I2 (a + 110) 8) → Rel s' I2 L (n + 8 + A) a w w2 := fun w I2 W2 hw f2 z9 hC hle hV => by
      have fr : ∀ x k, x < n → ¬ (x = a ∧ (k = 6 ∨ k = 7)) → ¬ OV a v x k → I2 x k = I x k := fun x k h1 h2 h3 => by rw [f2 x k h3, f1 x k h1 h2]
      have z6 : I2 a 6 = 0 := by rw [f2 a 6 (by unfold OV; omega)]; exact h6
      unfold OV at fr
      have g : ∀ x, x < n → x ≠ a → ¬ (a + 116 ≤ x ∧ x ≤ a + 123) → x ≠ a + 110 → I2 x = I x := fun x h1 h2 h3 h4 => funext fun k => fr x k h1 (by omega) (by omega)
      have n0 : nv 0 = 0 := rfl
      refine ⟨W2, ⟨by omega, hw, ho2.1, by have := ho2.2; omega⟩, S1.kept (fun x k h => fr x k (by omega) (by omega) (by omega)) (fun x h => g x (by omega) (by omega) (by omega) (by omega)), S2.kept (fun x k h => fr x k (by omega) (by omega) (by omega)) (fun x h => g x (by omega) (by omega) (by omega) (by omega)), ⟨hC, hV, ?_⟩, ⟨⟨?_, ?_⟩, fun j hj hj2 => ?_⟩, K.kept ⟨fr _ _ (by omega) (by omega) (by omega), fr _ _ (by omega) (by omega) (by omega)⟩ ⟨g _ (by omega) (by omega) (by omega) (by omega), g _ (by omega) (by omega) (by omega) (by omega)⟩, Fg.kept ⟨fr _ _ (by omega) (by omega) (by omega), fr _ _ (by omega) (by omega) (by omega)⟩, T15.kept (fun x h => g x (by omega) (by omega) (by omega) (by omega))⟩
      · rw [fr (a + 110) 49 (by omega) (by omega) (by omega)]
        have hw2 := ho2.1
        have hw3 := ho2.2
        exact V2.keptF (F := v) (by rw [h7, nv_nI (by omega)]) hle (fun x k h1 h2 => fr x k (by omega) (by omega) (by omega)) (fun x k h1 h2 h3 h4 h5 => fr x k (by omega) (by omega) (by omega))
      · rw [z6, z9]
      · rw [z6]
        exact ⟨rfl, by rw [n0]; omega, by rw [n0]; omega⟩
      · rw [z6, n0] at hj2
        omega
    cases hp : pTx (bt T (fun j => nv (I (a + 96) j))) T 12 0 with
    | inl e =>
      rw [hp] at M
      obtain ⟨m1, m2, m3, W2⟩ := M
      have Q := vl_ref W2 hv5 g7 g9 x3 gt
      rw [hp] at Q
      obtain ⟨I2, q1, q2, q3, q4, q5⟩ := Q
      refine ⟨8 + A, 175 + 144 * A, z, s', I1, I2, n + 8 + A, w1, by omega, by omega, e1, by rw [m2]; exact q1, rest w1 I2 W2 ⟨ho1.1, by have := ho1.2; omega⟩ q2 q3 ?_ ?_ ?_⟩
      · have h8 : I2 a 7 = nI v := by rw [q2 a 7 (by unfold OV; omega)]; exact m3
        rw [h8, q4]
        exact ⟨rfl, by rw [nv_nI (by omega)], by omega, by rw [nv_nI (by omega)]; omega⟩
      · rw [q4, nv_nI (by omega)]
        exact Nat.le_refl _
      · rw [q5, f1 _ _ (by omega) (by omega)]
        have hw2 := ho1.1
        have hw3 := ho1.2
        refine V1.keptF (F := v) (by rw [h7, nv_nI (by omega)]) (by rw [q4, nv_nI (by omega)]; exact Nat.le_refl _) (fun x k h1 h2 => ?_) (fun x k h1 h2 h3 h4 h5 => ?_)
        · rw [q2 x k (by unfold OV; omega), f1 x k (by omega) (by omega)]
        · rw [q2 x k (by unfold OV; omega), f1 x k (by omega) (by omega)]
    | inr l =>
      rw [hp] at M
      obtain ⟨m1, m2, W2, m3, m4, m5⟩ := M
      have Q := vl_ref W2 hv5 g7 g9 x3 gt
      rw [hp] at Q
      obtain ⟨I2, q1, q2, q3, q4, q5, q6, q7⟩ := Q
      refine ⟨8 + A, 175 + 144 * A, z, s', I1, I2, n + 8 + A, n + 1, by omega, by omega, e1, by rw [m1]; exact q1, rest (n + 1) I2 W2 ⟨Or.inr (by omega), by omega⟩ q2 q3 ?_ ?_ ?_⟩
      · have h8 : I2 a 7 = nI (v + 1) := by rw [q2 a 7 (by unfold OV; omega)]; exact m2
        rw [h8, q4]
        exact ⟨rfl, by rw [nv_nI (by omega)], by omega, by rw [nv_nI (by omega)]; omega⟩
      · rw [q4, nv_nI (by omega)]
        omega
      · rw [q5]
        refine VR.new hv5 (by rw [q4, nv_nI (by omega)]; omega) q6 m3 m4 q7 ?_
        have kv : ∀ x k, n + 1 ≤ x → I2 x k = I1 x k := fun x k hx => q2 x k (by unfold OV; omega)
        refine ⟨fun p hp5 => ?_, fun q hq => ?_⟩
        · rw [kv _ _ (by omega), kv _ _ (by omega), kv _ _ (by omega), kv _ _ (by omega)]
          exact m5.1 p hp5
        · rw [kv _ _ (by omega)]
          exact m5.2 q hq
  · have hv5 : v = 5 := by omega
    have e7 : I (a + 110) 7 = 5 := by rw [c1, c2, hv5]; rfl
    refine ⟨0, 0, -4, s, I, I, n, w1, by omega, by omega, ?_, ?_, R⟩
    · unfold fX6_valley
      refine bs_eq (i6_0_7 W) ?_
      rw [c2, hv5]
      exact if_f (by decide) rfl
    · unfold fX7_valley
      refine bs_eq (i7_110_7 W) ?_
      rw [e7]
      exact if_t rfl rfl
end MVAL
