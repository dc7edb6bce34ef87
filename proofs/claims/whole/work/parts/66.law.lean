/-! LAYER 2: a call of the law, and all of them -/
theorem addE00 {ρ : Type} (x : Option ((Nat × Nat) × ρ)) : addE 0 0 x = x := by
  cases x with
  | none => rfl
  | some q =>
    obtain ⟨⟨c, k⟩, r⟩ := q
    show some ((0 + c, 0 + k), r) = some ((c, k), r)
    rw [Nat.zero_add, Nat.zero_add]
theorem lg_cmp_self (x : Int64) : lg_cmp x x = 0 := (lg_cmp_eq x x).mpr rfl
section LAW
variable {xs : Nat → Int32} {LN : Nat} {s : SH} {I : IH} {L : LH} {n a w1 w2 i : Nat}
theorem scr_k (k : Nat) (h : i + k < LN) (hL : LN ≤ 3072) : scr xs LN (nI i + nI k) = some (xs (i + k)) := by
  unfold scr
  rw [nI_add, if_pos (nI_in (N := LN) h (by omega)), nI_clamp (by omega)]
theorem scr_0 (h : i < LN) (hL : LN ≤ 3072) : scr xs LN (nI i) = some (xs i) := by
  unfold scr
  rw [if_pos (nI_in (N := LN) h (by omega)), nI_clamp (by omega)]
theorem law_end (h : LN < i + 6) (hi : i ≤ 4000) (hL : LN ≤ 3072) : Int32.ofNat LN - 6 < nI i := by
  refine Int32.lt_iff_toInt_lt.mpr ?_
  have h1 : (Int32.ofNat LN - 6).toInt = (LN : Int) - 6 := pk_sub_toInt (a := LN) (b := 6) (by omega) (by omega)
  rw [h1, nI_toInt (by omega)]
  omega
theorem law_on (h : i + 6 ≤ LN) (hL : LN ≤ 3072) : ¬ Int32.ofNat LN - 6 < nI i := fun h9 => by
  have h9 := Int32.lt_iff_toInt_lt.mp h9
  have h1 : (Int32.ofNat LN - 6).toInt = (LN : Int) - 6 := pk_sub_toInt (a := LN) (b := 6) (by omega) (by omega)
  rw [h1, nI_toInt (by omega)] at h9
  omega
def LStp (xs : Nat → Int32) (LN : Nat) (s : SH) (I : IH) (L : LH) (n a i : Nat) : Prop := ∃ c k s2 I2 L2 n2 v1 v2, c ≤ 60 ∧ k ≤ 7600 ∧ Rel s2 I2 L2 n2 a v1 v2 ∧ ∀ u, fL_law_b18 xs LN (u + 1) a (a + 110) (nI i) s I L n = addE c k (fL_law_b18 xs LN u a (a + 110) (nI (i + 6)) s2 I2 L2 n2)

theorem law_step (R : Rel s I L n a w1 w2) (h : i + 6 ≤ LN) (hL : LN ≤ 3072) : LStp xs LN s I L n a i := by
  have W := R.1
  have hend := law_on h hL
  have q0 : scr xs LN (nI i) = some (xs i) := scr_0 (by omega) hL
  have q1 : scr xs LN (nI i + 1) = some (xs (i + 1)) := scr_k 1 (by omega) hL
  have q2 : scr xs LN (nI i + 2) = some (xs (i + 2)) := scr_k 2 (by omega) hL
  have q3 : scr xs LN (nI i + 3) = some (xs (i + 3)) := scr_k 3 (by omega) hL
  have q4 : scr xs LN (nI i + 4) = some (xs (i + 4)) := scr_k 4 (by omega) hL
  have q5 : scr xs LN (nI i + 5) = some (xs (i + 5)) := scr_k 5 (by omega) hL
  have six : nI i + 6 = nI (i + 6) := nI_add i 6
  by_cases h0 : (xs i &&& 63) = 0
  · obtain ⟨x, I1, I2, e1, e2, R2⟩ := m_places R (xs (i + 1))
    refine ⟨0, 0, s, I2, L, n, w1, w2, by omega, by omega, R2, fun u => ?_⟩
    rw [addE00, fL_law_b18]
    refine if_f hend (bs_eq q0 ?_)
    refine if_t h0 ?_
    refine bs_eq q1 ?_
    refine bs_eq (c6_0 W) ?_
    refine b2_eq e1 ?_
    refine bs_eq q1 ?_
    refine bs_eq (c7_110 W) ?_
    refine b2_eq e2 ?_
    refine if_t rfl ?_
    rw [six]
  · skip
    by_cases h1 : (xs i &&& 63) = 1
    · obtain ⟨x, I1, I2, e1, e2, R2⟩ := m_sky R (xs (i + 1)) (xs (i + 2))
      refine ⟨0, 0, s, I2, L, n, w1, w2, by omega, by omega, R2, fun u => ?_⟩
      rw [addE00, fL_law_b18]
      refine if_f hend (bs_eq q0 ?_)
      refine if_f h0 (if_t h1 ?_)
      refine bs_eq q1 ?_
      refine bs_eq q2 ?_
      refine bs_eq (c6_0 W) ?_
      refine b2_eq e1 ?_
      refine bs_eq q1 ?_
      refine bs_eq q2 ?_
      refine bs_eq (c7_110 W) ?_
      refine b2_eq e2 ?_
      refine if_t rfl ?_
      rw [six]
    · skip
      by_cases h2 : (xs i &&& 63) = 2
      · obtain ⟨x, I1, I2, e1, e2, R2⟩ := m_feed R (xs (i + 1)) (xs (i + 2))
        refine ⟨0, 0, s, I2, L, n, w1, w2, by omega, by omega, R2, fun u => ?_⟩
        rw [addE00, fL_law_b18]
        refine if_f hend (bs_eq q0 ?_)
        refine if_f h0 (if_f h1 (if_t h2 ?_))
        refine bs_eq q1 ?_
        refine bs_eq q2 ?_
        refine bs_eq (c6_0 W) ?_
        refine b2_eq e1 ?_
        refine bs_eq q1 ?_
        refine bs_eq q2 ?_
        refine bs_eq (c7_110 W) ?_
        refine b2_eq e2 ?_
        refine if_t rfl ?_
        rw [six]
      · skip
        by_cases h3 : (xs i &&& 63) = 3
        · obtain ⟨c, k, x, s2, I1, I2, n2, w, hc, hk, e1, e2, R2⟩ := m_valley R
          refine ⟨c, k, s2, I2, L, n2, w, w2, hc, hk, R2, fun u => ?_⟩
          rw [fL_law_b18]
          refine if_f hend (bs_eq q0 ?_)
          refine if_f h0 (if_f h1 (if_f h2 (if_t h3 ?_)))
          refine bs_eq (c6_0 W) ?_
          rw [e1]
          show addE c k _ = _
          congr 1
          refine bs_eq (c7_110 R2.1) ?_
          refine b2_eq e2 ?_
          refine if_t rfl ?_
          rw [six]
        · skip
          by_cases h4 : (xs i &&& 63) = 4
          · obtain ⟨x, e1, e2⟩ := m_told R (xs (i + 1)) (xs (i + 2))
            refine ⟨0, 0, s, I, L, n, w1, w2, by omega, by omega, R, fun u => ?_⟩
            rw [addE00, fL_law_b18]
            refine if_f hend (bs_eq q0 ?_)
            refine if_f h0 (if_f h1 (if_f h2 (if_f h3 (if_t h4 ?_))))
            refine bs_eq q1 ?_
            refine bs_eq q2 ?_
            refine bs_eq (c6_0 W) ?_
            refine bs_eq e1 ?_
            refine bs_eq q1 ?_
            refine bs_eq q2 ?_
            refine bs_eq (c7_110 W) ?_
            refine bs_eq e2 ?_
            refine if_t rfl ?_
            rw [six]
          · skip
            by_cases h5 : (xs i &&& 63) = 5
            · obtain ⟨x, I2, e1, e2, R2⟩ := m_melts R (xs (i + 1))
              refine ⟨0, 0, s, I2, L, n, w1, w2, by omega, by omega, R2, fun u => ?_⟩
              rw [addE00, fL_law_b18]
              refine if_f hend (bs_eq q0 ?_)
              refine if_f h0 (if_f h1 (if_f h2 (if_f h3 (if_f h4 (if_t h5 ?_)))))
              refine bs_eq q1 ?_
              refine bs_eq (c6_0 W) ?_
              refine bs_eq e1 ?_
              refine bs_eq q1 ?_
              refine bs_eq (c7_110 W) ?_
              refine b2_eq e2 ?_
              refine if_t rfl ?_
              rw [six]
            · skip
              by_cases h6 : (xs i &&& 63) = 6
              · obtain ⟨x, I1, I2, e1, e2, R2⟩ := m_gate R (xs (i + 1)) (xs (i + 2)) (xs (i + 3)) (xs (i + 4))
                refine ⟨0, 0, s, I2, L, n, w1, w2, by omega, by omega, R2, fun u => ?_⟩
                rw [addE00, fL_law_b18]
                refine if_f hend (bs_eq q0 ?_)
                refine if_f h0 (if_f h1 (if_f h2 (if_f h3 (if_f h4 (if_f h5 (if_t h6 ?_))))))
                refine bs_eq q1 ?_
                refine bs_eq q2 ?_
                refine bs_eq q3 ?_
                refine bs_eq q4 ?_
                refine bs_eq (c6_0 W) ?_
                refine b2_eq e1 ?_
                refine bs_eq q1 ?_
                refine bs_eq q2 ?_
                refine bs_eq q3 ?_
                refine bs_eq q4 ?_
                refine bs_eq (c7_110 W) ?_
                refine b2_eq e2 ?_
                refine if_t rfl ?_
                rw [six]
              · skip
                by_cases h7 : (xs i &&& 63) = 7
                · obtain ⟨x, e1, e2⟩ := m_of R (xs (i + 1)) (xs (i + 2))
                  refine ⟨0, 0, s, I, L, n, w1, w2, by omega, by omega, R, fun u => ?_⟩
                  rw [addE00, fL_law_b18]
                  refine if_f hend (bs_eq q0 ?_)
                  refine if_f h0 (if_f h1 (if_f h2 (if_f h3 (if_f h4 (if_f h5 (if_f h6 (if_t h7 ?_)))))))
                  refine bs_eq q1 ?_
                  refine bs_eq q2 ?_
                  refine bs_eq (c6_0 W) ?_
                  refine bs_eq e1 ?_
                  refine bs_eq q1 ?_
                  refine bs_eq q2 ?_
                  refine bs_eq (c7_110 W) ?_
                  refine bs_eq e2 ?_
                  refine if_t rfl ?_
                  rw [six]
                · skip
                  by_cases h8 : (xs i &&& 63) = 8
                  · obtain ⟨x, I1, I2, e1, e2, R2⟩ := m_water R (xs (i + 1)) (xs (i + 2)) (xs (i + 3))
                    refine ⟨0, 0, s, I2, L, n, w1, w2, by omega, by omega, R2, fun u => ?_⟩
                    rw [addE00, fL_law_b18]
                    refine if_f hend (bs_eq q0 ?_)
                    refine if_f h0 (if_f h1 (if_f h2 (if_f h3 (if_f h4 (if_f h5 (if_f h6 (if_f h7 (if_t h8 ?_))))))))
                    refine bs_eq q1 ?_
                    refine bs_eq q2 ?_
                    refine bs_eq q3 ?_
                    refine bs_eq (c6_0 W) ?_
                    refine b2_eq e1 ?_
                    refine bs_eq q1 ?_
                    refine bs_eq q2 ?_
                    refine bs_eq q3 ?_
                    refine bs_eq (c7_110 W) ?_
                    refine b2_eq e2 ?_
                    refine if_t rfl ?_
                    rw [six]
                  · skip
                    by_cases h9 : (xs i &&& 63) = 9
                    · obtain ⟨x, I1, I2, e1, e2, R2⟩ := m_all R (xs (i + 1))
                      refine ⟨0, 0, s, I2, L, n, w1, w2, by omega, by omega, R2, fun u => ?_⟩
                      rw [addE00, fL_law_b18]
                      refine if_f hend (bs_eq q0 ?_)
                      refine if_f h0 (if_f h1 (if_f h2 (if_f h3 (if_f h4 (if_f h5 (if_f h6 (if_f h7 (if_f h8 (if_t h9 ?_)))))))))
                      refine bs_eq q1 ?_
                      refine bs_eq (c6_0 W) ?_
                      refine b2_eq e1 ?_
                      refine bs_eq q1 ?_
                      refine bs_eq (c7_110 W) ?_
                      refine b2_eq e2 ?_
                      refine if_t rfl ?_
                      rw [six]
                    · skip
                      by_cases h10 : (xs i &&& 63) = 10
                      · obtain ⟨x, I1, I2, e1, e2, R2⟩ := m_want R (xs (i + 1)) (xs (i + 2)) (xs (i + 3)) (xs (i + 4))
                        refine ⟨0, 0, s, I2, L, n, w1, w2, by omega, by omega, R2, fun u => ?_⟩
                        rw [addE00, fL_law_b18]
                        refine if_f hend (bs_eq q0 ?_)
                        refine if_f h0 (if_f h1 (if_f h2 (if_f h3 (if_f h4 (if_f h5 (if_f h6 (if_f h7 (if_f h8 (if_f h9 (if_t h10 ?_))))))))))
                        refine bs_eq q1 ?_
                        refine bs_eq q2 ?_
                        refine bs_eq q3 ?_
                        refine bs_eq q4 ?_
                        refine bs_eq (c6_0 W) ?_
                        refine b2_eq e1 ?_
                        refine bs_eq q1 ?_
                        refine bs_eq q2 ?_
                        refine bs_eq q3 ?_
                        refine bs_eq q4 ?_
                        refine bs_eq (c7_110 W) ?_
                        refine b2_eq e2 ?_
                        refine if_t rfl ?_
                        rw [six]
                      · skip
                        by_cases h11 : (xs i &&& 63) = 11
                        · obtain ⟨x, I1, I2, e1, e2, R2⟩ := m_wants R (xs (i + 1)) (xs (i + 2))
                          refine ⟨0, 0, s, I2, L, n, w1, w2, by omega, by omega, R2, fun u => ?_⟩
                          rw [addE00, fL_law_b18]
                          refine if_f hend (bs_eq q0 ?_)
                          refine if_f h0 (if_f h1 (if_f h2 (if_f h3 (if_f h4 (if_f h5 (if_f h6 (if_f h7 (if_f h8 (if_f h9 (if_f h10 (if_t h11 ?_)))))))))))
                          refine bs_eq q1 ?_
                          refine bs_eq q2 ?_
                          refine bs_eq (c6_0 W) ?_
                          refine b2_eq e1 ?_
                          refine bs_eq q1 ?_
                          refine bs_eq q2 ?_
                          refine bs_eq (c7_110 W) ?_
                          refine b2_eq e2 ?_
                          refine if_t rfl ?_
                          rw [six]
                        · skip
                          by_cases h12 : (xs i &&& 63) = 12
                          · obtain ⟨x, I1, I2, e1, e2, R2⟩ := m_worth R
                            refine ⟨0, 0, s, I2, L, n, w1, w2, by omega, by omega, R2, fun u => ?_⟩
                            rw [addE00, fL_law_b18]
                            refine if_f hend (bs_eq q0 ?_)
                            refine if_f h0 (if_f h1 (if_f h2 (if_f h3 (if_f h4 (if_f h5 (if_f h6 (if_f h7 (if_f h8 (if_f h9 (if_f h10 (if_f h11 (if_t h12 ?_))))))))))))
                            refine bs_eq (c6_0 W) ?_
                            refine b2_eq e1 ?_
                            refine bs_eq (c7_110 W) ?_
                            refine b2_eq e2 ?_
                            refine if_t rfl ?_
                            rw [six]
                          · skip
                            by_cases h13 : (xs i &&& 63) = 13
                            · obtain ⟨x, I1, I2, e1, e2, R2⟩ := m_best R (xs (i + 1)) (xs (i + 2))
                              refine ⟨0, 0, s, I2, L, n, w1, w2, by omega, by omega, R2, fun u => ?_⟩
                              rw [addE00, fL_law_b18]
                              refine if_f hend (bs_eq q0 ?_)
                              refine if_f h0 (if_f h1 (if_f h2 (if_f h3 (if_f h4 (if_f h5 (if_f h6 (if_f h7 (if_f h8 (if_f h9 (if_f h10 (if_f h11 (if_f h12 (if_t h13 ?_)))))))))))))
                              refine bs_eq q1 ?_
                              refine bs_eq q2 ?_
                              refine bs_eq (c6_0 W) ?_
                              refine b2_eq e1 ?_
                              refine bs_eq q1 ?_
                              refine bs_eq q2 ?_
                              refine bs_eq (c7_110 W) ?_
                              refine b2_eq e2 ?_
                              refine if_t rfl ?_
                              rw [six]
                            · skip
                              by_cases h14 : (xs i &&& 63) = 14
                              · obtain ⟨x, I1, I2, e1, e2, R2⟩ := m_price R (xs (i + 1))
                                refine ⟨0, 0, s, I2, L, n, w1, w2, by omega, by omega, R2, fun u => ?_⟩
                                rw [addE00, fL_law_b18]
                                refine if_f hend (bs_eq q0 ?_)
                                refine if_f h0 (if_f h1 (if_f h2 (if_f h3 (if_f h4 (if_f h5 (if_f h6 (if_f h7 (if_f h8 (if_f h9 (if_f h10 (if_f h11 (if_f h12 (if_f h13 (if_t h14 ?_))))))))))))))
                                refine bs_eq q1 ?_
                                refine bs_eq (c6_0 W) ?_
                                refine b2_eq e1 ?_
                                refine bs_eq q1 ?_
                                refine bs_eq (c7_110 W) ?_
                                refine b2_eq e2 ?_
                                refine if_t rfl ?_
                                rw [six]
                              · skip
                                by_cases h15 : (xs i &&& 63) = 15
                                · obtain ⟨x, I1, I2, e1, e2, R2⟩ := m_part R (xs (i + 1)) (xs (i + 2)) (xs (i + 3)) (xs (i + 4))
                                  refine ⟨0, 0, s, I2, L, n, w1, w2, by omega, by omega, R2, fun u => ?_⟩
                                  rw [addE00, fL_law_b18]
                                  refine if_f hend (bs_eq q0 ?_)
                                  refine if_f h0 (if_f h1 (if_f h2 (if_f h3 (if_f h4 (if_f h5 (if_f h6 (if_f h7 (if_f h8 (if_f h9 (if_f h10 (if_f h11 (if_f h12 (if_f h13 (if_f h14 (if_t h15 ?_)))))))))))))))
                                  refine bs_eq q1 ?_
                                  refine bs_eq q2 ?_
                                  refine bs_eq q3 ?_
                                  refine bs_eq q4 ?_
                                  refine bs_eq (c6_0 W) ?_
                                  refine b2_eq e1 ?_
                                  refine bs_eq q1 ?_
                                  refine bs_eq q2 ?_
                                  refine bs_eq q3 ?_
                                  refine bs_eq q4 ?_
                                  refine bs_eq (c7_110 W) ?_
                                  refine b2_eq e2 ?_
                                  refine if_t rfl ?_
                                  rw [six]
                                · skip
                                  by_cases h16 : (xs i &&& 63) = 16
                                  · obtain ⟨x, I1, I2, e1, e2, R2⟩ := m_odds R (xs (i + 1)) (xs (i + 2))
                                    refine ⟨0, 0, s, I2, L, n, w1, w2, by omega, by omega, R2, fun u => ?_⟩
                                    rw [addE00, fL_law_b18]
                                    refine if_f hend (bs_eq q0 ?_)
                                    refine if_f h0 (if_f h1 (if_f h2 (if_f h3 (if_f h4 (if_f h5 (if_f h6 (if_f h7 (if_f h8 (if_f h9 (if_f h10 (if_f h11 (if_f h12 (if_f h13 (if_f h14 (if_f h15 (if_t h16 ?_))))))))))))))))
                                    refine bs_eq q1 ?_
                                    refine bs_eq q2 ?_
                                    refine bs_eq (c6_0 W) ?_
                                    refine b2_eq e1 ?_
                                    refine bs_eq q1 ?_
                                    refine bs_eq q2 ?_
                                    refine bs_eq (c7_110 W) ?_
                                    refine b2_eq e2 ?_
                                    refine if_t rfl ?_
                                    rw [six]
                                  · skip
                                    by_cases h17 : (xs i &&& 63) = 17
                                    · obtain ⟨x, I1, I2, e1, e2, R2⟩ := m_mean R (xs (i + 1)) (xs (i + 2))
                                      refine ⟨0, 0, s, I2, L, n, w1, w2, by omega, by omega, R2, fun u => ?_⟩
                                      rw [addE00, fL_law_b18]
                                      refine if_f hend (bs_eq q0 ?_)
                                      refine if_f h0 (if_f h1 (if_f h2 (if_f h3 (if_f h4 (if_f h5 (if_f h6 (if_f h7 (if_f h8 (if_f h9 (if_f h10 (if_f h11 (if_f h12 (if_f h13 (if_f h14 (if_f h15 (if_f h16 (if_t h17 ?_)))))))))))))))))
                                      refine bs_eq q1 ?_
                                      refine bs_eq q2 ?_
                                      refine bs_eq (c6_0 W) ?_
                                      refine b2_eq e1 ?_
                                      refine bs_eq q1 ?_
                                      refine bs_eq q2 ?_
                                      refine bs_eq (c7_110 W) ?_
                                      refine b2_eq e2 ?_
                                      refine if_t (lg_cmp_self x) ?_
                                      rw [six]
                                    · skip
                                      by_cases h18 : (xs i &&& 63) = 18
                                      · obtain ⟨x, I1, I2, e1, e2, R2⟩ := m_pond R (xs (i + 1))
                                        refine ⟨0, 0, s, I2, L, n, w1, w2, by omega, by omega, R2, fun u => ?_⟩
                                        rw [addE00, fL_law_b18]
                                        refine if_f hend (bs_eq q0 ?_)
                                        refine if_f h0 (if_f h1 (if_f h2 (if_f h3 (if_f h4 (if_f h5 (if_f h6 (if_f h7 (if_f h8 (if_f h9 (if_f h10 (if_f h11 (if_f h12 (if_f h13 (if_f h14 (if_f h15 (if_f h16 (if_f h17 (if_t h18 ?_))))))))))))))))))
                                        refine bs_eq q1 ?_
                                        refine bs_eq (c6_0 W) ?_
                                        refine b2_eq e1 ?_
                                        refine bs_eq q1 ?_
                                        refine bs_eq (c7_110 W) ?_
                                        refine b2_eq e2 ?_
                                        refine if_t rfl ?_
                                        rw [six]
                                      · skip
                                        by_cases h19 : (xs i &&& 63) = 19
                                        · obtain ⟨x, I1, I2, e1, e2, R2⟩ := m_wrong R
                                          refine ⟨0, 0, s, I2, L, n, w1, w2, by omega, by omega, R2, fun u => ?_⟩
                                          rw [addE00, fL_law_b18]
                                          refine if_f hend (bs_eq q0 ?_)
                                          refine if_f h0 (if_f h1 (if_f h2 (if_f h3 (if_f h4 (if_f h5 (if_f h6 (if_f h7 (if_f h8 (if_f h9 (if_f h10 (if_f h11 (if_f h12 (if_f h13 (if_f h14 (if_f h15 (if_f h16 (if_f h17 (if_f h18 (if_t h19 ?_)))))))))))))))))))
                                          refine bs_eq (c6_0 W) ?_
                                          refine b2_eq e1 ?_
                                          refine bs_eq (c7_110 W) ?_
                                          refine b2_eq e2 ?_
                                          refine if_t rfl ?_
                                          rw [six]
                                        · skip
                                          by_cases h20 : (xs i &&& 63) = 20
                                          · obtain ⟨x, I1, I2, e1, e2, R2⟩ := m_spare R
                                            refine ⟨0, 0, s, I2, L, n, w1, w2, by omega, by omega, R2, fun u => ?_⟩
                                            rw [addE00, fL_law_b18]
                                            refine if_f hend (bs_eq q0 ?_)
                                            refine if_f h0 (if_f h1 (if_f h2 (if_f h3 (if_f h4 (if_f h5 (if_f h6 (if_f h7 (if_f h8 (if_f h9 (if_f h10 (if_f h11 (if_f h12 (if_f h13 (if_f h14 (if_f h15 (if_f h16 (if_f h17 (if_f h18 (if_f h19 (if_t h20 ?_))))))))))))))))))))
                                            refine bs_eq (c6_0 W) ?_
                                            refine b2_eq e1 ?_
                                            refine bs_eq (c7_110 W) ?_
                                            refine b2_eq e2 ?_
                                            refine if_t rfl ?_
                                            rw [six]
                                          · skip
                                            by_cases h21 : (xs i &&& 63) = 21
                                            · obtain ⟨x, I1, I2, e1, e2, R2⟩ := m_day R (xs (i + 1))
                                              refine ⟨0, 0, s, I2, L, n, w1, w2, by omega, by omega, R2, fun u => ?_⟩
                                              rw [addE00, fL_law_b18]
                                              refine if_f hend (bs_eq q0 ?_)
                                              refine if_f h0 (if_f h1 (if_f h2 (if_f h3 (if_f h4 (if_f h5 (if_f h6 (if_f h7 (if_f h8 (if_f h9 (if_f h10 (if_f h11 (if_f h12 (if_f h13 (if_f h14 (if_f h15 (if_f h16 (if_f h17 (if_f h18 (if_f h19 (if_f h20 (if_t h21 ?_)))))))))))))))))))))
                                              refine bs_eq q1 ?_
                                              refine bs_eq (c6_0 W) ?_
                                              refine b2_eq e1 ?_
                                              refine bs_eq q1 ?_
                                              refine bs_eq (c7_110 W) ?_
                                              refine b2_eq e2 ?_
                                              refine if_t rfl ?_
                                              rw [six]
                                            · skip
                                              by_cases h22 : (xs i &&& 63) = 22
                                              · obtain ⟨x, I1, I2, e1, e2, R2⟩ := m_judge R (xs (i + 1)) (xs (i + 2)) (xs (i + 3))
                                                refine ⟨0, 0, s, I2, L, n, w1, w2, by omega, by omega, R2, fun u => ?_⟩
                                                rw [addE00, fL_law_b18]
                                                refine if_f hend (bs_eq q0 ?_)
                                                refine if_f h0 (if_f h1 (if_f h2 (if_f h3 (if_f h4 (if_f h5 (if_f h6 (if_f h7 (if_f h8 (if_f h9 (if_f h10 (if_f h11 (if_f h12 (if_f h13 (if_f h14 (if_f h15 (if_f h16 (if_f h17 (if_f h18 (if_f h19 (if_f h20 (if_f h21 (if_t h22 ?_))))))))))))))))))))))
                                                refine bs_eq q1 ?_
                                                refine bs_eq q2 ?_
                                                refine bs_eq q3 ?_
                                                refine bs_eq (c6_0 W) ?_
                                                refine b2_eq e1 ?_
                                                refine bs_eq q1 ?_
                                                refine bs_eq q2 ?_
                                                refine bs_eq q3 ?_
                                                refine bs_eq (c7_110 W) ?_
                                                refine b2_eq e2 ?_
                                                refine if_t rfl ?_
                                                rw [six]
                                              · skip
                                                by_cases h23 : (xs i &&& 63) = 23
                                                · obtain ⟨x, s2, I1, I2, e1, e2, R2⟩ := m_image R
                                                  refine ⟨0, 0, s2, I2, L, n, w1, w1, by omega, by omega, R2, fun u => ?_⟩
                                                  rw [addE00, fL_law_b18]
                                                  refine if_f hend (bs_eq q0 ?_)
                                                  refine if_f h0 (if_f h1 (if_f h2 (if_f h3 (if_f h4 (if_f h5 (if_f h6 (if_f h7 (if_f h8 (if_f h9 (if_f h10 (if_f h11 (if_f h12 (if_f h13 (if_f h14 (if_f h15 (if_f h16 (if_f h17 (if_f h18 (if_f h19 (if_f h20 (if_f h21 (if_f h22 (if_t h23 ?_)))))))))))))))))))))))
                                                  refine bs_eq (c6_0 W) ?_
                                                  refine b3_eq e1 ?_
                                                  refine bs_eq (c7_110 R2.1) ?_
                                                  refine b2_eq e2 ?_
                                                  refine if_t rfl ?_
                                                  rw [six]
                                                · skip
                                                  by_cases h24 : (xs i &&& 63) = 24
                                                  · obtain ⟨x, s2, I1, I2, w, -, e1, e2, R2⟩ := m_undo R
                                                    refine ⟨0, 0, s2, I2, L, n, w, w2, by omega, by omega, R2, fun u => ?_⟩
                                                    rw [addE00, fL_law_b18]
                                                    refine if_f hend (bs_eq q0 ?_)
                                                    refine if_f h0 (if_f h1 (if_f h2 (if_f h3 (if_f h4 (if_f h5 (if_f h6 (if_f h7 (if_f h8 (if_f h9 (if_f h10 (if_f h11 (if_f h12 (if_f h13 (if_f h14 (if_f h15 (if_f h16 (if_f h17 (if_f h18 (if_f h19 (if_f h20 (if_f h21 (if_f h22 (if_f h23 (if_t h24 ?_))))))))))))))))))))))))
                                                    refine bs_eq (c6_0 W) ?_
                                                    refine b3_eq e1 ?_
                                                    refine bs_eq (c7_110 R2.1) ?_
                                                    refine b2_eq e2 ?_
                                                    refine if_t rfl ?_
                                                    rw [six]
                                                  · skip
                                                    by_cases h25 : (xs i &&& 63) = 25
                                                    · obtain ⟨x, I1, I2, e1, e2, R2⟩ := m_act R (xs (i + 1)) (xs (i + 2)) (xs (i + 3))
                                                      refine ⟨0, 0, s, I2, L, n, w1, w2, by omega, by omega, R2, fun u => ?_⟩
                                                      rw [addE00, fL_law_b18]
                                                      refine if_f hend (bs_eq q0 ?_)
                                                      refine if_f h0 (if_f h1 (if_f h2 (if_f h3 (if_f h4 (if_f h5 (if_f h6 (if_f h7 (if_f h8 (if_f h9 (if_f h10 (if_f h11 (if_f h12 (if_f h13 (if_f h14 (if_f h15 (if_f h16 (if_f h17 (if_f h18 (if_f h19 (if_f h20 (if_f h21 (if_f h22 (if_f h23 (if_f h24 (if_t h25 ?_)))))))))))))))))))))))))
                                                      refine bs_eq q1 ?_
                                                      refine bs_eq q2 ?_
                                                      refine bs_eq q3 ?_
                                                      refine bs_eq (c6_0 W) ?_
                                                      refine b2_eq e1 ?_
                                                      refine bs_eq q1 ?_
                                                      refine bs_eq q2 ?_
                                                      refine bs_eq q3 ?_
                                                      refine bs_eq (c7_110 W) ?_
                                                      refine b2_eq e2 ?_
                                                      refine if_t rfl ?_
                                                      rw [six]
                                                    · skip
                                                      by_cases h26 : (xs i &&& 63) = 26
                                                      · obtain ⟨x, e1, e2⟩ := m_trace R (xs (i + 1))
                                                        refine ⟨0, 0, s, I, L, n, w1, w2, by omega, by omega, R, fun u => ?_⟩
                                                        rw [addE00, fL_law_b18]
                                                        refine if_f hend (bs_eq q0 ?_)
                                                        refine if_f h0 (if_f h1 (if_f h2 (if_f h3 (if_f h4 (if_f h5 (if_f h6 (if_f h7 (if_f h8 (if_f h9 (if_f h10 (if_f h11 (if_f h12 (if_f h13 (if_f h14 (if_f h15 (if_f h16 (if_f h17 (if_f h18 (if_f h19 (if_f h20 (if_f h21 (if_f h22 (if_f h23 (if_f h24 (if_f h25 (if_t h26 ?_))))))))))))))))))))))))))
                                                        refine bs_eq q1 ?_
                                                        refine bs_eq (c6_0 W) ?_
                                                        refine bs_eq e1 ?_
                                                        refine bs_eq q1 ?_
                                                        refine bs_eq (c7_110 W) ?_
                                                        refine bs_eq e2 ?_
                                                        refine if_t rfl ?_
                                                        rw [six]
                                                      · skip
                                                        by_cases h27 : (xs i &&& 63) = 27
                                                        · obtain ⟨x, e1, e2⟩ := m_taken R (xs (i + 1)) (xs (i + 2))
                                                          refine ⟨0, 0, s, I, L, n, w1, w2, by omega, by omega, R, fun u => ?_⟩
                                                          rw [addE00, fL_law_b18]
                                                          refine if_f hend (bs_eq q0 ?_)
                                                          refine if_f h0 (if_f h1 (if_f h2 (if_f h3 (if_f h4 (if_f h5 (if_f h6 (if_f h7 (if_f h8 (if_f h9 (if_f h10 (if_f h11 (if_f h12 (if_f h13 (if_f h14 (if_f h15 (if_f h16 (if_f h17 (if_f h18 (if_f h19 (if_f h20 (if_f h21 (if_f h22 (if_f h23 (if_f h24 (if_f h25 (if_f h26 (if_t h27 ?_)))))))))))))))))))))))))))
                                                          refine bs_eq q1 ?_
                                                          refine bs_eq q2 ?_
                                                          refine bs_eq (c6_0 W) ?_
                                                          refine bs_eq e1 ?_
                                                          refine bs_eq q1 ?_
                                                          refine bs_eq q2 ?_
                                                          refine bs_eq (c7_110 W) ?_
                                                          refine bs_eq e2 ?_
                                                          refine if_t rfl ?_
                                                          rw [six]
                                                        · skip
                                                          by_cases h28 : (xs i &&& 63) = 28
                                                          · obtain ⟨x, e1, e2⟩ := m_count R (xs (i + 1))
                                                            refine ⟨0, 0, s, I, L, n, w1, w2, by omega, by omega, R, fun u => ?_⟩
                                                            rw [addE00, fL_law_b18]
                                                            refine if_f hend (bs_eq q0 ?_)
                                                            refine if_f h0 (if_f h1 (if_f h2 (if_f h3 (if_f h4 (if_f h5 (if_f h6 (if_f h7 (if_f h8 (if_f h9 (if_f h10 (if_f h11 (if_f h12 (if_f h13 (if_f h14 (if_f h15 (if_f h16 (if_f h17 (if_f h18 (if_f h19 (if_f h20 (if_f h21 (if_f h22 (if_f h23 (if_f h24 (if_f h25 (if_f h26 (if_f h27 (if_t h28 ?_))))))))))))))))))))))))))))
                                                            refine bs_eq q1 ?_
                                                            refine bs_eq (c6_0 W) ?_
                                                            refine bs_eq e1 ?_
                                                            refine bs_eq q1 ?_
                                                            refine bs_eq (c7_110 W) ?_
                                                            refine bs_eq e2 ?_
                                                            refine if_t rfl ?_
                                                            rw [six]
                                                          · skip
                                                            by_cases h29 : (xs i &&& 63) = 29
                                                            · obtain ⟨x, I1, L1, I2, L2, e1, e2, R2⟩ := m_tape R (xs (i + 1)) (xs (i + 2)) (xs (i + 3))
                                                              refine ⟨0, 0, s, I2, L2, n, w1, w2, by omega, by omega, R2, fun u => ?_⟩
                                                              rw [addE00, fL_law_b18]
                                                              refine if_f hend (bs_eq q0 ?_)
                                                              refine if_f h0 (if_f h1 (if_f h2 (if_f h3 (if_f h4 (if_f h5 (if_f h6 (if_f h7 (if_f h8 (if_f h9 (if_f h10 (if_f h11 (if_f h12 (if_f h13 (if_f h14 (if_f h15 (if_f h16 (if_f h17 (if_f h18 (if_f h19 (if_f h20 (if_f h21 (if_f h22 (if_f h23 (if_f h24 (if_f h25 (if_f h26 (if_f h27 (if_f h28 (if_t h29 ?_)))))))))))))))))))))))))))))
                                                              refine bs_eq q1 ?_
                                                              refine bs_eq q2 ?_
                                                              refine bs_eq q3 ?_
                                                              refine bs_eq (c6_0 W) ?_
                                                              refine b3_eq e1 ?_
                                                              refine bs_eq q1 ?_
                                                              refine bs_eq q2 ?_
                                                              refine bs_eq q3 ?_
                                                              refine bs_eq (c7_110 W) ?_
                                                              refine b3_eq e2 ?_
                                                              refine if_t rfl ?_
                                                              rw [six]
                                                            · skip
                                                              by_cases h30 : (xs i &&& 63) = 30
                                                              · obtain ⟨x, L1, L2, e1, e2, R2⟩ := m_item R (xs (i + 1)) (xs (i + 2)) (((xs (i + 3)).toInt64 <<< (Int32.toInt64 32 &&& 63)) ||| ((xs (i + 4)).toInt64 &&& 4294967295))
                                                                refine ⟨0, 0, s, I, L2, n, w1, w2, by omega, by omega, R2, fun u => ?_⟩
                                                                rw [addE00, fL_law_b18]
                                                                refine if_f hend (bs_eq q0 ?_)
                                                                refine if_f h0 (if_f h1 (if_f h2 (if_f h3 (if_f h4 (if_f h5 (if_f h6 (if_f h7 (if_f h8 (if_f h9 (if_f h10 (if_f h11 (if_f h12 (if_f h13 (if_f h14 (if_f h15 (if_f h16 (if_f h17 (if_f h18 (if_f h19 (if_f h20 (if_f h21 (if_f h22 (if_f h23 (if_f h24 (if_f h25 (if_f h26 (if_f h27 (if_f h28 (if_f h29 (if_t h30 ?_))))))))))))))))))))))))))))))
                                                                refine bs_eq q1 ?_
                                                                refine bs_eq q2 ?_
                                                                refine bs_eq q3 ?_
                                                                refine bs_eq q4 ?_
                                                                refine bs_eq (c6_0 W) ?_
                                                                refine b2_eq e1 ?_
                                                                refine bs_eq q1 ?_
                                                                refine bs_eq q2 ?_
                                                                refine bs_eq q3 ?_
                                                                refine bs_eq q4 ?_
                                                                refine bs_eq (c7_110 W) ?_
                                                                refine b2_eq e2 ?_
                                                                refine if_t rfl ?_
                                                                rw [six]
                                                              · skip
                                                                by_cases h31 : (xs i &&& 63) = 31
                                                                · obtain ⟨x, e1, e2⟩ := m_read R (xs (i + 1)) (xs (i + 2))
                                                                  refine ⟨0, 0, s, I, L, n, w1, w2, by omega, by omega, R, fun u => ?_⟩
                                                                  rw [addE00, fL_law_b18]
                                                                  refine if_f hend (bs_eq q0 ?_)
                                                                  refine if_f h0 (if_f h1 (if_f h2 (if_f h3 (if_f h4 (if_f h5 (if_f h6 (if_f h7 (if_f h8 (if_f h9 (if_f h10 (if_f h11 (if_f h12 (if_f h13 (if_f h14 (if_f h15 (if_f h16 (if_f h17 (if_f h18 (if_f h19 (if_f h20 (if_f h21 (if_f h22 (if_f h23 (if_f h24 (if_f h25 (if_f h26 (if_f h27 (if_f h28 (if_f h29 (if_f h30 (if_t h31 ?_)))))))))))))))))))))))))))))))
                                                                  refine bs_eq q1 ?_
                                                                  refine bs_eq q2 ?_
                                                                  refine bs_eq (c6_0 W) ?_
                                                                  refine bs_eq e1 ?_
                                                                  refine bs_eq q1 ?_
                                                                  refine bs_eq q2 ?_
                                                                  refine bs_eq (c7_110 W) ?_
                                                                  refine bs_eq e2 ?_
                                                                  refine if_t (lg_cmp_self x) ?_
                                                                  rw [six]
                                                                · skip
                                                                  by_cases h32 : (xs i &&& 63) = 32
                                                                  · obtain ⟨x, L1, L2, e1, e2, R2⟩ := m_shift R (xs (i + 1)) (xs (i + 2)) (xs (i + 3)) (xs (i + 4)) (xs (i + 5))
                                                                    refine ⟨0, 0, s, I, L2, n, w1, w2, by omega, by omega, R2, fun u => ?_⟩
                                                                    rw [addE00, fL_law_b18]
                                                                    refine if_f hend (bs_eq q0 ?_)
                                                                    refine if_f h0 (if_f h1 (if_f h2 (if_f h3 (if_f h4 (if_f h5 (if_f h6 (if_f h7 (if_f h8 (if_f h9 (if_f h10 (if_f h11 (if_f h12 (if_f h13 (if_f h14 (if_f h15 (if_f h16 (if_f h17 (if_f h18 (if_f h19 (if_f h20 (if_f h21 (if_f h22 (if_f h23 (if_f h24 (if_f h25 (if_f h26 (if_f h27 (if_f h28 (if_f h29 (if_f h30 (if_f h31 (if_t h32 ?_))))))))))))))))))))))))))))))))
                                                                    refine bs_eq q1 ?_
                                                                    refine bs_eq q2 ?_
                                                                    refine bs_eq q3 ?_
                                                                    refine bs_eq q4 ?_
                                                                    refine bs_eq q5 ?_
                                                                    refine bs_eq (c6_0 W) ?_
                                                                    refine b2_eq e1 ?_
                                                                    refine bs_eq q1 ?_
                                                                    refine bs_eq q2 ?_
                                                                    refine bs_eq q3 ?_
                                                                    refine bs_eq q4 ?_
                                                                    refine bs_eq q5 ?_
                                                                    refine bs_eq (c7_110 W) ?_
                                                                    refine b2_eq e2 ?_
                                                                    refine if_t rfl ?_
                                                                    rw [six]
                                                                  · skip
                                                                    refine ⟨0, 0, s, I, L, n, w1, w2, by omega, by omega, R, fun u => ?_⟩
                                                                    rw [addE00, fL_law_b18]
                                                                    refine if_f hend (bs_eq q0 ?_)
                                                                    refine if_f h0 (if_f h1 (if_f h2 (if_f h3 (if_f h4 (if_f h5 (if_f h6 (if_f h7 (if_f h8 (if_f h9 (if_f h10 (if_f h11 (if_f h12 (if_f h13 (if_f h14 (if_f h15 (if_f h16 (if_f h17 (if_f h18 (if_f h19 (if_f h20 (if_f h21 (if_f h22 (if_f h23 (if_f h24 (if_f h25 (if_f h26 (if_f h27 (if_f h28 (if_f h29 (if_f h30 (if_f h31 (if_f h32 (?_)))))))))))))))))))))))))))))))))
                                                                    rw [six]
/-- all the law's calls -/
theorem law_loop (hL : LN ≤ 3072) : ∀ (m u i : Nat) (s : SH) (I : IH) (L : LH) (n w1 w2 : Nat), LN < i + 6 * m + 6 → m < u → i ≤ 3072 → Rel s I L n a w1 w2 → ∃ (c k : Nat) (s' : SH) (I' : IH) (L' : LH) (n' : Nat), fL_law_b18 xs LN u a (a + 110) (nI i) s I L n = some ((c, k), (1, s', I', L', n')) ∧ c ≤ 60 * m ∧ k ≤ 7600 * m := by
  intro m
  induction m with
  | zero =>
    intro u i s I L n w1 w2 h1 h2 h3 R
    obtain ⟨u, rfl⟩ : ∃ v, u = v + 1 := ⟨u - 1, by omega⟩
    refine ⟨0, 0, s, I, L, n, ?_, by omega, by omega⟩
    rw [fL_law_b18]
    exact if_t (law_end (by omega) (by omega) hL) rfl
  | succ m ih =>
    intro u i s I L n w1 w2 h1 h2 h3 R
    obtain ⟨u, rfl⟩ : ∃ v, u = v + 1 := ⟨u - 1, by omega⟩
    by_cases h : i + 6 ≤ LN
    · obtain ⟨c, k, s2, I2, L2, n2, v1, v2, hc, hk, R2, e⟩ := law_step R h hL
      obtain ⟨c', k', s', I', L', n', e', hc', hk'⟩ := ih u (i + 6) s2 I2 L2 n2 v1 v2 (by omega) (by omega) (by omega) R2
      refine ⟨c + c', k + k', s', I', L', n', ?_, by omega, by omega⟩
      rw [e u, e']
      rfl
    · refine ⟨0, 0, s, I, L, n, ?_, by omega, by omega⟩
      rw [fL_law_b18]
      exact if_t (law_end (by omega) (by omega) hL) rfl
end LAW
