/-! LAYER 2: spare and best -/
def pcN (k : Nat) : Nat := k % 2 + k / 2 % 2 + k / 4 % 2 + k / 8 % 2 + k / 16 % 2
theorem bc_T : ∀ k : Fin 32, fJ6_bitCount_0f7a4 (nI k.1) = nI (pcN k.1) := by decide +kernel
theorem on_T : ∀ k : Fin 32, fX7_ones 0 (nI k.1) = some (nI (pcN k.1)) := by decide +kernel
theorem ones_this (b : Nat) : ∀ fuel v2 v3, fX7_ones_b4 b fuel v2 v3 = fX7_ones_b4 0 fuel v2 v3 := by
  intro fuel
  induction fuel with
  | zero =>
    intro v2 v3
    rfl
  | succ u ih =>
    intro v2 v3
    rw [fX7_ones_b4, fX7_ones_b4, ih]
theorem shl_T : ∀ P : Fin 6, (1 : Int32) <<< (nI P.1 &&& 31) = nI (2 ^ P.1) := by decide +kernel
theorem pc_le : ∀ k : Fin 32, pcN k.1 ≤ 5 := by decide
theorem bit_hi : ∀ P : Fin 6, ∀ k : Fin 32, ∀ q : Fin 5, k.1 < 2 ^ P.1 → P.1 ≤ q.1 → k.1 / 2 ^ q.1 % 2 = 0 := by decide +kernel
theorem pow_le : ∀ P : Fin 6, 2 ^ P.1 ≤ 32 := by decide
/-- gates of a set made plain -/
def minK (G : Nat → Nat → Nat) (k : Nat) : Nat → Nat → Nat := fun i q => if i = 4 ∧ k / 2 ^ q % 2 = 1 then 0 else G i q
def updG (G : Nat → Nat → Nat) (i0 q0 v : Nat) : Nat → Nat → Nat := fun i q => if i = i0 ∧ q = q0 then v else G i q
theorem updG_eq {G : Nat → Nat → Nat} {i q v : Nat} : updG G i q v i q = v := if_pos ⟨rfl, rfl⟩
theorem updG_ne {G : Nat → Nat → Nat} {i0 q0 v i q : Nat} (h : ¬ (i = i0 ∧ q = q0)) : updG G i0 q0 v i q = G i q := if_neg h
def spS (I : IH) (a : Nat) (G : Nat → Nat → Nat) (m : Nat → Nat) : Nat → Nat
  | 0 => 0
  | k + 1 => if pcN (spS I a G m k) < pcN (k + 1) ∧ stWorth I a G m ≤ stWorth I a (minK G (k + 1)) m then k + 1 else spS I a G m k
theorem spS_le {I : IH} {a : Nat} {G : Nat → Nat → Nat} {m : Nat → Nat} : ∀ k, spS I a G m k ≤ k
  | 0 => Nat.le_refl _
  | k + 1 => by
    have := spS_le (I := I) (a := a) (G := G) (m := m) k
    show (if _ then k + 1 else spS I a G m k) ≤ k + 1
    split
    · exact Nat.le_refl _
    · exact Nat.le_succ_of_le this
section SPARE
variable {s : SH} {I : IH} {L : LH} {n a w1 w2 w P : Nat} {G : Nat → Nat → Nat} {m : Nat → Nat}
theorem stW_le (R : Rel s I L n a w1 w2) {G : Nat → Nat → Nat} {m : Nat → Nat} : stWorth I a G m ≤ 2700 := by
  obtain ⟨-, h2, h3⟩ := (stX R).1
  have := wthS_le (PL := stW I a 0) (HO := stW I a 1) (CU := stW I a 2) (EA := stW I a 3) (T := takS (stP I a) G m) (P := stP I a) (N := stN I a) (fun w hw => ⟨(h3 w hw).2.2.1.2, (h3 w hw).2.2.2.2⟩) (stN I a) (Nat.le_refl _)
  have h4 : 270 * stN I a ≤ 270 * 10 := Nat.mul_le_mul_left _ h2
  show wthS _ _ _ _ _ _ _ ≤ 2700
  omega
theorem minK_GB (B : GB G m) (k : Nat) : GB (minK G k) m := by
  refine ⟨fun q hq => ?_, B.2⟩
  obtain ⟨g0, g1, g2, g3, g4, g5, g6⟩ := B.1 q hq
  unfold minK
  refine ⟨by rw [if_neg (by omega)]; exact g0, by rw [if_neg (by omega)]; exact g1, by rw [if_neg (by omega)]; exact g2, by rw [if_neg (by omega)]; exact g3, ?_, by rw [if_neg (by omega)]; exact g5, by rw [if_neg (by omega)]; exact g6⟩
  split
  · omega
  · exact g4
theorem m_spare (R : Rel s I L n a w1 w2) : M2 s L n a w1 w2 (fX6_spare s a I) (fun I1 => fX7_spare s (a + 110) I1) := by
  have W := R.1
  obtain ⟨p1, p2, p3, p4⟩ := stP_y R
  have B := stGB R
  have hpow := pow_le ⟨stP I a, by omega⟩
  have hsh : (1 : Int32) <<< (nI (stP I a) &&& 31) = nI (2 ^ stP I a) := shl_T ⟨stP I a, by omega⟩
  replace hpow : 2 ^ stP I a ≤ 32 := hpow
  have hW0 := stW_le R (G := stG I a w1) (m := stM I a w1)
  have hpos : 1 ≤ 2 ^ stP I a := Nat.one_le_two_pow
  -- the class's way without a set
  have without : ∀ k (J : IH), k < 32 → (∀ x, ¬ (a + 51 ≤ x ∧ x ≤ a + 93) → J x = I x) → (∀ h, h < 48 → J (a + 51) h = nI (stM I a w1 h)) → ∃ J', fX5_worthWithout s (a + 50) (nI k) J = some (nI (stWorth I a (minK (stG I a w1) k) (stM I a w1)), J') ∧ (∀ x, ¬ (a + 51 ≤ x ∧ x ≤ a + 93) → J' x = I x) ∧ ∀ h, h < 48 → J' (a + 51) h = nI (stM I a w1 h) := by
    intro k J hk f hm
    obtain ⟨J1, e1, f1, v1, u1⟩ := loadY R J (scrC f)
    have loop : ∀ (K : IH → Option (Int32 × IH)) mm q fuel (J0 : IH), q + mm = 5 → mm < fuel → (∀ x, ¬ (a + 58 ≤ x ∧ x < a + 63) → J0 x = J1 x) → (∀ p i, p < 5 → i < 3 → J0 (a + 58 + p) i = nI (if p < q then minK (stG I a w1) k (4 + i) p else stG I a w1 (4 + i) p)) → ∃ J', fX5_worthWithout_b6 s (a + 50) K fuel (nI k) (nI q) J0 = K J' ∧ (∀ x, ¬ (a + 58 ≤ x ∧ x < a + 63) → J' x = J1 x) ∧ ∀ p i, p < 5 → i < 3 → J' (a + 58 + p) i = nI (minK (stG I a w1) k (4 + i) p) := by
      intro K mm
      induction mm with
      | zero =>
        intro q fuel J0 g1 g2 g3 g4
        obtain ⟨u, rfl⟩ : ∃ u, fuel = u + 1 := ⟨fuel - 1, by omega⟩
        obtain rfl : q = 5 := g1
        refine ⟨J0, ?_, g3, fun p i hp hi => by rw [g4 p i hp hi, if_pos hp]⟩
        rw [fX5_worthWithout_b6, e5_50_3 W, Option.bind_some, l57 W, Option.bind_some, if_pos (nI_le (Nat.le_refl _) (by omega))]
      | succ mm ih =>
        intro q fuel J0 g1 g2 g3 g4
        obtain ⟨u, rfl⟩ : ∃ u, fuel = u + 1 := ⟨fuel - 1, by omega⟩
        have hq : q < 5 := by omega
        have hbit := bit_nI (S := k) (q := q) (by omega) (by omega)
        have hm2 : k / 2 ^ q % 2 < 2 := Nat.mod_lt _ (by omega)
        rw [fX5_worthWithout_b6, e5_50_3 W, Option.bind_some, l57 W, Option.bind_some, if_neg (nI_ge (by omega) (by omega)), hbit, nI_1]
        by_cases hb : k / 2 ^ q % 2 = 1
        · rw [if_neg (by rw [hb]; decide), Option.bind_some, a57 W hq, Option.bind_some, show sI s J0 (a + 57 + 1 + q) 0 0 = some (wr J0 (a + 58 + q) 0 0) from s57 W hq (j := 0) (by omega), Option.bind_some]
          refine ih (q + 1) u _ (by omega) (by omega) (fun x hx => by rw [wr_ne (by omega), g3 x hx]) (fun p i hp hi => ?_)
          by_cases hpq : p = q ∧ i = 0
          · obtain ⟨rfl, rfl⟩ := hpq
            rw [wr_at, if_pos (by omega)]
            unfold minK
            rw [if_pos ⟨rfl, hb⟩]
            rfl
          · rw [wr_or (by omega), g4 p i hp hi]
            by_cases hlt : p < q
            · rw [if_pos hlt, if_pos (by omega)]
            · rw [if_neg hlt]
              by_cases hpq2 : p = q
              · subst hpq2
                rw [if_pos (by omega)]
                unfold minK
                rw [if_neg (by omega)]
              · rw [if_neg (by omega)]
        · rw [if_pos (show nI (k / 2 ^ q % 2) = 0 by rw [show k / 2 ^ q % 2 = 0 by omega]; rfl)]
          refine ih (q + 1) u _ (by omega) (by omega) g3 (fun p i hp hi => ?_)
          rw [g4 p i hp hi]
          by_cases hlt : p < q
          · rw [if_pos hlt, if_pos (by omega)]
          · rw [if_neg hlt]
            by_cases hpq2 : p = q
            · subst hpq2
              rw [if_pos (by omega)]
              unfold minK
              rw [if_neg (fun h => hb h.2)]
            · rw [if_neg (by omega)]
    obtain ⟨J2, e2, f2, u2⟩ := loop (fX5_worthWithout_b38 s (a + 50)) 5 0 1000 J1 rfl (by omega) (fun _ _ => rfl) (fun p i hp hi => by rw [if_neg (by omega)]; exact u1 p i hp hi)
    have C : CI J2 a (stP I a) (minK (stG I a w1) k) (stM I a w1) := by
      refine ⟨?_, fun q p hq hp => ?_, u2, fun h hh => ?_⟩
      · rw [f2 _ (by omega), f1 _ (by omega), f _ (by omega)]
        exact p1
      · rw [f2 _ (by omega), v1 q p hq hp]
        unfold minK
        rw [if_neg (by omega)]
      · rw [f2 _ (by omega), f1 _ (by omega)]
        exact hm h hh
    have X := (stX R).1.kept (I1 := J2) (fun x hx => by rw [f2 x (by omega), f1 x (by omega), f x (by omega)])
    obtain ⟨J3, e3, f3, -, -⟩ := runC (q := 0) W (minK_GB B k) p2 p3 (Nat.zero_le _) X C CO0
    refine ⟨J3, ?_, fun x hx => by rw [f3 x (by omega), f2 x (by omega), f1 x (by omega), f x hx], fun h hh => ?_⟩
    · unfold fX5_worthWithout
      rw [e1, Option.bind_some]
      refine Eq.trans e2 ?_
      unfold fX5_worthWithout_b38
      exact b2_eq e3 rfl
    · rw [f3 _ (by omega)]
      exact C.2.2.2 h hh
  have step : ∀ k, spS I a (stG I a w1) (stM I a w1) (k + 1) = if pcN (spS I a (stG I a w1) (stM I a w1) k) < pcN (k + 1) ∧ stWorth I a (stG I a w1) (stM I a w1) ≤ stWorth I a (minK (stG I a w1) (k + 1)) (stM I a w1) then k + 1 else spS I a (stG I a w1) (stM I a w1) k := fun _ => rfl
  have cl : ∀ mm k fuel (J : IH), k + 1 + mm = 2 ^ stP I a → mm < fuel → (∀ x, ¬ (a + 51 ≤ x ∧ x ≤ a + 93) → J x = I x) → (∀ h, h < 48 → J (a + 51) h = nI (stM I a w1 h)) → ∃ J', fX6_spare_b12 s a fuel (nI (stWorth I a (stG I a w1) (stM I a w1))) (nI (spS I a (stG I a w1) (stM I a w1) k)) (nI (k + 1)) J = some (nI (spS I a (stG I a w1) (stM I a w1) (2 ^ stP I a - 1)), J') ∧ ∀ x, ¬ (a + 51 ≤ x ∧ x ≤ a + 93) → J' x = I x := by
    intro mm
    induction mm with
    | zero =>
      intro k fuel J g1 g2 f hm
      obtain ⟨u, rfl⟩ : ∃ u, fuel = u + 1 := ⟨fuel - 1, by omega⟩
      refine ⟨J, ?_, f⟩
      rw [fX6_spare_b12, e6_0_0 W, Option.bind_some, i2_1_0 W, Option.bind_some, f _ (by omega), p1, hsh, if_pos (nI_le (by omega) (by omega)), show 2 ^ stP I a - 1 = k by omega]
    | succ mm ih =>
      intro k fuel J g1 g2 f hm
      obtain ⟨u, rfl⟩ : ∃ u, fuel = u + 1 := ⟨fuel - 1, by omega⟩
      have hk32 : k + 1 < 32 := by omega
      have hsp := spS_le (I := I) (a := a) (G := stG I a w1) (m := stM I a w1) k
      have b1 : fJ6_bitCount_0f7a4 (nI (k + 1)) = nI (pcN (k + 1)) := bc_T ⟨k + 1, hk32⟩
      have b2' : fJ6_bitCount_0f7a4 (nI (spS I a (stG I a w1) (stM I a w1) k)) = nI (pcN (spS I a (stG I a w1) (stM I a w1) k)) := bc_T ⟨_, by omega⟩
      have l1 : pcN (k + 1) ≤ 5 := pc_le ⟨k + 1, hk32⟩
      have l2 : pcN (spS I a (stG I a w1) (stM I a w1) k) ≤ 5 := pc_le ⟨_, by omega⟩
      have hWk := stW_le R (G := minK (stG I a w1) (k + 1)) (m := stM I a w1)
      rw [fX6_spare_b12, e6_0_0 W, Option.bind_some, i2_1_0 W, Option.bind_some, f _ (by omega), p1, hsh, if_neg (nI_ge (by omega) (by omega)), b1, b2']
      by_cases hpc : pcN (spS I a (stG I a w1) (stM I a w1) k) < pcN (k + 1)
      · obtain ⟨J1, e1, f1, m1⟩ := without (k + 1) J hk32 f hm
        rw [if_neg (nI_ge hpc (by omega)), e6_0_3 W, Option.bind_some, c5_50 W, Option.bind_some, e1, b2_some, nI_1]
        by_cases hle : stWorth I a (stG I a w1) (stM I a w1) ≤ stWorth I a (minK (stG I a w1) (k + 1)) (stM I a w1)
        · rw [if_neg (nI_nlt hle (by omega))]
          have go := ih (k + 1) u J1 (by omega) (by omega) f1 m1
          rw [step, if_pos ⟨hpc, hle⟩] at go
          exact go
        · rw [if_pos (nI_lt (by omega) (by omega))]
          have go := ih (k + 1) u J1 (by omega) (by omega) f1 m1
          rw [step, if_neg (fun h => hle h.2)] at go
          exact go
      · rw [if_pos (nI_le (by omega) (by omega)), nI_1]
        have go := ih (k + 1) u J (by omega) (by omega) f hm
        rw [step, if_neg (fun h => hpc h.1)] at go
        exact go
  -- the reference: rows but the kinds tried
  have ml : ∀ mm k fuel (J : IH), k + 1 + mm = 2 ^ stP I a → mm < fuel → (∀ x, ¬ scr1 a x → J x = I x) → (∃ G', MI J a (stP I a) G' (stM I a w1) ∧ ∀ i q, ¬ (i = 4 ∧ q < stP I a) → G' i q = stG I a w1 i q) → ∃ J', fX7_spare_b13 s (a + 110) fuel (nI (stWorth I a (stG I a w1) (stM I a w1))) (nI (spS I a (stG I a w1) (stM I a w1) k)) (nI (k + 1)) J = some (nI (spS I a (stG I a w1) (stM I a w1) (2 ^ stP I a - 1)), J') ∧ ∀ x, ¬ scr1 a x → J' x = I x := by
    intro mm
    induction mm with
    | zero =>
      intro k fuel J g1 g2 f hM
      obtain ⟨u, rfl⟩ : ∃ u, fuel = u + 1 := ⟨fuel - 1, by omega⟩
      obtain ⟨G', C, hG⟩ := hM
      refine ⟨J, ?_, f⟩
      rw [fX7_spare_b13, i7_110_0 W, Option.bind_some, C.1, hsh, if_pos (nI_le (by omega) (by omega)), show 2 ^ stP I a - 1 = k by omega]
    | succ mm ih =>
      intro k fuel J g1 g2 f hM
      obtain ⟨u, rfl⟩ : ∃ u, fuel = u + 1 := ⟨fuel - 1, by omega⟩
      obtain ⟨G', C, hG⟩ := hM
      have hk32 : k + 1 < 32 := by omega
      have hsp := spS_le (I := I) (a := a) (G := stG I a w1) (m := stM I a w1) k
      have o1 : fX7_ones (a + 110) (nI (k + 1)) = some (nI (pcN (k + 1))) := (ones_this _ _ _ _).trans (on_T ⟨k + 1, hk32⟩)
      have o2 : fX7_ones (a + 110) (nI (spS I a (stG I a w1) (stM I a w1) k)) = some (nI (pcN (spS I a (stG I a w1) (stM I a w1) k))) := (ones_this _ _ _ _).trans (on_T ⟨_, by omega⟩)
      have l1 : pcN (k + 1) ≤ 5 := pc_le ⟨k + 1, hk32⟩
      have l2 : pcN (spS I a (stG I a w1) (stM I a w1) k) ≤ 5 := pc_le ⟨_, by omega⟩
      have hWk := stW_le R (G := minK (stG I a w1) (k + 1)) (m := stM I a w1)
      rw [fX7_spare_b13, i7_110_0 W, Option.bind_some, C.1, hsh, if_neg (nI_ge (by omega) (by omega)), o1, Option.bind_some, o2, Option.bind_some]
      by_cases hpc : pcN (spS I a (stG I a w1) (stM I a w1) k) < pcN (k + 1)
      · rw [if_pos (nI_lt hpc (by omega))]
        have loop : ∀ (K : Int32 → Int32 → Int32 → IH → Option (Int32 × IH)) (z1 z2 : Int32) mm2 q fuel2 (J0 : IH) (G2 : Nat → Nat → Nat), q + mm2 = stP I a → mm2 < fuel2 → (∀ x, ¬ scr1 a x → J0 x = I x) → MI J0 a (stP I a) G2 (stM I a w1) → (∀ i p, ¬ (i = 4 ∧ p < stP I a) → G2 i p = stG I a w1 i p) → (∀ p, p < q → G2 4 p = minK (stG I a w1) (k + 1) 4 p) → ∃ J', fX7_spare_b42 s (a + 110) K fuel2 z1 z2 (nI (k + 1)) (nI q) J0 = K z1 z2 (nI (k + 1)) J' ∧ (∀ x, ¬ scr1 a x → J' x = I x) ∧ MI J' a (stP I a) (minK (stG I a w1) (k + 1)) (stM I a w1) := by
          intro K z1 z2 mm2
          induction mm2 with
          | zero =>
            intro q fuel2 J0 G2 t1 t2 t3 t4 t5 t6
            obtain ⟨u2, rfl⟩ : ∃ u, fuel2 = u + 1 := ⟨fuel2 - 1, by omega⟩
            obtain rfl : q = stP I a := t1
            refine ⟨J0, ?_, t3, ?_⟩
            · rw [fX7_spare_b42, i7_110_0 W, Option.bind_some, t4.1, if_pos (nI_le (Nat.le_refl _) (by omega))]
            · have hall : ∀ i p, p < 5 → G2 i p = minK (stG I a w1) (k + 1) i p := fun i p hp => by
                by_cases hi : i = 4 ∧ p < stP I a
                · obtain ⟨rfl, hp2⟩ := hi
                  exact t6 p hp2
                · rw [t5 i p hi]
                  unfold minK
                  rw [if_neg]
                  intro h9
                  have := bit_hi ⟨stP I a, by omega⟩ ⟨k + 1, hk32⟩ ⟨p, hp⟩ (show k + 1 < 2 ^ stP I a by omega) (show stP I a ≤ p by omega)
                  replace this : (k + 1) / 2 ^ p % 2 = 0 := this
                  omega
              obtain ⟨c1, c2, c3⟩ := t4
              refine ⟨c1, c2, fun p hp => ?_⟩
              rw [← hall 0 p hp, ← hall 1 p hp, ← hall 2 p hp, ← hall 3 p hp, ← hall 4 p hp, ← hall 5 p hp, ← hall 6 p hp]
              exact c3 p hp
          | succ mm2 ih2 =>
            intro q fuel2 J0 G2 t1 t2 t3 t4 t5 t6
            obtain ⟨u2, rfl⟩ : ∃ u, fuel2 = u + 1 := ⟨fuel2 - 1, by omega⟩
            have hq : q < 5 := by omega
            have hb := has_nI (S := k + 1) (q := q) (by omega) (by omega)
            have wrk : ∀ v, v = minK (stG I a w1) (k + 1) 4 q → MI (wr J0 (a + 131) q (nI v)) a (stP I a) (updG G2 4 q v) (stM I a w1) := fun v hv => by
              obtain ⟨c1, c2, c3⟩ := t4
              refine ⟨by rw [wr_ne (by omega)]; exact c1, fun x hx => by rw [wr_ne (by omega)]; exact c2 x hx, fun p hp => ?_⟩
              obtain ⟨m0, m1, m2, m3, m4, m5, m6⟩ := c3 p hp
              rw [wr_ne (x := a + 131) (y := a + 127) (by omega), wr_ne (x := a + 131) (y := a + 128) (by omega), wr_ne (x := a + 131) (y := a + 129) (by omega), wr_ne (x := a + 131) (y := a + 130) (by omega), wr_ne (x := a + 131) (y := a + 113) (by omega), wr_ne (x := a + 131) (y := a + 132) (by omega)]
              refine ⟨by rw [updG_ne (by omega)]; exact m0, by rw [updG_ne (by omega)]; exact m1, by rw [updG_ne (by omega)]; exact m2, by rw [updG_ne (by omega)]; exact m3, ?_, by rw [updG_ne (by omega)]; exact m5, by rw [updG_ne (by omega)]; exact m6⟩
              by_cases hpq : p = q
              · subst hpq
                rw [wr_at, updG_eq]
              · rw [wr_nj hpq, updG_ne (fun h => hpq h.2)]
                exact m4
            have go : ∀ v, v = minK (stG I a w1) (k + 1) 4 q → ∃ J', fX7_spare_b42 s (a + 110) K u2 z1 z2 (nI (k + 1)) (nI (q + 1)) (wr J0 (a + 131) q (nI v)) = K z1 z2 (nI (k + 1)) J' ∧ (∀ x, ¬ scr1 a x → J' x = I x) ∧ MI J' a (stP I a) (minK (stG I a w1) (k + 1)) (stM I a w1) := fun v hv =>
              ih2 (q + 1) u2 _ _ (by omega) (by omega) (fun x hx => by
                have hx' := hx
                unfold scr1 at hx'
                rw [wr_ne (by omega), t3 x hx]) (wrk v hv) (fun i p h => by
                rw [updG_ne (by omega)]
                exact t5 i p h) (fun p hp => by
                by_cases hpq : p = q
                · subst hpq
                  rw [updG_eq]
                  exact hv
                · rw [updG_ne (fun h => hpq h.2)]
                  exact t6 p (by omega))
            rw [fX7_spare_b42, i7_110_0 W, Option.bind_some, t4.1, if_neg (nI_ge (by omega) (by omega)), e7_110_32 W, Option.bind_some, hb, nI_1]
            by_cases hbit : (k + 1) / 2 ^ q % 2 = 1
            · rw [if_pos hbit, if_neg (by decide), show sI s J0 (a + 131) (nI q) 0 = some (wr J0 (a + 131) q (nI 0)) from s131 W hq, Option.bind_some]
              exact go 0 (by unfold minK; rw [if_pos ⟨rfl, hbit⟩])
            · rw [if_neg hbit, if_pos rfl, e7_110_4 W, Option.bind_some, r112 W hq, Option.bind_some, t3 _ (by unfold scr1; omega), show I (a + 112) q = nI (stG I a w1 4 q) from (R.2.2.1.2.2.2.1 q hq).1.trans ((stG_y R).2 q 0 hq (by omega)), s131 W hq, Option.bind_some]
              exact go _ (by unfold minK; rw [if_neg (fun h => hbit h.2)])
        obtain ⟨J1, e1, f1, C1'⟩ := loop (fX7_spare_b85 s (a + 110) (fX7_spare_b13 s (a + 110) u)) (nI (stWorth I a (stG I a w1) (stM I a w1))) (nI (spS I a (stG I a w1) (stM I a w1) k)) (stP I a) 0 1000 J G' (by omega) (by omega) f C hG (fun p hp => absurd hp (by omega))
        have X1 := (stX R).2.kept (I1 := J1) (fun x hx => f1 x (by unfold scr1; omega))
        obtain ⟨J2, e2, f2, -, -⟩ := runM W (minK_GB B (k + 1)) p2 p3 X1 C1'
        have fJ2 : ∀ x, ¬ scr1 a x → J2 x = I x := fun x hx => by
          have hx' := hx
          unfold scr1 at hx'
          rw [f2 x (by unfold goCells; omega), f1 x hx]
        have M2' : ∃ G', MI J2 a (stP I a) G' (stM I a w1) ∧ ∀ i q, ¬ (i = 4 ∧ q < stP I a) → G' i q = stG I a w1 i q := ⟨fun i q => if i = 4 ∧ q < stP I a then minK (stG I a w1) (k + 1) i q else stG I a w1 i q, by
          have C2 := C1'.kept (I1 := J2) (fun x hx => f2 x (by unfold goCells; omega))
          obtain ⟨c1, c2, c3⟩ := C2
          have hall : ∀ i p, p < 5 → (if i = 4 ∧ p < stP I a then minK (stG I a w1) (k + 1) i p else stG I a w1 i p) = minK (stG I a w1) (k + 1) i p := fun i p hp => by
            by_cases hi : i = 4 ∧ p < stP I a
            · rw [if_pos hi]
            · rw [if_neg hi]
              unfold minK
              rw [if_neg]
              intro h9
              have := bit_hi ⟨stP I a, by omega⟩ ⟨k + 1, hk32⟩ ⟨p, hp⟩ (show k + 1 < 2 ^ stP I a by omega) (show stP I a ≤ p by omega)
              replace this : (k + 1) / 2 ^ p % 2 = 0 := this
              omega
          refine ⟨c1, c2, fun p hp => ?_⟩
          show J2 (a + 127) p = nI (if 0 = 4 ∧ p < stP I a then _ else _) ∧ J2 (a + 128) p = nI (if 1 = 4 ∧ p < stP I a then _ else _) ∧ J2 (a + 129) p = nI (if 2 = 4 ∧ p < stP I a then _ else _) ∧ J2 (a + 130) p = nI (if 3 = 4 ∧ p < stP I a then _ else _) ∧ J2 (a + 131) p = nI (if 4 = 4 ∧ p < stP I a then _ else _) ∧ J2 (a + 113) p = nI (if 5 = 4 ∧ p < stP I a then _ else _) ∧ J2 (a + 132) p = nI (if 6 = 4 ∧ p < stP I a then _ else _)
          rw [hall 0 p hp, hall 1 p hp, hall 2 p hp, hall 3 p hp, hall 4 p hp, hall 5 p hp, hall 6 p hp]
          exact c3 p hp, fun i q h => if_neg h⟩
        rw [show fX7_spare_b42 s (a + 110) (fX7_spare_b85 s (a + 110) (fX7_spare_b13 s (a + 110) u)) 1000 (nI (stWorth I a (stG I a w1) (stM I a w1))) (nI (spS I a (stG I a w1) (stM I a w1) k)) (nI (k + 1)) 0 J = _ from e1]
        unfold fX7_spare_b85
        rw [e2, b2_some, nI_1]
        show ∃ J', (if nI (stWorth I a (minK (stG I a w1) (k + 1)) (stM I a w1)) < nI (stWorth I a (stG I a w1) (stM I a w1)) then _ else _) = _ ∧ _
        by_cases hle : stWorth I a (stG I a w1) (stM I a w1) ≤ stWorth I a (minK (stG I a w1) (k + 1)) (stM I a w1)
        · rw [if_neg (nI_nlt hle (by omega))]
          have go := ih (k + 1) u J2 (by omega) (by omega) fJ2 M2'
          rw [step, if_pos ⟨hpc, hle⟩] at go
          exact go
        · rw [if_pos (nI_lt (by omega) (by omega))]
          have go := ih (k + 1) u J2 (by omega) (by omega) fJ2 M2'
          rw [step, if_neg (fun h => hle h.2)] at go
          exact go
      · rw [if_neg (nI_nlt (by omega) (by omega)), nI_1]
        have go := ih (k + 1) u J (by omega) (by omega) f ⟨G', C, hG⟩
        rw [step, if_neg (fun h => hpc h.1)] at go
        exact go
  obtain ⟨J1, e1, f1, C1', -, -⟩ := settleY R I (fun _ _ => rfl)
  obtain ⟨J2, e2, f2⟩ := cl (2 ^ stP I a - 1) 0 1000 J1 (by omega) (by omega) f1 C1'.2.2.2
  obtain ⟨J3, e3, f3, C3', X3⟩ := asIsY R J2 (scrC f2)
  obtain ⟨J4, e4, f4, -, -⟩ := runM W B p2 p3 X3 C3'
  obtain ⟨J5, e5, f5⟩ := ml (2 ^ stP I a - 1) 0 1000 J4 (by omega) (by omega) (fun x hx => by
    have hx' := hx
    unfold scr1 at hx'
    rw [f4 x (by unfold goCells; omega), f3 x (by omega), f2 x (by omega)]) ⟨stG I a w1, C3'.kept (fun x hx => f4 x (by unfold goCells; omega)), fun _ _ _ => rfl⟩
  refine ⟨nI (spS I a (stG I a w1) (stM I a w1) (2 ^ stP I a - 1)), J2, J5, ?_, ?_, R.kept (fun x _ hx => f5 x hx)⟩
  · unfold fX6_spare
    refine bs_eq (e6_0_3 W) ?_
    refine bs_eq (c5_50 W) ?_
    exact b2_eq e1 e2
  · show fX7_spare s (a + 110) J2 = _
    unfold fX7_spare
    refine bs_eq e3 ?_
    exact b2_eq e4 e5
end SPARE
