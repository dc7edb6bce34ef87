/-! ROW OF J: new int[a][c] -/
theorem mr_outer (c : ClassId) (N h0 : Nat) : ∀ i : Nat, Jvm.Free.Multi.outerC c N h0 i = arrV c N (fun j => va_rf (if j < i then some (h0 + 1 + j) else none))
  | 0 => by
    show ({ cls := c, slots := Array.replicate N .null, vm := .none } : Cell) = _
    rw [arrV_new]
    refine congrArg (arrV c N) (funext fun j => ?_)
    simp [va_rf]
  | i + 1 => by
    show (Jvm.Free.Multi.outerC c N h0 i).setSlot i (.ref (h0 + 1 + i)) = _
    rw [mr_outer c N h0 i, arrV_store]
    refine congrArg (arrV c N) (funext fun j => ?_)
    by_cases e : j = i
    · subst e
      simp [updV, va_rf]
    · by_cases h : j < i
      · simp [updV, e, h, Nat.lt_succ_of_lt h]
      · simp [updV, e, h, show ¬ j < i + 1 by omega]
section JM
variable {G : GT} {X : XT} {Q : State → Prop} {nL : Nat} {sh : SH} {I : IH} {L : LH} {n e es pc : Nat} {ls : List (Nat × Value)} {st : List Value}
variable {own : String} {cc : ByteArray} {d : Nat} {ret : Option FieldType} {nm : String}
theorem j_multi (F : MF G X own cc nL d ret nm) {ix e1 es1 : Nat} {a0 c0 : Int32} {sh' : SH} {I' : IH} (hw : Cond.classLink own ix ("[" ++ (FieldType.array .int).toString) ∈ lw_good) (hw2 : Cond.arrayClass .int ∈ lw_good) (hg : nM sh I n a0 c0 = some (sh', I')) (he : e = 1 + a0.toNatClampNeg + e1) (hes : es = a0.toNatClampNeg + a0.toNatClampNeg * c0.toNatClampNeg + es1) (hd : decode cc pc = .ok (.multianewarray ix 2, 4)) (kk : J G X Q nL sh' I' L (n + (1 + a0.toNatClampNeg)) e1 es1 (pc + 4) ls (.ref n :: st)) : J G X Q nL sh I L n e es pc ls (.int c0 :: .int a0 :: st) := by
  obtain ⟨p, l, e', R, s, m, args, below, meth, c⟩ := X
  obtain ⟨hx, hb, hml, hown, hts, hr, hlocks, hnm, hK, hq0, hq1, hRf, hRl⟩ := F
  intro H locs cells slots LS h1 h2 h3 h4 h5
  obtain ⟨⟨⟨g1, g2⟩, g3, g4⟩, g5⟩ := ite_obt hg
  cases g5
  intro T hT Xs
  obtain ⟨vm₁, cA, comp, -, fA, fC, hO, -, X', step⟩ := Xs.multianewarray2F hx hown (hts _ hw) (show (Cond.arrayOver (.array .int)).before args s = true from hK.2.2.1) (hts _ hw2) (g := F0 m pc LS (.int c0 :: .int a0 :: st)) rfl (by rw [hb]; exact hd) rfl g1 g3 (by omega) (by simp [componentBytes]; omega) (by omega) rfl rfl (by omega) (by omega)
  generalize hF : Jvm.Free.Multi.fill (T.setVm vm₁) cA comp a0.toNatClampNeg c0.toNatClampNeg (defaultValue .int) a0.toNatClampNeg = FF at X' step
  have hTh : (T.setVm vm₁).heap = H := hT
  have h9 : H.size = n := h3.1
  obtain ⟨f1, f2, -, -⟩ := Jvm.Free.Multi.fill_facts (T.setVm vm₁) cA comp a0.toNatClampNeg c0.toNatClampNeg (defaultValue .int) a0.toNatClampNeg
  rw [hF, hTh] at f1 f2
  have hold : ∀ x : Nat, x < H.size → FF.heap[x]? = H[x]? := fun x hx => by
    have := Jvm.Free.Multi.fill_old (T.setVm vm₁) cA comp a0.toNatClampNeg c0.toNatClampNeg (defaultValue .int) (a := x) (by rw [hTh]; exact hx) a0.toNatClampNeg
    rw [hF, hTh] at this
    exact this
  have hrow : ∀ j : Nat, j < a0.toNatClampNeg → FF.heap[H.size + 1 + j]? = some (arrV comp c0.toNatClampNeg (fun _ => .int 0)) := fun j hj => by
    have := Jvm.Free.Multi.fill_inner (T.setVm vm₁) cA comp a0.toNatClampNeg c0.toNatClampNeg (defaultValue .int) a0.toNatClampNeg j hj
    rw [hF, hTh] at this
    rw [this]
    exact congrArg some (arrV_new comp c0.toNatClampNeg (.int 0))
  rw [mr_outer] at f2
  have hcA : cA = G.2.2.1 4 := Option.some.inj (fA.symm.trans (hK.1.2 4 (by omega)).2)
  have hco : comp = G.2.2.1 0 := Option.some.inj (fC.symm.trans (hK.1.2 0 (by omega)).2)
  subst hcA
  subst hco
  have hH : HPh G (nMS sh n a0.toNatClampNeg c0.toNatClampNeg) (nMI I n a0.toNatClampNeg) L (n + (1 + a0.toNatClampNeg)) FF.heap := by
    have h8 := h3
    obtain ⟨k1, k2, k3, k4⟩ := h3
    refine ⟨by omega, by omega, fun q hq => by rw [hold q (by omega)]; exact k3 q hq, fun b c' hb => ?_⟩
    unfold nMS at hb
    by_cases e : b = n
    · subst e
      rw [if_pos rfl] at hb
      cases hb
      refine ⟨k2, ?_⟩
      show FF.heap[b]? = some _
      rw [h9] at f2
      rw [f2]
      rfl
    · rw [if_neg e] at hb
      by_cases e2 : n < b ∧ b ≤ n + a0.toNatClampNeg
      · rw [if_pos e2] at hb
        cases hb
        refine ⟨by omega, ?_⟩
        show FF.heap[b]? = some _
        have hr9 := hrow (b - (H.size + 1)) (by omega)
        rw [show H.size + 1 + (b - (H.size + 1)) = b by omega] at hr9
        rw [hr9]
        unfold nMI
        rw [if_pos e2]
        rfl
      · rw [if_neg e2] at hb
        have hI : nMI I n a0.toNatClampNeg b = I b := if_neg e2
        rw [hI]
        exact ⟨(k4 b c' hb).1, (k4 b c' hb).2.kept (hold b (by rw [h9]; exact h8.lt hb))⟩
  obtain ⟨t, a1, b1⟩ := kk FF.heap locs (cells + 1 + a0.toNatClampNeg) (slots + a0.toNatClampNeg + a0.toNatClampNeg * c0.toNatClampNeg) LS (by omega) (by omega) hH (h4.grow (by omega) hold) h5 FF rfl X'
  refine ⟨t, step t ?_, b1⟩
  have e : T.heap.size = n := by rw [hT, h9]
  rw [e]
  exact a1
theorem j_aast (F : MF G X own cc nL d ret nm) {a r0 : Nat} {i : Int32} {sh' : SH} (hg : sR sh a i r0 = some sh') (hd : decode cc pc = .ok (.aastore, 1)) (kk : J G X Q nL sh' I L n e es (pc + 1) ls st) : J G X Q nL sh I L n e es pc ls (.ref r0 :: .int i :: .ref a :: st) := by
  obtain ⟨p, l, e', R, s, m, args, below, meth, c⟩ := X
  obtain ⟨hx, hb, hml, hown, hts, hr, hlocks, hnm, hK, hq0, hq1, hRf, hRl⟩ := F
  intro H locs cells slots LS h1 h2 h3 h4 h5
  obtain ⟨N, rf, fk, g1, g2, g3, rfl⟩ := sR_obt hg
  have hc := (h3.2.2.2 a _ g1).2
  have hlt : i.toNatClampNeg < N := Nat.not_le.mp fun q => g3 (Or.inr q)
  have h0 : ¬ i < 0 := fun q => g3 (Or.inl q)
  obtain ⟨r, r1, cellV, q1, q2, q3, -⟩ := (h3.2.2.2 r0 _ g2).2
  have hcls := (hK.1.1 3 r r1).2
  obtain ⟨kA, comp, k1, k2, k3, -⟩ := (hK.1.2 3 (by omega)).2
  have hr1 : r.1 = "MeltHours$Tape" := by cases r1; rfl
  rw [hr1] at hcls
  have hcomp : comp = G.1 3 := Option.some.inj (k3.symm.trans hcls.1)
  subst hcomp
  obtain ⟨kC, hkC, -⟩ := hcls.2
  refine W.aast hx hb hc (fun q h => by cases h) (fun h => by cases h) k1 k2 rfl hkC ⟨h0, by show _ < (arrV _ _ _).slots.size; rw [arrV_size]; exact hlt⟩ q1 (fun q h => by rw [q3] at h; cases h) (by rw [q2]; exact hkC) (by rw [q2]; exact va_assign hcls) rfl rfl hd fun H1 e1 e2 e3 => ?_
  refine kk H1 _ cells slots LS h1 h2 (h3.putS g1 e2 e3 ?_) (h4.put e2 e3 (h3.2.2.2 a _ g1).1) h5
  show H1[a]? = some _
  rw [e1, arrV_store, av_putR]
end JM
