/-! the law's own rows: its script -/
def scr (xs : Nat → Int32) (LN : Nat) (i : Int32) : Option Int32 := if ¬ (i < 0 ∨ LN ≤ i.toNatClampNeg) then some (xs i.toNatClampNeg) else none
def SCR (G : GT) (X : XT) (bs LN : Nat) (xs : Nat → Int32) : Prop := match X with
  | (_, _, _, _, s, _, _, _, _, _) => va_X bs LN xs s (gH0 G)
section JL
variable {G : GT} {X : XT} {Q : State → Prop} {nL : Nat} {sh : SH} {I : IH} {L : LH} {n e es pc : Nat} {ls : List (Nat × Value)} {st : List Value}
variable {own : String} {cc : ByteArray} {d : Nat} {ret : Option FieldType} {nm : String}
theorem j_sld (F : MF G X own cc nL d ret nm) {bs LN : Nat} {xs : Nat → Int32} {i x : Int32} (hsc : SCR G X bs LN xs) (hg : scr xs LN i = some x) (hd : decode cc pc = .ok (.iaload, 1)) (kk : J G X Q nL sh I L n e es (pc + 1) ls (.int x :: st)) : J G X Q nL sh I L n e es pc ls (.int i :: .ref bs :: st) := by
  obtain ⟨p, l, e', R, s, m, args, below, meth, c⟩ := X
  obtain ⟨hx, hb, hml, hown, hts, hr, hlocks, hnm, hK, hq0, hq1, hRf, hRl⟩ := F
  intro H locs cells slots LS h1 h2 h3 h4 h5
  obtain ⟨g1, rfl⟩ := ite_obt hg
  obtain ⟨cell, z1, z2, z3, z4, z5⟩ := hsc
  have hlt : i.toNatClampNeg < LN := Nat.not_le.mp fun q => g1 (Or.inr q)
  exact W.iald (v := .int (xs i.toNatClampNeg)) hx hb (by rw [h3.2.2.1 _ (Array.getElem?_eq_some_iff.mp z1).1]; exact z1) z2 z3 (by rw [z4]; exact g1) (z5 _ hlt) rfl rfl hd (kk H locs cells slots LS h1 h2 h3 h4 h5)
theorem j_slen (F : MF G X own cc nL d ret nm) {bs LN : Nat} {xs : Nat → Int32} (hsc : SCR G X bs LN xs) (hd : decode cc pc = .ok (.arraylength, 1)) (kk : J G X Q nL sh I L n e es (pc + 1) ls (.int (Int32.ofNat LN) :: st)) : J G X Q nL sh I L n e es pc ls (.ref bs :: st) := by
  obtain ⟨p, l, e', R, s, m, args, below, meth, c⟩ := X
  obtain ⟨hx, hb, hml, hown, hts, hr, hlocks, hnm, hK, hq0, hq1, hRf, hRl⟩ := F
  intro H locs cells slots LS h1 h2 h3 h4 h5
  obtain ⟨cell, z1, z2, z3, z4, z5⟩ := hsc
  exact W.alen (n := Int32.ofNat LN) hx hb (by rw [h3.2.2.1 _ (Array.getElem?_eq_some_iff.mp z1).1]; exact z1) z2 (by rw [z4] <;> rfl) rfl rfl hd (kk H locs cells slots LS h1 h2 h3 h4 h5)
end JL
