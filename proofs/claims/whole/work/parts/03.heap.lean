/-! ROWS OF J: fields, arrays, new cells, calls, returns -/
def upS (sh : SH) (a : Nat) (c : shC) : SH := fun b => if b = a then some c else sh b
def upR {α : Type} (I : Nat → Nat → α) (a : Nat) (f : Nat → α) : Nat → Nat → α := fun b => if b = a then f else I b
theorem upS_same {sh : SH} {a : Nat} {c : shC} : upS sh a c a = some c := if_pos rfl
theorem upR_same {α : Type} {I : Nat → Nat → α} {a : Nat} {f : Nat → α} : upR I a f a = f := if_pos rfl
theorem upS_ne {sh : SH} {a b : Nat} {c : shC} (h : b ≠ a) : upS sh a c b = sh b := if_neg h
theorem upR_ne {α : Type} {I : Nat → Nat → α} {a b : Nat} {f : Nat → α} (h : b ≠ a) : upR I a f b = I b := if_neg h
/-- an int field's value -/
def gI (sh : SH) (I : IH) (ci a k : Nat) : Option Int32 := match sh a with
  | some (.inl (c, fk)) => if c = ci ∧ fk k = none then some (I a k) else none
  | _ => none
/-- a field's reference, not null -/
def gR (sh : SH) (ci a k : Nat) : Option Nat := match sh a with
  | some (.inl (c, fk)) => if c = ci then (fk k).join else none
  | _ => none
def pI (sh : SH) (I : IH) (ci a k : Nat) (v : Int32) : Option IH := match sh a with
  | some (.inl (c, fk)) => if c = ci ∧ fk k = none then some (upR I a (upd (I a) k v)) else none
  | _ => none
def pR (sh : SH) (ci a k r : Nat) : Option SH := match sh a with
  | some (.inl (c, fk)) => if c = ci ∧ (fk k).isSome = true then some (upS sh a (.inl (ci, va_up fk k (some (some r))))) else none
  | _ => none
/-- an array's int -/
def aI (sh : SH) (I : IH) (t a : Nat) (i : Int32) : Option Int32 := match sh a with
  | some (.inr (t', n, _)) => if t' = t ∧ ¬ (i < 0 ∨ n ≤ i.toNatClampNeg) then some (I a i.toNatClampNeg) else none
  | _ => none
def aJ (sh : SH) (L : LH) (a : Nat) (i : Int32) : Option Int64 := match sh a with
  | some (.inr (t', n, _)) => if t' = 2 ∧ ¬ (i < 0 ∨ n ≤ i.toNatClampNeg) then some (L a i.toNatClampNeg) else none
  | _ => none
def aR (sh : SH) (t a : Nat) (i : Int32) : Option Nat := match sh a with
  | some (.inr (t', n, rf)) => if t' = t ∧ ¬ (i < 0 ∨ n ≤ i.toNatClampNeg) then rf i.toNatClampNeg else none
  | _ => none
def sI (sh : SH) (I : IH) (a : Nat) (i v : Int32) : Option IH := match sh a with
  | some (.inr (t', n, _)) => if t' = 0 ∧ ¬ (i < 0 ∨ n ≤ i.toNatClampNeg) then some (upR I a (upd (I a) i.toNatClampNeg v)) else none
  | _ => none
def sZ (sh : SH) (I : IH) (a : Nat) (i v : Int32) : Option IH := match sh a with
  | some (.inr (t', n, _)) => if t' = 1 ∧ ¬ (i < 0 ∨ n ≤ i.toNatClampNeg) then some (upR I a (upd (I a) i.toNatClampNeg (vp_nar .boolean v))) else none
  | _ => none
def sJ (sh : SH) (L : LH) (a : Nat) (i : Int32) (v : Int64) : Option LH := match sh a with
  | some (.inr (t', n, _)) => if t' = 2 ∧ ¬ (i < 0 ∨ n ≤ i.toNatClampNeg) then some (upR L a (vp_updL (L a) i.toNatClampNeg v)) else none
  | _ => none
def sR (sh : SH) (a : Nat) (i : Int32) (r : Nat) : Option SH := match sh a, sh r with
  | some (.inr (t', n, rf)), some (.inl (3, _)) => if t' = 3 ∧ ¬ (i < 0 ∨ n ≤ i.toNatClampNeg) then some (upS sh a (.inr (3, n, va_up rf i.toNatClampNeg (some r)))) else none
  | _, _ => none
def aL (sh : SH) (a : Nat) : Option Int32 := match sh a with
  | some (.inr (t', n, _)) => if t' < 5 then some (Int32.ofNat n) else none
  | _ => none
/-- the object is of a class -/
def isO (sh : SH) (ci a : Nat) : Prop := ∃ fk, sh a = some (.inl (ci, fk))
def ck (sh : SH) (ci a : Nat) : Option Unit := match sh a with
  | some (.inl (c, _)) => if c = ci then some () else none
  | _ => none
/-- a boolean that is one -/
def bz (v : Int32) : Option Int32 := if v = 0 ∨ v = 1 then some v else none
def dvI (x y : Int32) : Option Int32 := if y = 0 then none else some (x / y)
def rmI (x y : Int32) : Option Int32 := if y = 0 then none else some (x - x / y * y)
def dvL (x y : Int64) : Option Int64 := if y = 0 then none else some (x / y)
def rmL (x y : Int64) : Option Int64 := if y = 0 then none else some (x - x / y * y)
/-- a reference that may be null -/
def oc {β : Type} (r : Option Nat) (A : β) (B : Nat → β) : β := match r with
  | none => A
  | some a => B a
theorem oc_obt {β : Type} {r : Option Nat} {A : β} {B : Nat → β} {z : β} (h : oc r A B = z) : (r = none ∧ A = z) ∨ ∃ a, r = some a ∧ B a = z := by
  cases r with
  | none => exact Or.inl ⟨rfl, h⟩
  | some a => exact Or.inr ⟨a, rfl, h⟩
theorem ob {α β : Type} {o : Option α} {f : α → Option β} {r : β} (h : o.bind f = some r) : ∃ x, o = some x ∧ f x = some r := Option.bind_eq_some_iff.mp h
theorem iz_t {c : Prop} {inst : Decidable c} {α : Type} {a b z : α} (hc : c) (h : ite c a b = z) : a = z := by rw [if_pos hc] at h; exact h
theorem iz_f {c : Prop} {inst : Decidable c} {α : Type} {a b z : α} (hc : ¬ c) (h : ite c a b = z) : b = z := by rw [if_neg hc] at h; exact h
theorem gI_obt {sh : SH} {I : IH} {ci a k : Nat} {x : Int32} (h : gI sh I ci a k = some x) : ∃ fk, sh a = some (.inl (ci, fk)) ∧ fk k = none ∧ I a k = x := by
  unfold gI at h
  split at h
  · next c fk hs =>
    split at h
    · next hc =>
      obtain ⟨rfl, h2⟩ := hc
      exact ⟨fk, hs, h2, Option.some.inj h⟩
    · cases h
  · cases h
theorem gR_obt {sh : SH} {ci a k r : Nat} (h : gR sh ci a k = some r) : ∃ fk, sh a = some (.inl (ci, fk)) ∧ fk k = some (some r) := by
  unfold gR at h
  split at h
  · next c fk hs =>
    split at h
    · next hc =>
      subst hc
      refine ⟨fk, hs, ?_⟩
      cases hf : fk k with
      | none => rw [hf] at h; cases h
      | some z =>
        rw [hf] at h
        cases z with
        | none => cases h
        | some w => cases h; rfl
    · cases h
  · cases h
theorem pI_obt {sh : SH} {I I' : IH} {ci a k : Nat} {v : Int32} (h : pI sh I ci a k v = some I') : ∃ fk, sh a = some (.inl (ci, fk)) ∧ fk k = none ∧ I' = upR I a (upd (I a) k v) := by
  unfold pI at h
  split at h
  · next c fk hs =>
    split at h
    · next hc =>
      obtain ⟨rfl, h2⟩ := hc
      exact ⟨fk, hs, h2, (Option.some.inj h).symm⟩
    · cases h
  · cases h
theorem pR_obt {sh sh' : SH} {ci a k r : Nat} (h : pR sh ci a k r = some sh') : ∃ fk, sh a = some (.inl (ci, fk)) ∧ (fk k).isSome = true ∧ sh' = upS sh a (.inl (ci, va_up fk k (some (some r)))) := by
  unfold pR at h
  split at h
  · next c fk hs =>
    split at h
    · next hc =>
      obtain ⟨rfl, h2⟩ := hc
      exact ⟨fk, hs, h2, (Option.some.inj h).symm⟩
    · cases h
  · cases h
theorem aI_obt {sh : SH} {I : IH} {t a : Nat} {i x : Int32} (h : aI sh I t a i = some x) : ∃ n rf, sh a = some (.inr (t, n, rf)) ∧ vp_in i n ∧ I a i.toNatClampNeg = x := by
  unfold aI at h
  split at h
  · next t' n rf hs =>
    split at h
    · next hc =>
      obtain ⟨rfl, h2⟩ := hc
      exact ⟨n, rf, hs, h2, Option.some.inj h⟩
    · cases h
  · cases h
theorem aJ_obt {sh : SH} {L : LH} {a : Nat} {i : Int32} {x : Int64} (h : aJ sh L a i = some x) : ∃ n rf, sh a = some (.inr (2, n, rf)) ∧ vp_in i n ∧ L a i.toNatClampNeg = x := by
  unfold aJ at h
  split at h
  · next t' n rf hs =>
    split at h
    · next hc =>
      obtain ⟨rfl, h2⟩ := hc
      exact ⟨n, rf, hs, h2, Option.some.inj h⟩
    · cases h
  · cases h
theorem aR_obt {sh : SH} {t a : Nat} {i : Int32} {r : Nat} (h : aR sh t a i = some r) : ∃ n rf, sh a = some (.inr (t, n, rf)) ∧ vp_in i n ∧ rf i.toNatClampNeg = some r := by
  unfold aR at h
  split at h
  · next t' n rf hs =>
    split at h
    · next hc =>
      obtain ⟨rfl, h2⟩ := hc
      exact ⟨n, rf, hs, h2, h⟩
    · cases h
  · cases h
theorem sI_obt {sh : SH} {I I' : IH} {a : Nat} {i v : Int32} (h : sI sh I a i v = some I') : ∃ n rf, sh a = some (.inr (0, n, rf)) ∧ vp_in i n ∧ I' = upR I a (upd (I a) i.toNatClampNeg v) := by
  unfold sI at h
  split at h
  · next t' n rf hs =>
    split at h
    · next hc =>
      obtain ⟨rfl, h2⟩ := hc
      exact ⟨n, rf, hs, h2, (Option.some.inj h).symm⟩
    · cases h
  · cases h
theorem sZ_obt {sh : SH} {I I' : IH} {a : Nat} {i v : Int32} (h : sZ sh I a i v = some I') : ∃ n rf, sh a = some (.inr (1, n, rf)) ∧ vp_in i n ∧ I' = upR I a (upd (I a) i.toNatClampNeg (vp_nar .boolean v)) := by
  unfold sZ at h
  split at h
  · next t' n rf hs =>
    split at h
    · next hc =>
      obtain ⟨rfl, h2⟩ := hc
      exact ⟨n, rf, hs, h2, (Option.some.inj h).symm⟩
    · cases h
  · cases h
theorem sJ_obt {sh : SH} {L L' : LH} {a : Nat} {i : Int32} {v : Int64} (h : sJ sh L a i v = some L') : ∃ n rf, sh a = some (.inr (2, n, rf)) ∧ vp_in i n ∧ L' = upR L a (vp_updL (L a) i.toNatClampNeg v) := by
  unfold sJ at h
  split at h
  · next t' n rf hs =>
    split at h
    · next hc =>
      obtain ⟨rfl, h2⟩ := hc
      exact ⟨n, rf, hs, h2, (Option.some.inj h).symm⟩
    · cases h
  · cases h
theorem sR_obt {sh sh' : SH} {a : Nat} {i : Int32} {r : Nat} (h : sR sh a i r = some sh') : ∃ n rf fk, sh a = some (.inr (3, n, rf)) ∧ sh r = some (.inl (3, fk)) ∧ vp_in i n ∧ sh' = upS sh a (.inr (3, n, va_up rf i.toNatClampNeg (some r))) := by
  unfold sR at h
  split at h
  · next t' n rf fk hs hr =>
    split at h
    · next hc =>
      obtain ⟨rfl, h2⟩ := hc
      exact ⟨n, rf, fk, hs, hr, h2, (Option.some.inj h).symm⟩
    · cases h
  · cases h
theorem aL_obt {sh : SH} {a : Nat} {x : Int32} (h : aL sh a = some x) : ∃ t n rf, sh a = some (.inr (t, n, rf)) ∧ t < 5 ∧ x = Int32.ofNat n := by
  unfold aL at h
  split at h
  · next t' n rf hs =>
    split at h
    · next hc => exact ⟨t', n, rf, hs, hc, (Option.some.inj h).symm⟩
    · cases h
  · cases h
theorem ck_obt {sh : SH} {ci a : Nat} {u : Unit} (h : ck sh ci a = some u) : isO sh ci a := by
  unfold ck at h
  split at h
  · next c fk hs =>
    split at h
    · next hc =>
      subst hc
      exact ⟨fk, hs⟩
    · cases h
  · cases h
theorem bz_obt {v r : Int32} (h : bz v = some r) : r = v ∧ (v = 0 ∨ v = 1) := by
  unfold bz at h
  split at h
  · next hc => exact ⟨(Option.some.inj h).symm, hc⟩
  · cases h
theorem dvI_obt {x y r : Int32} (h : dvI x y = some r) : ¬ y = 0 ∧ r = x / y := by
  unfold dvI at h
  split at h
  · cases h
  · next hc => exact ⟨hc, (Option.some.inj h).symm⟩
theorem rmI_obt {x y r : Int32} (h : rmI x y = some r) : ¬ y = 0 ∧ r = x - x / y * y := by
  unfold rmI at h
  split at h
  · cases h
  · next hc => exact ⟨hc, (Option.some.inj h).symm⟩
theorem dvL_obt {x y r : Int64} (h : dvL x y = some r) : ¬ y = 0 ∧ r = x / y := by
  unfold dvL at h
  split at h
  · cases h
  · next hc => exact ⟨hc, (Option.some.inj h).symm⟩
theorem rmL_obt {x y r : Int64} (h : rmL x y = some r) : ¬ y = 0 ∧ r = x - x / y * y := by
  unfold rmL at h
  split at h
  · cases h
  · next hc => exact ⟨hc, (Option.some.inj h).symm⟩
/-! the picture under a change -/
theorem cellAt.kept {G : GT} {c : shC} {f : Nat → Int32} {g : Nat → Int64} {a : Nat} {H H1 : Heap} (h : cellAt G c f g a H) (hq : H1[a]? = H[a]?) : cellAt G c f g a H1 := by
  obtain ⟨ci, fk⟩ | ⟨t, m, rf⟩ := c
  · obtain ⟨r, h1, h2⟩ := h
    exact ⟨r, h1, h2.kept hq⟩
  · exact hq.trans h
theorem HPh.putI {G : GT} {sh : SH} {I : IH} {L : LH} {n : Nat} {H H1 : Heap} {a : Nat} {c : shC} {f : Nat → Int32} (h : HPh G sh I L n H) (ha : sh a = some c) (hz : H1.size = H.size) (ho : ∀ q : Nat, q ≠ a → H1[q]? = H[q]?) (hc : cellAt G c f (L a) a H1) : HPh G sh (upR I a f) L n H1 := by
  obtain ⟨h1, h2, h3, h4⟩ := h
  refine ⟨hz.trans h1, h2, fun q hq => ?_, fun b c' hb => ?_⟩
  · rw [ho q (fun e => by subst e; exact absurd (h4 q c ha).1 (by omega))]
    exact h3 q hq
  · by_cases e : b = a
    · subst e
      rw [ha] at hb
      cases hb
      exact ⟨(h4 b c ha).1, by rw [upR_same]; exact hc⟩
    · rw [upR_ne e]
      exact ⟨(h4 b c' hb).1, (h4 b c' hb).2.kept (ho b e)⟩
theorem HPh.putL {G : GT} {sh : SH} {I : IH} {L : LH} {n : Nat} {H H1 : Heap} {a : Nat} {c : shC} {g : Nat → Int64} (h : HPh G sh I L n H) (ha : sh a = some c) (hz : H1.size = H.size) (ho : ∀ q : Nat, q ≠ a → H1[q]? = H[q]?) (hc : cellAt G c (I a) g a H1) : HPh G sh I (upR L a g) n H1 := by
  obtain ⟨h1, h2, h3, h4⟩ := h
  refine ⟨hz.trans h1, h2, fun q hq => ?_, fun b c' hb => ?_⟩
  · rw [ho q (fun e => by subst e; exact absurd (h4 q c ha).1 (by omega))]
    exact h3 q hq
  · by_cases e : b = a
    · subst e
      rw [ha] at hb
      cases hb
      exact ⟨(h4 b c ha).1, by rw [upR_same]; exact hc⟩
    · rw [upR_ne e]
      exact ⟨(h4 b c' hb).1, (h4 b c' hb).2.kept (ho b e)⟩
theorem HPh.putS {G : GT} {sh : SH} {I : IH} {L : LH} {n : Nat} {H H1 : Heap} {a : Nat} {c c1 : shC} (h : HPh G sh I L n H) (ha : sh a = some c) (hz : H1.size = H.size) (ho : ∀ q : Nat, q ≠ a → H1[q]? = H[q]?) (hc : cellAt G c1 (I a) (L a) a H1) : HPh G (upS sh a c1) I L n H1 := by
  obtain ⟨h1, h2, h3, h4⟩ := h
  refine ⟨hz.trans h1, h2, fun q hq => ?_, fun b c' hb => ?_⟩
  · rw [ho q (fun e => by subst e; exact absurd (h4 q c ha).1 (by omega))]
    exact h3 q hq
  · by_cases e : b = a
    · subst e
      rw [upS_same] at hb
      cases hb
      exact ⟨(h4 b c ha).1, hc⟩
    · rw [upS_ne e] at hb
      exact ⟨(h4 b c' hb).1, (h4 b c' hb).2.kept (ho b e)⟩
theorem HPh.push {G : GT} {sh : SH} {I : IH} {L : LH} {n : Nat} {H H1 : Heap} {c : shC} {f : Nat → Int32} {g : Nat → Int64} (h : HPh G sh I L n H) (hz : H1.size = H.size + 1) (ho : ∀ q : Nat, q < H.size → H1[q]? = H[q]?) (hc : cellAt G c f g n H1) : HPh G (upS sh n c) (upR I n f) (upR L n g) (n + 1) H1 := by
  have h9 := h
  obtain ⟨h1, h2, h3, h4⟩ := h
  refine ⟨by rw [hz, h1], by omega, fun q hq => ?_, fun b c' hb => ?_⟩
  · rw [ho q (by omega)]
    exact h3 q hq
  · by_cases e : b = n
    · subst e
      rw [upS_same] at hb
      cases hb
      exact ⟨h2, by rw [upR_same, upR_same]; exact hc⟩
    · rw [upS_ne e] at hb
      rw [upR_ne e, upR_ne e]
      exact ⟨(h4 b c' hb).1, (h4 b c' hb).2.kept (ho b (by rw [h1]; exact h9.lt hb))⟩
theorem upR_id {α : Type} {I : Nat → Nat → α} {a : Nat} : upR I a (I a) = I := by
  funext b
  by_cases e : b = a
  · subst e
    exact upR_same
  · exact upR_ne e
/-! the words of a field, of a call -/
def FL (own : String) (ix ci k : Nat) : Prop := ∃ (C : String) (T : u_T) (N : Nat), vwCl[ci]? = some (C, T, N) ∧ k < N ∧ (∀ w ∈ u_ws C T N, w ∈ lw_good) ∧ Cond.fieldLink own ix C (T k).2.1 (T k).2.2.1 ∈ lw_good ∧ (T k).1 = C
def FP (ci k : Nat) (fin : Bool) (ty : FieldType) : Prop := ∃ (C : String) (T : u_T) (N : Nat) (tf : Nat → FieldType), vwCl[ci]? = some (C, T, N) ∧ (∀ k, k < N → parseFieldDescriptor (T k).2.2.1 = some (tf k)) ∧ (∀ a, a < N → ∀ b, b < N → a ≠ b → (T a).2.1 ≠ (T b).2.1) ∧ (T k).2.2.2 = fin ∧ parseFieldDescriptor (T k).2.2.1 = some ty
section PW
variable {p : Program} {l : Launch} {e : Env} {R : Room} {s : State} {m : MethodId} {args : Array Value} {below : List Frame} {meth : Method} {c : Code} {H : Heap} {locs : List Loc} {cells slots : Nat} {Q : State → Prop}
variable {cc : ByteArray} {pc : Nat} {ls : Array Slot} {rest : List Value} {G : GT} {own : String}
theorem getW (hexec : p.tables.exec = Jvm.exec) (hb : c.code = cc) (hown : s.vm.findClass own = some m.cls) (hts : ∀ w ∈ lw_good, w.before args s = true) (hK : KF G s) {ix ci k : Nat} (fl : FL own ix ci k) {a : Nat} {V : Nat → Value} {r : vw_C} (hr : vwCl[ci]? = some r) (ho : t_OB a (G.1 ci) r.2.2 (G.2.1 ci) H V) {v : Value} (hv : V k = v) (hdg : decode cc pc = .ok (.getfield ix, 3))
    (kk : W p l e R s m args below meth c H locs cells slots Q (F0 m (pc + 3) ls (v :: rest))) : W p l e R s m args below meth c H locs cells slots Q (F0 m pc ls (.ref a :: rest)) := by
  obtain ⟨C, T, N, hc, hk, hin, hlink, hTk⟩ := fl
  cases hr.symm.trans hc
  obtain ⟨cell, q1, q2, q3, q4⟩ := ho
  obtain ⟨hS, hfc, kC, hkC, hkind⟩ := hK.1.1 ci _ hc
  obtain ⟨cf, kf, fi, f, hi, hsl⟩ := hS k hk
  refine W.getf hexec hb hown (hts _ hlink) (by rw [← hTk]; exact hi) (u_facts hfc hkC (u_lays hts hin hk) hi).1 q1 (by rw [q3]; exact fun h => by cases h) (v := v) ?_ rfl rfl hdg kk
  rw [hsl, q4 k hk, hv]
theorem putW (hexec : p.tables.exec = Jvm.exec) (hb : c.code = cc) (hown : s.vm.findClass own = some m.cls) (hts : ∀ w ∈ lw_good, w.before args s = true) (hK : KF G s) {ix ci k : Nat} (fl : FL own ix ci k) {fin : Bool} {ty : FieldType} (fp : FP ci k fin ty) {a : Nat} {V : Nat → Value} {r : vw_C} (hr : vwCl[ci]? = some r) (hfin : fin = true → meth.name = "<init>" ∧ r.1 = own) (ho : t_OB a (G.1 ci) r.2.2 (G.2.1 ci) H V) {v : Value} (hn : narrow ty v = v) (hfit : fits ty v = true) (hdg : decode cc pc = .ok (.putfield ix, 3))
    (kk : ∀ (H1 : Heap) (i : Nat), t_OB a (G.1 ci) r.2.2 (G.2.1 ci) H1 (updV V k v) → H1.size = H.size → (∀ q : Nat, q ≠ a → H1[q]? = H[q]?) → W p l e R s m args below meth c H1 (locs ++ [⟨a, i⟩]) cells slots Q (F0 m (pc + 3) ls rest)) : W p l e R s m args below meth c H locs cells slots Q (F0 m pc ls (v :: .ref a :: rest)) := by
  obtain ⟨C, T, N, hc, hk, hin, hlink, hTk⟩ := fl
  cases hr.symm.trans hc
  obtain ⟨C', T', N', tf, hc', htf, hnm, hfl, hd⟩ := fp
  cases hc.symm.trans hc'
  have hap := va_apart (D := (G.1, G.2.1)) (cl := vwCl) (tys := []) (own := own) hts hin tf htf hnm ⟨hK.1.1, fun k q h => by simp at h⟩ hc
  obtain ⟨cell, q1, q2, q3, q4⟩ := ho
  obtain ⟨hS, hfc, kC, hkC, hkind⟩ := hK.1.1 ci _ hc
  obtain ⟨cf, kf, fi, f, hi, hsl⟩ := hS k hk
  have hlay := hts _ (hin _ (u_in_lay hk))
  have hst := (u_facts hfc hkC (u_lays hts hin hk) hi).1
  unfold u_lay at hlay
  cases fin with
  | false =>
    rw [if_neg (by rw [hfl]; decide)] at hlay
    have h6 := u_store hfc hkC hkind hlay hi hd hn hfit
    refine W.putK hexec hb (f := f) ⟨hown, hts _ hlink, ⟨_, _, _, by rw [← hTk]; exact hi⟩, hst⟩ (by rw [q2]; exact h6) q1 q3 (by rw [hsl]; exact k2_hasslot (q4 k hk)) rfl rfl hdg fun H' e1 e2 e3 => ?_
    rw [hsl] at e1 ⊢
    exact kk H' _ ⟨_, e1, q2, q3, t_set q4 hap hk v⟩ e2 e3
  | true =>
    rw [if_pos hfl] at hlay
    have hcf : m.cls = cf := by
      obtain ⟨_, _, c', _, _, _, -, -, hf', -, -, -, hown2, -⟩ := Cond.laysFinal_spec hlay
      have e1 : c' = cf := by have := hi.symm.trans hf'; simp at this; exact this.1.symm
      have hC : C = own := (hfin rfl).2
      rw [hTk, hC] at hown2
      rw [← e1]; exact Option.some.inj (hown.symm.trans hown2)
    have h6 := u_fits hfc hkC hkind (Or.inr hlay) hi hd hn hfit
    refine W.putFinK hexec hb hown (hts _ hlink) (by rw [← hTk]; exact hi) hst hcf (hfin rfl).1 (by rw [q2]; exact h6) q1 q3 (by rw [hsl]; exact k2_hasslot (q4 k hk)) rfl rfl hdg fun H' e1 e2 e3 => ?_
    rw [hsl] at e1 ⊢
    exact kk H' _ ⟨_, e1, q2, q3, t_set q4 hap hk v⟩ e2 e3
end PW
theorem fv_int {fk : Nat → Option (Option Nat)} {f : Nat → Int32} {k : Nat} (h : fk k = none) : fv fk f k = .int (f k) := by simp [fv, h]
theorem fv_ref {fk : Nat → Option (Option Nat)} {f : Nat → Int32} {k r : Nat} (h : fk k = some (some r)) : fv fk f k = .ref r := by simp [fv, h, va_rf]
theorem fv_putI {fk : Nat → Option (Option Nat)} {f : Nat → Int32} {k : Nat} {v : Int32} (h : fk k = none) (j : Nat) : updV (fv fk f) k (.int v) j = fv fk (upd f k v) j := by
  by_cases e : j = k
  · subst e
    simp [updV, fv, h, upd]
  · simp [updV, fv, upd, e]
theorem fv_putR {fk : Nat → Option (Option Nat)} {f : Nat → Int32} {k r : Nat} (j : Nat) : updV (fv fk f) k (.ref r) j = fv (va_up fk k (some (some r))) f j := by
  by_cases e : j = k
  · subst e
    simp [updV, fv, va_up, va_rf]
  · simp [updV, fv, va_up, e]
theorem narrow_z {v : Int32} (h : v = 0 ∨ v = 1) : narrow .boolean (.int v) = .int v := by rcases h with rfl | rfl <;> rfl
theorem fits_z {v : Int32} (h : v = 0 ∨ v = 1) : fits .boolean (.int v) = true := by rcases h with rfl | rfl <;> rfl
section JH
variable {G : GT} {X : XT} {Q : State → Prop} {nL : Nat} {sh : SH} {I : IH} {L : LH} {n e es pc : Nat} {ls : List (Nat × Value)} {st : List Value}
variable {own : String} {cc : ByteArray} {d : Nat} {ret : Option FieldType} {nm : String}
theorem j_getI (F : MF G X own cc nL d ret nm) {ix ci k a : Nat} {x : Int32} (fl : FL own ix ci k) (hg : gI sh I ci a k = some x) (hd : decode cc pc = .ok (.getfield ix, 3)) (kk : J G X Q nL sh I L n e es (pc + 3) ls (.int x :: st)) : J G X Q nL sh I L n e es pc ls (.ref a :: st) := by
  obtain ⟨p, l, e', R, s, m, args, below, meth, c⟩ := X
  obtain ⟨hx, hb, hml, hown, hts, hr, hlocks, hnm, hK, hq0, hq1, hRf, hRl⟩ := F
  intro H locs cells slots LS h1 h2 h3 h4 h5
  obtain ⟨fk, g1, g2, g3⟩ := gI_obt hg
  obtain ⟨r, r1, r2⟩ := (h3.2.2.2 a _ g1).2
  exact getW hx hb hown hts hK fl r1 r2 (by rw [fv_int g2, g3]) hd (kk H locs cells slots LS h1 h2 h3 h4 h5)
theorem j_getR (F : MF G X own cc nL d ret nm) {ix ci k a r0 : Nat} (fl : FL own ix ci k) (hg : gR sh ci a k = some r0) (hd : decode cc pc = .ok (.getfield ix, 3)) (kk : J G X Q nL sh I L n e es (pc + 3) ls (.ref r0 :: st)) : J G X Q nL sh I L n e es pc ls (.ref a :: st) := by
  obtain ⟨p, l, e', R, s, m, args, below, meth, c⟩ := X
  obtain ⟨hx, hb, hml, hown, hts, hr, hlocks, hnm, hK, hq0, hq1, hRf, hRl⟩ := F
  intro H locs cells slots LS h1 h2 h3 h4 h5
  obtain ⟨fk, g1, g2⟩ := gR_obt hg
  obtain ⟨r, r1, r2⟩ := (h3.2.2.2 a _ g1).2
  exact getW hx hb hown hts hK fl r1 r2 (fv_ref g2) hd (kk H locs cells slots LS h1 h2 h3 h4 h5)
theorem j_putI (F : MF G X own cc nL d ret nm) {ix ci k a : Nat} {v : Int32} {I' : IH} {fin : Bool} (fl : FL own ix ci k) (fp : FP ci k fin .int) (hfin : fin = true → nm = "<init>" ∧ (vwCl[ci]?).map (·.1) = some own) (hg : pI sh I ci a k v = some I') (hd : decode cc pc = .ok (.putfield ix, 3)) (kk : J G X Q nL sh I' L n e es (pc + 3) ls st) : J G X Q nL sh I L n e es pc ls (.int v :: .ref a :: st) := by
  obtain ⟨p, l, e', R, s, m, args, below, meth, c⟩ := X
  obtain ⟨hx, hb, hml, hown, hts, hr, hlocks, hnm, hK, hq0, hq1, hRf, hRl⟩ := F
  intro H locs cells slots LS h1 h2 h3 h4 h5
  obtain ⟨fk, g1, g2, rfl⟩ := pI_obt hg
  obtain ⟨r, r1, r2⟩ := (h3.2.2.2 a _ g1).2
  refine putW hx hb hown hts hK fl fp r1 (fun z => ⟨(hnm (fun y9 => absurd ((hfin z).1.symm.trans y9) (by decide))).trans (hfin z).1, ?_⟩) r2 (vp_nar_int v) rfl hd (fun H1 i e1 e2 e3 => ?_)
  · have := (hfin z).2
    rw [r1] at this
    exact Option.some.inj this
  · exact kk H1 _ cells slots LS h1 h2 (h3.putI g1 e2 e3 ⟨r, r1, e1.to (fun j _ => fv_putI g2 j)⟩) (h4.put e2 e3 (h3.2.2.2 a _ g1).1) h5
theorem j_putZ (F : MF G X own cc nL d ret nm) {ix ci k a : Nat} {v : Int32} {I' : IH} {fin : Bool} (hz : v = 0 ∨ v = 1) (fl : FL own ix ci k) (fp : FP ci k fin .boolean) (hfin : fin = true → nm = "<init>" ∧ (vwCl[ci]?).map (·.1) = some own) (hg : pI sh I ci a k v = some I') (hd : decode cc pc = .ok (.putfield ix, 3)) (kk : J G X Q nL sh I' L n e es (pc + 3) ls st) : J G X Q nL sh I L n e es pc ls (.int v :: .ref a :: st) := by
  obtain ⟨p, l, e', R, s, m, args, below, meth, c⟩ := X
  obtain ⟨hx, hb, hml, hown, hts, hr, hlocks, hnm, hK, hq0, hq1, hRf, hRl⟩ := F
  intro H locs cells slots LS h1 h2 h3 h4 h5
  obtain ⟨fk, g1, g2, rfl⟩ := pI_obt hg
  obtain ⟨r, r1, r2⟩ := (h3.2.2.2 a _ g1).2
  refine putW hx hb hown hts hK fl fp r1 (fun z => ⟨(hnm (fun y9 => absurd ((hfin z).1.symm.trans y9) (by decide))).trans (hfin z).1, ?_⟩) r2 (narrow_z hz) (fits_z hz) hd (fun H1 i e1 e2 e3 => ?_)
  · have := (hfin z).2
    rw [r1] at this
    exact Option.some.inj this
  · exact kk H1 _ cells slots LS h1 h2 (h3.putI g1 e2 e3 ⟨r, r1, e1.to (fun j _ => fv_putI g2 j)⟩) (h4.put e2 e3 (h3.2.2.2 a _ g1).1) h5
theorem j_putR (F : MF G X own cc nL d ret nm) {ix ci k a r0 : Nat} {sh' : SH} {fin : Bool} {ty : FieldType} (hty : narrow ty (.ref r0) = .ref r0 ∧ fits ty (.ref r0) = true) (fl : FL own ix ci k) (fp : FP ci k fin ty) (hfin : fin = true → nm = "<init>" ∧ (vwCl[ci]?).map (·.1) = some own) (hg : pR sh ci a k r0 = some sh') (hd : decode cc pc = .ok (.putfield ix, 3)) (kk : J G X Q nL sh' I L n e es (pc + 3) ls st) : J G X Q nL sh I L n e es pc ls (.ref r0 :: .ref a :: st) := by
  obtain ⟨p, l, e', R, s, m, args, below, meth, c⟩ := X
  obtain ⟨hx, hb, hml, hown, hts, hr, hlocks, hnm, hK, hq0, hq1, hRf, hRl⟩ := F
  intro H locs cells slots LS h1 h2 h3 h4 h5
  obtain ⟨fk, g1, g2, rfl⟩ := pR_obt hg
  obtain ⟨r, r1, r2⟩ := (h3.2.2.2 a _ g1).2
  refine putW hx hb hown hts hK fl fp r1 (fun z => ⟨(hnm (fun y9 => absurd ((hfin z).1.symm.trans y9) (by decide))).trans (hfin z).1, ?_⟩) r2 hty.1 hty.2 hd (fun H1 i e1 e2 e3 => ?_)
  · have := (hfin z).2
    rw [r1] at this
    exact Option.some.inj this
  · exact kk H1 _ cells slots LS h1 h2 (h3.putS g1 e2 e3 ⟨r, r1, e1.to (fun j _ => fv_putR j)⟩) (h4.put e2 e3 (h3.2.2.2 a _ g1).1) h5
/-! arrays -/
theorem j_iald (F : MF G X own cc nL d ret nm) {a : Nat} {i x : Int32} (hg : aI sh I 0 a i = some x) (hd : decode cc pc = .ok (.iaload, 1)) (kk : J G X Q nL sh I L n e es (pc + 1) ls (.int x :: st)) : J G X Q nL sh I L n e es pc ls (.int i :: .ref a :: st) := by
  obtain ⟨p, l, e', R, s, m, args, below, meth, c⟩ := X
  obtain ⟨hx, hb, hml, hown, hts, hr, hlocks, hnm, hK, hq0, hq1, hRf, hRl⟩ := F
  intro H locs cells slots LS h1 h2 h3 h4 h5
  obtain ⟨N, rf, g1, g2, g3⟩ := aI_obt hg
  have hc := (h3.2.2.2 a _ g1).2
  have hlt : i.toNatClampNeg < N := Nat.not_le.mp fun q => g2 (Or.inr q)
  exact W.iald (v := .int x) hx hb hc ((hK.1.2 0 (by omega)).1 _ _) (fun q => by cases q) (by rw [arrV_size]; exact g2) (by rw [arrV_read _ _ hlt]; simp [av, g3]) rfl rfl hd (kk H locs cells slots LS h1 h2 h3 h4 h5)
theorem j_zald (F : MF G X own cc nL d ret nm) {a : Nat} {i x : Int32} (hg : aI sh I 1 a i = some x) (hd : decode cc pc = .ok (.baload, 1)) (kk : J G X Q nL sh I L n e es (pc + 1) ls (.int x :: st)) : J G X Q nL sh I L n e es pc ls (.int i :: .ref a :: st) := by
  obtain ⟨p, l, e', R, s, m, args, below, meth, c⟩ := X
  obtain ⟨hx, hb, hml, hown, hts, hr, hlocks, hnm, hK, hq0, hq1, hRf, hRl⟩ := F
  intro H locs cells slots LS h1 h2 h3 h4 h5
  obtain ⟨N, rf, g1, g2, g3⟩ := aI_obt hg
  have hc := (h3.2.2.2 a _ g1).2
  have hlt : i.toNatClampNeg < N := Nat.not_le.mp fun q => g2 (Or.inr q)
  exact W.zald (v := .int x) hx hb hc ((hK.1.2 1 (by omega)).1 _ _) (fun q => by cases q) (by rw [arrV_size]; exact g2) (by rw [arrV_read _ _ hlt]; simp [av, g3]) rfl rfl hd (kk H locs cells slots LS h1 h2 h3 h4 h5)
theorem j_lald (F : MF G X own cc nL d ret nm) {a : Nat} {i : Int32} {x : Int64} (hg : aJ sh L a i = some x) (hd : decode cc pc = .ok (.laload, 1)) (kk : J G X Q nL sh I L n e es (pc + 1) ls (.long x :: st)) : J G X Q nL sh I L n e es pc ls (.int i :: .ref a :: st) := by
  obtain ⟨p, l, e', R, s, m, args, below, meth, c⟩ := X
  obtain ⟨hx, hb, hml, hown, hts, hr, hlocks, hnm, hK, hq0, hq1, hRf, hRl⟩ := F
  intro H locs cells slots LS h1 h2 h3 h4 h5
  obtain ⟨N, rf, g1, g2, g3⟩ := aJ_obt hg
  have hc := (h3.2.2.2 a _ g1).2
  have hlt : i.toNatClampNeg < N := Nat.not_le.mp fun q => g2 (Or.inr q)
  exact W.lald (v := .long x) hx hb hc ((hK.1.2 2 (by omega)).1 _ _) (fun q => by cases q) (by rw [arrV_size]; exact g2) (by rw [arrV_read _ _ hlt]; simp [av, g3]) rfl rfl hd (kk H locs cells slots LS h1 h2 h3 h4 h5)
theorem j_aald (F : MF G X own cc nL d ret nm) {t a r0 : Nat} {i : Int32} (ht : t = 3 ∨ t = 4) (hg : aR sh t a i = some r0) (hd : decode cc pc = .ok (.aaload, 1)) (kk : J G X Q nL sh I L n e es (pc + 1) ls (.ref r0 :: st)) : J G X Q nL sh I L n e es pc ls (.int i :: .ref a :: st) := by
  obtain ⟨p, l, e', R, s, m, args, below, meth, c⟩ := X
  obtain ⟨hx, hb, hml, hown, hts, hr, hlocks, hnm, hK, hq0, hq1, hRf, hRl⟩ := F
  intro H locs cells slots LS h1 h2 h3 h4 h5
  obtain ⟨N, rf, g1, g2, g3⟩ := aR_obt hg
  have hc := (h3.2.2.2 a _ g1).2
  have hlt : i.toNatClampNeg < N := Nat.not_le.mp fun q => g2 (Or.inr q)
  rcases ht with rfl | rfl
  · exact W.aald (v := .ref r0) hx hb hc ((hK.1.2 3 (by omega)).1 _ _) rfl (fun q => by cases q) (by rw [arrV_size]; exact g2) (by rw [arrV_read _ _ hlt]; simp [av, g3, va_rf]) rfl rfl hd (kk H locs cells slots LS h1 h2 h3 h4 h5)
  · exact W.aald (v := .ref r0) hx hb hc ((hK.1.2 4 (by omega)).1 _ _) rfl (fun q => by cases q) (by rw [arrV_size]; exact g2) (by rw [arrV_read _ _ hlt]; simp [av, g3, va_rf]) rfl rfl hd (kk H locs cells slots LS h1 h2 h3 h4 h5)
theorem av_putI {t : Nat} {rf : Nat → Option Nat} {f : Nat → Int32} {g : Nat → Int64} {k : Nat} {v : Int32} (ht : t = 0 ∨ t = 1) : updV (av t rf f g) k (.int v) = av t rf (upd f k v) g := by
  funext j
  rcases ht with rfl | rfl <;> by_cases e : j = k <;> simp [updV, av, upd, e]
theorem av_putL {rf : Nat → Option Nat} {f : Nat → Int32} {g : Nat → Int64} {k : Nat} {v : Int64} : updV (av 2 rf f g) k (.long v) = av 2 rf f (vp_updL g k v) := by
  funext j
  by_cases e : j = k <;> simp [updV, av, vp_updL, e]
theorem av_putR {rf : Nat → Option Nat} {f : Nat → Int32} {g : Nat → Int64} {k r : Nat} : updV (av 3 rf f g) k (.ref r) = av 3 (va_up rf k (some r)) f g := by
  funext j
  by_cases e : j = k <;> simp [updV, av, va_up, va_rf, e]
theorem j_iast (F : MF G X own cc nL d ret nm) {a : Nat} {i v : Int32} {I' : IH} (hg : sI sh I a i v = some I') (hd : decode cc pc = .ok (.iastore, 1)) (kk : J G X Q nL sh I' L n e es (pc + 1) ls st) : J G X Q nL sh I L n e es pc ls (.int v :: .int i :: .ref a :: st) := by
  obtain ⟨p, l, e', R, s, m, args, below, meth, c⟩ := X
  obtain ⟨hx, hb, hml, hown, hts, hr, hlocks, hnm, hK, hq0, hq1, hRf, hRl⟩ := F
  intro H locs cells slots LS h1 h2 h3 h4 h5
  obtain ⟨N, rf, g1, g2, rfl⟩ := sI_obt hg
  have hc := (h3.2.2.2 a _ g1).2
  refine W.iast hx hb hc ((hK.1.2 0 (by omega)).1 _ _) (fun q => by cases q) (by rw [arrV_size]; exact g2) rfl rfl hd (fun H1 e1 e2 e3 => ?_)
  refine kk H1 _ cells slots LS h1 h2 (h3.putI g1 e2 e3 ?_) (h4.put e2 e3 (h3.2.2.2 a _ g1).1) h5
  show H1[a]? = some _
  rw [e1, arrV_store, av_putI (Or.inl rfl)]
theorem j_zast (F : MF G X own cc nL d ret nm) {a : Nat} {i v : Int32} {I' : IH} (hg : sZ sh I a i v = some I') (hd : decode cc pc = .ok (.bastore, 1)) (kk : J G X Q nL sh I' L n e es (pc + 1) ls st) : J G X Q nL sh I L n e es pc ls (.int v :: .int i :: .ref a :: st) := by
  obtain ⟨p, l, e', R, s, m, args, below, meth, c⟩ := X
  obtain ⟨hx, hb, hml, hown, hts, hr, hlocks, hnm, hK, hq0, hq1, hRf, hRl⟩ := F
  intro H locs cells slots LS h1 h2 h3 h4 h5
  obtain ⟨N, rf, g1, g2, rfl⟩ := sZ_obt hg
  have hc := (h3.2.2.2 a _ g1).2
  refine W.zast hx hb hc ((hK.1.2 1 (by omega)).1 _ _) (fun q => by cases q) (by rw [arrV_size]; exact g2) rfl rfl hd (fun H1 e1 e2 e3 => ?_)
  refine kk H1 _ cells slots LS h1 h2 (h3.putI g1 e2 e3 ?_) (h4.put e2 e3 (h3.2.2.2 a _ g1).1) h5
  show H1[a]? = some _
  have hnz : narrow .boolean (.int v) = .int (vp_nar .boolean v) := rfl
  rw [e1, hnz, arrV_store, av_putI (Or.inr rfl)]
theorem j_last (F : MF G X own cc nL d ret nm) {a : Nat} {i : Int32} {v : Int64} {L' : LH} (hg : sJ sh L a i v = some L') (hd : decode cc pc = .ok (.lastore, 1)) (kk : J G X Q nL sh I L' n e es (pc + 1) ls st) : J G X Q nL sh I L n e es pc ls (.long v :: .int i :: .ref a :: st) := by
  obtain ⟨p, l, e', R, s, m, args, below, meth, c⟩ := X
  obtain ⟨hx, hb, hml, hown, hts, hr, hlocks, hnm, hK, hq0, hq1, hRf, hRl⟩ := F
  intro H locs cells slots LS h1 h2 h3 h4 h5
  obtain ⟨N, rf, g1, g2, rfl⟩ := sJ_obt hg
  have hc := (h3.2.2.2 a _ g1).2
  refine W.last hx hb hc ((hK.1.2 2 (by omega)).1 _ _) (fun q => by cases q) (by rw [arrV_size]; exact g2) rfl rfl hd (fun H1 e1 e2 e3 => ?_)
  refine kk H1 _ cells slots LS h1 h2 (h3.putL g1 e2 e3 ?_) (h4.put e2 e3 (h3.2.2.2 a _ g1).1) h5
  show H1[a]? = some _
  rw [e1, arrV_store, av_putL]
theorem j_alen (F : MF G X own cc nL d ret nm) {a : Nat} {x : Int32} (hg : aL sh a = some x) (hd : decode cc pc = .ok (.arraylength, 1)) (kk : J G X Q nL sh I L n e es (pc + 1) ls (.int x :: st)) : J G X Q nL sh I L n e es pc ls (.ref a :: st) := by
  obtain ⟨p, l, e', R, s, m, args, below, meth, c⟩ := X
  obtain ⟨hx, hb, hml, hown, hts, hr, hlocks, hnm, hK, hq0, hq1, hRf, hRl⟩ := F
  intro H locs cells slots LS h1 h2 h3 h4 h5
  obtain ⟨t, N, rf, g1, g2, rfl⟩ := aL_obt hg
  have hc := (h3.2.2.2 a _ g1).2
  exact W.alen (n := Int32.ofNat N) hx hb hc ((hK.1.2 t g2).1 _ _) (by rw [arrV_size] <;> rfl) rfl rfl hd (kk H locs cells slots LS h1 h2 h3 h4 h5)
end JH
