/-! ROWS OF J: new cells, arraycopy, statics, calls, returns -/
theorem ite_obt {α : Type} {c : Prop} {inst : Decidable c} {a z : α} (h : (if c then some a else none) = some z) : c ∧ a = z := by
  split at h
  · next hc => exact ⟨hc, Option.some.inj h⟩
  · cases h
/-- a new int or boolean array, a new array of longs, of references -/
def nAI (sh : SH) (I : IH) (n t : Nat) (c : Int32) : Option (SH × IH) := if ¬ c < 0 ∧ c.toNatClampNeg ≤ 100000 then some (upS sh n (.inr (t, c.toNatClampNeg, fun _ => none)), upR I n (fun _ => 0)) else none
def nAL (sh : SH) (L : LH) (n : Nat) (c : Int32) : Option (SH × LH) := if ¬ c < 0 ∧ c.toNatClampNeg ≤ 100000 then some (upS sh n (.inr (2, c.toNatClampNeg, fun _ => none)), upR L n (fun _ => 0)) else none
def nAR (sh : SH) (n : Nat) (c : Int32) : Option SH := if ¬ c < 0 ∧ c.toNatClampNeg ≤ 100000 then some (upS sh n (.inr (3, c.toNatClampNeg, fun _ => none))) else none
/-- rows of a new array of int rows -/
def nMS (sh : SH) (n N K : Nat) : SH := fun b => if b = n then some (.inr (4, N, fun j => if j < N then some (n + 1 + j) else none)) else if n < b ∧ b ≤ n + N then some (.inr (0, K, fun _ => none)) else sh b
def nMI (I : IH) (n N : Nat) : IH := fun b => if n < b ∧ b ≤ n + N then fun _ => 0 else I b
def nM (sh : SH) (I : IH) (n : Nat) (a c : Int32) : Option (SH × IH) := if (¬ a < 0 ∧ a.toNatClampNeg ≤ 100000) ∧ ¬ c < 0 ∧ c.toNatClampNeg ≤ 100000 then some (nMS sh n a.toNatClampNeg c.toNatClampNeg, nMI I n a.toNatClampNeg) else none
/-- which fields of a new object are references -/
def fkD (ci : Nat) : Nat → Option (Option Nat) := match ci with
  | 0 => fun k => if k = 3 then some none else none
  | 1 => fun k => if k = 0 ∨ k = 4 then some none else none
  | 2 => fun k => if k = 1 ∨ k = 2 ∨ k = 3 ∨ k = 4 ∨ k = 6 ∨ k = 8 then some none else none
  | 3 => fun k => if k = 2 then some none else none
  | 4 => fun _ => some none
  | 5 => fun _ => some none
  | 6 => fun k => if k = 2 ∨ k = 6 ∨ k = 7 then none else some none
  | _ => fun k => if k ∈ [0, 1, 2, 7, 8, 9, 10, 11, 21, 22, 23, 25, 39, 45, 46, 47, 48, 49, 50, 51, 61] then none else some none
def nO (sh : SH) (n ci : Nat) : SH := upS sh n (.inl (ci, fkD ci))
def nOI (I : IH) (n : Nat) : IH := upR I n (fun _ => 0)
def cpI (sh : SH) (I : IH) (a : Nat) (sp : Int32) (b : Nat) (dp c : Int32) : Option IH := match sh a, sh b with
  | some (.inr (0, n0, _)), some (.inr (0, n1, _)) => if (¬ sp < 0 ∧ ¬ dp < 0 ∧ ¬ c < 0) ∧ sp.toNatClampNeg + c.toNatClampNeg ≤ n0 ∧ dp.toNatClampNeg + c.toNatClampNeg ≤ n1 then some (upR I b (va_cpy (I a) (I b) sp.toNatClampNeg dp.toNatClampNeg c.toNatClampNeg)) else none
  | _, _ => none
def cpL (sh : SH) (L : LH) (a : Nat) (sp : Int32) (b : Nat) (dp c : Int32) : Option LH := match sh a, sh b with
  | some (.inr (2, n0, _)), some (.inr (2, n1, _)) => if (¬ sp < 0 ∧ ¬ dp < 0 ∧ ¬ c < 0) ∧ sp.toNatClampNeg + c.toNatClampNeg ≤ n0 ∧ dp.toNatClampNeg + c.toNatClampNeg ≤ n1 then some (upR L b (va_cpy (L a) (L b) sp.toNatClampNeg dp.toNatClampNeg c.toNatClampNeg)) else none
  | _, _ => none
/-- the table ABOVE -/
def abv (i : Int32) : Option Int32 := if ¬ (i < 0 ∨ 7 ≤ i.toNatClampNeg) then some (abvL.getD i.toNatClampNeg 0) else none
theorem cpI_obt {sh : SH} {I I' : IH} {a b : Nat} {sp dp c : Int32} (h : cpI sh I a sp b dp c = some I') : ∃ n0 n1 r0 r1, sh a = some (.inr (0, n0, r0)) ∧ sh b = some (.inr (0, n1, r1)) ∧ (¬ sp < 0 ∧ ¬ dp < 0 ∧ ¬ c < 0) ∧ sp.toNatClampNeg + c.toNatClampNeg ≤ n0 ∧ dp.toNatClampNeg + c.toNatClampNeg ≤ n1 ∧ I' = upR I b (va_cpy (I a) (I b) sp.toNatClampNeg dp.toNatClampNeg c.toNatClampNeg) := by
  unfold cpI at h
  split at h
  · next n0 r0 n1 r1 ha hb =>
    obtain ⟨⟨h1, h2, h3⟩, h4⟩ := ite_obt h
    exact ⟨n0, n1, r0, r1, ha, hb, h1, h2, h3, h4.symm⟩
  · cases h
theorem cpL_obt {sh : SH} {L L' : LH} {a b : Nat} {sp dp c : Int32} (h : cpL sh L a sp b dp c = some L') : ∃ n0 n1 r0 r1, sh a = some (.inr (2, n0, r0)) ∧ sh b = some (.inr (2, n1, r1)) ∧ (¬ sp < 0 ∧ ¬ dp < 0 ∧ ¬ c < 0) ∧ sp.toNatClampNeg + c.toNatClampNeg ≤ n0 ∧ dp.toNatClampNeg + c.toNatClampNeg ≤ n1 ∧ L' = upR L b (va_cpy (L a) (L b) sp.toNatClampNeg dp.toNatClampNeg c.toNatClampNeg) := by
  unfold cpL at h
  split at h
  · next n0 r0 n1 r1 ha hb =>
    obtain ⟨⟨h1, h2, h3⟩, h4⟩ := ite_obt h
    exact ⟨n0, n1, r0, r1, ha, hb, h1, h2, h3, h4.symm⟩
  · cases h
theorem abv_obt {i x : Int32} (h : abv i = some x) : vp_in i 7 ∧ abvL.getD i.toNatClampNeg 0 = x := ite_obt h
theorem cpw1 : Cond.native arraycopyName ∈ lw_good := good_of 502 (by decide +kernel) (by decide +kernel)
theorem cpw2 : Cond.static arraycopyName ∈ lw_good := good_of 501 (by decide +kernel) (by decide +kernel)
theorem cpw3 : Cond.initialized "java/lang/System" ∈ lw_good := good_of 85 (by decide +kernel) (by decide +kernel)
theorem oiw1 : Cond.instanceMethod objectInit ∈ lw_good := good_of 93 (by decide +kernel) (by decide +kernel)
theorem oiw2 : Cond.code objectInit ⟨#[0xb1]⟩ 1 none ∈ lw_good := good_of 94 (by decide +kernel) (by decide +kernel)
theorem HPh.pushI {G : GT} {sh : SH} {I : IH} {L : LH} {n : Nat} {H H1 : Heap} {c : shC} {f : Nat → Int32} (h : HPh G sh I L n H) (hz : H1.size = H.size + 1) (ho : ∀ q : Nat, q < H.size → H1[q]? = H[q]?) (hc : cellAt G c f (L n) n H1) : HPh G (upS sh n c) (upR I n f) L (n + 1) H1 := by
  have h9 := h.push (g := L n) hz ho hc
  rw [upR_id] at h9
  exact h9
theorem HPh.pushL {G : GT} {sh : SH} {I : IH} {L : LH} {n : Nat} {H H1 : Heap} {c : shC} {g : Nat → Int64} (h : HPh G sh I L n H) (hz : H1.size = H.size + 1) (ho : ∀ q : Nat, q < H.size → H1[q]? = H[q]?) (hc : cellAt G c (I n) g n H1) : HPh G (upS sh n c) I (upR L n g) (n + 1) H1 := by
  have h9 := h.push (f := I n) hz ho hc
  rw [upR_id] at h9
  exact h9
theorem HPh.pushS {G : GT} {sh : SH} {I : IH} {L : LH} {n : Nat} {H H1 : Heap} {c : shC} (h : HPh G sh I L n H) (hz : H1.size = H.size + 1) (ho : ∀ q : Nat, q < H.size → H1[q]? = H[q]?) (hc : cellAt G c (I n) (L n) n H1) : HPh G (upS sh n c) I L (n + 1) H1 := by
  have h9 := h.pushI (f := I n) hz ho hc
  rw [upR_id] at h9
  exact h9
theorem va_S.grow {A : Nat → Prop} {H0 H H1 : Heap} {locs : List Loc} (h : va_S A H0 H locs) (hz : H.size ≤ H1.size) (ho : ∀ q : Nat, q < H.size → H1[q]? = H[q]?) : va_S A H0 H1 locs := ⟨Nat.le_trans h.1 hz, fun q g1 g2 => (ho q (Nat.lt_of_lt_of_le g1 h.1)).trans (h.2.1 q g1 g2), h.2.2⟩
/-! words of new objects and calls -/
def CN (own : String) (ix ci N : Nat) : Prop := ∃ (C : String) (T : u_T) (tf : Nat → FieldType), vwCl[ci]? = some (C, T, N) ∧ Cond.classLink own ix C ∈ lw_good ∧ Cond.instantiable C N ∈ lw_good ∧ Cond.initialized C ∈ lw_good ∧ (∀ w ∈ u_ws C T N, w ∈ lw_good) ∧ (∀ k, k < N → parseFieldDescriptor (T k).2.2.1 = some (tf k)) ∧ ∀ j, j < N → defaultValue (tf j) = fv (fkD ci) (fun _ => 0) j
def cwd (y : MethodName) (cnt : Nat) : Prop := (y.cls ≠ "java/lang/invoke/MethodHandle" ∧ y.cls ≠ "java/lang/invoke/VarHandle") ∧ (parseMethodDescriptor y.desc).map (fun d => d.parameters.length) = some cnt
def CLV (own : String) (ix : Nat) (y : MethodName) (cnt : Nat) : Prop := Cond.methodLink own ix y ∈ lw_good ∧ Cond.instanceMethod y ∈ lw_good ∧ Cond.selects y.cls y y ∈ lw_good ∧ Cond.initialized y.cls ∈ lw_good ∧ cwd y cnt
def CLS (own : String) (ix : Nat) (y : MethodName) (cnt : Nat) : Prop := Cond.methodLink own ix y ∈ lw_good ∧ Cond.static y ∈ lw_good ∧ Cond.initialized y.cls ∈ lw_good ∧ cwd y cnt
def CLSN (own : String) (ix : Nat) (y : MethodName) (cnt : Nat) : Prop := Cond.methodLinkNest own ix y RX6 ∈ nestWs ∧ Cond.static y ∈ lw_good ∧ Cond.initialized y.cls ∈ lw_good ∧ cwd y cnt
def CLI (own : String) (ix : Nat) (y : MethodName) (cnt : Nat) : Prop := Cond.methodLink own ix y ∈ lw_good ∧ Cond.instanceMethod y ∈ lw_good ∧ Cond.initialized y.cls ∈ lw_good ∧ cwd y cnt ∧ y.name = "<init>"
def CLIN (own : String) (ix : Nat) (y : MethodName) (cnt : Nat) : Prop := Cond.methodLinkNest own ix y RX6 ∈ nestWs ∧ Cond.instanceMethod y ∈ lw_good ∧ Cond.initialized y.cls ∈ lw_good ∧ cwd y cnt ∧ y.name = "<init>"
theorem cwd_len {y : MethodName} {cnt : Nat} (h : cwd y cnt) : ∀ sig, parseMethodDescriptor y.desc = some sig → cnt = sig.parameters.length := fun sig hs => by
  have h2 := h.2
  rw [hs] at h2
  exact (Option.some.inj h2).symm
/-- the callee's depth and locals fit -/
def dok (d0 nL0 d : Nat) : Bool := Nat.ble (d0 + 1) d && Nat.ble (nL0 + 19) 120
theorem dok_fr {d0 nL0 d : Nat} (h : dok d0 nL0 d = true) : d0 + 1 ≤ d ∧ 8 + (nL0 + 11) + 120 * d0 ≤ 120 * d := by
  unfold dok at h
  rw [Bool.and_eq_true] at h
  have h1 := Nat.le_of_ble_eq_true h.1
  have h2 := Nat.le_of_ble_eq_true h.2
  omega
section RW
variable {p : Program} {l : Launch} {e : Env} {R : Room} {s : State} {m : MethodId} {args : Array Value} {below : List Frame} {meth : Method} {c : Code} {H : Heap} {locs : List Loc} {cells slots : Nat} {Q : State → Prop}
theorem run_W {G : GT} {v : Option Value} {sh' : SH} {I' : IH} {L' : LH} {n' mc ms pc : Nat} {LS : Array Slot} {st0 rest : List Value} {a : Array Value} (hr : va_Run p l e R s m args below meth c H locs cells slots mc ms (F0 m pc LS st0) rest (QcT G v sh' I' L' n' a) (bA G)) (h4 : va_S (bA G) s.heap H locs)
    (kk : ∀ (H1 : Heap) (locs1 : List Loc), HPh G sh' I' L' n' H1 → va_S (bA G) s.heap H1 locs1 → W p l e R s m args below meth c H1 locs1 (cells + mc) (slots + ms) Q (F0 m (pc + 3) LS (v.toList ++ rest))) : W p l e R s m args below meth c H locs cells slots Q (F0 m pc LS st0) := by
  intro T hT X
  obtain ⟨w, st₀, t, T', L, h0, X', hL, e1, e2, ⟨hv, hH, hz, hk⟩, st⟩ := hr T hT X
  cases hv
  rw [h0] at hz hk
  obtain ⟨t2, a1, b1⟩ := kk T'.heap (locs ++ L) (by rw [e1]; exact hH)
    ⟨Nat.le_trans h4.1 (by rw [e1]; exact hz), fun q g1 g2 => by rw [e1, hk q (Nat.lt_of_lt_of_le g1 h4.1) g2]; exact h4.2.1 q g1 g2, fun q hq => by
      rcases List.mem_append.mp hq with h | h
      · exact h4.2.2 q h
      · exact hL q h⟩ T' rfl X'
  exact ⟨t2, st t2 a1, b1⟩
end RW
theorem preT {G : GT} {sh : SH} {I : IH} {L : LH} {n : Nat} {s : State} {H : Heap} {As : List Value} (h3 : HPh G sh I L n H) (hK : KF G s) : ∀ U : State, U.heap = H → s.WarmedH U.vm → PcT G As sh I L n As.toArray U := fun U hU hW => ⟨rfl, by rw [hU]; exact h3, hK.warm hW⟩
section JC
variable {G : GT} {X : XT} {Q : State → Prop} {nL : Nat} {sh : SH} {I : IH} {L : LH} {n e es pc : Nat} {ls : List (Nat × Value)} {st : List Value}
variable {own : String} {cc : ByteArray} {d : Nat} {ret : Option FieldType} {nm : String}
theorem j_newI (F : MF G X own cc nL d ret nm) {at0 : ArrayType} {t e1 es1 : Nat} {c0 : Int32} {sh' : SH} {I' : IH} (ht : (t = 0 ∧ newarray.typeOf at0 = .int) ∨ (t = 1 ∧ newarray.typeOf at0 = .boolean)) (hw : Cond.arrayClass (newarray.typeOf at0) ∈ lw_good) (hg : nAI sh I n t c0 = some (sh', I')) (he : e = 1 + e1) (hes : es = c0.toNatClampNeg + es1) (hd : decode cc pc = .ok (.newarray at0, 2)) (kk : J G X Q nL sh' I' L (n + 1) e1 es1 (pc + 2) ls (.ref n :: st)) : J G X Q nL sh I L n e es pc ls (.int c0 :: st) := by
  obtain ⟨p, l, e', R, s, m, args, below, meth, c⟩ := X
  obtain ⟨hx, hb, hml, hown, hts, hr, hlocks, hnm, hK, hq0, hq1, hRf, hRl⟩ := F
  intro H locs cells slots LS h1 h2 h3 h4 h5
  obtain ⟨⟨g1, g2⟩, g3⟩ := ite_obt hg
  cases g3
  refine va_newaK hx hb (hts _ hw) rfl hd rfl g1 rfl (by rcases ht with ⟨-, h⟩ | ⟨-, h⟩ <;> rw [h] <;> simp [componentBytes] <;> omega) (by omega) (by omega) h3.1 (fun H1 cA a1 a2 a3 a4 a5 => ?_)
  have h9 : H.size = n := h3.1
  have hz : H1.size = H.size + 1 := by rw [a2, h9]
  have ho : ∀ q : Nat, q < H.size → H1[q]? = H[q]? := fun q hq => a3 q (by omega)
  refine kk H1 locs (cells + 1) (slots + c0.toNatClampNeg) LS (by omega) (by omega) (h3.pushI hz ho ?_) (h4.grow (by omega) ho) h5
  show H1[n]? = some _
  rcases ht with ⟨rfl, h⟩ | ⟨rfl, h⟩
  · rw [h] at a1 a5
    have hcA : cA = G.2.2.1 0 := Option.some.inj (a5.symm.trans (hK.1.2 0 (by omega)).2)
    rw [a1, hcA]
    rfl
  · rw [h] at a1 a5
    have hcA : cA = G.2.2.1 1 := Option.some.inj (a5.symm.trans (hK.1.2 1 (by omega)).2)
    rw [a1, hcA]
    rfl
theorem j_newL (F : MF G X own cc nL d ret nm) {at0 : ArrayType} {e1 es1 : Nat} {c0 : Int32} {sh' : SH} {L' : LH} (h : newarray.typeOf at0 = .long) (hw : Cond.arrayClass (newarray.typeOf at0) ∈ lw_good) (hg : nAL sh L n c0 = some (sh', L')) (he : e = 1 + e1) (hes : es = c0.toNatClampNeg + es1) (hd : decode cc pc = .ok (.newarray at0, 2)) (kk : J G X Q nL sh' I L' (n + 1) e1 es1 (pc + 2) ls (.ref n :: st)) : J G X Q nL sh I L n e es pc ls (.int c0 :: st) := by
  obtain ⟨p, l, e', R, s, m, args, below, meth, c⟩ := X
  obtain ⟨hx, hb, hml, hown, hts, hr, hlocks, hnm, hK, hq0, hq1, hRf, hRl⟩ := F
  intro H locs cells slots LS h1 h2 h3 h4 h5
  obtain ⟨⟨g1, g2⟩, g3⟩ := ite_obt hg
  cases g3
  refine va_newaK hx hb (hts _ hw) rfl hd rfl g1 rfl (by rw [h]; simp [componentBytes]; omega) (by omega) (by omega) h3.1 (fun H1 cA a1 a2 a3 a4 a5 => ?_)
  have h9 : H.size = n := h3.1
  have hz : H1.size = H.size + 1 := by rw [a2, h9]
  have ho : ∀ q : Nat, q < H.size → H1[q]? = H[q]? := fun q hq => a3 q (by omega)
  refine kk H1 locs (cells + 1) (slots + c0.toNatClampNeg) LS (by omega) (by omega) (h3.pushL hz ho ?_) (h4.grow (by omega) ho) h5
  show H1[n]? = some _
  rw [h] at a1 a5
  have hcA : cA = G.2.2.1 2 := Option.some.inj (a5.symm.trans (hK.1.2 2 (by omega)).2)
  rw [a1, hcA]
  rfl
theorem j_anew (F : MF G X own cc nL d ret nm) {ix e1 es1 : Nat} {c0 : Int32} {sh' : SH} (hw : Cond.classLink own ix "MeltHours$Tape" ∈ lw_good) (hg : nAR sh n c0 = some sh') (he : e = 1 + e1) (hes : es = c0.toNatClampNeg + es1) (hd : decode cc pc = .ok (.anewarray ix, 3)) (kk : J G X Q nL sh' I L (n + 1) e1 es1 (pc + 3) ls (.ref n :: st)) : J G X Q nL sh I L n e es pc ls (.int c0 :: st) := by
  obtain ⟨p, l, e', R, s, m, args, below, meth, c⟩ := X
  obtain ⟨hx, hb, hml, hown, hts, hr, hlocks, hnm, hK, hq0, hq1, hRf, hRl⟩ := F
  intro H locs cells slots LS h1 h2 h3 h4 h5
  obtain ⟨⟨g1, g2⟩, g3⟩ := ite_obt hg
  cases g3
  refine W.anew hx hb hown (hts _ hw) (va_AO.use hK.2.1) rfl hd rfl g1 (by omega) (by omega) (by omega) fun cA kA comp f1 f2 f3 f4 => ?_
  have h9 : H.size = n := h3.1
  generalize hH1 : H.push ({ cls := cA, slots := Array.replicate c0.toNatClampNeg .null, vm := .none } : Cell) = H1
  have hz : H1.size = H.size + 1 := by rw [← hH1, Array.size_push]
  have e1' : H1[H.size]? = some (arrV cA c0.toNatClampNeg (fun _ => .null)) := by rw [← hH1, Array.getElem?_push_size, ← arrV_new]
  have ho : ∀ q : Nat, q < H.size → H1[q]? = H[q]? := fun q hq => by rw [← hH1, Array.getElem?_push, if_neg (Nat.ne_of_lt hq)]
  rw [h9]
  refine kk H1 locs (cells + 1) (slots + c0.toNatClampNeg) LS (by omega) (by omega) (h3.pushS hz ho ?_) (h4.grow (by omega) ho) h5
  show H1[n]? = some _
  obtain ⟨kB, cB, -, -, -, k4⟩ := (hK.1.2 3 (by omega)).2
  have hcA : cA = G.2.2.1 3 := Option.some.inj (f1.symm.trans k4)
  rw [← h9, e1', hcA]
  rfl
theorem j_new (F : MF G X own cc nL d ret nm) {ix ci N e1 es1 : Nat} (cn : CN own ix ci N) (he : e = 1 + e1) (hes : es = N + es1) (hd : decode cc pc = .ok (.new ix, 3)) (kk : J G X Q nL (nO sh n ci) (nOI I n) L (n + 1) e1 es1 (pc + 3) ls (.ref n :: st)) : J G X Q nL sh I L n e es pc ls st := by
  obtain ⟨p, l, e', R, s, m, args, below, meth, c⟩ := X
  obtain ⟨hx, hb, hml, hown, hts, hr, hlocks, hnm, hK, hq0, hq1, hRf, hRl⟩ := F
  intro H locs cells slots LS h1 h2 h3 h4 h5
  obtain ⟨C, T, tf, hc, w1, w2, w3, hin, htf, hdf⟩ := cn
  have hKn := hK.1.1 ci _ hc
  have h9 : H.size = n := h3.1
  refine W.newcK hx hb hown (hts _ w1) (hts _ w2) (hts _ w3) rfl hd (by omega) (by omega) hKn.2.1 h9 fun H1 kC hkC a1 a2 a3 => ?_
  have hz : H1.size = H.size + 1 := by rw [a2, h9]
  have ho : ∀ q : Nat, q < H.size → H1[q]? = H[q]? := fun q hq => a3 q (by omega)
  refine kk H1 locs (cells + 1) (slots + N) LS (by omega) (by omega) (h3.pushI hz ho ?_) (h4.grow (by omega) ho) h5
  exact ⟨_, hc, (u_born tf (fun w hw => hts w hw) hin hKn hkC a1 htf).to hdf⟩
/-! arraycopy -/
theorem j_cpI (F : MF G X own cc nL d ret nm) {ix a b : Nat} {sp dp c0 : Int32} {I' : IH} (hw : Cond.methodLink own ix arraycopyName ∈ lw_good) (hg : cpI sh I a sp b dp c0 = some I') (hst : Nat.ble ((st.map fun v => v.category).sum) 8 = true) (hdd : Nat.ble 1 d = true) (hd : decode cc pc = .ok (.invokestatic ix, 3)) (kk : J G X Q nL sh I' L n e es (pc + 3) ls st) : J G X Q nL sh I L n e es pc ls (.int c0 :: .int dp :: .ref b :: .int sp :: .ref a :: st) := by
  obtain ⟨p, l, e', R, s, m, args, below, meth, c⟩ := X
  obtain ⟨hx, hb, hml, hown, hts, hr, hlocks, hnm, hK, hq0, hq1, hRf, hRl⟩ := F
  intro H locs cells slots LS h1 h2 h3 h4 h5
  obtain ⟨n0, n1, r0, r1, g0, g1, ⟨g2, g3, g4⟩, g5, g6, rfl⟩ := cpI_obt hg
  have nn : ∀ z : Int32, ¬ z < 0 → z.toInt = (z.toNatClampNeg : Int) := by
    intro z hz
    have hz0 : (0 : Int) ≤ z.toInt := by
      have := Int32.not_lt.mp hz
      simpa using Int32.le_iff_toInt_le.mp this
    show z.toInt = ((z.toInt.toNat : Nat) : Int)
    omega
  have hc0 := (h3.2.2.2 a _ g0).2
  have hc1 := (h3.2.2.2 b _ g1).2
  have hA := (h3.2.2.2 b _ g1).1
  obtain ⟨-, k0, hk0, cm0, hkk0⟩ := (hK.1.2 0 (by omega)).1 n0 (fun j => .int (I a j))
  have hst' := Nat.le_of_ble_eq_true hst
  have hdd' := Nat.le_of_ble_eq_true hdd
  have hnw : nativeFrameWords "java/lang/System" "arraycopy" 5 + 11 ≤ 100 := by decide +kernel
  have hc0 : H[a]? = some (vp_cell (G.2.2.1 0) (n0, .inl (I a))) := hc0
  have hc1 : H[b]? = some (vp_cell (G.2.2.1 0) (n1, .inl (I b))) := hc1
  intro T hT X
  obtain ⟨vm', X', step⟩ := X.arraycopy hx hown (hts _ hw) (hts _ cpw1) (hts _ cpw2) (hts _ cpw3) (src := a) (dst := b) (cs := vp_cell (G.2.2.1 0) (n0, .inl (I a))) (cd := vp_cell (G.2.2.1 0) (n1, .inl (I b))) (srcPos := sp) (destPos := dp) (n := c0) (by rw [hT]; exact hc0) (by rw [hT]; exact hc1)
    (fun _ h => by cases h) (fun _ h => by cases h) (fun h => by cases h) (fun h => by cases h) hk0 hk0 hkk0 hkk0 (by simp [tyA, refKind]) g2 g3 g4
    (by rw [nn sp g2, nn c0 g4]; show ¬ _ > ((arrV _ n0 (fun j => .int (I a j))).slots.size : Int); rw [arrV_size]; omega)
    (by rw [nn dp g3, nn c0 g4]; show ¬ _ > ((arrV _ n1 (fun j => .int (I b j))).slots.size : Int); rw [arrV_size]; omega)
    (fun vm₁ _ i hi => by
      have e : (vp_cell (G.2.2.1 0) (n0, .inl (I a))).slots.getD (sp.toNatClampNeg + i) .null = .int (I a (sp.toNatClampNeg + i)) := by
        show (arrV _ n0 (fun j => .int (I a j))).slots.getD _ _ = _
        rw [Array.getD_eq_getD_getElem?, arrV_read _ _ (by omega)]
        rfl
      refine ⟨?_, ?_⟩
      · rw [e]
        rfl
      · rw [e]
        exact trivial)
    (g := F0 m pc LS (.int c0 :: .int dp :: .ref b :: .int sp :: .ref a :: st)) rfl (by rw [hml]; exact h5.1) (rest := st) rfl (by rw [hb]; exact hd) (by omega) (by show 2 * 0 + _ + _ ≤ _; omega)
  have e1 : copied (vp_cell (G.2.2.1 0) (n0, .inl (I a))) (vp_cell (G.2.2.1 0) (n1, .inl (I b))) sp dp c0 = vp_cell (G.2.2.1 0) (n1, .inl (va_cpy (I a) (I b) sp.toNatClampNeg dp.toNatClampNeg c0.toNatClampNeg)) := va_copied (fun z => .int z) _ _ (I a) (I b) g5
  rw [e1] at X' step
  have hl : b < H.size := (Array.getElem?_eq_some_iff.mp hc1).1
  have hheap : ((T.setVm vm').setCell b (vp_cell (G.2.2.1 0) (n1, .inl (va_cpy (I a) (I b) sp.toNatClampNeg dp.toNatClampNeg c0.toNatClampNeg)))).heap = H.setIfInBounds b (vp_cell (G.2.2.1 0) (n1, .inl (va_cpy (I a) (I b) sp.toNatClampNeg dp.toNatClampNeg c0.toNatClampNeg))) := by rw [← hT]; rfl
  have oq : ∀ q : Nat, q ≠ b → (H.setIfInBounds b (vp_cell (G.2.2.1 0) (n1, .inl (va_cpy (I a) (I b) sp.toNatClampNeg dp.toNatClampNeg c0.toNatClampNeg))))[q]? = H[q]? := fun q hq => by simp [Array.getElem?_setIfInBounds, Ne.symm hq]
  obtain ⟨t, a1, b1⟩ := kk _ _ cells slots LS h1 h2 (h3.putI (f := va_cpy (I a) (I b) sp.toNatClampNeg dp.toNatClampNeg c0.toNatClampNeg) g1 (by simp) oq (show (H.setIfInBounds b _)[b]? = some _ by rw [Array.getElem?_setIfInBounds, if_pos rfl, if_pos hl]; rfl)) ⟨by simp; exact h4.1, fun q k1 k2 => by
      rw [oq q (fun e => k2 (by rw [e]; exact hA))]
      exact h4.2.1 q k1 k2, fun q hq => by
      rcases List.mem_append.mp hq with h | h
      · exact h4.2.2 q h
      · obtain ⟨z, -, hz⟩ := List.mem_map.mp h
        rw [← hz]
        exact hA⟩ h5 _ hheap X'
  exact ⟨t, step t a1, b1⟩
theorem j_cpL (F : MF G X own cc nL d ret nm) {ix a b : Nat} {sp dp c0 : Int32} {L' : LH} (hw : Cond.methodLink own ix arraycopyName ∈ lw_good) (hg : cpL sh L a sp b dp c0 = some L') (hst : Nat.ble ((st.map fun v => v.category).sum) 8 = true) (hdd : Nat.ble 1 d = true) (hd : decode cc pc = .ok (.invokestatic ix, 3)) (kk : J G X Q nL sh I L' n e es (pc + 3) ls st) : J G X Q nL sh I L n e es pc ls (.int c0 :: .int dp :: .ref b :: .int sp :: .ref a :: st) := by
  obtain ⟨p, l, e', R, s, m, args, below, meth, c⟩ := X
  obtain ⟨hx, hb, hml, hown, hts, hr, hlocks, hnm, hK, hq0, hq1, hRf, hRl⟩ := F
  intro H locs cells slots LS h1 h2 h3 h4 h5
  obtain ⟨n0, n1, r0, r1, g0, g1, ⟨g2, g3, g4⟩, g5, g6, rfl⟩ := cpL_obt hg
  have nn : ∀ z : Int32, ¬ z < 0 → z.toInt = (z.toNatClampNeg : Int) := by
    intro z hz
    have hz0 : (0 : Int) ≤ z.toInt := by
      have := Int32.not_lt.mp hz
      simpa using Int32.le_iff_toInt_le.mp this
    show z.toInt = ((z.toInt.toNat : Nat) : Int)
    omega
  have hc0 := (h3.2.2.2 a _ g0).2
  have hc1 := (h3.2.2.2 b _ g1).2
  have hA := (h3.2.2.2 b _ g1).1
  obtain ⟨-, k0, hk0, cm0, hkk0⟩ := (hK.1.2 2 (by omega)).1 n0 (fun j => .long (L a j))
  have hst' := Nat.le_of_ble_eq_true hst
  have hdd' := Nat.le_of_ble_eq_true hdd
  have hnw : nativeFrameWords "java/lang/System" "arraycopy" 5 + 11 ≤ 100 := by decide +kernel
  have hc0 : H[a]? = some (vp_cell (G.2.2.1 2) (n0, .inr (.inl (L a)))) := hc0
  have hc1 : H[b]? = some (vp_cell (G.2.2.1 2) (n1, .inr (.inl (L b)))) := hc1
  intro T hT X
  obtain ⟨vm', X', step⟩ := X.arraycopy hx hown (hts _ hw) (hts _ cpw1) (hts _ cpw2) (hts _ cpw3) (src := a) (dst := b) (cs := vp_cell (G.2.2.1 2) (n0, .inr (.inl (L a)))) (cd := vp_cell (G.2.2.1 2) (n1, .inr (.inl (L b)))) (srcPos := sp) (destPos := dp) (n := c0) (by rw [hT]; exact hc0) (by rw [hT]; exact hc1)
    (fun _ h => by cases h) (fun _ h => by cases h) (fun h => by cases h) (fun h => by cases h) hk0 hk0 hkk0 hkk0 (by simp [tyA, refKind]) g2 g3 g4
    (by rw [nn sp g2, nn c0 g4]; show ¬ _ > ((arrV _ n0 (fun j => .long (L a j))).slots.size : Int); rw [arrV_size]; omega)
    (by rw [nn dp g3, nn c0 g4]; show ¬ _ > ((arrV _ n1 (fun j => .long (L b j))).slots.size : Int); rw [arrV_size]; omega)
    (fun vm₁ _ i hi => by
      have e : (vp_cell (G.2.2.1 2) (n0, .inr (.inl (L a)))).slots.getD (sp.toNatClampNeg + i) .null = .long (L a (sp.toNatClampNeg + i)) := by
        show (arrV _ n0 (fun j => .long (L a j))).slots.getD _ _ = _
        rw [Array.getD_eq_getD_getElem?, arrV_read _ _ (by omega)]
        rfl
      refine ⟨?_, ?_⟩
      · rw [e]
        rfl
      · rw [e]
        exact trivial)
    (g := F0 m pc LS (.int c0 :: .int dp :: .ref b :: .int sp :: .ref a :: st)) rfl (by rw [hml]; exact h5.1) (rest := st) rfl (by rw [hb]; exact hd) (by omega) (by show 2 * 0 + _ + _ ≤ _; omega)
  have e1 : copied (vp_cell (G.2.2.1 2) (n0, .inr (.inl (L a)))) (vp_cell (G.2.2.1 2) (n1, .inr (.inl (L b)))) sp dp c0 = vp_cell (G.2.2.1 2) (n1, .inr (.inl (va_cpy (L a) (L b) sp.toNatClampNeg dp.toNatClampNeg c0.toNatClampNeg))) := va_copied (fun z => .long z) _ _ (L a) (L b) g5
  rw [e1] at X' step
  have hl : b < H.size := (Array.getElem?_eq_some_iff.mp hc1).1
  have hheap : ((T.setVm vm').setCell b (vp_cell (G.2.2.1 2) (n1, .inr (.inl (va_cpy (L a) (L b) sp.toNatClampNeg dp.toNatClampNeg c0.toNatClampNeg))))).heap = H.setIfInBounds b (vp_cell (G.2.2.1 2) (n1, .inr (.inl (va_cpy (L a) (L b) sp.toNatClampNeg dp.toNatClampNeg c0.toNatClampNeg)))) := by rw [← hT]; rfl
  have oq : ∀ q : Nat, q ≠ b → (H.setIfInBounds b (vp_cell (G.2.2.1 2) (n1, .inr (.inl (va_cpy (L a) (L b) sp.toNatClampNeg dp.toNatClampNeg c0.toNatClampNeg)))))[q]? = H[q]? := fun q hq => by simp [Array.getElem?_setIfInBounds, Ne.symm hq]
  obtain ⟨t, a1, b1⟩ := kk _ _ cells slots LS h1 h2 (h3.putL (g := va_cpy (L a) (L b) sp.toNatClampNeg dp.toNatClampNeg c0.toNatClampNeg) g1 (by simp) oq (show (H.setIfInBounds b _)[b]? = some _ by rw [Array.getElem?_setIfInBounds, if_pos rfl, if_pos hl]; rfl)) ⟨by simp; exact h4.1, fun q k1 k2 => by
      rw [oq q (fun e => k2 (by rw [e]; exact hA))]
      exact h4.2.1 q k1 k2, fun q hq => by
      rcases List.mem_append.mp hq with h | h
      · exact h4.2.2 q h
      · obtain ⟨z, -, hz⟩ := List.mem_map.mp h
        rw [← hz]
        exact hA⟩ h5 _ hheap X'
  exact ⟨t, step t a1, b1⟩

/-! statics: the table ABOVE -/
theorem j_getAB (F : MF G X own cc nL d ret nm) {ix : Nat} (hw : Cond.fieldLink own ix "MeltHours" "ABOVE" "[I" ∈ lw_good) (hd : decode cc pc = .ok (.getstatic ix, 3)) (kk : J G X Q nL sh I L n e es (pc + 3) ls (.ref G.2.2.2.2.2.2.1 :: st)) : J G X Q nL sh I L n e es pc ls st := by
  obtain ⟨p, l, e', R, s, m, args, below, meth, c⟩ := X
  obtain ⟨hx, hb, hml, hown, hts, hr, hlocks, hnm, hK, hq0, hq1, hRf, hRl⟩ := F
  intro H locs cells slots LS h1 h2 h3 h4 h5
  have hZ := hK.2.2.2.2.2.2.1
  obtain ⟨cf, kf, fi, f, a, cell, z1, z2, z3, z4, z5, z6, z7, z8⟩ := hZ
  exact W.gets hx hb hown (hts _ hw) z1 z2 z3 z4 (by rw [h3.2.2.1 a (Array.getElem?_eq_some_iff.mp z5).1]; exact z5) (fun e => by rw [e] at z6; cases z6) z7 rfl hd (kk H locs cells slots LS h1 h2 h3 h4 h5)
theorem j_ldAB (F : MF G X own cc nL d ret nm) {i x : Int32} (hg : abv i = some x) (hd : decode cc pc = .ok (.iaload, 1)) (kk : J G X Q nL sh I L n e es (pc + 1) ls (.int x :: st)) : J G X Q nL sh I L n e es pc ls (.int i :: .ref G.2.2.2.2.2.2.1 :: st) := by
  obtain ⟨p, l, e', R, s, m, args, below, meth, c⟩ := X
  obtain ⟨hx, hb, hml, hown, hts, hr, hlocks, hnm, hK, hq0, hq1, hRf, hRl⟩ := F
  intro H locs cells slots LS h1 h2 h3 h4 h5
  obtain ⟨g1, g2⟩ := abv_obt hg
  obtain ⟨cell, z1, z2, z3, z4, z5, z6, z7⟩ := hK.2.2.2.2.2.2.2.1
  have hlt : i.toNatClampNeg < 7 := Nat.not_le.mp fun q => g1 (Or.inr q)
  have hin' : ¬ (i < 0 ∨ cell.slots.size ≤ i.toNatClampNeg) := by
    intro q
    rcases q with q | q
    · exact g1 (Or.inl q)
    · omega
  exact W.iald (v := .int x) hx hb (by rw [h3.2.2.1 _ (Array.getElem?_eq_some_iff.mp z1).1]; exact z1) z2 z3 hin' (by rw [z6 _ hlt, ← g2]) rfl rfl hd (kk H locs cells slots LS h1 h2 h3 h4 h5)
/-! calls -/
theorem j_callV (F : MF G X own cc nL d ret nm) {ix cnt d' nL' ci b e1 es1 e0 es0 : Nat} {y : MethodName} {cc' : ByteArray} {ret' : Option FieldType} {As st0 : List Value} {v : Option Value} {sh' : SH} {I' : IH} {L' : LH} {n' : Nat} (cl : CLV own ix y cnt) (hcode : Cond.code y cc' nL' ret' ∈ lw_good) (hC : (vwCl[ci]?).map (·.1) = some y.cls) (hrc : isO sh ci b) (hct : Ct G y cc' nL' ret' d' (.ref b :: As) sh I L n v sh' I' L' n' e0 es0) (hdk : dok d' nL' d = true) (hn : As.length = cnt) (hs0 : st0 = As.reverse ++ .ref b :: st) (hst : Nat.ble ((st.map fun v => v.category).sum) 8 = true) (he : e = e0 + e1) (hes : es = es0 + es1) (hd : decode cc pc = .ok (.invokevirtual ix, 3)) (kk : J G X Q nL sh' I' L' n' e1 es1 (pc + 3) ls (v.toList ++ st)) : J G X Q nL sh I L n e es pc ls st0 := by
  obtain ⟨p, l, e', R, s, m, args, below, meth, c⟩ := X
  obtain ⟨hx, hb, hml, hown, hts, hr, hlocks, hnm, hK, hq0, hq1, hRf, hRl⟩ := F
  intro H locs cells slots LS h1 h2 h3 h4 h5
  obtain ⟨w1, w2, w3, w4, w5⟩ := cl
  have hf := dok_fr hdk
  obtain ⟨fk, o1⟩ := hrc
  obtain ⟨r, o2, cell, o3, o4, o5, -⟩ := (h3.2.2.2 b _ o1).2
  rw [o2] at hC
  have hcl : r.1 = y.cls := Option.some.inj hC
  have hfc := (hK.1.1 ci r o2).2.1
  refine run_W (va_runV (C := y.cls) (As := As) (rest := st) ⟨hx, hb, hml, hown, hts⟩ (hct l) ⟨⟨rfl, rfl, Nat.le_trans hf.1 hRf, Nat.le_trans hf.2 hRl, pay_in hts (goodU hcode), List.mem_cons_self, hts _ hcode, hts _ w4, w5.1, cwd_len w5, hts _ w1⟩, hts _ w2, hts _ w3⟩ ⟨PcT.blind, ⟨cell, o3, by rw [o5]; rfl, by rw [o4, ← hcl]; exact hfc⟩, preT (As := .ref b :: As) h3 hK⟩ rfl hn h5.1 hs0 (lv_room (Nat.le_of_ble_eq_true hst)) hd ⟨by omega, by omega⟩) h4 (fun H1 locs1 k3 k4 => ?_)
  exact kk H1 locs1 (cells + e0) (slots + es0) LS (by omega) (by omega) k3 k4 h5
theorem j_callS (F : MF G X own cc nL d ret nm) {ix cnt d' nL' e1 es1 e0 es0 : Nat} {y : MethodName} {cc' : ByteArray} {ret' : Option FieldType} {As st0 : List Value} {v : Option Value} {sh' : SH} {I' : IH} {L' : LH} {n' : Nat} (cl : CLS own ix y cnt) (hcode : Cond.code y cc' nL' ret' ∈ lw_good) (hct : Ct G y cc' nL' ret' d' As sh I L n v sh' I' L' n' e0 es0) (hdk : dok d' nL' d = true) (hn : As.length = cnt) (hs0 : st0 = As.reverse ++ st) (hst : Nat.ble ((st.map fun v => v.category).sum) 8 = true) (he : e = e0 + e1) (hes : es = es0 + es1) (hd : decode cc pc = .ok (.invokestatic ix, 3)) (kk : J G X Q nL sh' I' L' n' e1 es1 (pc + 3) ls (v.toList ++ st)) : J G X Q nL sh I L n e es pc ls st0 := by
  obtain ⟨p, l, e', R, s, m, args, below, meth, c⟩ := X
  obtain ⟨hx, hb, hml, hown, hts, hr, hlocks, hnm, hK, hq0, hq1, hRf, hRl⟩ := F
  intro H locs cells slots LS h1 h2 h3 h4 h5
  obtain ⟨w1, w2, w4, w5⟩ := cl
  have hf := dok_fr hdk
  refine run_W (va_runS (As := As) (rest := st) ⟨hx, hb, hml, hown, hts⟩ (hct l) ⟨⟨rfl, rfl, Nat.le_trans hf.1 hRf, Nat.le_trans hf.2 hRl, pay_in hts (goodU hcode), List.mem_cons_self, hts _ hcode, hts _ w4, w5.1, cwd_len w5, hts _ w1⟩, hts _ w2⟩ ⟨PcT.blind, preT h3 hK⟩ rfl hn h5.1 hs0 (lv_room (Nat.le_of_ble_eq_true hst)) hd ⟨by omega, by omega⟩) h4 (fun H1 locs1 k3 k4 => ?_)
  exact kk H1 locs1 (cells + e0) (slots + es0) LS (by omega) (by omega) k3 k4 h5
theorem j_callSN (F : MF G X own cc nL d ret nm) {ix cnt d' nL' e1 es1 e0 es0 : Nat} {y : MethodName} {cc' : ByteArray} {ret' : Option FieldType} {As st0 : List Value} {v : Option Value} {sh' : SH} {I' : IH} {L' : LH} {n' : Nat} (cl : CLSN own ix y cnt) (hcode : Cond.code y cc' nL' ret' ∈ lw_good) (hct : Ct G y cc' nL' ret' d' As sh I L n v sh' I' L' n' e0 es0) (hdk : dok d' nL' d = true) (hn : As.length = cnt) (hs0 : st0 = As.reverse ++ st) (hst : Nat.ble ((st.map fun v => v.category).sum) 8 = true) (he : e = e0 + e1) (hes : es = es0 + es1) (hd : decode cc pc = .ok (.invokestatic ix, 3)) (kk : J G X Q nL sh' I' L' n' e1 es1 (pc + 3) ls (v.toList ++ st)) : J G X Q nL sh I L n e es pc ls st0 := by
  obtain ⟨p, l, e', R, s, m, args, below, meth, c⟩ := X
  obtain ⟨hx, hb, hml, hown, hts, hr, hlocks, hnm, hK, hq0, hq1, hRf, hRl⟩ := F
  intro H locs cells slots LS h1 h2 h3 h4 h5
  obtain ⟨w1, w2, w4, w5⟩ := cl
  have hf := dok_fr hdk
  refine run_W (va_runSN (host := RX6) (As := As) (rest := st) ⟨hx, hb, hml, hown, hts⟩ (hct l) ⟨⟨⟨rfl, rfl, Nat.le_trans hf.1 hRf, Nat.le_trans hf.2 hRl, pay_in hts (goodU hcode), List.mem_cons_self⟩, hts _ hcode, hts _ w4, w5.1, cwd_len w5, va_Nw.use rfl (hK.2.2.2.1 _ w1)⟩, hts _ w2, trivial⟩ ⟨PcT.blind, preT h3 hK⟩ rfl hn h5.1 hs0 (lv_room (Nat.le_of_ble_eq_true hst)) hd ⟨by omega, by omega⟩) h4 (fun H1 locs1 k3 k4 => ?_)
  exact kk H1 locs1 (cells + e0) (slots + es0) LS (by omega) (by omega) k3 k4 h5
theorem j_callI (F : MF G X own cc nL d ret nm) {ix cnt d' nL' b e1 es1 e0 es0 : Nat} {y : MethodName} {cc' : ByteArray} {As st0 : List Value} {sh' : SH} {I' : IH} {L' : LH} {n' : Nat} (cl : CLI own ix y cnt) (hcode : Cond.code y cc' nL' none ∈ lw_good) (hct : Ct G y cc' nL' none d' (.ref b :: As) sh I L n none sh' I' L' n' e0 es0) (hdk : dok d' nL' d = true) (hn : As.length = cnt) (hs0 : st0 = As.reverse ++ .ref b :: st) (hst : Nat.ble ((st.map fun v => v.category).sum) 8 = true) (he : e = e0 + e1) (hes : es = es0 + es1) (hd : decode cc pc = .ok (.invokespecial ix, 3)) (kk : J G X Q nL sh' I' L' n' e1 es1 (pc + 3) ls st) : J G X Q nL sh I L n e es pc ls st0 := by
  obtain ⟨p, l, e', R, s, m, args, below, meth, c⟩ := X
  obtain ⟨hx, hb, hml, hown, hts, hr, hlocks, hnm, hK, hq0, hq1, hRf, hRl⟩ := F
  intro H locs cells slots LS h1 h2 h3 h4 h5
  obtain ⟨w1, w2, w4, w5, w6⟩ := cl
  have hf := dok_fr hdk
  refine run_W (v := none) (va_runI (As := As) (rest := st) ⟨hx, hb, hml, hown, hts⟩ (hct l) ⟨⟨rfl, rfl, Nat.le_trans hf.1 hRf, Nat.le_trans hf.2 hRl, pay_in hts (goodU hcode), List.mem_cons_self, hts _ hcode, hts _ w4, w5.1, cwd_len w5, hts _ w1⟩, w6, hts _ w2⟩ ⟨PcT.blind, preT (As := .ref b :: As) h3 hK⟩ rfl hn h5.1 hs0 (lv_room (Nat.le_of_ble_eq_true hst)) hd ⟨by omega, by omega⟩) h4 (fun H1 locs1 k3 k4 => ?_)
  exact kk H1 locs1 (cells + e0) (slots + es0) LS (by omega) (by omega) k3 k4 h5
theorem j_callIN (F : MF G X own cc nL d ret nm) {ix cnt d' nL' b e1 es1 e0 es0 : Nat} {y : MethodName} {cc' : ByteArray} {As st0 : List Value} {sh' : SH} {I' : IH} {L' : LH} {n' : Nat} (cl : CLIN own ix y cnt) (hcode : Cond.code y cc' nL' none ∈ lw_good) (hct : Ct G y cc' nL' none d' (.ref b :: As) sh I L n none sh' I' L' n' e0 es0) (hdk : dok d' nL' d = true) (hn : As.length = cnt) (hs0 : st0 = As.reverse ++ .ref b :: st) (hst : Nat.ble ((st.map fun v => v.category).sum) 8 = true) (he : e = e0 + e1) (hes : es = es0 + es1) (hd : decode cc pc = .ok (.invokespecial ix, 3)) (kk : J G X Q nL sh' I' L' n' e1 es1 (pc + 3) ls st) : J G X Q nL sh I L n e es pc ls st0 := by
  obtain ⟨p, l, e', R, s, m, args, below, meth, c⟩ := X
  obtain ⟨hx, hb, hml, hown, hts, hr, hlocks, hnm, hK, hq0, hq1, hRf, hRl⟩ := F
  intro H locs cells slots LS h1 h2 h3 h4 h5
  obtain ⟨w1, w2, w4, w5, w6⟩ := cl
  have hf := dok_fr hdk
  refine run_W (v := none) (va_runIN (host := RX6) (As := As) (rest := st) ⟨hx, hb, hml, hown, hts⟩ (hct l) ⟨⟨⟨rfl, rfl, Nat.le_trans hf.1 hRf, Nat.le_trans hf.2 hRl, pay_in hts (goodU hcode), List.mem_cons_self⟩, hts _ hcode, hts _ w4, w5.1, cwd_len w5, va_Nw.use rfl (hK.2.2.2.1 _ w1)⟩, w6, hts _ w2⟩ ⟨PcT.blind, preT (As := .ref b :: As) h3 hK⟩ rfl hn h5.1 hs0 (lv_room (Nat.le_of_ble_eq_true hst)) hd ⟨by omega, by omega⟩) h4 (fun H1 locs1 k3 k4 => ?_)
  exact kk H1 locs1 (cells + e0) (slots + es0) LS (by omega) (by omega) k3 k4 h5
theorem j_objInit (F : MF G X own cc nL d ret nm) {ix a : Nat} (hw : Cond.methodLink own ix objectInit ∈ lw_good) (hst : Nat.ble ((st.map fun v => v.category).sum) 8 = true) (hdd : Nat.ble 1 d = true) (hd : decode cc pc = .ok (.invokespecial ix, 3)) (kk : J G X Q nL sh I L n e es (pc + 3) ls st) : J G X Q nL sh I L n e es pc ls (.ref a :: st) := by
  obtain ⟨p, l, e', R, s, m, args, below, meth, c⟩ := X
  obtain ⟨hx, hb, hml, hown, hts, hr, hlocks, hnm, hK, hq0, hq1, hRf, hRl⟩ := F
  intro H locs cells slots LS h1 h2 h3 h4 h5
  have hst' := Nat.le_of_ble_eq_true hst
  have hdd' := Nat.le_of_ble_eq_true hdd
  exact W.objInit hx hb hown (hts _ hw) (hts _ oiw1) (hts _ oiw2) rfl (by rw [hml]; exact h5.1) rfl hd (by omega) (by show 2 * 0 + _ + 12 ≤ _; omega) (kk H locs cells slots LS h1 h2 h3 h4 h5)
/-! returns -/
theorem j_iret (F : MF G X own cc nL d (some .int) nm) {v : Int32} (hd : decode cc pc = .ok (.ireturn, 1)) : J G X (QE G X (some (.int v)) sh I L n) nL sh I L n 0 0 pc ls [.int v] := by
  obtain ⟨p, l, e', R, s, m, args, below, meth, c⟩ := X
  obtain ⟨hx, hb, hml, hown, hts, hr, hlocks, hnm, hK, hq0, hq1, hRf, hRl⟩ := F
  intro H locs cells slots LS h1 h2 h3 h4 h5
  have e1 : cells = R.cells := by omega
  have e2 : slots = R.slots := by omega
  subst e1
  subst e2
  exact W.iret hx hb hr (fun t ht hW => ⟨rfl, by rw [ht]; exact h3, h4.F ht⟩) h4.2.2 hd hlocks
theorem j_zret (F : MF G X own cc nL d (some .boolean) nm) {v : Int32} (hz : v = 0 ∨ v = 1) (hd : decode cc pc = .ok (.ireturn, 1)) : J G X (QE G X (some (.int v)) sh I L n) nL sh I L n 0 0 pc ls [.int v] := by
  obtain ⟨p, l, e', R, s, m, args, below, meth, c⟩ := X
  obtain ⟨hx, hb, hml, hown, hts, hr, hlocks, hnm, hK, hq0, hq1, hRf, hRl⟩ := F
  intro H locs cells slots LS h1 h2 h3 h4 h5
  have e1 : cells = R.cells := by omega
  have e2 : slots = R.slots := by omega
  subst e1
  subst e2
  exact W.zret hx hb hr (narrow_z hz) (fun t ht hW => ⟨rfl, by rw [ht]; exact h3, h4.F ht⟩) h4.2.2 hd hlocks
theorem j_nret (F : MF G X own cc nL d ret nm) {v : Int32} {ty : FieldType} (hret : ret = some ty) (hz : narrow ty (.int v) = .int v) (hd : decode cc pc = .ok (.ireturn, 1)) : J G X (QE G X (some (.int v)) sh I L n) nL sh I L n 0 0 pc ls [.int v] := by
  obtain ⟨p, l, e', R, s, m, args, below, meth, c⟩ := X
  obtain ⟨hx, hb, hml, hown, hts, hr, hlocks, hnm, hK, hq0, hq1, hRf, hRl⟩ := F
  intro H locs cells slots LS h1 h2 h3 h4 h5
  have e1 : cells = R.cells := by omega
  have e2 : slots = R.slots := by omega
  subst e1
  subst e2
  subst hret
  exact W.zret hx hb hr hz (fun t ht hW => ⟨rfl, by rw [ht]; exact h3, h4.F ht⟩) h4.2.2 hd hlocks
theorem j_lret (F : MF G X own cc nL d (some .long) nm) {v : Int64} (hd : decode cc pc = .ok (.lreturn, 1)) : J G X (QE G X (some (.long v)) sh I L n) nL sh I L n 0 0 pc ls [.long v] := by
  obtain ⟨p, l, e', R, s, m, args, below, meth, c⟩ := X
  obtain ⟨hx, hb, hml, hown, hts, hr, hlocks, hnm, hK, hq0, hq1, hRf, hRl⟩ := F
  intro H locs cells slots LS h1 h2 h3 h4 h5
  have e1 : cells = R.cells := by omega
  have e2 : slots = R.slots := by omega
  subst e1
  subst e2
  exact W.lret hx hb hr (fun t ht hW => ⟨rfl, by rw [ht]; exact h3, h4.F ht⟩) h4.2.2 hd hlocks
theorem j_vret (F : MF G X own cc nL d none nm) (hd : decode cc pc = .ok (.return_, 1)) : J G X (QE G X none sh I L n) nL sh I L n 0 0 pc ls [] := by
  obtain ⟨p, l, e', R, s, m, args, below, meth, c⟩ := X
  obtain ⟨hx, hb, hml, hown, hts, hr, hlocks, hnm, hK, hq0, hq1, hRf, hRl⟩ := F
  intro H locs cells slots LS h1 h2 h3 h4 h5
  have e1 : cells = R.cells := by omega
  have e2 : slots = R.slots := by omega
  subst e1
  subst e2
  exact W.vret hx hb hr (fun t ht hW => ⟨rfl, by rw [ht]; exact h3, h4.F ht⟩) h4.2.2 hd hlocks
theorem j_aret (F : MF G X own cc nL d ret nm) {o : Option Nat} {v : Value} {rt : FieldType} (hret : ret = some rt) (hrt : (∃ n, rt = .object n) ∨ ∃ t, rt = .array t) (hv : v = va_rf o) (hd : decode cc pc = .ok (.areturn, 1)) : J G X (QE G X (some v) sh I L n) nL sh I L n 0 0 pc ls [v] := by
  obtain ⟨p, l, e', R, s, m, args, below, meth, c⟩ := X
  obtain ⟨hx, hb, hml, hown, hts, hr, hlocks, hnm, hK, hq0, hq1, hRf, hRl⟩ := F
  intro H locs cells slots LS h1 h2 h3 h4 h5
  have e1 : cells = R.cells := by omega
  have e2 : slots = R.slots := by omega
  subst e1
  subst e2
  subst hret
  exact W.aret hx hb hr hrt (by subst hv; cases o with | none => exact Or.inl rfl | some a => exact Or.inr ⟨a, rfl⟩) (fun t ht hW => ⟨rfl, by rw [ht]; exact h3, h4.F ht⟩) h4.2.2 hd hlocks
end JC
