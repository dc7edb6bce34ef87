/-! THE TYPED HEAP: shapes by address, ints by address and place, longs by address and place; J: a judgement over it -/
abbrev shC : Type := (Nat × (Nat → Option (Option Nat))) ⊕ (Nat × Nat × (Nat → Option Nat))
abbrev SH : Type := Nat → Option shC
abbrev IH : Type := Nat → Nat → Int32
abbrev LH : Type := Nat → Nat → Int64
/-- the kinds of arrays: 0 int, 1 boolean, 2 long, 3 of tapes, 4 of int rows -/
def tyA (t : Nat) : FieldType := match t with
  | 0 => .int
  | 1 => .boolean
  | 2 => .long
  | 3 => .object "MeltHours$Tape"
  | _ => .array .int
/-- what is fixed for the whole run: the classes, their slots, the arrays' classes, the heap at the start, the addresses of the texts and their bytes, of the table ABOVE, and of one cell more -/
abbrev GT : Type := (Nat → ClassId) × (Nat → Nat → Nat) × (Nat → ClassId) × Heap × (Nat → Nat) × (Nat → Nat) × Nat × Nat
abbrev gH0 (G : GT) : Heap := G.2.2.2.1
abbrev bA (G : GT) : Nat → Prop := fun q => (gH0 G).size ≤ q
def fv (fk : Nat → Option (Option Nat)) (f : Nat → Int32) (k : Nat) : Value := match fk k with
  | none => .int (f k)
  | some r => va_rf r
def av (t : Nat) (rf : Nat → Option Nat) (f : Nat → Int32) (g : Nat → Int64) (j : Nat) : Value := match t with
  | 0 => .int (f j)
  | 1 => .int (f j)
  | 2 => .long (g j)
  | _ => va_rf (rf j)
def cellAt (G : GT) (c : shC) (f : Nat → Int32) (g : Nat → Int64) (a : Nat) (H : Heap) : Prop := match c with
  | .inl (ci, fk) => ∃ r : vw_C, vwCl[ci]? = some r ∧ t_OB a (G.1 ci) r.2.2 (G.2.1 ci) H (fv fk f)
  | .inr (t, n, rf) => H[a]? = some (arrV (G.2.2.1 t) n (av t rf f g))
def HPh (G : GT) (sh : SH) (I : IH) (L : LH) (n : Nat) (H : Heap) : Prop := H.size = n ∧ (gH0 G).size ≤ n ∧ (∀ q : Nat, q < (gH0 G).size → H[q]? = (gH0 G)[q]?) ∧ ∀ (a : Nat) (c : shC), sh a = some c → (gH0 G).size ≤ a ∧ cellAt G c (I a) (L a) a H
/-- the nest mates' links -/
def nestWs : List Cond := [.methodLinkNest RX6 41 yX0_init RX6, .methodLinkNest RX6 56 yX3_init RX6, .methodLinkNest RX1 112 yX6_isUnder RX6, .methodLinkNest RX4 26 yX6_isUnder RX6, .methodLinkNest RX2 51 yX6_isUnder RX6, .methodLinkNest RX5 54 yX6_copyRows RX6, .methodLinkNest RX5 107 yX6_isUnder RX6, .methodLinkNest RX5 138 yX6_sum RX6, .methodLinkNest RX2 37 yX6_copy RX6, .methodLinkNest RX2 41 yX6_copyRows RX6]
def sLen : List Nat := [2, 3, 1, 3, 4]
def sByt : List (List Int32) := [[108, 116], [111, 115, 116], [103], [101, 97, 107], [112, 111, 110, 100]]
def sIx : List (Nat × String) := [(73, "lt"), (79, "ost"), (81, "g"), (83, "eak"), (85, "pond")]
def abvL : List Int32 := [-1, 0, 0, 0, 1, 2, 3]
def va_AOA (ty : FieldType) (U : State) : Prop := (Cond.arrayOver (.array ty)).before #[] U = true
theorem va_AOA.spec {t : FieldType} {s : State} (h : va_AOA t s) : ∃ comp c k, s.vm.findClass (FieldType.array t).toString = some comp ∧ (s.vm.classes.findIdx? fun x => match x.kind with | .array component _ => component == comp | _ => false) = some c ∧ s.vm.classes[c]? = some k ∧ k.kind = .array comp (.array t) ∧ s.vm.findClass ("[" ++ (FieldType.array t).toString) = some c := by
  unfold va_AOA Cond.before at h
  simp only [Cond.holds, Cond.value, beq_iff_eq] at h
  cases hc : s.vm.findClass (FieldType.array t).toString with
  | none => simp [hc] at h
  | some comp =>
    simp only [hc, Option.bind_some, Option.bind_eq_some_iff, Option.map_eq_some_iff] at h
    obtain ⟨c, hi, k, hk, hb⟩ := h
    obtain ⟨hlt, hp, -⟩ := Array.findIdx?_eq_some_iff_getElem.mp hi
    have hkk : s.vm.classes[c] = k := (Array.getElem?_eq_some_iff.mp hk).2
    rw [hkk] at hp
    cases hkind : k.kind with
    | array component ty =>
      simp only [hkind, Bool.and_eq_true, decide_eq_true_eq, beq_iff_eq] at hb hp
      obtain ⟨e1, e2⟩ := hb
      subst e1
      subst hp
      exact ⟨component, c, k, rfl, hi, hk, hkind, e2⟩
    | _ => simp [hkind] at hp
theorem va_AOA.moved {t : FieldType} {u U : State} (hvm : u.vm.Alike U.vm) (h : va_AOA t u) : va_AOA t U := by
  obtain ⟨comp, c, k, h1, h2, h3, h4, h5⟩ := h.spec
  obtain ⟨k', hk', he⟩ := hvm.2.2 _ _ h3
  have hi : (U.vm.classes.findIdx? fun (x : Class) => match x.kind with | .array component _ => component == comp | _ => false) = some c := by
    first
      | exact (va_idx_bare U.vm comp).symm.trans ((congrArg (fun v : Vm => v.classes.findIdx? fun (x : Class) => match x.kind with | .array component _ => comp == component | _ => false) hvm.bare_eq.symm).trans ((va_idx_bare u.vm comp).trans h2))
      | exact (va_idx_bare U.vm comp).symm.trans ((congrArg (fun v : Vm => v.classes.findIdx? fun (x : Class) => match x.kind with | .array component _ => component == comp | _ => false) hvm.bare_eq).trans ((va_idx_bare u.vm comp).trans h2))
      | exact (va_idx_bare U.vm comp).symm.trans ((congrArg (fun v : Vm => v.classes.findIdx? fun (x : Class) => match x.kind with | .array component _ => component == comp | _ => false) hvm.bare_eq.symm).trans ((va_idx_bare u.vm comp).trans h2))
  have hkind : k'.kind = .array comp (.array t) := by rw [he]; exact h4
  have f1 : U.vm.findClass (FieldType.array t).toString = some comp := by rw [hvm.findClass]; exact h1
  have f2 : U.vm.findClass ("[" ++ (FieldType.array t).toString) = some c := by rw [hvm.findClass]; exact h5
  unfold va_AOA Cond.before Cond.holds
  simp only [Cond.value]
  rw [f1, Option.bind_some]
  refine (congrArg (fun o : Option Nat => (o.bind (fun c => (U.vm.classes[c]?).map fun (k : Class) => match k.kind with | .array _ ty => decide (ty = FieldType.array t) && decide (U.vm.findClass ("[" ++ (FieldType.array t).toString) = some c) | _ => false) == some true)) hi).trans ?_
  simp [hk', hkind, f2]
/-- what the tables, the statics and the texts give, all along -/
def KF (G : GT) (U : State) : Prop :=
  ((∀ (c : Nat) (q : vw_C), vwCl[c]? = some q → u_Kn U q.1 q.2.1 q.2.2 (G.1 c) (G.2.1 c)) ∧ (∀ t, t < 5 → ArrOfT U (G.2.2.1 t) (tyA t) ∧ va_RA U (G.2.2.1 t) (tyA t))) ∧
  va_AO "MeltHours$Tape" U ∧ va_AOA .int U ∧ (∀ w ∈ nestWs, va_Nw w U) ∧
  (∀ i q, sIx[i]? = some q → vk_R RX1 q.1 q.2 (G.2.2.2.2.1 i) U) ∧ vk_S 5 sLen sByt G.2.2.2.2.1 G.2.2.2.2.2.1 (bA G) U (gH0 G) ∧
  va_Z "MeltHours" "ABOVE" "[I" (.ref G.2.2.2.2.2.2.1) (bA G) U (gH0 G) ∧ va_T .int G.2.2.2.2.2.2.1 7 (fun j => .int (abvL.getD j 0)) (bA G) U (gH0 G) ∧
  va_Z "java/lang/String" "COMPACT_STRINGS" "Z" (.int 1) (bA G) U (gH0 G) ∧ ∃ v : Value, (v = .null ∨ ∃ a : Nat, v = .ref a) ∧ va_Z "jdk/internal/util/Preconditions" "SIOOBE_FORMATTER" "Ljava/util/function/BiFunction;" v (bA G) U (gH0 G)
theorem KF.warm {G : GT} {s U : State} (hW : s.WarmedH U.vm) (h : KF G s) : KF G U := by
  have hv := hW.alike
  obtain ⟨⟨h1, h2⟩, h3, h4, h5, h6, h7, h8, h9, h10, v9, h11, h12⟩ := h
  refine ⟨⟨fun c q hq => u_Kn_moved hv (h1 c q hq), fun t ht => ⟨arrOfT_moved hv (h2 t ht).1, (h2 t ht).2.moved hv⟩⟩, h3.moved hv, h4.moved hv, fun w hw => ?_, fun i q hq => (h6 i q hq).warm hW, h7.moved hv, h8.moved hv, h9.moved hv, h10.moved hv, v9, h11, h12.moved hv⟩
  have h0 := h5 w hw
  simp only [nestWs, List.mem_cons, List.not_mem_nil, or_false] at hw
  rcases hw with rfl | rfl | rfl | rfl | rfl | rfl | rfl | rfl | rfl | rfl <;> exact va_Nw.warmM hW h0
theorem KF.same {G : GT} {s U : State} (hv : s.vm = U.vm) (h : KF G s) : KF G U := by
  have h9 : s.WarmedH U.vm := by rw [← hv]; exact State.WarmedH.refl s
  exact KF.warm h9 h
theorem HPh.lt {G : GT} {sh : SH} {I : IH} {L : LH} {n : Nat} {H : Heap} (h : HPh G sh I L n H) {a : Nat} {c : shC} (ha : sh a = some c) : a < n := by
  obtain ⟨h1, h2, h3, h4⟩ := h
  have h5 := (h4 a c ha).2
  rw [← h1]
  obtain ⟨ci, fk⟩ | ⟨t, m, rf⟩ := c
  · obtain ⟨r, -, cell, q1, -⟩ := h5
    exact (Array.getElem?_eq_some_iff.mp q1).1
  · exact (Array.getElem?_eq_some_iff.mp h5).1
abbrev XT : Type := Program × Launch × Env × Room × State × MethodId × Array Value × List Frame × Method × Code
def MF (G : GT) (X : XT) (own : String) (cc : ByteArray) (nL d : Nat) (ret : Option FieldType) (nm : String) : Prop := match X with
  | (p, _, _, R, s, m, args, _, meth, c) => p.tables.exec = Jvm.exec ∧ c.code = cc ∧ c.maxLocals = nL ∧ s.vm.findClass own = some m.cls ∧ (∀ w ∈ lw_good, w.before args s = true) ∧ meth.sig.returnType = ret ∧ meth.locks = false ∧ (¬ nm = "law" → meth.name = nm) ∧ KF G s ∧ (∀ q : Nat, q < (gH0 G).size → s.heap[q]? = (gH0 G)[q]?) ∧ (gH0 G).size ≤ s.heap.size ∧ d ≤ R.frames ∧ 120 * d ≤ R.locals
def J (G : GT) (X : XT) (Q : State → Prop) (nL : Nat) (sh : SH) (I : IH) (L : LH) (n e es pc : Nat) (ls : List (Nat × Value)) (st : List Value) : Prop := match X with
  | (p, l, e', R, s, m, args, below, meth, c) => ∀ (H : Heap) (locs : List Loc) (cells slots : Nat) (LS : Array Slot), cells + e = R.cells → slots + es = R.slots → HPh G sh I L n H → va_S (bA G) s.heap H locs → lv_has LS nL ls → W p l e' R s m args below meth c H locs cells slots Q (F0 m pc LS st)
def QcT (G : GT) (v : Option Value) (sh : SH) (I : IH) (L : LH) (n : Nat) : Array Value → State → Outcome → State → Prop := fun _ st o t => o = .returned v ∧ HPh G sh I L n t.heap ∧ va_F (bA G) st t
def PcT (G : GT) (av : List Value) (sh : SH) (I : IH) (L : LH) (n : Nat) : Array Value → State → Prop := fun a U => a = av.toArray ∧ HPh G sh I L n U.heap ∧ KF G U
def rmD (d e es : Nat) : Room := { frames := d, cells := e, slots := es, locals := 120 * d }
def Ct (G : GT) (y : MethodName) (cc : ByteArray) (nL : Nat) (ret : Option FieldType) (d : Nat) (av : List Value) (sh : SH) (I : IH) (L : LH) (n : Nat) (v : Option Value) (sh' : SH) (I' : IH) (L' : LH) (n' e es : Nat) : Prop := ∀ l : Launch, Met l y (wsU y cc nL ret) (rmD d e es) (PcT G av sh I L n) (QcT G v sh' I' L' n') e es (bA G)
def QE (G : GT) (X : XT) (v : Option Value) (sh : SH) (I : IH) (L : LH) (n : Nat) : State → Prop := match X with
  | (_, _, _, R, s, _, args, below, _, _) => MQ below (QcT G v sh I L n) args s R.cells R.slots (bA G)
theorem PcT.blind {G : GT} {av : List Value} {sh : SH} {I : IH} {L : LH} {n : Nat} : FrameBlind (PcT G av sh I L n) := fun a U g mk h => ⟨h.1, h.2.1, KF.same (s := U) (U := U.calling g mk a) rfl h.2.2⟩
set_option maxHeartbeats 1000000 in
theorem ct_of {G : GT} {y : MethodName} {cc : ByteArray} {nL : Nat} {ret : Option FieldType} {d : Nat} {av : List Value} {sh : SH} {I : IH} {L : LH} {n : Nat} {v : Option Value} {sh' : SH} {I' : IH} {L' : LH} {n' e es : Nat} (hy : plainName y.cls = true) (hn : Nat.ble (lg_sl av).length nL = true)
    (body : ∀ X : XT, MF G X y.cls cc nL d ret y.name → J G X (QE G X v sh' I' L' n') nL sh I L n e es 0 (lv_args 0 av) []) : Ct G y cc nL ret d av sh I L n v sh' I' L' n' e es := by
  intro l
  refine Met.ofW (cc := cc) (maxL := nL) (ret := ret) hy rfl ?_
  intro p e9 s m args below meth c s₁ B hml hv
  obtain ⟨rfl, hH, hK⟩ := hv
  have hts := atoms_spec (ws := wsU y cc nL ret) B.pre
  have hown : s.vm.findClass y.cls = some m.cls := findClass_of_methodNamed B.named
  have hl := lv_entry av (n := nL) (Nat.le_of_ble_eq_true hn)
  rw [lg_entry_eq]
  exact body (p, l, e9, rmD d e es, s, m, av.toArray, below, meth, c) ⟨B.exec, B.bytes, hml, hown, htsU hts, B.returns, B.notSynchronized, fun _ => (name_of_methodNamed B.named B.method).1, hK, hH.2.2.1, by rw [hH.1]; exact hH.2.1, Nat.le_refl _, Nat.le_refl _⟩ s.heap [] 0 0 _ (Nat.zero_add e) (Nat.zero_add es) hH va_S.rf hl
section JR
variable {G : GT} {X : XT} {Q : State → Prop} {nL : Nat} {sh : SH} {I : IH} {L : LH} {n e es pc : Nat} {ls : List (Nat × Value)} {st : List Value}
variable {own : String} {cc : ByteArray} {d : Nat} {ret : Option FieldType} {nm : String}
/-- another list of the same locals -/
theorem j_sub (is : List Nat) {ls' : List (Nat × Value)} (hp : lv_pick ls is = ls') (k : J G X Q nL sh I L n e es pc ls' st) : J G X Q nL sh I L n e es pc ls st := by
  obtain ⟨p, l, e', R, s, m, args, below, meth, c⟩ := X
  intro H locs cells slots LS h1 h2 h3 h4 h5
  exact k H locs cells slots LS h1 h2 h3 h4 (lv_sub h5 is hp)
theorem j_e {e0 es0 : Nat} (h1 : e = e0) (h2 : es = es0) (k : J G X Q nL sh I L n e0 es0 pc ls st) : J G X Q nL sh I L n e es pc ls st := by
  subst h1
  subst h2
  exact k

theorem j_iconst (F : MF G X own cc nL d ret nm) {i : Int} (v : Int32) (hd : decode cc pc = .ok (.iconst i, 1)) (hv : Int32.ofInt i = v) (k : J G X Q nL sh I L n e es (pc + 1) ls (.int v :: st)) : J G X Q nL sh I L n e es pc ls (st) := by
  obtain ⟨p, l, e', R, s, m, args, below, meth, c⟩ := X
  obtain ⟨hx, hb, hml, hown, hts, hr, hlocks, hnm, hK, hq0, hq1, hRf, hRl⟩ := F
  intro H locs cells slots LS h1 h2 h3 h4 h5
  exact lv_iconst hx hb hd hv (k H locs cells slots LS h1 h2 h3 h4 h5)
theorem j_bipush (F : MF G X own cc nL d ret nm) {i : Int} (v : Int32) (hd : decode cc pc = .ok (.bipush i, 2)) (hv : (Int8.ofInt i).toInt32 = v) (k : J G X Q nL sh I L n e es (pc + 2) ls (.int v :: st)) : J G X Q nL sh I L n e es pc ls (st) := by
  obtain ⟨p, l, e', R, s, m, args, below, meth, c⟩ := X
  obtain ⟨hx, hb, hml, hown, hts, hr, hlocks, hnm, hK, hq0, hq1, hRf, hRl⟩ := F
  intro H locs cells slots LS h1 h2 h3 h4 h5
  exact lv_bipush hx hb hd hv (k H locs cells slots LS h1 h2 h3 h4 h5)
theorem j_sipush (F : MF G X own cc nL d ret nm) {i : Int} (v : Int32) (hd : decode cc pc = .ok (.sipush i, 3)) (hv : (Int16.ofInt i).toInt32 = v) (k : J G X Q nL sh I L n e es (pc + 3) ls (.int v :: st)) : J G X Q nL sh I L n e es pc ls (st) := by
  obtain ⟨p, l, e', R, s, m, args, below, meth, c⟩ := X
  obtain ⟨hx, hb, hml, hown, hts, hr, hlocks, hnm, hK, hq0, hq1, hRf, hRl⟩ := F
  intro H locs cells slots LS h1 h2 h3 h4 h5
  exact lv_sipush hx hb hd hv (k H locs cells slots LS h1 h2 h3 h4 h5)
theorem j_lconst (F : MF G X own cc nL d ret nm) {i : Fin 2} (v : Int64) (hd : decode cc pc = .ok (.lconst i, 1)) (hv : Int64.ofNat (i : Nat) = v) (k : J G X Q nL sh I L n e es (pc + 1) ls (.long v :: st)) : J G X Q nL sh I L n e es pc ls (st) := by
  obtain ⟨p, l, e', R, s, m, args, below, meth, c⟩ := X
  obtain ⟨hx, hb, hml, hown, hts, hr, hlocks, hnm, hK, hq0, hq1, hRf, hRl⟩ := F
  intro H locs cells slots LS h1 h2 h3 h4 h5
  exact lv_lconst hx hb hd hv (k H locs cells slots LS h1 h2 h3 h4 h5)
theorem j_ldc (F : MF G X own cc nL d ret nm) {ix : Nat} {v : Int32} (hw : Cond.constant own ix v ∈ lw_good) (hd : decode cc pc = .ok (.ldc ix, 2)) (k : J G X Q nL sh I L n e es (pc + 2) ls (.int v :: st)) : J G X Q nL sh I L n e es pc ls (st) := by
  obtain ⟨p, l, e', R, s, m, args, below, meth, c⟩ := X
  obtain ⟨hx, hb, hml, hown, hts, hr, hlocks, hnm, hK, hq0, hq1, hRf, hRl⟩ := F
  intro H locs cells slots LS h1 h2 h3 h4 h5
  exact lv_ldc hx hb hown (hts _ hw) hd (k H locs cells slots LS h1 h2 h3 h4 h5)
theorem j_ldcw (F : MF G X own cc nL d ret nm) {ix : Nat} {v : Int32} (hw : Cond.constant own ix v ∈ lw_good) (hd : decode cc pc = .ok (.ldc_w ix, 3)) (k : J G X Q nL sh I L n e es (pc + 3) ls (.int v :: st)) : J G X Q nL sh I L n e es pc ls (st) := by
  obtain ⟨p, l, e', R, s, m, args, below, meth, c⟩ := X
  obtain ⟨hx, hb, hml, hown, hts, hr, hlocks, hnm, hK, hq0, hq1, hRf, hRl⟩ := F
  intro H locs cells slots LS h1 h2 h3 h4 h5
  exact lv_ldcw hx hb hown (hts _ hw) hd (k H locs cells slots LS h1 h2 h3 h4 h5)
theorem j_ldc2 (F : MF G X own cc nL d ret nm) {ix : Nat} {v : Int64} (hw : Cond.constantLong own ix v ∈ lw_good) (hd : decode cc pc = .ok (.ldc2_w ix, 3)) (k : J G X Q nL sh I L n e es (pc + 3) ls (.long v :: st)) : J G X Q nL sh I L n e es pc ls (st) := by
  obtain ⟨p, l, e', R, s, m, args, below, meth, c⟩ := X
  obtain ⟨hx, hb, hml, hown, hts, hr, hlocks, hnm, hK, hq0, hq1, hRf, hRl⟩ := F
  intro H locs cells slots LS h1 h2 h3 h4 h5
  exact lv_ldc2 hx hb hown (hts _ hw) hd (k H locs cells slots LS h1 h2 h3 h4 h5)
theorem j_iload_n (F : MF G X own cc nL d ret nm) {k0 : Fin 4} {x : Int32} (i : Nat) (hl : ls[i]? = some ((k0 : Nat), .int x)) (hd : decode cc pc = .ok (.iload_n k0, 1)) (k : J G X Q nL sh I L n e es (pc + 1) ls (.int x :: st)) : J G X Q nL sh I L n e es pc ls (st) := by
  obtain ⟨p, l, e', R, s, m, args, below, meth, c⟩ := X
  obtain ⟨hx, hb, hml, hown, hts, hr, hlocks, hnm, hK, hq0, hq1, hRf, hRl⟩ := F
  intro H locs cells slots LS h1 h2 h3 h4 h5
  exact lv_iload_n hx hb hd rfl (lv_at h5 i hl) (k H locs cells slots LS h1 h2 h3 h4 h5)
theorem j_iload (F : MF G X own cc nL d ret nm) {k0 : Nat} {x : Int32} (i : Nat) (hl : ls[i]? = some (k0, .int x)) (hd : decode cc pc = .ok (.iload k0, 2)) (k : J G X Q nL sh I L n e es (pc + 2) ls (.int x :: st)) : J G X Q nL sh I L n e es pc ls (st) := by
  obtain ⟨p, l, e', R, s, m, args, below, meth, c⟩ := X
  obtain ⟨hx, hb, hml, hown, hts, hr, hlocks, hnm, hK, hq0, hq1, hRf, hRl⟩ := F
  intro H locs cells slots LS h1 h2 h3 h4 h5
  exact lv_iload hx hb hd (lv_at h5 i hl) (k H locs cells slots LS h1 h2 h3 h4 h5)
theorem j_lload_n (F : MF G X own cc nL d ret nm) {k0 : Fin 4} {x : Int64} (i : Nat) (hl : ls[i]? = some ((k0 : Nat), .long x)) (hd : decode cc pc = .ok (.lload_n k0, 1)) (k : J G X Q nL sh I L n e es (pc + 1) ls (.long x :: st)) : J G X Q nL sh I L n e es pc ls (st) := by
  obtain ⟨p, l, e', R, s, m, args, below, meth, c⟩ := X
  obtain ⟨hx, hb, hml, hown, hts, hr, hlocks, hnm, hK, hq0, hq1, hRf, hRl⟩ := F
  intro H locs cells slots LS h1 h2 h3 h4 h5
  exact lv_lload_n hx hb hd rfl (lv_at h5 i hl) (k H locs cells slots LS h1 h2 h3 h4 h5)
theorem j_lload (F : MF G X own cc nL d ret nm) {k0 : Nat} {x : Int64} (i : Nat) (hl : ls[i]? = some (k0, .long x)) (hd : decode cc pc = .ok (.lload k0, 2)) (k : J G X Q nL sh I L n e es (pc + 2) ls (.long x :: st)) : J G X Q nL sh I L n e es pc ls (st) := by
  obtain ⟨p, l, e', R, s, m, args, below, meth, c⟩ := X
  obtain ⟨hx, hb, hml, hown, hts, hr, hlocks, hnm, hK, hq0, hq1, hRf, hRl⟩ := F
  intro H locs cells slots LS h1 h2 h3 h4 h5
  exact lv_lload hx hb hd (lv_at h5 i hl) (k H locs cells slots LS h1 h2 h3 h4 h5)
theorem j_aload_n (F : MF G X own cc nL d ret nm) {k0 : Fin 4} {x : Nat} (i : Nat) (hl : ls[i]? = some ((k0 : Nat), .ref x)) (hd : decode cc pc = .ok (.aload_n k0, 1)) (k : J G X Q nL sh I L n e es (pc + 1) ls (.ref x :: st)) : J G X Q nL sh I L n e es pc ls (st) := by
  obtain ⟨p, l, e', R, s, m, args, below, meth, c⟩ := X
  obtain ⟨hx, hb, hml, hown, hts, hr, hlocks, hnm, hK, hq0, hq1, hRf, hRl⟩ := F
  intro H locs cells slots LS h1 h2 h3 h4 h5
  exact lv_aload_n hx hb hd rfl (lv_at h5 i hl) (k H locs cells slots LS h1 h2 h3 h4 h5)
theorem j_aload (F : MF G X own cc nL d ret nm) {k0 : Nat} {x : Nat} (i : Nat) (hl : ls[i]? = some (k0, .ref x)) (hd : decode cc pc = .ok (.aload k0, 2)) (k : J G X Q nL sh I L n e es (pc + 2) ls (.ref x :: st)) : J G X Q nL sh I L n e es pc ls (st) := by
  obtain ⟨p, l, e', R, s, m, args, below, meth, c⟩ := X
  obtain ⟨hx, hb, hml, hown, hts, hr, hlocks, hnm, hK, hq0, hq1, hRf, hRl⟩ := F
  intro H locs cells slots LS h1 h2 h3 h4 h5
  exact lv_aload hx hb hd (lv_at h5 i hl) (k H locs cells slots LS h1 h2 h3 h4 h5)
theorem j_aload_nN (F : MF G X own cc nL d ret nm) {k0 : Fin 4} (i : Nat) (hl : ls[i]? = some ((k0 : Nat), .null)) (hd : decode cc pc = .ok (.aload_n k0, 1)) (k : J G X Q nL sh I L n e es (pc + 1) ls (.null :: st)) : J G X Q nL sh I L n e es pc ls (st) := by
  obtain ⟨p, l, e', R, s, m, args, below, meth, c⟩ := X
  obtain ⟨hx, hb, hml, hown, hts, hr, hlocks, hnm, hK, hq0, hq1, hRf, hRl⟩ := F
  intro H locs cells slots LS h1 h2 h3 h4 h5
  exact lv_aload_nN hx hb hd rfl (lv_at h5 i hl) (k H locs cells slots LS h1 h2 h3 h4 h5)
theorem j_aloadN (F : MF G X own cc nL d ret nm) {k0 : Nat} (i : Nat) (hl : ls[i]? = some (k0, .null)) (hd : decode cc pc = .ok (.aload k0, 2)) (k : J G X Q nL sh I L n e es (pc + 2) ls (.null :: st)) : J G X Q nL sh I L n e es pc ls (st) := by
  obtain ⟨p, l, e', R, s, m, args, below, meth, c⟩ := X
  obtain ⟨hx, hb, hml, hown, hts, hr, hlocks, hnm, hK, hq0, hq1, hRf, hRl⟩ := F
  intro H locs cells slots LS h1 h2 h3 h4 h5
  exact lv_aloadN hx hb hd (lv_at h5 i hl) (k H locs cells slots LS h1 h2 h3 h4 h5)
theorem j_istore_n (F : MF G X own cc nL d ret nm) {k0 : Fin 4} {k1 : Nat} (hk : (k0 : Nat) = k1) {x : Int32} {ls' : List (Nat × Value)} (hn : Nat.ble (k1 + 1) nL = true) (hl : (k1, Value.int x) :: ls.filter (fun q => !(q.1 == k1) && !(q.1 + 1 == k1 && q.2.category == 2)) = ls') (hd : decode cc pc = .ok (.istore_n k0, 1)) (k : J G X Q nL sh I L n e es (pc + 1) ls' st) : J G X Q nL sh I L n e es pc ls (.int x :: st) := by
  obtain ⟨p, l, e', R, s, m, args, below, meth, c⟩ := X
  obtain ⟨hx, hb, hml, hown, hts, hr, hlocks, hnm, hK, hq0, hq1, hRf, hRl⟩ := F
  intro H locs cells slots LS h1 h2 h3 h4 h5
  exact lv_istore_n hx hb hd hk h5 (Nat.le_of_ble_eq_true hn) hl (fun LS h5 => k H locs cells slots LS h1 h2 h3 h4 h5)
theorem j_istore (F : MF G X own cc nL d ret nm) {k1 : Nat} {x : Int32} {ls' : List (Nat × Value)} (hn : Nat.ble (k1 + 1) nL = true) (hl : (k1, Value.int x) :: ls.filter (fun q => !(q.1 == k1) && !(q.1 + 1 == k1 && q.2.category == 2)) = ls') (hd : decode cc pc = .ok (.istore k1, 2)) (k : J G X Q nL sh I L n e es (pc + 2) ls' st) : J G X Q nL sh I L n e es pc ls (.int x :: st) := by
  obtain ⟨p, l, e', R, s, m, args, below, meth, c⟩ := X
  obtain ⟨hx, hb, hml, hown, hts, hr, hlocks, hnm, hK, hq0, hq1, hRf, hRl⟩ := F
  intro H locs cells slots LS h1 h2 h3 h4 h5
  exact lv_istore hx hb hd h5 (Nat.le_of_ble_eq_true hn) hl (fun LS h5 => k H locs cells slots LS h1 h2 h3 h4 h5)
theorem j_lstore_n (F : MF G X own cc nL d ret nm) {k0 : Fin 4} {k1 : Nat} (hk : (k0 : Nat) = k1) {x : Int64} {ls' : List (Nat × Value)} (hn : Nat.ble (k1 + 1 + 1) nL = true) (hl : (k1, Value.long x) :: ls.filter (fun q => !(q.1 == k1) && (!(q.1 == k1 + 1) && !(q.1 + 1 == k1 && q.2.category == 2))) = ls') (hd : decode cc pc = .ok (.lstore_n k0, 1)) (k : J G X Q nL sh I L n e es (pc + 1) ls' st) : J G X Q nL sh I L n e es pc ls (.long x :: st) := by
  obtain ⟨p, l, e', R, s, m, args, below, meth, c⟩ := X
  obtain ⟨hx, hb, hml, hown, hts, hr, hlocks, hnm, hK, hq0, hq1, hRf, hRl⟩ := F
  intro H locs cells slots LS h1 h2 h3 h4 h5
  exact lv_lstore_n hx hb hd hk h5 (Nat.le_of_ble_eq_true hn) hl (fun LS h5 => k H locs cells slots LS h1 h2 h3 h4 h5)
theorem j_lstore (F : MF G X own cc nL d ret nm) {k1 : Nat} {x : Int64} {ls' : List (Nat × Value)} (hn : Nat.ble (k1 + 1 + 1) nL = true) (hl : (k1, Value.long x) :: ls.filter (fun q => !(q.1 == k1) && (!(q.1 == k1 + 1) && !(q.1 + 1 == k1 && q.2.category == 2))) = ls') (hd : decode cc pc = .ok (.lstore k1, 2)) (k : J G X Q nL sh I L n e es (pc + 2) ls' st) : J G X Q nL sh I L n e es pc ls (.long x :: st) := by
  obtain ⟨p, l, e', R, s, m, args, below, meth, c⟩ := X
  obtain ⟨hx, hb, hml, hown, hts, hr, hlocks, hnm, hK, hq0, hq1, hRf, hRl⟩ := F
  intro H locs cells slots LS h1 h2 h3 h4 h5
  exact lv_lstore hx hb hd h5 (Nat.le_of_ble_eq_true hn) hl (fun LS h5 => k H locs cells slots LS h1 h2 h3 h4 h5)
theorem j_astore_n (F : MF G X own cc nL d ret nm) {k0 : Fin 4} {k1 : Nat} (hk : (k0 : Nat) = k1) {x : Nat} {ls' : List (Nat × Value)} (hn : Nat.ble (k1 + 1) nL = true) (hl : (k1, Value.ref x) :: ls.filter (fun q => !(q.1 == k1) && !(q.1 + 1 == k1 && q.2.category == 2)) = ls') (hd : decode cc pc = .ok (.astore_n k0, 1)) (k : J G X Q nL sh I L n e es (pc + 1) ls' st) : J G X Q nL sh I L n e es pc ls (.ref x :: st) := by
  obtain ⟨p, l, e', R, s, m, args, below, meth, c⟩ := X
  obtain ⟨hx, hb, hml, hown, hts, hr, hlocks, hnm, hK, hq0, hq1, hRf, hRl⟩ := F
  intro H locs cells slots LS h1 h2 h3 h4 h5
  exact lv_astore_n hx hb hd hk h5 (Nat.le_of_ble_eq_true hn) hl (fun LS h5 => k H locs cells slots LS h1 h2 h3 h4 h5)
theorem j_astore (F : MF G X own cc nL d ret nm) {k1 : Nat} {x : Nat} {ls' : List (Nat × Value)} (hn : Nat.ble (k1 + 1) nL = true) (hl : (k1, Value.ref x) :: ls.filter (fun q => !(q.1 == k1) && !(q.1 + 1 == k1 && q.2.category == 2)) = ls') (hd : decode cc pc = .ok (.astore k1, 2)) (k : J G X Q nL sh I L n e es (pc + 2) ls' st) : J G X Q nL sh I L n e es pc ls (.ref x :: st) := by
  obtain ⟨p, l, e', R, s, m, args, below, meth, c⟩ := X
  obtain ⟨hx, hb, hml, hown, hts, hr, hlocks, hnm, hK, hq0, hq1, hRf, hRl⟩ := F
  intro H locs cells slots LS h1 h2 h3 h4 h5
  exact lv_astore hx hb hd h5 (Nat.le_of_ble_eq_true hn) hl (fun LS h5 => k H locs cells slots LS h1 h2 h3 h4 h5)
theorem j_astore_nN (F : MF G X own cc nL d ret nm) {k0 : Fin 4} {k1 : Nat} (hk : (k0 : Nat) = k1) {ls' : List (Nat × Value)} (hn : Nat.ble (k1 + 1) nL = true) (hl : (k1, Value.null) :: ls.filter (fun q => !(q.1 == k1) && !(q.1 + 1 == k1 && q.2.category == 2)) = ls') (hd : decode cc pc = .ok (.astore_n k0, 1)) (k : J G X Q nL sh I L n e es (pc + 1) ls' st) : J G X Q nL sh I L n e es pc ls (.null :: st) := by
  obtain ⟨p, l, e', R, s, m, args, below, meth, c⟩ := X
  obtain ⟨hx, hb, hml, hown, hts, hr, hlocks, hnm, hK, hq0, hq1, hRf, hRl⟩ := F
  intro H locs cells slots LS h1 h2 h3 h4 h5
  exact lv_astore_nN hx hb hd hk h5 (Nat.le_of_ble_eq_true hn) hl (fun LS h5 => k H locs cells slots LS h1 h2 h3 h4 h5)
theorem j_astoreN (F : MF G X own cc nL d ret nm) {k1 : Nat} {ls' : List (Nat × Value)} (hn : Nat.ble (k1 + 1) nL = true) (hl : (k1, Value.null) :: ls.filter (fun q => !(q.1 == k1) && !(q.1 + 1 == k1 && q.2.category == 2)) = ls') (hd : decode cc pc = .ok (.astore k1, 2)) (k : J G X Q nL sh I L n e es (pc + 2) ls' st) : J G X Q nL sh I L n e es pc ls (.null :: st) := by
  obtain ⟨p, l, e', R, s, m, args, below, meth, c⟩ := X
  obtain ⟨hx, hb, hml, hown, hts, hr, hlocks, hnm, hK, hq0, hq1, hRf, hRl⟩ := F
  intro H locs cells slots LS h1 h2 h3 h4 h5
  exact lv_astoreN hx hb hd h5 (Nat.le_of_ble_eq_true hn) hl (fun LS h5 => k H locs cells slots LS h1 h2 h3 h4 h5)
theorem j_iinc (F : MF G X own cc nL d ret nm) {k1 : Nat} {i : Int} {x : Int32} (v : Int32) {ls' : List (Nat × Value)} (j : Nat) (hj : ls[j]? = some (k1, .int x)) (hv : x + Int32.ofInt i = v) (hn : Nat.ble (k1 + 1) nL = true) (hl : (k1, Value.int v) :: ls.filter (fun q => !(q.1 == k1) && !(q.1 + 1 == k1 && q.2.category == 2)) = ls') (hd : decode cc pc = .ok (.iinc k1 i, 3)) (k : J G X Q nL sh I L n e es (pc + 3) ls' st) : J G X Q nL sh I L n e es pc ls st := by
  obtain ⟨p, l, e', R, s, m, args, below, meth, c⟩ := X
  obtain ⟨hx, hb, hml, hown, hts, hr, hlocks, hnm, hK, hq0, hq1, hRf, hRl⟩ := F
  intro H locs cells slots LS h1 h2 h3 h4 h5
  exact lv_iinc hx hb hd h5 hj hv (Nat.le_of_ble_eq_true hn) hl (fun LS h5 => k H locs cells slots LS h1 h2 h3 h4 h5)
theorem j_iadd (F : MF G X own cc nL d ret nm) {x y : Int32} (hd : decode cc pc = .ok (.iadd, 1)) (k : J G X Q nL sh I L n e es (pc + 1) ls (.int (x + y) :: st)) : J G X Q nL sh I L n e es pc ls (.int y :: .int x :: st) := by
  obtain ⟨p, l, e', R, s, m, args, below, meth, c⟩ := X
  obtain ⟨hx, hb, hml, hown, hts, hr, hlocks, hnm, hK, hq0, hq1, hRf, hRl⟩ := F
  intro H locs cells slots LS h1 h2 h3 h4 h5
  exact lv_iadd hx hb hd (k H locs cells slots LS h1 h2 h3 h4 h5)
theorem j_isub (F : MF G X own cc nL d ret nm) {x y : Int32} (hd : decode cc pc = .ok (.isub, 1)) (k : J G X Q nL sh I L n e es (pc + 1) ls (.int (x - y) :: st)) : J G X Q nL sh I L n e es pc ls (.int y :: .int x :: st) := by
  obtain ⟨p, l, e', R, s, m, args, below, meth, c⟩ := X
  obtain ⟨hx, hb, hml, hown, hts, hr, hlocks, hnm, hK, hq0, hq1, hRf, hRl⟩ := F
  intro H locs cells slots LS h1 h2 h3 h4 h5
  exact lv_isub hx hb hd (k H locs cells slots LS h1 h2 h3 h4 h5)
theorem j_imul (F : MF G X own cc nL d ret nm) {x y : Int32} (hd : decode cc pc = .ok (.imul, 1)) (k : J G X Q nL sh I L n e es (pc + 1) ls (.int (x * y) :: st)) : J G X Q nL sh I L n e es pc ls (.int y :: .int x :: st) := by
  obtain ⟨p, l, e', R, s, m, args, below, meth, c⟩ := X
  obtain ⟨hx, hb, hml, hown, hts, hr, hlocks, hnm, hK, hq0, hq1, hRf, hRl⟩ := F
  intro H locs cells slots LS h1 h2 h3 h4 h5
  exact lv_imul hx hb hd (k H locs cells slots LS h1 h2 h3 h4 h5)
theorem j_iand (F : MF G X own cc nL d ret nm) {x y : Int32} (hd : decode cc pc = .ok (.iand, 1)) (k : J G X Q nL sh I L n e es (pc + 1) ls (.int (x &&& y) :: st)) : J G X Q nL sh I L n e es pc ls (.int y :: .int x :: st) := by
  obtain ⟨p, l, e', R, s, m, args, below, meth, c⟩ := X
  obtain ⟨hx, hb, hml, hown, hts, hr, hlocks, hnm, hK, hq0, hq1, hRf, hRl⟩ := F
  intro H locs cells slots LS h1 h2 h3 h4 h5
  exact lv_iand hx hb hd (k H locs cells slots LS h1 h2 h3 h4 h5)
theorem j_ior (F : MF G X own cc nL d ret nm) {x y : Int32} (hd : decode cc pc = .ok (.ior, 1)) (k : J G X Q nL sh I L n e es (pc + 1) ls (.int (x ||| y) :: st)) : J G X Q nL sh I L n e es pc ls (.int y :: .int x :: st) := by
  obtain ⟨p, l, e', R, s, m, args, below, meth, c⟩ := X
  obtain ⟨hx, hb, hml, hown, hts, hr, hlocks, hnm, hK, hq0, hq1, hRf, hRl⟩ := F
  intro H locs cells slots LS h1 h2 h3 h4 h5
  exact lv_ior hx hb hd (k H locs cells slots LS h1 h2 h3 h4 h5)
theorem j_ixor (F : MF G X own cc nL d ret nm) {x y : Int32} (hd : decode cc pc = .ok (.ixor, 1)) (k : J G X Q nL sh I L n e es (pc + 1) ls (.int (x ^^^ y) :: st)) : J G X Q nL sh I L n e es pc ls (.int y :: .int x :: st) := by
  obtain ⟨p, l, e', R, s, m, args, below, meth, c⟩ := X
  obtain ⟨hx, hb, hml, hown, hts, hr, hlocks, hnm, hK, hq0, hq1, hRf, hRl⟩ := F
  intro H locs cells slots LS h1 h2 h3 h4 h5
  exact lv_ixor hx hb hd (k H locs cells slots LS h1 h2 h3 h4 h5)
theorem j_ladd (F : MF G X own cc nL d ret nm) {x y : Int64} (hd : decode cc pc = .ok (.ladd, 1)) (k : J G X Q nL sh I L n e es (pc + 1) ls (.long (x + y) :: st)) : J G X Q nL sh I L n e es pc ls (.long y :: .long x :: st) := by
  obtain ⟨p, l, e', R, s, m, args, below, meth, c⟩ := X
  obtain ⟨hx, hb, hml, hown, hts, hr, hlocks, hnm, hK, hq0, hq1, hRf, hRl⟩ := F
  intro H locs cells slots LS h1 h2 h3 h4 h5
  exact lv_ladd hx hb hd (k H locs cells slots LS h1 h2 h3 h4 h5)
theorem j_lsub (F : MF G X own cc nL d ret nm) {x y : Int64} (hd : decode cc pc = .ok (.lsub, 1)) (k : J G X Q nL sh I L n e es (pc + 1) ls (.long (x - y) :: st)) : J G X Q nL sh I L n e es pc ls (.long y :: .long x :: st) := by
  obtain ⟨p, l, e', R, s, m, args, below, meth, c⟩ := X
  obtain ⟨hx, hb, hml, hown, hts, hr, hlocks, hnm, hK, hq0, hq1, hRf, hRl⟩ := F
  intro H locs cells slots LS h1 h2 h3 h4 h5
  exact lv_lsub hx hb hd (k H locs cells slots LS h1 h2 h3 h4 h5)
theorem j_lmul (F : MF G X own cc nL d ret nm) {x y : Int64} (hd : decode cc pc = .ok (.lmul, 1)) (k : J G X Q nL sh I L n e es (pc + 1) ls (.long (x * y) :: st)) : J G X Q nL sh I L n e es pc ls (.long y :: .long x :: st) := by
  obtain ⟨p, l, e', R, s, m, args, below, meth, c⟩ := X
  obtain ⟨hx, hb, hml, hown, hts, hr, hlocks, hnm, hK, hq0, hq1, hRf, hRl⟩ := F
  intro H locs cells slots LS h1 h2 h3 h4 h5
  exact lv_lmul hx hb hd (k H locs cells slots LS h1 h2 h3 h4 h5)
theorem j_land (F : MF G X own cc nL d ret nm) {x y : Int64} (hd : decode cc pc = .ok (.land, 1)) (k : J G X Q nL sh I L n e es (pc + 1) ls (.long (x &&& y) :: st)) : J G X Q nL sh I L n e es pc ls (.long y :: .long x :: st) := by
  obtain ⟨p, l, e', R, s, m, args, below, meth, c⟩ := X
  obtain ⟨hx, hb, hml, hown, hts, hr, hlocks, hnm, hK, hq0, hq1, hRf, hRl⟩ := F
  intro H locs cells slots LS h1 h2 h3 h4 h5
  exact lv_land hx hb hd (k H locs cells slots LS h1 h2 h3 h4 h5)
theorem j_lor (F : MF G X own cc nL d ret nm) {x y : Int64} (hd : decode cc pc = .ok (.lor, 1)) (k : J G X Q nL sh I L n e es (pc + 1) ls (.long (x ||| y) :: st)) : J G X Q nL sh I L n e es pc ls (.long y :: .long x :: st) := by
  obtain ⟨p, l, e', R, s, m, args, below, meth, c⟩ := X
  obtain ⟨hx, hb, hml, hown, hts, hr, hlocks, hnm, hK, hq0, hq1, hRf, hRl⟩ := F
  intro H locs cells slots LS h1 h2 h3 h4 h5
  exact lv_lor hx hb hd (k H locs cells slots LS h1 h2 h3 h4 h5)
theorem j_ishl (F : MF G X own cc nL d ret nm) {x y : Int32} (hd : decode cc pc = .ok (.ishl, 1)) (k : J G X Q nL sh I L n e es (pc + 1) ls (.int (x <<< (y &&& 31)) :: st)) : J G X Q nL sh I L n e es pc ls (.int y :: .int x :: st) := by
  obtain ⟨p, l, e', R, s, m, args, below, meth, c⟩ := X
  obtain ⟨hx, hb, hml, hown, hts, hr, hlocks, hnm, hK, hq0, hq1, hRf, hRl⟩ := F
  intro H locs cells slots LS h1 h2 h3 h4 h5
  exact lv_ishl hx hb hd (k H locs cells slots LS h1 h2 h3 h4 h5)
theorem j_ishr (F : MF G X own cc nL d ret nm) {x y : Int32} (hd : decode cc pc = .ok (.ishr, 1)) (k : J G X Q nL sh I L n e es (pc + 1) ls (.int (x >>> (y &&& 31)) :: st)) : J G X Q nL sh I L n e es pc ls (.int y :: .int x :: st) := by
  obtain ⟨p, l, e', R, s, m, args, below, meth, c⟩ := X
  obtain ⟨hx, hb, hml, hown, hts, hr, hlocks, hnm, hK, hq0, hq1, hRf, hRl⟩ := F
  intro H locs cells slots LS h1 h2 h3 h4 h5
  exact lv_ishr hx hb hd (k H locs cells slots LS h1 h2 h3 h4 h5)
theorem j_idiv (F : MF G X own cc nL d ret nm) {x y : Int32} (hne : ¬ y = 0) (hd : decode cc pc = .ok (.idiv, 1)) (k : J G X Q nL sh I L n e es (pc + 1) ls (.int (x / y) :: st)) : J G X Q nL sh I L n e es pc ls (.int y :: .int x :: st) := by
  obtain ⟨p, l, e', R, s, m, args, below, meth, c⟩ := X
  obtain ⟨hx, hb, hml, hown, hts, hr, hlocks, hnm, hK, hq0, hq1, hRf, hRl⟩ := F
  intro H locs cells slots LS h1 h2 h3 h4 h5
  exact lv_idiv hx hb hd hne (k H locs cells slots LS h1 h2 h3 h4 h5)
theorem j_irem (F : MF G X own cc nL d ret nm) {x y : Int32} (hne : ¬ y = 0) (hd : decode cc pc = .ok (.irem, 1)) (k : J G X Q nL sh I L n e es (pc + 1) ls (.int (x - x / y * y) :: st)) : J G X Q nL sh I L n e es pc ls (.int y :: .int x :: st) := by
  obtain ⟨p, l, e', R, s, m, args, below, meth, c⟩ := X
  obtain ⟨hx, hb, hml, hown, hts, hr, hlocks, hnm, hK, hq0, hq1, hRf, hRl⟩ := F
  intro H locs cells slots LS h1 h2 h3 h4 h5
  exact lv_irem hx hb hd hne (k H locs cells slots LS h1 h2 h3 h4 h5)
theorem j_ldiv (F : MF G X own cc nL d ret nm) {x y : Int64} (hne : ¬ y = 0) (hd : decode cc pc = .ok (.ldiv, 1)) (k : J G X Q nL sh I L n e es (pc + 1) ls (.long (x / y) :: st)) : J G X Q nL sh I L n e es pc ls (.long y :: .long x :: st) := by
  obtain ⟨p, l, e', R, s, m, args, below, meth, c⟩ := X
  obtain ⟨hx, hb, hml, hown, hts, hr, hlocks, hnm, hK, hq0, hq1, hRf, hRl⟩ := F
  intro H locs cells slots LS h1 h2 h3 h4 h5
  exact lv_ldiv hx hb hd hne (k H locs cells slots LS h1 h2 h3 h4 h5)
theorem j_lrem (F : MF G X own cc nL d ret nm) {x y : Int64} (hne : ¬ y = 0) (hd : decode cc pc = .ok (.lrem, 1)) (k : J G X Q nL sh I L n e es (pc + 1) ls (.long (x - x / y * y) :: st)) : J G X Q nL sh I L n e es pc ls (.long y :: .long x :: st) := by
  obtain ⟨p, l, e', R, s, m, args, below, meth, c⟩ := X
  obtain ⟨hx, hb, hml, hown, hts, hr, hlocks, hnm, hK, hq0, hq1, hRf, hRl⟩ := F
  intro H locs cells slots LS h1 h2 h3 h4 h5
  exact lv_lrem hx hb hd hne (k H locs cells slots LS h1 h2 h3 h4 h5)
theorem j_ineg (F : MF G X own cc nL d ret nm) {x : Int32} (hd : decode cc pc = .ok (.ineg, 1)) (k : J G X Q nL sh I L n e es (pc + 1) ls (.int (-x) :: st)) : J G X Q nL sh I L n e es pc ls (.int x :: st) := by
  obtain ⟨p, l, e', R, s, m, args, below, meth, c⟩ := X
  obtain ⟨hx, hb, hml, hown, hts, hr, hlocks, hnm, hK, hq0, hq1, hRf, hRl⟩ := F
  intro H locs cells slots LS h1 h2 h3 h4 h5
  exact lv_ineg hx hb hd (k H locs cells slots LS h1 h2 h3 h4 h5)
theorem j_i2l (F : MF G X own cc nL d ret nm) {x : Int32} (hd : decode cc pc = .ok (.i2l, 1)) (k : J G X Q nL sh I L n e es (pc + 1) ls (.long (x.toInt64) :: st)) : J G X Q nL sh I L n e es pc ls (.int x :: st) := by
  obtain ⟨p, l, e', R, s, m, args, below, meth, c⟩ := X
  obtain ⟨hx, hb, hml, hown, hts, hr, hlocks, hnm, hK, hq0, hq1, hRf, hRl⟩ := F
  intro H locs cells slots LS h1 h2 h3 h4 h5
  exact lv_i2l hx hb hd rfl (k H locs cells slots LS h1 h2 h3 h4 h5)
theorem j_l2i (F : MF G X own cc nL d ret nm) {x : Int64} (hd : decode cc pc = .ok (.l2i, 1)) (k : J G X Q nL sh I L n e es (pc + 1) ls (.int (x.toInt32) :: st)) : J G X Q nL sh I L n e es pc ls (.long x :: st) := by
  obtain ⟨p, l, e', R, s, m, args, below, meth, c⟩ := X
  obtain ⟨hx, hb, hml, hown, hts, hr, hlocks, hnm, hK, hq0, hq1, hRf, hRl⟩ := F
  intro H locs cells slots LS h1 h2 h3 h4 h5
  exact lv_l2i hx hb hd rfl (k H locs cells slots LS h1 h2 h3 h4 h5)
theorem j_i2b (F : MF G X own cc nL d ret nm) {x : Int32} (hd : decode cc pc = .ok (.i2b, 1)) (k : J G X Q nL sh I L n e es (pc + 1) ls (.int (x.toInt8.toInt32) :: st)) : J G X Q nL sh I L n e es pc ls (.int x :: st) := by
  obtain ⟨p, l, e', R, s, m, args, below, meth, c⟩ := X
  obtain ⟨hx, hb, hml, hown, hts, hr, hlocks, hnm, hK, hq0, hq1, hRf, hRl⟩ := F
  intro H locs cells slots LS h1 h2 h3 h4 h5
  exact lv_i2b hx hb hd rfl (k H locs cells slots LS h1 h2 h3 h4 h5)
theorem j_i2s (F : MF G X own cc nL d ret nm) {x : Int32} (hd : decode cc pc = .ok (.i2s, 1)) (k : J G X Q nL sh I L n e es (pc + 1) ls (.int (x.toInt16.toInt32) :: st)) : J G X Q nL sh I L n e es pc ls (.int x :: st) := by
  obtain ⟨p, l, e', R, s, m, args, below, meth, c⟩ := X
  obtain ⟨hx, hb, hml, hown, hts, hr, hlocks, hnm, hK, hq0, hq1, hRf, hRl⟩ := F
  intro H locs cells slots LS h1 h2 h3 h4 h5
  exact lv_i2s hx hb hd rfl (k H locs cells slots LS h1 h2 h3 h4 h5)
theorem j_i2c (F : MF G X own cc nL d ret nm) {x : Int32} (hd : decode cc pc = .ok (.i2c, 1)) (k : J G X Q nL sh I L n e es (pc + 1) ls (.int ((x.toUInt32 % 65536).toInt32) :: st)) : J G X Q nL sh I L n e es pc ls (.int x :: st) := by
  obtain ⟨p, l, e', R, s, m, args, below, meth, c⟩ := X
  obtain ⟨hx, hb, hml, hown, hts, hr, hlocks, hnm, hK, hq0, hq1, hRf, hRl⟩ := F
  intro H locs cells slots LS h1 h2 h3 h4 h5
  exact lv_i2c hx hb hd rfl (k H locs cells slots LS h1 h2 h3 h4 h5)
theorem j_iushr (F : MF G X own cc nL d ret nm) {x y : Int32} (hd : decode cc pc = .ok (.iushr, 1)) (k : J G X Q nL sh I L n e es (pc + 1) ls (.int ((x.toUInt32 >>> (y.toUInt32 &&& Int32.toUInt32 31)).toInt32) :: st)) : J G X Q nL sh I L n e es pc ls (.int y :: .int x :: st) := by
  obtain ⟨p, l, e', R, s, m, args, below, meth, c⟩ := X
  obtain ⟨hx, hb, hml, hown, hts, hr, hlocks, hnm, hK, hq0, hq1, hRf, hRl⟩ := F
  intro H locs cells slots LS h1 h2 h3 h4 h5
  exact lv_iushr hx hb hd rfl (k H locs cells slots LS h1 h2 h3 h4 h5)
theorem j_lshl (F : MF G X own cc nL d ret nm) {x : Int64} {y : Int32} (hd : decode cc pc = .ok (.lshl, 1)) (k : J G X Q nL sh I L n e es (pc + 1) ls (.long (x <<< (y.toInt64 &&& 63)) :: st)) : J G X Q nL sh I L n e es pc ls (.int y :: .long x :: st) := by
  obtain ⟨p, l, e', R, s, m, args, below, meth, c⟩ := X
  obtain ⟨hx, hb, hml, hown, hts, hr, hlocks, hnm, hK, hq0, hq1, hRf, hRl⟩ := F
  intro H locs cells slots LS h1 h2 h3 h4 h5
  exact lv_lshl hx hb hd rfl (k H locs cells slots LS h1 h2 h3 h4 h5)
theorem j_lshr (F : MF G X own cc nL d ret nm) {x : Int64} {y : Int32} (hd : decode cc pc = .ok (.lshr, 1)) (k : J G X Q nL sh I L n e es (pc + 1) ls (.long (x >>> (y.toInt64 &&& 63)) :: st)) : J G X Q nL sh I L n e es pc ls (.int y :: .long x :: st) := by
  obtain ⟨p, l, e', R, s, m, args, below, meth, c⟩ := X
  obtain ⟨hx, hb, hml, hown, hts, hr, hlocks, hnm, hK, hq0, hq1, hRf, hRl⟩ := F
  intro H locs cells slots LS h1 h2 h3 h4 h5
  exact lv_lshr hx hb hd rfl (k H locs cells slots LS h1 h2 h3 h4 h5)
theorem j_lcmp (F : MF G X own cc nL d ret nm) {x y : Int64} (hd : decode cc pc = .ok (.lcmp, 1)) (k : J G X Q nL sh I L n e es (pc + 1) ls (.int (lg_cmp x y) :: st)) : J G X Q nL sh I L n e es pc ls (.long y :: .long x :: st) := by
  obtain ⟨p, l, e', R, s, m, args, below, meth, c⟩ := X
  obtain ⟨hx, hb, hml, hown, hts, hr, hlocks, hnm, hK, hq0, hq1, hRf, hRl⟩ := F
  intro H locs cells slots LS h1 h2 h3 h4 h5
  exact W.lcmp hx hb hd (k H locs cells slots LS h1 h2 h3 h4 h5)
theorem j_dup (F : MF G X own cc nL d ret nm) {va : Value} (hd : decode cc pc = .ok (.dup, 1)) (hva : va.category = 1) (k : J G X Q nL sh I L n e es (pc + 1) ls (va :: va :: st)) : J G X Q nL sh I L n e es pc ls (va :: st) := by
  obtain ⟨p, l, e', R, s, m, args, below, meth, c⟩ := X
  obtain ⟨hx, hb, hml, hown, hts, hr, hlocks, hnm, hK, hq0, hq1, hRf, hRl⟩ := F
  intro H locs cells slots LS h1 h2 h3 h4 h5
  exact lv_dup hx hb hd hva (k H locs cells slots LS h1 h2 h3 h4 h5)
theorem j_dup2 (F : MF G X own cc nL d ret nm) {va vb : Value} (hd : decode cc pc = .ok (.dup2, 1)) (hva : va.category = 1) (hvb : vb.category = 1) (k : J G X Q nL sh I L n e es (pc + 1) ls (va :: vb :: va :: vb :: st)) : J G X Q nL sh I L n e es pc ls (va :: vb :: st) := by
  obtain ⟨p, l, e', R, s, m, args, below, meth, c⟩ := X
  obtain ⟨hx, hb, hml, hown, hts, hr, hlocks, hnm, hK, hq0, hq1, hRf, hRl⟩ := F
  intro H locs cells slots LS h1 h2 h3 h4 h5
  exact lv_dup2_11 hx hb hd hva hvb (k H locs cells slots LS h1 h2 h3 h4 h5)
theorem j_pop (F : MF G X own cc nL d ret nm) {va : Value} (hd : decode cc pc = .ok (.pop, 1)) (hva : va.category = 1) (k : J G X Q nL sh I L n e es (pc + 1) ls (st)) : J G X Q nL sh I L n e es pc ls (va :: st) := by
  obtain ⟨p, l, e', R, s, m, args, below, meth, c⟩ := X
  obtain ⟨hx, hb, hml, hown, hts, hr, hlocks, hnm, hK, hq0, hq1, hRf, hRl⟩ := F
  intro H locs cells slots LS h1 h2 h3 h4 h5
  exact lv_pop hx hb hd hva (k H locs cells slots LS h1 h2 h3 h4 h5)
theorem j_null (F : MF G X own cc nL d ret nm) (hd : decode cc pc = .ok (.aconst_null, 1)) (k : J G X Q nL sh I L n e es (pc + 1) ls (.null :: st)) : J G X Q nL sh I L n e es pc ls (st) := by
  obtain ⟨p, l, e', R, s, m, args, below, meth, c⟩ := X
  obtain ⟨hx, hb, hml, hown, hts, hr, hlocks, hnm, hK, hq0, hq1, hRf, hRl⟩ := F
  intro H locs cells slots LS h1 h2 h3 h4 h5
  exact lv_null hx hb hd (k H locs cells slots LS h1 h2 h3 h4 h5)
theorem j_goto (F : MF G X own cc nL d ret nm) {off : Int} (tgt : Nat) (hd : decode cc pc = .ok (.goto off, 3)) (ht : (pc : Int) + off = (tgt : Int)) (k : J G X Q nL sh I L n e es tgt ls st) : J G X Q nL sh I L n e es pc ls st := by
  obtain ⟨p, l, e', R, s, m, args, below, meth, c⟩ := X
  obtain ⟨hx, hb, hml, hown, hts, hr, hlocks, hnm, hK, hq0, hq1, hRf, hRl⟩ := F
  intro H locs cells slots LS h1 h2 h3 h4 h5
  exact lv_goto hx hb hd ht (k H locs cells slots LS h1 h2 h3 h4 h5)
theorem j_if_eq (F : MF G X own cc nL d ret nm) {x : Int32} {off : Int} (tgt : Nat) (hd : decode cc pc = .ok (.ifCond .eq off, 3)) (ht : (pc : Int) + off = (tgt : Int)) (kt : x = 0 → J G X Q nL sh I L n e es tgt ls st) (kf : ¬ (x = 0) → J G X Q nL sh I L n e es (pc + 3) ls st) : J G X Q nL sh I L n e es pc ls (.int x :: st) := by
  obtain ⟨p, l, e', R, s, m, args, below, meth, c⟩ := X
  obtain ⟨hx, hb, hml, hown, hts, hr, hlocks, hnm, hK, hq0, hq1, hRf, hRl⟩ := F
  intro H locs cells slots LS h1 h2 h3 h4 h5
  exact lv_if_eq hx hb hd ht (fun z => kt z H locs cells slots LS h1 h2 h3 h4 h5) (fun z => kf z H locs cells slots LS h1 h2 h3 h4 h5)
theorem j_icmp_eq (F : MF G X own cc nL d ret nm) {x y : Int32} {off : Int} (tgt : Nat) (hd : decode cc pc = .ok (.if_icmp .eq off, 3)) (ht : (pc : Int) + off = (tgt : Int)) (kt : x = y → J G X Q nL sh I L n e es tgt ls st) (kf : ¬ (x = y) → J G X Q nL sh I L n e es (pc + 3) ls st) : J G X Q nL sh I L n e es pc ls (.int y :: .int x :: st) := by
  obtain ⟨p, l, e', R, s, m, args, below, meth, c⟩ := X
  obtain ⟨hx, hb, hml, hown, hts, hr, hlocks, hnm, hK, hq0, hq1, hRf, hRl⟩ := F
  intro H locs cells slots LS h1 h2 h3 h4 h5
  exact lv_icmp_eq hx hb hd ht (fun z => kt z H locs cells slots LS h1 h2 h3 h4 h5) (fun z => kf z H locs cells slots LS h1 h2 h3 h4 h5)
theorem j_if_ne (F : MF G X own cc nL d ret nm) {x : Int32} {off : Int} (tgt : Nat) (hd : decode cc pc = .ok (.ifCond .ne off, 3)) (ht : (pc : Int) + off = (tgt : Int)) (kt : ¬ x = 0 → J G X Q nL sh I L n e es tgt ls st) (kf : x = 0 → J G X Q nL sh I L n e es (pc + 3) ls st) : J G X Q nL sh I L n e es pc ls (.int x :: st) := by
  obtain ⟨p, l, e', R, s, m, args, below, meth, c⟩ := X
  obtain ⟨hx, hb, hml, hown, hts, hr, hlocks, hnm, hK, hq0, hq1, hRf, hRl⟩ := F
  intro H locs cells slots LS h1 h2 h3 h4 h5
  exact lv_if_ne hx hb hd ht (fun z => kt z H locs cells slots LS h1 h2 h3 h4 h5) (fun z => kf z H locs cells slots LS h1 h2 h3 h4 h5)
theorem j_icmp_ne (F : MF G X own cc nL d ret nm) {x y : Int32} {off : Int} (tgt : Nat) (hd : decode cc pc = .ok (.if_icmp .ne off, 3)) (ht : (pc : Int) + off = (tgt : Int)) (kt : ¬ x = y → J G X Q nL sh I L n e es tgt ls st) (kf : x = y → J G X Q nL sh I L n e es (pc + 3) ls st) : J G X Q nL sh I L n e es pc ls (.int y :: .int x :: st) := by
  obtain ⟨p, l, e', R, s, m, args, below, meth, c⟩ := X
  obtain ⟨hx, hb, hml, hown, hts, hr, hlocks, hnm, hK, hq0, hq1, hRf, hRl⟩ := F
  intro H locs cells slots LS h1 h2 h3 h4 h5
  exact lv_icmp_ne hx hb hd ht (fun z => kt z H locs cells slots LS h1 h2 h3 h4 h5) (fun z => kf z H locs cells slots LS h1 h2 h3 h4 h5)
theorem j_if_lt (F : MF G X own cc nL d ret nm) {x : Int32} {off : Int} (tgt : Nat) (hd : decode cc pc = .ok (.ifCond .lt off, 3)) (ht : (pc : Int) + off = (tgt : Int)) (kt : x < 0 → J G X Q nL sh I L n e es tgt ls st) (kf : ¬ (x < 0) → J G X Q nL sh I L n e es (pc + 3) ls st) : J G X Q nL sh I L n e es pc ls (.int x :: st) := by
  obtain ⟨p, l, e', R, s, m, args, below, meth, c⟩ := X
  obtain ⟨hx, hb, hml, hown, hts, hr, hlocks, hnm, hK, hq0, hq1, hRf, hRl⟩ := F
  intro H locs cells slots LS h1 h2 h3 h4 h5
  exact lv_if_lt hx hb hd ht (fun z => kt z H locs cells slots LS h1 h2 h3 h4 h5) (fun z => kf z H locs cells slots LS h1 h2 h3 h4 h5)
theorem j_icmp_lt (F : MF G X own cc nL d ret nm) {x y : Int32} {off : Int} (tgt : Nat) (hd : decode cc pc = .ok (.if_icmp .lt off, 3)) (ht : (pc : Int) + off = (tgt : Int)) (kt : x < y → J G X Q nL sh I L n e es tgt ls st) (kf : ¬ (x < y) → J G X Q nL sh I L n e es (pc + 3) ls st) : J G X Q nL sh I L n e es pc ls (.int y :: .int x :: st) := by
  obtain ⟨p, l, e', R, s, m, args, below, meth, c⟩ := X
  obtain ⟨hx, hb, hml, hown, hts, hr, hlocks, hnm, hK, hq0, hq1, hRf, hRl⟩ := F
  intro H locs cells slots LS h1 h2 h3 h4 h5
  exact lv_icmp_lt hx hb hd ht (fun z => kt z H locs cells slots LS h1 h2 h3 h4 h5) (fun z => kf z H locs cells slots LS h1 h2 h3 h4 h5)
theorem j_if_ge (F : MF G X own cc nL d ret nm) {x : Int32} {off : Int} (tgt : Nat) (hd : decode cc pc = .ok (.ifCond .ge off, 3)) (ht : (pc : Int) + off = (tgt : Int)) (kt : 0 ≤ x → J G X Q nL sh I L n e es tgt ls st) (kf : ¬ (0 ≤ x) → J G X Q nL sh I L n e es (pc + 3) ls st) : J G X Q nL sh I L n e es pc ls (.int x :: st) := by
  obtain ⟨p, l, e', R, s, m, args, below, meth, c⟩ := X
  obtain ⟨hx, hb, hml, hown, hts, hr, hlocks, hnm, hK, hq0, hq1, hRf, hRl⟩ := F
  intro H locs cells slots LS h1 h2 h3 h4 h5
  exact lv_if_ge hx hb hd ht (fun z => kt z H locs cells slots LS h1 h2 h3 h4 h5) (fun z => kf z H locs cells slots LS h1 h2 h3 h4 h5)
theorem j_icmp_ge (F : MF G X own cc nL d ret nm) {x y : Int32} {off : Int} (tgt : Nat) (hd : decode cc pc = .ok (.if_icmp .ge off, 3)) (ht : (pc : Int) + off = (tgt : Int)) (kt : y ≤ x → J G X Q nL sh I L n e es tgt ls st) (kf : ¬ (y ≤ x) → J G X Q nL sh I L n e es (pc + 3) ls st) : J G X Q nL sh I L n e es pc ls (.int y :: .int x :: st) := by
  obtain ⟨p, l, e', R, s, m, args, below, meth, c⟩ := X
  obtain ⟨hx, hb, hml, hown, hts, hr, hlocks, hnm, hK, hq0, hq1, hRf, hRl⟩ := F
  intro H locs cells slots LS h1 h2 h3 h4 h5
  exact lv_icmp_ge hx hb hd ht (fun z => kt z H locs cells slots LS h1 h2 h3 h4 h5) (fun z => kf z H locs cells slots LS h1 h2 h3 h4 h5)
theorem j_if_gt (F : MF G X own cc nL d ret nm) {x : Int32} {off : Int} (tgt : Nat) (hd : decode cc pc = .ok (.ifCond .gt off, 3)) (ht : (pc : Int) + off = (tgt : Int)) (kt : 0 < x → J G X Q nL sh I L n e es tgt ls st) (kf : ¬ (0 < x) → J G X Q nL sh I L n e es (pc + 3) ls st) : J G X Q nL sh I L n e es pc ls (.int x :: st) := by
  obtain ⟨p, l, e', R, s, m, args, below, meth, c⟩ := X
  obtain ⟨hx, hb, hml, hown, hts, hr, hlocks, hnm, hK, hq0, hq1, hRf, hRl⟩ := F
  intro H locs cells slots LS h1 h2 h3 h4 h5
  exact lv_if_gt hx hb hd ht (fun z => kt z H locs cells slots LS h1 h2 h3 h4 h5) (fun z => kf z H locs cells slots LS h1 h2 h3 h4 h5)
theorem j_icmp_gt (F : MF G X own cc nL d ret nm) {x y : Int32} {off : Int} (tgt : Nat) (hd : decode cc pc = .ok (.if_icmp .gt off, 3)) (ht : (pc : Int) + off = (tgt : Int)) (kt : y < x → J G X Q nL sh I L n e es tgt ls st) (kf : ¬ (y < x) → J G X Q nL sh I L n e es (pc + 3) ls st) : J G X Q nL sh I L n e es pc ls (.int y :: .int x :: st) := by
  obtain ⟨p, l, e', R, s, m, args, below, meth, c⟩ := X
  obtain ⟨hx, hb, hml, hown, hts, hr, hlocks, hnm, hK, hq0, hq1, hRf, hRl⟩ := F
  intro H locs cells slots LS h1 h2 h3 h4 h5
  exact lv_icmp_gt hx hb hd ht (fun z => kt z H locs cells slots LS h1 h2 h3 h4 h5) (fun z => kf z H locs cells slots LS h1 h2 h3 h4 h5)
theorem j_if_le (F : MF G X own cc nL d ret nm) {x : Int32} {off : Int} (tgt : Nat) (hd : decode cc pc = .ok (.ifCond .le off, 3)) (ht : (pc : Int) + off = (tgt : Int)) (kt : x ≤ 0 → J G X Q nL sh I L n e es tgt ls st) (kf : ¬ (x ≤ 0) → J G X Q nL sh I L n e es (pc + 3) ls st) : J G X Q nL sh I L n e es pc ls (.int x :: st) := by
  obtain ⟨p, l, e', R, s, m, args, below, meth, c⟩ := X
  obtain ⟨hx, hb, hml, hown, hts, hr, hlocks, hnm, hK, hq0, hq1, hRf, hRl⟩ := F
  intro H locs cells slots LS h1 h2 h3 h4 h5
  exact lv_if_le hx hb hd ht (fun z => kt z H locs cells slots LS h1 h2 h3 h4 h5) (fun z => kf z H locs cells slots LS h1 h2 h3 h4 h5)
theorem j_icmp_le (F : MF G X own cc nL d ret nm) {x y : Int32} {off : Int} (tgt : Nat) (hd : decode cc pc = .ok (.if_icmp .le off, 3)) (ht : (pc : Int) + off = (tgt : Int)) (kt : x ≤ y → J G X Q nL sh I L n e es tgt ls st) (kf : ¬ (x ≤ y) → J G X Q nL sh I L n e es (pc + 3) ls st) : J G X Q nL sh I L n e es pc ls (.int y :: .int x :: st) := by
  obtain ⟨p, l, e', R, s, m, args, below, meth, c⟩ := X
  obtain ⟨hx, hb, hml, hown, hts, hr, hlocks, hnm, hK, hq0, hq1, hRf, hRl⟩ := F
  intro H locs cells slots LS h1 h2 h3 h4 h5
  exact lv_icmp_le hx hb hd ht (fun z => kt z H locs cells slots LS h1 h2 h3 h4 h5) (fun z => kf z H locs cells slots LS h1 h2 h3 h4 h5)
theorem j_ifnull (F : MF G X own cc nL d ret nm) {a : Nat} {off : Int} (hd : decode cc pc = .ok (.ifnull off, 3)) (k : J G X Q nL sh I L n e es (pc + 3) ls st) : J G X Q nL sh I L n e es pc ls (.ref a :: st) := by
  obtain ⟨p, l, e', R, s, m, args, below, meth, c⟩ := X
  obtain ⟨hx, hb, hml, hown, hts, hr, hlocks, hnm, hK, hq0, hq1, hRf, hRl⟩ := F
  intro H locs cells slots LS h1 h2 h3 h4 h5
  exact lv_ifnull hx hb hd (k H locs cells slots LS h1 h2 h3 h4 h5)
theorem j_ifnullN (F : MF G X own cc nL d ret nm) {off : Int} (tgt : Nat) (hd : decode cc pc = .ok (.ifnull off, 3)) (ht : (pc : Int) + off = (tgt : Int)) (k : J G X Q nL sh I L n e es tgt ls st) : J G X Q nL sh I L n e es pc ls (.null :: st) := by
  obtain ⟨p, l, e', R, s, m, args, below, meth, c⟩ := X
  obtain ⟨hx, hb, hml, hown, hts, hr, hlocks, hnm, hK, hq0, hq1, hRf, hRl⟩ := F
  intro H locs cells slots LS h1 h2 h3 h4 h5
  exact lv_ifnullN hx hb hd ht (k H locs cells slots LS h1 h2 h3 h4 h5)
theorem j_ifnonnull (F : MF G X own cc nL d ret nm) {a : Nat} {off : Int} (tgt : Nat) (hd : decode cc pc = .ok (.ifnonnull off, 3)) (ht : (pc : Int) + off = (tgt : Int)) (k : J G X Q nL sh I L n e es tgt ls st) : J G X Q nL sh I L n e es pc ls (.ref a :: st) := by
  obtain ⟨p, l, e', R, s, m, args, below, meth, c⟩ := X
  obtain ⟨hx, hb, hml, hown, hts, hr, hlocks, hnm, hK, hq0, hq1, hRf, hRl⟩ := F
  intro H locs cells slots LS h1 h2 h3 h4 h5
  exact lv_ifnonnull hx hb hd ht (k H locs cells slots LS h1 h2 h3 h4 h5)
theorem j_ifnonnullN (F : MF G X own cc nL d ret nm) {off : Int} (hd : decode cc pc = .ok (.ifnonnull off, 3)) (k : J G X Q nL sh I L n e es (pc + 3) ls st) : J G X Q nL sh I L n e es pc ls (.null :: st) := by
  obtain ⟨p, l, e', R, s, m, args, below, meth, c⟩ := X
  obtain ⟨hx, hb, hml, hown, hts, hr, hlocks, hnm, hK, hq0, hq1, hRf, hRl⟩ := F
  intro H locs cells slots LS h1 h2 h3 h4 h5
  exact lv_ifnonnullN hx hb hd (k H locs cells slots LS h1 h2 h3 h4 h5)
theorem j_tabIn (F : MF G X own cc nL d ret nm) {dflt lo hi : Int} {offs : Array Int} {len : Nat} {x k0 : Int32} {off : Int} (tgt : Nat) (hk : x = k0) (hd : decode cc pc = .ok (.tableswitch dflt lo hi offs, len)) (hc : (decide (¬ k0.toInt < lo) && decide (¬ hi < k0.toInt)) = true) (ho : offs[(k0.toInt - lo).toNat]? = some off) (ht : (pc : Int) + off = (tgt : Int)) (k : J G X Q nL sh I L n e es tgt ls st) : J G X Q nL sh I L n e es pc ls (.int x :: st) := by
  subst hk
  simp only [Bool.and_eq_true, decide_eq_true_eq] at hc
  obtain ⟨p, l, e', R, s, m, args, below, meth, c⟩ := X
  obtain ⟨hx, hb, hml, hown, hts, hr, hlocks, hnm, hK, hq0, hq1, hRf, hRl⟩ := F
  intro H locs cells slots LS h1 h2 h3 h4 h5
  exact lv_tableIn hx hb hd hc.1 hc.2 ho ht (k H locs cells slots LS h1 h2 h3 h4 h5)
theorem j_tabOut (F : MF G X own cc nL d ret nm) {dflt lo hi : Int} {offs : Array Int} {len : Nat} {x : Int32} (tgt : Nat) (hd : decode cc pc = .ok (.tableswitch dflt lo hi offs, len)) (h : x.toInt < lo ∨ hi < x.toInt) (ht : (pc : Int) + dflt = (tgt : Int)) (k : J G X Q nL sh I L n e es tgt ls st) : J G X Q nL sh I L n e es pc ls (.int x :: st) := by
  obtain ⟨p, l, e', R, s, m, args, below, meth, c⟩ := X
  obtain ⟨hx, hb, hml, hown, hts, hr, hlocks, hnm, hK, hq0, hq1, hRf, hRl⟩ := F
  intro H locs cells slots LS h1 h2 h3 h4 h5
  exact lv_tableOut hx hb hd h ht (k H locs cells slots LS h1 h2 h3 h4 h5)
theorem j_look (F : MF G X own cc nL d ret nm) {dflt : Int} {ps : Array (Int × Int)} {len : Nat} {x : Int32} {off : Int} (tgt : Nat) (hd : decode cc pc = .ok (.lookupswitch dflt ps, len)) (hp : (ps.toList.zip (ps.toList.drop 1)).all (fun (a, next) => a.1 < next.1) = true) (ho : Op.lookupswitch.offset ps.toList dflt x.toInt = off) (ht : (pc : Int) + off = (tgt : Int)) (k : J G X Q nL sh I L n e es tgt ls st) : J G X Q nL sh I L n e es pc ls (.int x :: st) := by
  obtain ⟨p, l, e', R, s, m, args, below, meth, c⟩ := X
  obtain ⟨hx, hb, hml, hown, hts, hr, hlocks, hnm, hK, hq0, hq1, hRf, hRl⟩ := F
  intro H locs cells slots LS h1 h2 h3 h4 h5
  exact lv_lookup hx hb hd hp ho ht (k H locs cells slots LS h1 h2 h3 h4 h5)
end JR
