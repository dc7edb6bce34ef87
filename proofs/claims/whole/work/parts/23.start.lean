/-! THE CLAIM OUT OF ONE WALK OF THE LAW'S BODY. Your part is whole_start (and what it stands on); all else here is the same for every law, but numbers. -/
def R_law : String := "MeltHoursLaw"
def lw_P (b : Addr) (xs : List Int32) (args : Array Value) (s : State) : Prop := args = #[.ref b] ∧ s.IntsAt b xs ∧ xs.length ≤ 3072 ∧ (Jvm.Cond.and given_1 narrow_1).before args s = true
def lw_Q (_ : Array Value) (s : State) (o : Outcome) (t : State) : Prop := o = .returned (some (.int 1)) ∧ Framed s o t [] 600000 7302250
def lw_Z (below : List Frame) (a : Array Value) (s : State) : State → Prop := fun t => ∃ o, t.status = .running ∧ Ended t below o ∧ lw_Q a s o t
/-- the law's own end, with 1 on the stack, nothing written that was there before, its room as the claim has it -/
theorem lw_ret {p : Program} {l : Launch} {e : Env} {s : State} {m : MethodId} {below : List Frame} {meth : Method} {c : Code} {b : Nat} (hx : p.tables.exec = Jvm.exec) (hb : c.code = code) (hr : meth.sig.returnType = ret) (hlocks : meth.locks = false) {pc : Nat} {H : Heap} {ls : Array Slot} (hdg : decode code pc = .ok (.ireturn, 1)) : W p l e room_1 s m #[Value.ref b] below meth c H [] 600000 7302250 (lw_Z below #[Value.ref b] s) (F0 m pc ls [.int 1]) := by
  intro T hT X
  obtain ⟨fs, hret, hrun, hended, hW, hframe⟩ := X.leave (v := some (.int 1)) (hlocks := hlocks) (fun h => by rw [hr] at h; cases h)
  have hmeth' : T.vm.method? m = some meth := X.method'
  refine ⟨T.setFrames fs, ?_, .returned (some (.int 1)), hrun, hended, rfl, ⟨_, rfl⟩, hW, hframe⟩
  jvm_step X.here [X.here.top, hx, hb, hdg, hmeth', hr, ret, narrow_b1]
  (try refine ⟨rfl, ?_⟩); (try refine ⟨rfl, ?_⟩)
  first | (intro acts; rw [hret _ acts rfl rfl rfl]) | rw [hret _ _ rfl rfl rfl]
  exact Steps.refl _
/-- what holds at the law's entry: the machine, the code, the tables' words (any of lw_tbl by 'hts w (by decide +kernel)'), the script of L ints xs at the cell b, what the Statement gives of the start (any of its parts by flat_of_before) -/
def lw_At (p : Program) (s : State) (m : MethodId) (meth : Method) (c : Code) (b L : Nat) (xs : Nat → Int32) : Prop :=
  p.tables.exec = Jvm.exec ∧ c.code = code ∧ meth.sig.returnType = ret ∧ c.maxLocals = 4 ∧ s.vm.findClass R_law = some m.cls ∧ (∀ w ∈ lw_tbl, w.before #[Value.ref b] s = true) ∧ va_X b L xs s s.heap ∧ b < s.heap.size ∧ meth.locks = false ∧ (Jvm.Cond.and given_1 narrow_1).before #[Value.ref b] s = true
/-- what is left of the law: the pure functions' answer, and their cost -/
def LawPure : Prop := ∀ (xs : Nat → Int32) (LN n0 : Nat), LN ≤ 3072 → ∃ (e es : Nat) (sh : SH) (I : IH) (L : LH) (n : Nat), fL_law xs LN (fun _ => none) (fun _ _ => 0) (fun _ _ => 0) n0 = some ((e, es), (1, sh, I, L, n)) ∧ e ≤ 600000 ∧ es ≤ 7302250
def ws_T : Term := .static "MeltHours" "ABOVE" "[I"
def ws_tm (i : Nat) : Term := .string RX1 (sIx.getD i (0, "")).1
abbrev ws_gn : Cond := Cond.and given_1 narrow_1
set_option maxRecDepth 100000
theorem ws_ex : ∀ i, i < 5 → Cond.exactly (ws_tm i) "java/lang/String" ∈ flatC ws_gn := by decide +kernel
theorem ws_co : ∀ i, i < 5 → Cond.eq (.field (ws_tm i) "java/lang/String" "coder" "B") (.int 0) ∈ flatC ws_gn := by decide +kernel
theorem ws_ar : ∀ i, i < 5 → Cond.arrayOf (.field (ws_tm i) "java/lang/String" "value" "[B") .byte ∈ flatC ws_gn := by decide +kernel
theorem ws_le : ∀ i, i < 5 → Cond.eq (.length (.field (ws_tm i) "java/lang/String" "value" "[B")) (.int (Int32.ofNat (sLen.getD i 0))) ∈ flatC ws_gn := by decide +kernel
theorem ws_el : ∀ i, i < 5 → ∀ j, j < sLen.getD i 0 → Cond.eq (.elem (.field (ws_tm i) "java/lang/String" "value" "[B") (.int (Int32.ofNat j))) (.int ((sByt.getD i []).getD j 0)) ∈ flatC ws_gn := by decide +kernel
theorem ws_ne : ∀ i, i < 5 → ∀ j, j < 5 → i ≠ j → Cond.not (Cond.eq (ws_tm i) (ws_tm j)) ∈ flatC ws_gn ∨ Cond.not (Cond.eq (ws_tm j) (ws_tm i)) ∈ flatC ws_gn := by decide +kernel
theorem ws_sr : ∀ i, i < 5 → Cond.stringRef RX1 (sIx.getD i (0, "")).1 (sIx.getD i (0, "")).2 ∈ lw_tbl := by decide +kernel
theorem ws_sl : ∀ i, i < 5 → sLen.getD i 0 < 2 ^ 31 := by decide +kernel
theorem ws_ab : Cond.arrayOf ws_T .int ∈ flatC ws_gn ∧ Cond.eq (.length ws_T) (.int (Int32.ofNat 7)) ∈ flatC ws_gn ∧ ∀ j, j < 7 → Cond.eq (.elem ws_T (.int (Int32.ofNat j))) (.int (abvL.getD j 0)) ∈ flatC ws_gn := by decide +kernel
theorem ws_z1 : Cond.laysStatic "MeltHours" "ABOVE" "[I" ∈ lw_tbl ∧ Cond.initialized "MeltHours" ∈ lw_tbl := by decide +kernel
theorem ws_z2 : Cond.laysStatic "java/lang/String" "COMPACT_STRINGS" "Z" ∈ lw_tbl ∧ Cond.initialized "java/lang/String" ∈ lw_tbl ∧ Cond.eq (.static "java/lang/String" "COMPACT_STRINGS" "Z") (.int 1) ∈ flatC ws_gn := by decide +kernel
theorem ws_z3 : Cond.laysStatic "jdk/internal/util/Preconditions" "SIOOBE_FORMATTER" "Ljava/util/function/BiFunction;" ∈ lw_tbl ∧ Cond.initialized "jdk/internal/util/Preconditions" ∈ lw_tbl ∧ Cond.isRef (.static "jdk/internal/util/Preconditions" "SIOOBE_FORMATTER" "Ljava/util/function/BiFunction;") ∈ flatC ws_gn := by decide +kernel
theorem ws_nw : ∀ w ∈ nestWs, w ∈ lw_tbl ∧ w.onTables = true := by decide +kernel
theorem ws_t0 : Cond.arrayClass .int ∈ lw_tbl ∧ Cond.arrayClass .boolean ∈ lw_tbl ∧ Cond.arrayClass .long ∈ lw_tbl ∧ Cond.arrayOver (.object "MeltHours$Tape") ∈ lw_tbl ∧ Cond.arrayOver (.array .int) ∈ lw_tbl := by decide +kernel
theorem ws_i0 : Cond.instantiable RX0 5 ∈ lw_tbl := by decide +kernel
theorem ws_i1 : Cond.instantiable RX1 5 ∈ lw_tbl := by decide +kernel
theorem ws_i2 : Cond.instantiable RX2 9 ∈ lw_tbl := by decide +kernel
theorem ws_i3 : Cond.instantiable RX3 3 ∈ lw_tbl := by decide +kernel
theorem ws_i4 : Cond.instantiable RX4 2 ∈ lw_tbl := by decide +kernel
theorem ws_i5 : Cond.instantiable RX5 10 ∈ lw_tbl := by decide +kernel
theorem ws_i6 : Cond.instantiable RX6 9 ∈ lw_tbl := by decide +kernel
theorem ws_i7 : Cond.instantiable RX7 67 ∈ lw_tbl := by decide +kernel
theorem ws_dC {A : Array Value} {s : State} (hts : ∀ w ∈ lw_tbl, w.before A s = true) : ∃ (dC : Nat → ClassId) (dI : Nat → Nat → Nat), ∀ (c : Nat) (q : vw_C), vwCl[c]? = some q → u_Kn s q.1 q.2.1 q.2.2 (dC c) (dI c) := by
  have hg : ∀ w ∈ lw_good, w.before A s = true := fun w hw => hts w (good_in hw)
  have hx : ∀ k : Nat, ∃ z : ClassId × (Nat → Nat), ∀ q, vwCl[k]? = some q → u_Kn s q.1 q.2.1 q.2.2 z.1 z.2 := by
    intro k
    match k with
    | 0 =>
      obtain ⟨c, i, h⟩ := u_known (C := RX0) (T := TX0) (N := 5) (n := 5) hg inX0 (hts _ ws_i0)
      refine ⟨(c, i), fun q hq => ?_⟩
      obtain rfl := Option.some.inj (show some (RX0, TX0, 5) = some q from hq)
      exact h
    | 1 =>
      obtain ⟨c, i, h⟩ := u_known (C := RX1) (T := TX1) (N := 5) (n := 5) hg inX1 (hts _ ws_i1)
      refine ⟨(c, i), fun q hq => ?_⟩
      obtain rfl := Option.some.inj (show some (RX1, TX1, 5) = some q from hq)
      exact h
    | 2 =>
      obtain ⟨c, i, h⟩ := u_known (C := RX2) (T := TX2) (N := 9) (n := 9) hg inX2 (hts _ ws_i2)
      refine ⟨(c, i), fun q hq => ?_⟩
      obtain rfl := Option.some.inj (show some (RX2, TX2, 9) = some q from hq)
      exact h
    | 3 =>
      obtain ⟨c, i, h⟩ := u_known (C := RX3) (T := TX3) (N := 3) (n := 3) hg inX3 (hts _ ws_i3)
      refine ⟨(c, i), fun q hq => ?_⟩
      obtain rfl := Option.some.inj (show some (RX3, TX3, 3) = some q from hq)
      exact h
    | 4 =>
      obtain ⟨c, i, h⟩ := u_known (C := RX4) (T := TX4) (N := 2) (n := 2) hg inX4 (hts _ ws_i4)
      refine ⟨(c, i), fun q hq => ?_⟩
      obtain rfl := Option.some.inj (show some (RX4, TX4, 2) = some q from hq)
      exact h
    | 5 =>
      obtain ⟨c, i, h⟩ := u_known (C := RX5) (T := TX5) (N := 10) (n := 10) hg inX5 (hts _ ws_i5)
      refine ⟨(c, i), fun q hq => ?_⟩
      obtain rfl := Option.some.inj (show some (RX5, TX5, 10) = some q from hq)
      exact h
    | 6 =>
      obtain ⟨c, i, h⟩ := u_known (C := RX6) (T := TX6) (N := 9) (n := 9) hg inX6 (hts _ ws_i6)
      refine ⟨(c, i), fun q hq => ?_⟩
      obtain rfl := Option.some.inj (show some (RX6, TX6, 9) = some q from hq)
      exact h
    | 7 =>
      obtain ⟨c, i, h⟩ := u_known (C := RX7) (T := TX7) (N := 67) (n := 67) hg inX7 (hts _ ws_i7)
      refine ⟨(c, i), fun q hq => ?_⟩
      obtain rfl := Option.some.inj (show some (RX7, TX7, 67) = some q from hq)
      exact h
    | k + 8 => exact ⟨(0, fun _ => 0), fun q hq => absurd (show (none : Option vw_C) = some q from hq) (by intro z; cases z)⟩
  obtain ⟨f, hf⟩ := Classical.axiomOfChoice hx
  exact ⟨fun k => (f k).1, fun k => (f k).2, fun c q hq => hf c q hq⟩
theorem ws_arr {s : State} {ty : FieldType} {c : ClassId} {k : Class} {comp : ClassId} (f2 : s.vm.classes[c]? = some k) (f3 : k.kind = .array comp ty) : ArrOfT s c ty := fun n z => ⟨(fun k h => by cases h), k, f2, comp, f3⟩
theorem ws_cy {A : Array Value} {s : State} (hts : ∀ w ∈ lw_tbl, w.before A s = true) : ∃ cy : Nat → ClassId, ∀ t, t < 5 → ArrOfT s (cy t) (tyA t) ∧ va_RA s (cy t) (tyA t) := by
  have hx : ∀ t : Nat, ∃ c : ClassId, t < 5 → ArrOfT s c (tyA t) ∧ va_RA s c (tyA t) := by
    intro t
    match t with
    | 0 =>
      obtain ⟨c, k, comp, f1, f2, f3⟩ := Cond.arrayClass_spec (hts _ ws_t0.1)
      exact ⟨c, fun _ => ⟨ws_arr f2 f3, f1⟩⟩
    | 1 =>
      obtain ⟨c, k, comp, f1, f2, f3⟩ := Cond.arrayClass_spec (hts _ ws_t0.2.1)
      exact ⟨c, fun _ => ⟨ws_arr f2 f3, f1⟩⟩
    | 2 =>
      obtain ⟨c, k, comp, f1, f2, f3⟩ := Cond.arrayClass_spec (hts _ ws_t0.2.2.1)
      exact ⟨c, fun _ => ⟨ws_arr f2 f3, f1⟩⟩
    | 3 =>
      obtain ⟨comp, c, k, f1, f2, f3, f4, f5⟩ := Cond.arrayOver_spec (hts _ ws_t0.2.2.2.1)
      exact ⟨c, fun _ => ⟨ws_arr f3 f4, k, comp, f3, f4, f1, f5⟩⟩
    | 4 =>
      obtain ⟨comp, c, k, f1, f2, f3, f4, f5⟩ := va_AOA.spec (t := .int) (s := s) (hts _ ws_t0.2.2.2.2)
      exact ⟨c, fun _ => ⟨ws_arr f3 f4, f5⟩⟩
    | t + 5 => exact ⟨0, fun h => absurd h (by omega)⟩
  obtain ⟨f, hf⟩ := Classical.axiomOfChoice hx
  exact ⟨f, hf⟩
theorem ws_KF {A : Array Value} {s : State} (hts : ∀ w ∈ lw_tbl, w.before A s = true) (hgv : (Cond.and given_1 narrow_1).before A s = true) : ∃ G : GT, gH0 G = s.heap ∧ KF G s := by
  have hs := flat_of_before _ hgv
  obtain ⟨dC, dI, h1⟩ := ws_dC hts
  obtain ⟨cy, h2⟩ := ws_cy hts
  have hA : ∀ a : Nat, a < s.heap.size → ¬ (fun q : Nat => s.heap.size ≤ q) a := fun a h => Nat.not_le.mpr h
  obtain ⟨adK, adV, h3, h4⟩ := vk_Sof (N := 5) (tm := ws_tm) (len := sLen) (byt := sByt) (A := fun q : Nat => s.heap.size ≤ q) ws_sl (fun i hi => hs _ (ws_ex i hi)) (fun i hi => hs _ (ws_co i hi)) (fun i hi => hs _ (ws_ar i hi)) (fun i hi => hs _ (ws_le i hi)) (fun i hi j hj => hs _ (ws_el i hi j hj)) (fun i j hi hj hij => (ws_ne i hi j hj hij).imp (hs _) (hs _)) hA
  obtain ⟨t, h5, h6⟩ := va_Tof (tm := ws_T) (ty := .int) (N := 7) (f := fun j => .int (abvL.getD j 0)) (A := fun q : Nat => s.heap.size ≤ q) (by decide) (hs _ ws_ab.1) (va_eqt (hs _ ws_ab.2.1)) (fun j hj => va_eqt (hs _ (ws_ab.2.2 j hj))) hA
  obtain ⟨v, h7, h8⟩ := Cond.isRef_spec (hs _ ws_z3.2.2)
  refine ⟨(dC, dI, cy, s.heap, adK, adV, t, 0), rfl, ⟨h1, h2⟩, va_AO.of (hts _ ws_t0.2.2.2.1), hts _ ws_t0.2.2.2.2, fun w hw => va_Nw.of (ws_nw w hw).2 (hts _ (ws_nw w hw).1), fun i q hq => ?_, h3, va_Zof (hts _ ws_z1.1) (hts _ ws_z1.2) h5 hA, h6, va_Zof (hts _ ws_z2.1) (hts _ ws_z2.2.1) (va_eqi (hs _ ws_z2.2.2)) hA, v, ?_, va_Zof (hts _ ws_z3.1) (hts _ ws_z3.2.1) h7 hA⟩
  · have hi : i < 5 := (List.getElem?_eq_some_iff.mp hq).1
    have hq' : sIx.getD i (0, "") = q := by rw [List.getD_eq_getElem?_getD, hq]; rfl
    have e1 := hts _ (ws_sr i hi)
    have e2 := h4 i hi
    unfold ws_tm at e2
    rw [hq'] at e1 e2
    exact vk_R.of e1 e2
  · cases v with
    | null => exact Or.inl rfl
    | ref a => exact Or.inr ⟨a, rfl⟩
    | _ => exact absurd h8 (by simp [Value.isRef])
theorem ws_of (hp : LawPure) {p : Program} {e : Env} {s : State} {m : MethodId} {below : List Frame} {meth : Method} {c : Code} (l : Launch) {b L : Nat} {xs : Nat → Int32} (hL : L ≤ 3072) (C0 : lw_At p s m meth c b L xs) : W p l e room_1 s m #[Value.ref b] below meth c s.heap [] 0 0 (lw_Z below #[Value.ref b] s) (entryFrame m ([Value.ref b] : List Value).toArray 4) := by
  obtain ⟨hx, hb, hr, hml, hown, hts, hX, hbl, hlocks, hgv⟩ := C0
  obtain ⟨G, hG, hK⟩ := ws_KF hts hgv
  obtain ⟨e1, es1, sh9, I9, L9, n9, hlaw, hc1, hc2⟩ := hp xs L s.heap.size hL
  have hl := lv_entry ([.ref b]) (n := 4) (Nat.le_of_ble_eq_true rfl)
  rw [lg_entry_eq]
  generalize (lg_sl ([.ref b]) ++ List.replicate (4 - (lg_sl ([.ref b])).length) Slot.unset).toArray = ls at hl ⊢
  have hl : lv_has ls 4 [(0, .ref b)] := hl
  have F : MF G (p, l, e, room_1, s, m, #[.ref b], below, meth, c) RL cL_law 4 700 (some .boolean) "law" := ⟨hx, hb, hml, hown, fun w hw => hts w (good_in hw), hr, hlocks, fun h => absurd rfl h, hK, fun q hq => by rw [hG], by rw [hG]; exact Nat.le_refl _, Nat.le_of_ble_eq_true rfl, Nat.le_of_ble_eq_true rfl⟩
  have hsc : SCR G (p, l, e, room_1, s, m, #[.ref b], below, meth, c) b L xs := by
    show va_X b L xs s (gH0 G)
    rw [hG]
    exact hX
  refine W.widen (k := 600000 - e1) (n := 7302250 - es1) (Nat.zero_le _) (Nat.zero_le _) ?_
  refine jbL_law_0 G (Q := lw_Z below #[Value.ref b] s) hsc ?_ F hlaw s.heap [] (600000 - e1) (7302250 - es1) ls (Nat.sub_add_cancel hc1) (Nat.sub_add_cancel hc2) ⟨rfl, by rw [hG]; exact Nat.le_refl _, fun q _ => by rw [hG], fun a c9 h => by cases h⟩ va_S.rf hl
  intro sh I L' n' pc ls' hd H locs cells slots LS q1 q2 q3 q4 q5
  have q1 : cells + 0 = 600000 := q1
  have q2 : slots + 0 = 7302250 := q2
  obtain rfl : cells = 600000 := q1
  obtain rfl : slots = 7302250 := q2
  refine va_forget (fun q hq => ?_) ?_
  · have h9 : (gH0 G).size ≤ q.base := q4.2.2 q hq
    rw [hG] at h9
    exact h9
  · exact lw_ret hx hb hr hlocks hd
