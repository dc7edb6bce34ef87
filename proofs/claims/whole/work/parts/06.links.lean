/-! words of fields and calls, by program; small combinators of the decompiled functions -/
def addE {ρ : Type} (c s : Nat) (o : Option ((Nat × Nat) × ρ)) : Option ((Nat × Nat) × ρ) := o.map (fun q => ((c + q.1.1, s + q.1.2), q.2))
theorem addE_obt {ρ : Type} {c s : Nat} {o : Option ((Nat × Nat) × ρ)} {e es : Nat} {x : ρ} (h : addE c s o = some ((e, es), x)) : ∃ e1 es1, o = some ((e1, es1), x) ∧ e = c + e1 ∧ es = s + es1 := by
  unfold addE at h
  obtain ⟨⟨⟨a, b⟩, y⟩, h1, h2⟩ := Option.map_eq_some_iff.mp h
  cases h2
  exact ⟨a, b, h1, rfl, rfl⟩
def b2 {α β γ : Type} (o : Option (α × β)) (f : α → β → Option γ) : Option γ := match o with
  | none => none
  | some x => f x.1 x.2
theorem b2_obt {α β γ : Type} {o : Option (α × β)} {f : α → β → Option γ} {r : γ} (h : b2 o f = some r) : ∃ a b, o = some (a, b) ∧ f a b = some r := by
  cases o with
  | none => cases h
  | some x => exact ⟨x.1, x.2, rfl, h⟩
def b3 {α β γ δ : Type} (o : Option (α × β × γ)) (f : α → β → γ → Option δ) : Option δ := match o with
  | none => none
  | some x => f x.1 x.2.1 x.2.2
theorem b3_obt {α β γ δ : Type} {o : Option (α × β × γ)} {f : α → β → γ → Option δ} {r : δ} (h : b3 o f = some r) : ∃ a b c, o = some (a, b, c) ∧ f a b c = some r := by
  cases o with
  | none => cases h
  | some x => exact ⟨x.1, x.2.1, x.2.2, rfl, h⟩
def bE1 {α0 γ : Type} (o : Option ((Nat × Nat) × (α0))) (f : α0 → Option ((Nat × Nat) × γ)) : Option ((Nat × Nat) × γ) := match o with
  | none => none
  | some q => addE q.1.1 q.1.2 (f q.2)
theorem bE1_obt {α0 γ : Type} {o : Option ((Nat × Nat) × (α0))} {f : α0 → Option ((Nat × Nat) × γ)} {e es : Nat} {r : γ} (h : bE1 o f = some ((e, es), r)) : ∃ d ds a0 e1 es1, o = some ((d, ds), a0) ∧ f a0 = some ((e1, es1), r) ∧ e = d + e1 ∧ es = ds + es1 := by
  cases o with
  | none => cases h
  | some q =>
    obtain ⟨e1, es1, h1, h2, h3⟩ := addE_obt h
    exact ⟨q.1.1, q.1.2, q.2, e1, es1, rfl, h1, h2, h3⟩
def bE2 {α0 α1 γ : Type} (o : Option ((Nat × Nat) × (α0 × α1))) (f : α0 → α1 → Option ((Nat × Nat) × γ)) : Option ((Nat × Nat) × γ) := match o with
  | none => none
  | some q => addE q.1.1 q.1.2 (f q.2.1 q.2.2)
theorem bE2_obt {α0 α1 γ : Type} {o : Option ((Nat × Nat) × (α0 × α1))} {f : α0 → α1 → Option ((Nat × Nat) × γ)} {e es : Nat} {r : γ} (h : bE2 o f = some ((e, es), r)) : ∃ d ds a0 a1 e1 es1, o = some ((d, ds), (a0, a1)) ∧ f a0 a1 = some ((e1, es1), r) ∧ e = d + e1 ∧ es = ds + es1 := by
  cases o with
  | none => cases h
  | some q =>
    obtain ⟨e1, es1, h1, h2, h3⟩ := addE_obt h
    exact ⟨q.1.1, q.1.2, q.2.1, q.2.2, e1, es1, rfl, h1, h2, h3⟩
def bE3 {α0 α1 α2 γ : Type} (o : Option ((Nat × Nat) × (α0 × α1 × α2))) (f : α0 → α1 → α2 → Option ((Nat × Nat) × γ)) : Option ((Nat × Nat) × γ) := match o with
  | none => none
  | some q => addE q.1.1 q.1.2 (f q.2.1 q.2.2.1 q.2.2.2)
theorem bE3_obt {α0 α1 α2 γ : Type} {o : Option ((Nat × Nat) × (α0 × α1 × α2))} {f : α0 → α1 → α2 → Option ((Nat × Nat) × γ)} {e es : Nat} {r : γ} (h : bE3 o f = some ((e, es), r)) : ∃ d ds a0 a1 a2 e1 es1, o = some ((d, ds), (a0, a1, a2)) ∧ f a0 a1 a2 = some ((e1, es1), r) ∧ e = d + e1 ∧ es = ds + es1 := by
  cases o with
  | none => cases h
  | some q =>
    obtain ⟨e1, es1, h1, h2, h3⟩ := addE_obt h
    exact ⟨q.1.1, q.1.2, q.2.1, q.2.2.1, q.2.2.2, e1, es1, rfl, h1, h2, h3⟩
def bE4 {α0 α1 α2 α3 γ : Type} (o : Option ((Nat × Nat) × (α0 × α1 × α2 × α3))) (f : α0 → α1 → α2 → α3 → Option ((Nat × Nat) × γ)) : Option ((Nat × Nat) × γ) := match o with
  | none => none
  | some q => addE q.1.1 q.1.2 (f q.2.1 q.2.2.1 q.2.2.2.1 q.2.2.2.2)
theorem bE4_obt {α0 α1 α2 α3 γ : Type} {o : Option ((Nat × Nat) × (α0 × α1 × α2 × α3))} {f : α0 → α1 → α2 → α3 → Option ((Nat × Nat) × γ)} {e es : Nat} {r : γ} (h : bE4 o f = some ((e, es), r)) : ∃ d ds a0 a1 a2 a3 e1 es1, o = some ((d, ds), (a0, a1, a2, a3)) ∧ f a0 a1 a2 a3 = some ((e1, es1), r) ∧ e = d + e1 ∧ es = ds + es1 := by
  cases o with
  | none => cases h
  | some q =>
    obtain ⟨e1, es1, h1, h2, h3⟩ := addE_obt h
    exact ⟨q.1.1, q.1.2, q.2.1, q.2.2.1, q.2.2.2.1, q.2.2.2.2, e1, es1, rfl, h1, h2, h3⟩
def bE5 {α0 α1 α2 α3 α4 γ : Type} (o : Option ((Nat × Nat) × (α0 × α1 × α2 × α3 × α4))) (f : α0 → α1 → α2 → α3 → α4 → Option ((Nat × Nat) × γ)) : Option ((Nat × Nat) × γ) := match o with
  | none => none
  | some q => addE q.1.1 q.1.2 (f q.2.1 q.2.2.1 q.2.2.2.1 q.2.2.2.2.1 q.2.2.2.2.2)
theorem bE5_obt {α0 α1 α2 α3 α4 γ : Type} {o : Option ((Nat × Nat) × (α0 × α1 × α2 × α3 × α4))} {f : α0 → α1 → α2 → α3 → α4 → Option ((Nat × Nat) × γ)} {e es : Nat} {r : γ} (h : bE5 o f = some ((e, es), r)) : ∃ d ds a0 a1 a2 a3 a4 e1 es1, o = some ((d, ds), (a0, a1, a2, a3, a4)) ∧ f a0 a1 a2 a3 a4 = some ((e1, es1), r) ∧ e = d + e1 ∧ es = ds + es1 := by
  cases o with
  | none => cases h
  | some q =>
    obtain ⟨e1, es1, h1, h2, h3⟩ := addE_obt h
    exact ⟨q.1.1, q.1.2, q.2.1, q.2.2.1, q.2.2.2.1, q.2.2.2.2.1, q.2.2.2.2.2, e1, es1, rfl, h1, h2, h3⟩
theorem gw_0 : Cond.selects RX1 yX1_clause yX1_clause ∈ lw_good := good_of 0 (by decide +kernel) rfl
theorem gw_1 : Cond.selects RX1 yX1_word yX1_word ∈ lw_good := good_of 1 (by decide +kernel) rfl
theorem gw_2 : Cond.selects RX1 yX1_passes yX1_passes ∈ lw_good := good_of 2 (by decide +kernel) rfl
theorem gw_3 : Cond.selects RX1 yX1_next yX1_next ∈ lw_good := good_of 3 (by decide +kernel) rfl
theorem gw_4 : Cond.selects RX1 yX1_ending yX1_ending ∈ lw_good := good_of 4 (by decide +kernel) rfl
theorem gw_5 : Cond.selects RX1 yX1_expect yX1_expect ∈ lw_good := good_of 5 (by decide +kernel) rfl
theorem gw_6 : Cond.selects RX1 yX1_number yX1_number ∈ lw_good := good_of 6 (by decide +kernel) rfl
theorem gw_7 : Cond.selects RX1 yX1_either yX1_either ∈ lw_good := good_of 7 (by decide +kernel) rfl
theorem gw_8 : Cond.selects RX1 yX1_both yX1_both ∈ lw_good := good_of 8 (by decide +kernel) rfl
theorem gw_9 : Cond.selects RX1 yX1_factor yX1_factor ∈ lw_good := good_of 9 (by decide +kernel) rfl
theorem gw_10 : Cond.selects RX1 yX1_oneOf yX1_oneOf ∈ lw_good := good_of 10 (by decide +kernel) rfl
theorem gw_11 : Cond.selects RX1 yX1_figure yX1_figure ∈ lw_good := good_of 11 (by decide +kernel) rfl
theorem gw_12 : Cond.selects RX5 yX5_come yX5_come ∈ lw_good := good_of 12 (by decide +kernel) rfl
theorem gw_13 : Cond.selects RX5 yX5_pass yX5_pass ∈ lw_good := good_of 13 (by decide +kernel) rfl
theorem gw_14 : Cond.selects RX5 yX5_takes yX5_takes ∈ lw_good := good_of 14 (by decide +kernel) rfl
theorem gw_15 : Cond.selects RX5 yX5_serve yX5_serve ∈ lw_good := good_of 15 (by decide +kernel) rfl
theorem gw_16 : Cond.selects RX5 yX5_servedBefore yX5_servedBefore ∈ lw_good := good_of 16 (by decide +kernel) rfl
theorem gw_17 : Cond.selects RX6 yX6_underSkies yX6_underSkies ∈ lw_good := good_of 17 (by decide +kernel) rfl
theorem gw_18 : Cond.selects RX6 yX6_tapeAt yX6_tapeAt ∈ lw_good := good_of 18 (by decide +kernel) rfl
theorem gw_19 : Cond.selects RX0 yX0_lets yX0_lets ∈ lw_good := good_of 19 (by decide +kernel) rfl
theorem gw_20 : Cond.selects RX0 yX0_began yX0_began ∈ lw_good := good_of 20 (by decide +kernel) rfl
theorem gw_21 : Cond.selects RX0 yX0_takes yX0_takes ∈ lw_good := good_of 21 (by decide +kernel) rfl
theorem gw_22 : Cond.selects RX0 yX0_tells yX0_tells ∈ lw_good := good_of 22 (by decide +kernel) rfl
theorem gw_23 : Cond.selects RX7 yX7_in yX7_in ∈ lw_good := good_of 23 (by decide +kernel) rfl
theorem gw_24 : Cond.selects RX7 yX7_isGate yX7_isGate ∈ lw_good := good_of 24 (by decide +kernel) rfl
theorem gw_25 : Cond.selects RX7 yX7_goesText yX7_goesText ∈ lw_good := good_of 25 (by decide +kernel) rfl
theorem gw_26 : Cond.selects RX7 yX7_takesClause yX7_takesClause ∈ lw_good := good_of 26 (by decide +kernel) rfl
theorem gw_27 : Cond.selects RX7 yX7_takesHead yX7_takesHead ∈ lw_good := good_of 27 (by decide +kernel) rfl
theorem gw_28 : Cond.selects RX7 yX7_second yX7_second ∈ lw_good := good_of 28 (by decide +kernel) rfl
theorem gw_29 : Cond.selects RX7 yX7_next yX7_next ∈ lw_good := good_of 29 (by decide +kernel) rfl
theorem gw_30 : Cond.selects RX7 yX7_takesWord yX7_takesWord ∈ lw_good := good_of 30 (by decide +kernel) rfl
theorem gw_31 : Cond.selects RX7 yX7_takesSign yX7_takesSign ∈ lw_good := good_of 31 (by decide +kernel) rfl
theorem gw_32 : Cond.selects RX7 yX7_takesNumber yX7_takesNumber ∈ lw_good := good_of 32 (by decide +kernel) rfl
theorem gw_33 : Cond.selects RX7 yX7_isDigit yX7_isDigit ∈ lw_good := good_of 33 (by decide +kernel) rfl
theorem gw_34 : Cond.selects RX7 yX7_takesE yX7_takesE ∈ lw_good := good_of 34 (by decide +kernel) rfl
theorem gw_35 : Cond.selects RX7 yX7_takesTest yX7_takesTest ∈ lw_good := good_of 35 (by decide +kernel) rfl
theorem gw_36 : Cond.selects RX7 yX7_put yX7_put ∈ lw_good := good_of 36 (by decide +kernel) rfl
theorem gw_37 : Cond.selects RX7 yX7_whole yX7_whole ∈ lw_good := good_of 37 (by decide +kernel) rfl
theorem gw_38 : Cond.selects RX7 yX7_settle yX7_settle ∈ lw_good := good_of 38 (by decide +kernel) rfl
theorem gw_39 : Cond.selects RX7 yX7_last yX7_last ∈ lw_good := good_of 39 (by decide +kernel) rfl
theorem gw_40 : Cond.selects RX7 yX7_first yX7_first ∈ lw_good := good_of 40 (by decide +kernel) rfl
theorem gw_41 : Cond.selects RX7 yX7_behind yX7_behind ∈ lw_good := good_of 41 (by decide +kernel) rfl
theorem gw_42 : Cond.selects RX7 yX7_min yX7_min ∈ lw_good := good_of 42 (by decide +kernel) rfl
theorem gw_43 : Cond.selects RX7 yX7_isHour yX7_isHour ∈ lw_good := good_of 43 (by decide +kernel) rfl
theorem gw_44 : Cond.selects RX7 yX7_meltOf yX7_meltOf ∈ lw_good := good_of 44 (by decide +kernel) rfl
theorem gw_45 : Cond.selects RX7 yX7_holds yX7_holds ∈ lw_good := good_of 45 (by decide +kernel) rfl
theorem gw_46 : Cond.selects RX7 yX7_isPlace yX7_isPlace ∈ lw_good := good_of 46 (by decide +kernel) rfl
theorem gw_47 : Cond.selects RX7 yX7_asIs yX7_asIs ∈ lw_good := good_of 47 (by decide +kernel) rfl
theorem gw_48 : Cond.selects RX7 yX7_go yX7_go ∈ lw_good := good_of 48 (by decide +kernel) rfl
theorem gw_49 : Cond.selects RX7 yX7_sets yX7_sets ∈ lw_good := good_of 49 (by decide +kernel) rfl
theorem gw_50 : Cond.selects RX7 yX7_less yX7_less ∈ lw_good := good_of 50 (by decide +kernel) rfl
theorem gw_51 : Cond.selects RX7 yX7_takes yX7_takes ∈ lw_good := good_of 51 (by decide +kernel) rfl
theorem gw_52 : Cond.selects RX7 yX7_has yX7_has ∈ lw_good := good_of 52 (by decide +kernel) rfl
theorem gw_53 : Cond.selects RX7 yX7_floods yX7_floods ∈ lw_good := good_of 53 (by decide +kernel) rfl
theorem gw_54 : Cond.selects RX7 yX7_worthNow yX7_worthNow ∈ lw_good := good_of 54 (by decide +kernel) rfl
theorem gw_55 : Cond.selects RX7 yX7_serve yX7_serve ∈ lw_good := good_of 55 (by decide +kernel) rfl
theorem gw_56 : Cond.selects RX7 yX7_oddsOf yX7_oddsOf ∈ lw_good := good_of 56 (by decide +kernel) rfl
theorem gw_57 : Cond.selects RX7 yX7_divisor yX7_divisor ∈ lw_good := good_of 57 (by decide +kernel) rfl
theorem gw_58 : Cond.selects RX7 yX7_ones yX7_ones ∈ lw_good := good_of 58 (by decide +kernel) rfl
theorem gw_59 : Cond.selects RX7 yX7_isTape yX7_isTape ∈ lw_good := good_of 59 (by decide +kernel) rfl
theorem gw_60 : Cond.selects RX7 yX7_copy yX7_copy ∈ lw_good := good_of 60 (by decide +kernel) rfl
theorem gw_61 : Cond.selects RX7 yX7_letsAct yX7_letsAct ∈ lw_good := good_of 61 (by decide +kernel) rfl
theorem gw_62 : Cond.selects RX7 yX7_body yX7_body ∈ lw_good := good_of 62 (by decide +kernel) rfl
theorem gw_63 : Cond.selects RX7 yX7_plainLets yX7_plainLets ∈ lw_good := good_of 63 (by decide +kernel) rfl
theorem gw_64 : Cond.selects RX7 yX7_takesAct yX7_takesAct ∈ lw_good := good_of 64 (by decide +kernel) rfl
theorem gw_65 : Cond.selects RX7 yX7_clockTakes yX7_clockTakes ∈ lw_good := good_of 65 (by decide +kernel) rfl
theorem gw_66 : Cond.selects RX7 yX7_plainTakes yX7_plainTakes ∈ lw_good := good_of 66 (by decide +kernel) rfl
theorem gw_67 : Cond.selects RX7 yX7_tellsAct yX7_tellsAct ∈ lw_good := good_of 67 (by decide +kernel) rfl
theorem gw_68 : Cond.selects RX7 yX7_plainTells yX7_plainTells ∈ lw_good := good_of 68 (by decide +kernel) rfl
theorem gw_69 : Cond.selects RX7 yX7_narrow yX7_narrow ∈ lw_good := good_of 69 (by decide +kernel) rfl
theorem gw_71 : Cond.initialized "MeltHours" ∈ lw_good := good_of 71 (by decide +kernel) rfl
theorem gw_72 : Cond.initialized "MeltHours$State" ∈ lw_good := good_of 72 (by decide +kernel) rfl
theorem gw_73 : Cond.initialized "MeltHours$Valley" ∈ lw_good := good_of 73 (by decide +kernel) rfl
theorem gw_74 : Cond.initialized "java/util/Arrays" ∈ lw_good := good_of 74 (by decide +kernel) rfl
theorem gw_75 : Cond.initialized "MeltHours$Water" ∈ lw_good := good_of 75 (by decide +kernel) rfl
theorem gw_76 : Cond.initialized "MeltHours$Acts" ∈ lw_good := good_of 76 (by decide +kernel) rfl
theorem gw_77 : Cond.initialized "MeltHours$Tape" ∈ lw_good := good_of 77 (by decide +kernel) rfl
theorem gw_78 : Cond.initialized "MeltHoursModel" ∈ lw_good := good_of 78 (by decide +kernel) rfl
theorem gw_79 : Cond.initialized "MeltHours$Reader" ∈ lw_good := good_of 79 (by decide +kernel) rfl
theorem gw_80 : Cond.initialized "java/lang/Math" ∈ lw_good := good_of 80 (by decide +kernel) rfl
theorem gw_81 : Cond.initialized "java/lang/String" ∈ lw_good := good_of 81 (by decide +kernel) rfl
theorem gw_86 : Cond.initialized "java/lang/Integer" ∈ lw_good := good_of 86 (by decide +kernel) rfl
theorem gw_87 : Cond.classLink "MeltHoursLaw" 7 "MeltHours" ∈ lw_good := good_of 87 (by decide +kernel) rfl
theorem gw_88 : Cond.instantiable "MeltHours" 9 ∈ lw_good := good_of 88 (by decide +kernel) rfl
theorem gw_89 : Cond.methodLink "MeltHoursLaw" 9 yX6_init ∈ lw_good := good_of 89 (by decide +kernel) rfl
theorem gw_90 : Cond.instanceMethod yX6_init ∈ lw_good := good_of 90 (by decide +kernel) rfl
set_option maxRecDepth 100000 in
theorem gw_91 : Cond.code yX6_init cX6_init 2 none ∈ lw_good := good_of 91 rfl rfl
theorem gw_95 : Cond.classLink "MeltHours" 11 "MeltHours$State" ∈ lw_good := good_of 95 (by decide +kernel) rfl
theorem gw_96 : Cond.instantiable "MeltHours$State" 9 ∈ lw_good := good_of 96 (by decide +kernel) rfl
theorem gw_97 : Cond.classLink "MeltHours" 13 "MeltHours$Valley" ∈ lw_good := good_of 97 (by decide +kernel) rfl
theorem gw_98 : Cond.instantiable "MeltHours$Valley" 2 ∈ lw_good := good_of 98 (by decide +kernel) rfl
theorem gw_99 : Cond.methodLink "MeltHours" 15 yX4_init ∈ lw_good := good_of 99 (by decide +kernel) rfl
theorem gw_100 : Cond.instanceMethod yX4_init ∈ lw_good := good_of 100 (by decide +kernel) rfl
set_option maxRecDepth 100000 in
theorem gw_101 : Cond.code yX4_init cX4_init 1 none ∈ lw_good := good_of 101 rfl rfl
theorem gw_105 : Cond.methodLink "MeltHours$Valley" 20 yJ7_fill_53178 ∈ lw_good := good_of 105 (by decide +kernel) rfl
theorem gw_106 : Cond.static yJ7_fill_53178 ∈ lw_good := good_of 106 (by decide +kernel) rfl
set_option maxRecDepth 100000 in
theorem gw_107 : Cond.code yJ7_fill_53178 cJ7_fill_53178 4 none ∈ lw_good := good_of 107 rfl rfl
theorem gw_108 : Cond.fieldLink "MeltHours$Valley" 11 "MeltHours$Valley" "ways" "[[I" ∈ lw_good := good_of 108 (by decide +kernel) rfl
theorem gw_109 : Cond.fieldLink "MeltHours$Water" 51 "MeltHours$Valley" "ways" "[[I" ∈ lw_good := good_of 109 (by decide +kernel) rfl
theorem gw_110 : Cond.fieldLink "MeltHours" 87 "MeltHours$Valley" "ways" "[[I" ∈ lw_good := good_of 110 (by decide +kernel) rfl
theorem gw_111 : Cond.fieldLink "MeltHours$Valley" 16 "MeltHours$Valley" "melts" "[I" ∈ lw_good := good_of 111 (by decide +kernel) rfl
theorem gw_112 : Cond.fieldLink "MeltHours$State" 61 "MeltHours$Valley" "melts" "[I" ∈ lw_good := good_of 112 (by decide +kernel) rfl
theorem gw_119 : Cond.methodLink "MeltHours" 16 yX2_init ∈ lw_good := good_of 119 (by decide +kernel) rfl
theorem gw_120 : Cond.instanceMethod yX2_init ∈ lw_good := good_of 120 (by decide +kernel) rfl
set_option maxRecDepth 100000 in
theorem gw_121 : Cond.code yX2_init cX2_init 2 none ∈ lw_good := good_of 121 rfl rfl
theorem gw_124 : Cond.fieldLink "MeltHours$State" 9 "MeltHours$State" "placeCount" "I" ∈ lw_good := good_of 124 (by decide +kernel) rfl
theorem gw_125 : Cond.fieldLink "MeltHours" 57 "MeltHours$State" "placeCount" "I" ∈ lw_good := good_of 125 (by decide +kernel) rfl
theorem gw_126 : Cond.fieldLink "MeltHours$Water" 121 "MeltHours$State" "placeCount" "I" ∈ lw_good := good_of 126 (by decide +kernel) rfl
theorem gw_127 : Cond.fieldLink "MeltHours$State" 15 "MeltHours$State" "skies" "[I" ∈ lw_good := good_of 127 (by decide +kernel) rfl
theorem gw_128 : Cond.fieldLink "MeltHours" 65 "MeltHours$State" "skies" "[I" ∈ lw_good := good_of 128 (by decide +kernel) rfl
theorem gw_129 : Cond.fieldLink "MeltHours$Water" 66 "MeltHours$State" "skies" "[I" ∈ lw_good := good_of 129 (by decide +kernel) rfl
theorem gw_130 : Cond.fieldLink "MeltHours$State" 19 "MeltHours$State" "odds" "[I" ∈ lw_good := good_of 130 (by decide +kernel) rfl
theorem gw_131 : Cond.fieldLink "MeltHours" 168 "MeltHours$State" "odds" "[I" ∈ lw_good := good_of 131 (by decide +kernel) rfl
theorem gw_132 : Cond.fieldLink "MeltHours$State" 24 "MeltHours$State" "gates" "[[I" ∈ lw_good := good_of 132 (by decide +kernel) rfl
theorem gw_133 : Cond.fieldLink "MeltHours$Water" 58 "MeltHours$State" "gates" "[[I" ∈ lw_good := good_of 133 (by decide +kernel) rfl
theorem gw_134 : Cond.fieldLink "MeltHours" 96 "MeltHours$State" "gates" "[[I" ∈ lw_good := good_of 134 (by decide +kernel) rfl
theorem gw_135 : Cond.fieldLink "MeltHours$State" 27 "MeltHours$State" "wants" "[[I" ∈ lw_good := good_of 135 (by decide +kernel) rfl
theorem gw_136 : Cond.fieldLink "MeltHours$Water" 128 "MeltHours$State" "wants" "[[I" ∈ lw_good := good_of 136 (by decide +kernel) rfl
theorem gw_137 : Cond.fieldLink "MeltHours" 138 "MeltHours$State" "wants" "[[I" ∈ lw_good := good_of 137 (by decide +kernel) rfl
theorem gw_138 : Cond.fieldLink "MeltHours$State" 45 "MeltHours$State" "wantCount" "I" ∈ lw_good := good_of 138 (by decide +kernel) rfl
theorem gw_139 : Cond.fieldLink "MeltHours" 135 "MeltHours$State" "wantCount" "I" ∈ lw_good := good_of 139 (by decide +kernel) rfl
theorem gw_140 : Cond.fieldLink "MeltHours$State" 30 "MeltHours$State" "toldMelts" "[I" ∈ lw_good := good_of 140 (by decide +kernel) rfl
theorem gw_141 : Cond.fieldLink "MeltHours" 191 "MeltHours$State" "toldMelts" "[I" ∈ lw_good := good_of 141 (by decide +kernel) rfl
theorem gw_142 : Cond.fieldLink "MeltHours$State" 48 "MeltHours$State" "toldHours" "I" ∈ lw_good := good_of 142 (by decide +kernel) rfl
theorem gw_143 : Cond.fieldLink "MeltHours" 188 "MeltHours$State" "toldHours" "I" ∈ lw_good := good_of 143 (by decide +kernel) rfl
theorem gw_144 : Cond.fieldLink "MeltHours" 23 "MeltHours$State" "valley" "LMeltHours$Valley;" ∈ lw_good := good_of 144 (by decide +kernel) rfl
theorem gw_145 : Cond.fieldLink "MeltHours$State" 33 "MeltHours$State" "valley" "LMeltHours$Valley;" ∈ lw_good := good_of 145 (by decide +kernel) rfl
theorem gw_146 : Cond.fieldLink "MeltHours$Water" 45 "MeltHours$State" "valley" "LMeltHours$Valley;" ∈ lw_good := good_of 146 (by decide +kernel) rfl
theorem gw_166 : Cond.classLink "MeltHours" 30 "MeltHours$Water" ∈ lw_good := good_of 166 (by decide +kernel) rfl
theorem gw_167 : Cond.instantiable "MeltHours$Water" 10 ∈ lw_good := good_of 167 (by decide +kernel) rfl
theorem gw_168 : Cond.methodLink "MeltHours" 32 yX5_init ∈ lw_good := good_of 168 (by decide +kernel) rfl
theorem gw_169 : Cond.instanceMethod yX5_init ∈ lw_good := good_of 169 (by decide +kernel) rfl
set_option maxRecDepth 100000 in
theorem gw_170 : Cond.code yX5_init cX5_init 2 none ∈ lw_good := good_of 170 rfl rfl
theorem gw_173 : Cond.fieldLink "MeltHours$Water" 41 "MeltHours$Water" "state" "LMeltHours$State;" ∈ lw_good := good_of 173 (by decide +kernel) rfl
theorem gw_174 : Cond.fieldLink "MeltHours$Water" 9 "MeltHours$Water" "melts" "[I" ∈ lw_good := good_of 174 (by decide +kernel) rfl
theorem gw_175 : Cond.fieldLink "MeltHours" 111 "MeltHours$Water" "melts" "[I" ∈ lw_good := good_of 175 (by decide +kernel) rfl
theorem gw_176 : Cond.fieldLink "MeltHours$Water" 17 "MeltHours$Water" "ways" "[[I" ∈ lw_good := good_of 176 (by decide +kernel) rfl
theorem gw_177 : Cond.fieldLink "MeltHours" 167 "MeltHours$Water" "ways" "[[I" ∈ lw_good := good_of 177 (by decide +kernel) rfl
theorem gw_178 : Cond.fieldLink "MeltHours$Water" 20 "MeltHours$Water" "gates" "[[I" ∈ lw_good := good_of 178 (by decide +kernel) rfl
theorem gw_179 : Cond.fieldLink "MeltHours" 151 "MeltHours$Water" "gates" "[[I" ∈ lw_good := good_of 179 (by decide +kernel) rfl
theorem gw_180 : Cond.fieldLink "MeltHours$Water" 23 "MeltHours$Water" "comes" "[[I" ∈ lw_good := good_of 180 (by decide +kernel) rfl
theorem gw_181 : Cond.fieldLink "MeltHours" 201 "MeltHours$Water" "comes" "[[I" ∈ lw_good := good_of 181 (by decide +kernel) rfl
theorem gw_182 : Cond.fieldLink "MeltHours$Water" 26 "MeltHours$Water" "taken" "[[I" ∈ lw_good := good_of 182 (by decide +kernel) rfl
theorem gw_183 : Cond.fieldLink "MeltHours" 118 "MeltHours$Water" "taken" "[[I" ∈ lw_good := good_of 183 (by decide +kernel) rfl
theorem gw_184 : Cond.fieldLink "MeltHours$Water" 29 "MeltHours$Water" "by" "[[I" ∈ lw_good := good_of 184 (by decide +kernel) rfl
theorem gw_185 : Cond.fieldLink "MeltHours" 128 "MeltHours$Water" "by" "[[I" ∈ lw_good := good_of 185 (by decide +kernel) rfl
theorem gw_186 : Cond.fieldLink "MeltHours$Water" 32 "MeltHours$Water" "held" "[[I" ∈ lw_good := good_of 186 (by decide +kernel) rfl
theorem gw_187 : Cond.fieldLink "MeltHours$Water" 35 "MeltHours$Water" "flood" "[[I" ∈ lw_good := good_of 187 (by decide +kernel) rfl
theorem gw_188 : Cond.fieldLink "MeltHours" 125 "MeltHours$Water" "flood" "[[I" ∈ lw_good := good_of 188 (by decide +kernel) rfl
theorem gw_189 : Cond.fieldLink "MeltHours$Water" 38 "MeltHours$Water" "served" "[I" ∈ lw_good := good_of 189 (by decide +kernel) rfl
theorem gw_190 : Cond.fieldLink "MeltHours" 144 "MeltHours$Water" "served" "[I" ∈ lw_good := good_of 190 (by decide +kernel) rfl
theorem gw_212 : Cond.classLink "MeltHours" 39 "MeltHours$Acts" ∈ lw_good := good_of 212 (by decide +kernel) rfl
theorem gw_213 : Cond.instantiable "MeltHours$Acts" 5 ∈ lw_good := good_of 213 (by decide +kernel) rfl
theorem gw_215 : Cond.instanceMethod yX0_init ∈ lw_good := good_of 215 (by decide +kernel) rfl
set_option maxRecDepth 100000 in
theorem gw_216 : Cond.code yX0_init cX0_init 1 none ∈ lw_good := good_of 216 rfl rfl
theorem gw_218 : Cond.fieldLink "MeltHours$Acts" 15 "MeltHours$Acts" "place" "I" ∈ lw_good := good_of 218 (by decide +kernel) rfl
theorem gw_219 : Cond.fieldLink "MeltHours$Acts" 22 "MeltHours$Acts" "might" "I" ∈ lw_good := good_of 219 (by decide +kernel) rfl
theorem gw_220 : Cond.fieldLink "MeltHours$Acts" 19 "MeltHours$Acts" "kind" "I" ∈ lw_good := good_of 220 (by decide +kernel) rfl
theorem gw_221 : Cond.fieldLink "MeltHours$Acts" 9 "MeltHours$Acts" "bodies" "[I" ∈ lw_good := good_of 221 (by decide +kernel) rfl
theorem gw_222 : Cond.fieldLink "MeltHours" 236 "MeltHours$Acts" "bodies" "[I" ∈ lw_good := good_of 222 (by decide +kernel) rfl
theorem gw_223 : Cond.fieldLink "MeltHours$Acts" 39 "MeltHours$Acts" "ran" "I" ∈ lw_good := good_of 223 (by decide +kernel) rfl
theorem gw_224 : Cond.fieldLink "MeltHours" 226 "MeltHours$Acts" "ran" "I" ∈ lw_good := good_of 224 (by decide +kernel) rfl
theorem gw_236 : Cond.classLink "MeltHours" 50 "MeltHours$Tape" ∈ lw_good := good_of 236 (by decide +kernel) rfl
theorem gw_238 : Cond.instantiable "MeltHours$Tape" 3 ∈ lw_good := good_of 238 (by decide +kernel) rfl
theorem gw_240 : Cond.instanceMethod yX3_init ∈ lw_good := good_of 240 (by decide +kernel) rfl
set_option maxRecDepth 100000 in
theorem gw_241 : Cond.code yX3_init cX3_init 1 none ∈ lw_good := good_of 241 rfl rfl
theorem gw_243 : Cond.fieldLink "MeltHours$Tape" 9 "MeltHours$Tape" "sort" "I" ∈ lw_good := good_of 243 (by decide +kernel) rfl
theorem gw_244 : Cond.fieldLink "MeltHours" 198 "MeltHours$Tape" "sort" "I" ∈ lw_good := good_of 244 (by decide +kernel) rfl
theorem gw_245 : Cond.fieldLink "MeltHours$Tape" 25 "MeltHours$Tape" "size" "I" ∈ lw_good := good_of 245 (by decide +kernel) rfl
theorem gw_246 : Cond.fieldLink "MeltHours" 204 "MeltHours$Tape" "size" "I" ∈ lw_good := good_of 246 (by decide +kernel) rfl
theorem gw_247 : Cond.fieldLink "MeltHours$Tape" 15 "MeltHours$Tape" "items" "[J" ∈ lw_good := good_of 247 (by decide +kernel) rfl
theorem gw_248 : Cond.fieldLink "MeltHours" 212 "MeltHours$Tape" "items" "[J" ∈ lw_good := good_of 248 (by decide +kernel) rfl
theorem gw_257 : Cond.fieldLink "MeltHours" 19 "MeltHours" "now" "LMeltHours$State;" ∈ lw_good := good_of 257 (by decide +kernel) rfl
theorem gw_258 : Cond.fieldLink "MeltHours" 27 "MeltHours" "kept" "LMeltHours$State;" ∈ lw_good := good_of 258 (by decide +kernel) rfl
theorem gw_259 : Cond.fieldLink "MeltHours" 222 "MeltHours" "isKept" "Z" ∈ lw_good := good_of 259 (by decide +kernel) rfl
theorem gw_260 : Cond.fieldLink "MeltHours" 35 "MeltHours" "flow" "LMeltHours$Water;" ∈ lw_good := good_of 260 (by decide +kernel) rfl
theorem gw_261 : Cond.fieldLink "MeltHours" 42 "MeltHours" "acts" "LMeltHours$Acts;" ∈ lw_good := good_of 261 (by decide +kernel) rfl
theorem gw_262 : Cond.fieldLink "MeltHours" 46 "MeltHours" "text" "[I" ∈ lw_good := good_of 262 (by decide +kernel) rfl
theorem gw_263 : Cond.fieldLink "MeltHours" 68 "MeltHours" "textLength" "I" ∈ lw_good := good_of 263 (by decide +kernel) rfl
theorem gw_264 : Cond.fieldLink "MeltHours" 71 "MeltHours" "valleyCount" "I" ∈ lw_good := good_of 264 (by decide +kernel) rfl
theorem gw_265 : Cond.fieldLink "MeltHours" 52 "MeltHours" "tapes" "[LMeltHours$Tape;" ∈ lw_good := good_of 265 (by decide +kernel) rfl
theorem gw_285 : Cond.methodLink "MeltHoursLaw" 13 yX6_places ∈ lw_good := good_of 285 (by decide +kernel) rfl
theorem gw_286 : Cond.instanceMethod yX6_places ∈ lw_good := good_of 286 (by decide +kernel) rfl
theorem gw_287 : Cond.selects RX6 yX6_places yX6_places ∈ lw_good := good_of 287 (by decide +kernel) rfl
set_option maxRecDepth 100000 in
theorem gw_288 : Cond.code yX6_places cX6_places 3 (some .int) ∈ lw_good := good_of 288 rfl rfl
theorem gw_289 : Cond.methodLink "MeltHoursLaw" 18 yX6_sky ∈ lw_good := good_of 289 (by decide +kernel) rfl
theorem gw_290 : Cond.instanceMethod yX6_sky ∈ lw_good := good_of 290 (by decide +kernel) rfl
theorem gw_291 : Cond.selects RX6 yX6_sky yX6_sky ∈ lw_good := good_of 291 (by decide +kernel) rfl
set_option maxRecDepth 100000 in
theorem gw_292 : Cond.code yX6_sky cX6_sky 4 (some .int) ∈ lw_good := good_of 292 rfl rfl
theorem gw_293 : Cond.methodLink "MeltHours" 61 yX6_isUnder ∈ lw_good := good_of 293 (by decide +kernel) rfl
theorem gw_294 : Cond.static yX6_isUnder ∈ lw_good := good_of 294 (by decide +kernel) rfl
set_option maxRecDepth 100000 in
theorem gw_295 : Cond.code yX6_isUnder cX6_isUnder 2 (some .boolean) ∈ lw_good := good_of 295 rfl rfl
theorem gw_296 : Cond.methodLink "MeltHoursLaw" 23 yX6_feed ∈ lw_good := good_of 296 (by decide +kernel) rfl
theorem gw_297 : Cond.instanceMethod yX6_feed ∈ lw_good := good_of 297 (by decide +kernel) rfl
theorem gw_298 : Cond.selects RX6 yX6_feed yX6_feed ∈ lw_good := good_of 298 (by decide +kernel) rfl
set_option maxRecDepth 100000 in
theorem gw_299 : Cond.code yX6_feed cX6_feed 4 (some .int) ∈ lw_good := good_of 299 rfl rfl
theorem gw_300 : Cond.methodLink "MeltHoursLaw" 27 yX6_valley ∈ lw_good := good_of 300 (by decide +kernel) rfl
theorem gw_301 : Cond.instanceMethod yX6_valley ∈ lw_good := good_of 301 (by decide +kernel) rfl
theorem gw_302 : Cond.selects RX6 yX6_valley yX6_valley ∈ lw_good := good_of 302 (by decide +kernel) rfl
set_option maxRecDepth 100000 in
theorem gw_303 : Cond.code yX6_valley cX6_valley 2 (some .int) ∈ lw_good := good_of 303 rfl rfl
theorem gw_304 : Cond.classLink "MeltHours" 74 "MeltHours$Reader" ∈ lw_good := good_of 304 (by decide +kernel) rfl
theorem gw_305 : Cond.instantiable "MeltHours$Reader" 5 ∈ lw_good := good_of 305 (by decide +kernel) rfl
theorem gw_306 : Cond.methodLink "MeltHours" 76 yX1_init ∈ lw_good := good_of 306 (by decide +kernel) rfl
theorem gw_307 : Cond.instanceMethod yX1_init ∈ lw_good := good_of 307 (by decide +kernel) rfl
set_option maxRecDepth 100000 in
theorem gw_308 : Cond.code yX1_init cX1_init 3 none ∈ lw_good := good_of 308 rfl rfl
theorem gw_310 : Cond.classLink "MeltHours$Reader" 15 "MeltHours$Valley" ∈ lw_good := good_of 310 (by decide +kernel) rfl
theorem gw_311 : Cond.methodLink "MeltHours$Reader" 17 yX4_init ∈ lw_good := good_of 311 (by decide +kernel) rfl
theorem gw_312 : Cond.methodLink "MeltHours$Reader" 26 yJ9_min_7cf53 ∈ lw_good := good_of 312 (by decide +kernel) rfl
theorem gw_313 : Cond.static yJ9_min_7cf53 ∈ lw_good := good_of 313 (by decide +kernel) rfl
set_option maxRecDepth 100000 in
theorem gw_314 : Cond.code yJ9_min_7cf53 cJ9_min_7cf53 2 (some .int) ∈ lw_good := good_of 314 rfl rfl
theorem gw_315 : Cond.fieldLink "MeltHours$Reader" 22 "MeltHours$Reader" "text" "[I" ∈ lw_good := good_of 315 (by decide +kernel) rfl
theorem gw_316 : Cond.fieldLink "MeltHours$Reader" 32 "MeltHours$Reader" "length" "I" ∈ lw_good := good_of 316 (by decide +kernel) rfl
theorem gw_317 : Cond.fieldLink "MeltHours$Reader" 9 "MeltHours$Reader" "sound" "Z" ∈ lw_good := good_of 317 (by decide +kernel) rfl
theorem gw_318 : Cond.fieldLink "MeltHours$Reader" 43 "MeltHours$Reader" "at" "I" ∈ lw_good := good_of 318 (by decide +kernel) rfl
theorem gw_319 : Cond.fieldLink "MeltHours" 83 "MeltHours$Reader" "at" "I" ∈ lw_good := good_of 319 (by decide +kernel) rfl
theorem gw_320 : Cond.fieldLink "MeltHours$Reader" 18 "MeltHours$Reader" "valley" "LMeltHours$Valley;" ∈ lw_good := good_of 320 (by decide +kernel) rfl
theorem gw_321 : Cond.fieldLink "MeltHours" 86 "MeltHours$Reader" "valley" "LMeltHours$Valley;" ∈ lw_good := good_of 321 (by decide +kernel) rfl
theorem gw_333 : Cond.methodLink "MeltHours" 79 yX1_isValley ∈ lw_good := good_of 333 (by decide +kernel) rfl
theorem gw_334 : Cond.instanceMethod yX1_isValley ∈ lw_good := good_of 334 (by decide +kernel) rfl
theorem gw_335 : Cond.selects RX1 yX1_isValley yX1_isValley ∈ lw_good := good_of 335 (by decide +kernel) rfl
set_option maxRecDepth 100000 in
theorem gw_336 : Cond.code yX1_isValley cX1_isValley 2 (some .boolean) ∈ lw_good := good_of 336 rfl rfl
theorem gw_337 : Cond.methodLink "MeltHours$Reader" 36 yX1_clause ∈ lw_good := good_of 337 (by decide +kernel) rfl
theorem gw_339 : Cond.instanceMethod yX1_clause ∈ lw_good := good_of 339 (by decide +kernel) rfl
set_option maxRecDepth 100000 in
theorem gw_340 : Cond.code yX1_clause cX1_clause 4 none ∈ lw_good := good_of 340 rfl rfl
theorem gw_341 : Cond.methodLink "MeltHours$Reader" 46 yX1_word ∈ lw_good := good_of 341 (by decide +kernel) rfl
theorem gw_343 : Cond.instanceMethod yX1_word ∈ lw_good := good_of 343 (by decide +kernel) rfl
set_option maxRecDepth 100000 in
theorem gw_344 : Cond.code yX1_word cX1_word 1 (some .int) ∈ lw_good := good_of 344 rfl rfl
theorem gw_345 : Cond.methodLink "MeltHours$Reader" 39 yX1_passes ∈ lw_good := good_of 345 (by decide +kernel) rfl
theorem gw_347 : Cond.instanceMethod yX1_passes ∈ lw_good := good_of 347 (by decide +kernel) rfl
set_option maxRecDepth 100000 in
theorem gw_348 : Cond.code yX1_passes cX1_passes 2 (some .boolean) ∈ lw_good := good_of 348 rfl rfl
theorem gw_349 : Cond.methodLink "MeltHours$Reader" 109 yX1_next ∈ lw_good := good_of 349 (by decide +kernel) rfl
theorem gw_351 : Cond.instanceMethod yX1_next ∈ lw_good := good_of 351 (by decide +kernel) rfl
set_option maxRecDepth 100000 in
theorem gw_352 : Cond.code yX1_next cX1_next 1 (some .int) ∈ lw_good := good_of 352 rfl rfl
theorem gw_354 : Cond.methodLink "MeltHours$Reader" 75 yX1_ending ∈ lw_good := good_of 354 (by decide +kernel) rfl
theorem gw_356 : Cond.instanceMethod yX1_ending ∈ lw_good := good_of 356 (by decide +kernel) rfl
set_option maxRecDepth 100000 in
theorem gw_357 : Cond.code yX1_ending cX1_ending 4 (some .int) ∈ lw_good := good_of 357 rfl rfl
theorem gw_358 : Cond.methodLink "MeltHours$Reader" 87 yJ0_length_8abf5 ∈ lw_good := good_of 358 (by decide +kernel) rfl
theorem gw_359 : Cond.instanceMethod yJ0_length_8abf5 ∈ lw_good := good_of 359 (by decide +kernel) rfl
theorem gw_360 : Cond.selects RJ0 yJ0_length_8abf5 yJ0_length_8abf5 ∈ lw_good := good_of 360 (by decide +kernel) rfl
theorem gw_368 : Cond.methodLink "MeltHours$Reader" 91 yJ0_charAt_5068e ∈ lw_good := good_of 368 (by decide +kernel) rfl
theorem gw_369 : Cond.instanceMethod yJ0_charAt_5068e ∈ lw_good := good_of 369 (by decide +kernel) rfl
theorem gw_370 : Cond.selects RJ0 yJ0_charAt_5068e yJ0_charAt_5068e ∈ lw_good := good_of 370 (by decide +kernel) rfl
theorem gw_406 : Cond.methodLink "MeltHours$Reader" 50 yX1_expect ∈ lw_good := good_of 406 (by decide +kernel) rfl
theorem gw_408 : Cond.instanceMethod yX1_expect ∈ lw_good := good_of 408 (by decide +kernel) rfl
set_option maxRecDepth 100000 in
theorem gw_409 : Cond.code yX1_expect cX1_expect 2 none ∈ lw_good := good_of 409 rfl rfl
theorem gw_414 : Cond.methodLink "MeltHours$Reader" 54 yX1_number ∈ lw_good := good_of 414 (by decide +kernel) rfl
theorem gw_416 : Cond.instanceMethod yX1_number ∈ lw_good := good_of 416 (by decide +kernel) rfl
set_option maxRecDepth 100000 in
theorem gw_417 : Cond.code yX1_number cX1_number 3 (some .int) ∈ lw_good := good_of 417 rfl rfl
theorem gw_419 : Cond.methodLink "MeltHours$Reader" 57 yX1_either ∈ lw_good := good_of 419 (by decide +kernel) rfl
theorem gw_421 : Cond.instanceMethod yX1_either ∈ lw_good := good_of 421 (by decide +kernel) rfl
set_option maxRecDepth 100000 in
theorem gw_422 : Cond.code yX1_either cX1_either 6 (some (.array .boolean)) ∈ lw_good := good_of 422 rfl rfl
theorem gw_423 : Cond.methodLink "MeltHours$Reader" 95 yX1_both ∈ lw_good := good_of 423 (by decide +kernel) rfl
theorem gw_425 : Cond.instanceMethod yX1_both ∈ lw_good := good_of 425 (by decide +kernel) rfl
set_option maxRecDepth 100000 in
theorem gw_426 : Cond.code yX1_both cX1_both 6 (some (.array .boolean)) ∈ lw_good := good_of 426 rfl rfl
theorem gw_427 : Cond.methodLink "MeltHours$Reader" 98 yX1_factor ∈ lw_good := good_of 427 (by decide +kernel) rfl
theorem gw_429 : Cond.instanceMethod yX1_factor ∈ lw_good := good_of 429 (by decide +kernel) rfl
set_option maxRecDepth 100000 in
theorem gw_430 : Cond.code yX1_factor cX1_factor 4 (some (.array .boolean)) ∈ lw_good := good_of 430 rfl rfl
theorem gw_431 : Cond.methodLink "MeltHours$Reader" 101 yX1_oneOf ∈ lw_good := good_of 431 (by decide +kernel) rfl
theorem gw_433 : Cond.instanceMethod yX1_oneOf ∈ lw_good := good_of 433 (by decide +kernel) rfl
set_option maxRecDepth 100000 in
theorem gw_434 : Cond.code yX1_oneOf cX1_oneOf 5 (some .int) ∈ lw_good := good_of 434 rfl rfl
theorem gw_435 : Cond.methodLink "MeltHours$Reader" 105 yX1_whereHolds ∈ lw_good := good_of 435 (by decide +kernel) rfl
theorem gw_436 : Cond.static yX1_whereHolds ∈ lw_good := good_of 436 (by decide +kernel) rfl
set_option maxRecDepth 100000 in
theorem gw_437 : Cond.code yX1_whereHolds cX1_whereHolds 6 (some (.array .boolean)) ∈ lw_good := good_of 437 rfl rfl
theorem gw_438 : Cond.methodLink "MeltHours$Reader" 61 yX4_melt ∈ lw_good := good_of 438 (by decide +kernel) rfl
theorem gw_439 : Cond.instanceMethod yX4_melt ∈ lw_good := good_of 439 (by decide +kernel) rfl
theorem gw_440 : Cond.selects RX4 yX4_melt yX4_melt ∈ lw_good := good_of 440 (by decide +kernel) rfl
set_option maxRecDepth 100000 in
theorem gw_441 : Cond.code yX4_melt cX4_melt 4 none ∈ lw_good := good_of 441 rfl rfl
theorem gw_442 : Cond.methodLink "MeltHours$Reader" 65 yX1_figure ∈ lw_good := good_of 442 (by decide +kernel) rfl
theorem gw_444 : Cond.instanceMethod yX1_figure ∈ lw_good := good_of 444 (by decide +kernel) rfl
set_option maxRecDepth 100000 in
theorem gw_445 : Cond.code yX1_figure cX1_figure 3 (some .int) ∈ lw_good := good_of 445 rfl rfl
theorem gw_446 : Cond.methodLink "MeltHours$Reader" 69 yX4_tell ∈ lw_good := good_of 446 (by decide +kernel) rfl
theorem gw_447 : Cond.instanceMethod yX4_tell ∈ lw_good := good_of 447 (by decide +kernel) rfl
theorem gw_448 : Cond.selects RX4 yX4_tell yX4_tell ∈ lw_good := good_of 448 (by decide +kernel) rfl
set_option maxRecDepth 100000 in
theorem gw_449 : Cond.code yX4_tell cX4_tell 4 none ∈ lw_good := good_of 449 rfl rfl
theorem gw_451 : Cond.methodLink "MeltHours$Valley" 30 yJ9_min_7cf53 ∈ lw_good := good_of 451 (by decide +kernel) rfl
theorem gw_454 : Cond.methodLink "MeltHoursLaw" 32 yX6_told ∈ lw_good := good_of 454 (by decide +kernel) rfl
theorem gw_455 : Cond.instanceMethod yX6_told ∈ lw_good := good_of 455 (by decide +kernel) rfl
theorem gw_456 : Cond.selects RX6 yX6_told yX6_told ∈ lw_good := good_of 456 (by decide +kernel) rfl
set_option maxRecDepth 100000 in
theorem gw_457 : Cond.code yX6_told cX6_told 3 (some .int) ∈ lw_good := good_of 457 rfl rfl
theorem gw_458 : Cond.methodLink "MeltHoursLaw" 36 yX6_melts ∈ lw_good := good_of 458 (by decide +kernel) rfl
theorem gw_459 : Cond.instanceMethod yX6_melts ∈ lw_good := good_of 459 (by decide +kernel) rfl
theorem gw_460 : Cond.selects RX6 yX6_melts yX6_melts ∈ lw_good := good_of 460 (by decide +kernel) rfl
set_option maxRecDepth 100000 in
theorem gw_461 : Cond.code yX6_melts cX6_melts 2 (some .int) ∈ lw_good := good_of 461 rfl rfl
theorem gw_462 : Cond.methodLink "MeltHours" 91 yX2_melting ∈ lw_good := good_of 462 (by decide +kernel) rfl
theorem gw_463 : Cond.instanceMethod yX2_melting ∈ lw_good := good_of 463 (by decide +kernel) rfl
theorem gw_464 : Cond.selects RX2 yX2_melting yX2_melting ∈ lw_good := good_of 464 (by decide +kernel) rfl
set_option maxRecDepth 100000 in
theorem gw_465 : Cond.code yX2_melting cX2_melting 4 (some .int) ∈ lw_good := good_of 465 rfl rfl
theorem gw_466 : Cond.methodLink "MeltHours$State" 55 yJ9_min_7cf53 ∈ lw_good := good_of 466 (by decide +kernel) rfl
theorem gw_468 : Cond.methodLink "MeltHoursLaw" 40 yX6_gate ∈ lw_good := good_of 468 (by decide +kernel) rfl
theorem gw_469 : Cond.instanceMethod yX6_gate ∈ lw_good := good_of 469 (by decide +kernel) rfl
theorem gw_470 : Cond.selects RX6 yX6_gate yX6_gate ∈ lw_good := good_of 470 (by decide +kernel) rfl
set_option maxRecDepth 100000 in
theorem gw_471 : Cond.code yX6_gate cX6_gate 7 (some .int) ∈ lw_good := good_of 471 rfl rfl
theorem gw_473 : Cond.methodLink "MeltHoursLaw" 45 yX6_of ∈ lw_good := good_of 473 (by decide +kernel) rfl
theorem gw_474 : Cond.instanceMethod yX6_of ∈ lw_good := good_of 474 (by decide +kernel) rfl
theorem gw_475 : Cond.selects RX6 yX6_of yX6_of ∈ lw_good := good_of 475 (by decide +kernel) rfl
set_option maxRecDepth 100000 in
theorem gw_476 : Cond.code yX6_of cX6_of 3 (some .int) ∈ lw_good := good_of 476 rfl rfl
theorem gw_477 : Cond.methodLink "MeltHoursLaw" 49 yX6_water ∈ lw_good := good_of 477 (by decide +kernel) rfl
theorem gw_478 : Cond.instanceMethod yX6_water ∈ lw_good := good_of 478 (by decide +kernel) rfl
theorem gw_479 : Cond.selects RX6 yX6_water yX6_water ∈ lw_good := good_of 479 (by decide +kernel) rfl
set_option maxRecDepth 100000 in
theorem gw_480 : Cond.code yX6_water cX6_water 4 (some .int) ∈ lw_good := good_of 480 rfl rfl
theorem gw_481 : Cond.methodLink "MeltHours" 99 yX2_isPlace ∈ lw_good := good_of 481 (by decide +kernel) rfl
theorem gw_482 : Cond.instanceMethod yX2_isPlace ∈ lw_good := good_of 482 (by decide +kernel) rfl
theorem gw_483 : Cond.selects RX2 yX2_isPlace yX2_isPlace ∈ lw_good := good_of 483 (by decide +kernel) rfl
set_option maxRecDepth 100000 in
theorem gw_484 : Cond.code yX2_isPlace cX2_isPlace 2 (some .boolean) ∈ lw_good := good_of 484 rfl rfl
theorem gw_485 : Cond.methodLink "MeltHours" 103 yX5_settle ∈ lw_good := good_of 485 (by decide +kernel) rfl
theorem gw_486 : Cond.instanceMethod yX5_settle ∈ lw_good := good_of 486 (by decide +kernel) rfl
theorem gw_487 : Cond.selects RX5 yX5_settle yX5_settle ∈ lw_good := good_of 487 (by decide +kernel) rfl
set_option maxRecDepth 100000 in
theorem gw_488 : Cond.code yX5_settle cX5_settle 1 (some .int) ∈ lw_good := good_of 488 rfl rfl
theorem gw_489 : Cond.methodLink "MeltHours$Water" 63 yX5_load ∈ lw_good := good_of 489 (by decide +kernel) rfl
theorem gw_490 : Cond.instanceMethod yX5_load ∈ lw_good := good_of 490 (by decide +kernel) rfl
theorem gw_491 : Cond.selects RX5 yX5_load yX5_load ∈ lw_good := good_of 491 (by decide +kernel) rfl
set_option maxRecDepth 100000 in
theorem gw_492 : Cond.code yX5_load cX5_load 1 none ∈ lw_good := good_of 492 rfl rfl
theorem gw_494 : Cond.static yX6_copyRows ∈ lw_good := good_of 494 (by decide +kernel) rfl
set_option maxRecDepth 100000 in
theorem gw_495 : Cond.code yX6_copyRows cX6_copyRows 3 none ∈ lw_good := good_of 495 rfl rfl
theorem gw_496 : Cond.methodLink "MeltHours" 261 yX6_copy ∈ lw_good := good_of 496 (by decide +kernel) rfl
theorem gw_497 : Cond.static yX6_copy ∈ lw_good := good_of 497 (by decide +kernel) rfl
set_option maxRecDepth 100000 in
theorem gw_498 : Cond.code yX6_copy cX6_copy 2 none ∈ lw_good := good_of 498 rfl rfl
theorem gw_499 : Cond.methodLink "MeltHours" 207 yJ9_min_7cf53 ∈ lw_good := good_of 499 (by decide +kernel) rfl
theorem gw_503 : Cond.methodLink "MeltHours$Water" 69 yX5_meltUnder ∈ lw_good := good_of 503 (by decide +kernel) rfl
theorem gw_504 : Cond.instanceMethod yX5_meltUnder ∈ lw_good := good_of 504 (by decide +kernel) rfl
theorem gw_505 : Cond.selects RX5 yX5_meltUnder yX5_meltUnder ∈ lw_good := good_of 505 (by decide +kernel) rfl
set_option maxRecDepth 100000 in
theorem gw_506 : Cond.code yX5_meltUnder cX5_meltUnder 4 none ∈ lw_good := good_of 506 rfl rfl
theorem gw_507 : Cond.methodLink "MeltHours$Water" 59 yX2_melting ∈ lw_good := good_of 507 (by decide +kernel) rfl
theorem gw_508 : Cond.methodLink "MeltHours$Water" 73 yX5_again ∈ lw_good := good_of 508 (by decide +kernel) rfl
theorem gw_509 : Cond.instanceMethod yX5_again ∈ lw_good := good_of 509 (by decide +kernel) rfl
theorem gw_510 : Cond.selects RX5 yX5_again yX5_again ∈ lw_good := good_of 510 (by decide +kernel) rfl
set_option maxRecDepth 100000 in
theorem gw_511 : Cond.code yX5_again cX5_again 3 (some .int) ∈ lw_good := good_of 511 rfl rfl
theorem gw_512 : Cond.methodLink "MeltHours$Water" 77 yX2_isPlace ∈ lw_good := good_of 512 (by decide +kernel) rfl
theorem gw_513 : Cond.methodLink "MeltHours$Water" 81 yX5_come ∈ lw_good := good_of 513 (by decide +kernel) rfl
theorem gw_515 : Cond.instanceMethod yX5_come ∈ lw_good := good_of 515 (by decide +kernel) rfl
set_option maxRecDepth 100000 in
theorem gw_516 : Cond.code yX5_come cX5_come 7 none ∈ lw_good := good_of 516 rfl rfl
theorem gw_517 : Cond.methodLink "MeltHours$Water" 98 yJ7_fill_53178 ∈ lw_good := good_of 517 (by decide +kernel) rfl
theorem gw_518 : Cond.methodLink "MeltHours$Water" 104 yX5_going ∈ lw_good := good_of 518 (by decide +kernel) rfl
theorem gw_519 : Cond.instanceMethod yX5_going ∈ lw_good := good_of 519 (by decide +kernel) rfl
theorem gw_520 : Cond.selects RX5 yX5_going yX5_going ∈ lw_good := good_of 520 (by decide +kernel) rfl
set_option maxRecDepth 100000 in
theorem gw_521 : Cond.code yX5_going cX5_going 3 (some .int) ∈ lw_good := good_of 521 rfl rfl
theorem gw_522 : Cond.methodLink "MeltHours$Water" 93 yJ9_min_7cf53 ∈ lw_good := good_of 522 (by decide +kernel) rfl
theorem gw_524 : Cond.methodLink "MeltHours$Water" 111 yX5_arriving ∈ lw_good := good_of 524 (by decide +kernel) rfl
theorem gw_525 : Cond.instanceMethod yX5_arriving ∈ lw_good := good_of 525 (by decide +kernel) rfl
theorem gw_526 : Cond.selects RX5 yX5_arriving yX5_arriving ∈ lw_good := good_of 526 (by decide +kernel) rfl
set_option maxRecDepth 100000 in
theorem gw_527 : Cond.code yX5_arriving cX5_arriving 3 (some .int) ∈ lw_good := good_of 527 rfl rfl
theorem gw_528 : Cond.methodLink "MeltHours$Water" 85 yX5_pass ∈ lw_good := good_of 528 (by decide +kernel) rfl
theorem gw_530 : Cond.instanceMethod yX5_pass ∈ lw_good := good_of 530 (by decide +kernel) rfl
set_option maxRecDepth 100000 in
theorem gw_531 : Cond.code yX5_pass cX5_pass 8 none ∈ lw_good := good_of 531 rfl rfl
theorem gw_532 : Cond.methodLink "MeltHours$Water" 114 yX5_takes ∈ lw_good := good_of 532 (by decide +kernel) rfl
theorem gw_534 : Cond.instanceMethod yX5_takes ∈ lw_good := good_of 534 (by decide +kernel) rfl
set_option maxRecDepth 100000 in
theorem gw_535 : Cond.code yX5_takes cX5_takes 8 (some .int) ∈ lw_good := good_of 535 rfl rfl
theorem gw_536 : Cond.methodLink "MeltHours$Water" 118 yJ9_max_7cf53 ∈ lw_good := good_of 536 (by decide +kernel) rfl
theorem gw_537 : Cond.static yJ9_max_7cf53 ∈ lw_good := good_of 537 (by decide +kernel) rfl
set_option maxRecDepth 100000 in
theorem gw_538 : Cond.code yJ9_max_7cf53 cJ9_max_7cf53 2 (some .int) ∈ lw_good := good_of 538 rfl rfl
theorem gw_539 : Cond.methodLink "MeltHours$Water" 89 yX5_serve ∈ lw_good := good_of 539 (by decide +kernel) rfl
theorem gw_541 : Cond.instanceMethod yX5_serve ∈ lw_good := good_of 541 (by decide +kernel) rfl
set_option maxRecDepth 100000 in
theorem gw_542 : Cond.code yX5_serve cX5_serve 7 (some .int) ∈ lw_good := good_of 542 rfl rfl
theorem gw_543 : Cond.methodLink "MeltHours$Water" 125 yX2_isWant ∈ lw_good := good_of 543 (by decide +kernel) rfl
theorem gw_544 : Cond.instanceMethod yX2_isWant ∈ lw_good := good_of 544 (by decide +kernel) rfl
theorem gw_545 : Cond.selects RX2 yX2_isWant yX2_isWant ∈ lw_good := good_of 545 (by decide +kernel) rfl
set_option maxRecDepth 100000 in
theorem gw_546 : Cond.code yX2_isWant cX2_isWant 2 (some .boolean) ∈ lw_good := good_of 546 rfl rfl
theorem gw_547 : Cond.methodLink "MeltHours$Water" 131 yX5_servedBefore ∈ lw_good := good_of 547 (by decide +kernel) rfl
theorem gw_549 : Cond.instanceMethod yX5_servedBefore ∈ lw_good := good_of 549 (by decide +kernel) rfl
set_option maxRecDepth 100000 in
theorem gw_550 : Cond.code yX5_servedBefore cX5_servedBefore 4 (some .int) ∈ lw_good := good_of 550 rfl rfl
theorem gw_551 : Cond.methodLink "MeltHours" 107 yX5_rows ∈ lw_good := good_of 551 (by decide +kernel) rfl
theorem gw_552 : Cond.instanceMethod yX5_rows ∈ lw_good := good_of 552 (by decide +kernel) rfl
theorem gw_553 : Cond.selects RX5 yX5_rows yX5_rows ∈ lw_good := good_of 553 (by decide +kernel) rfl
set_option maxRecDepth 100000 in
theorem gw_554 : Cond.code yX5_rows cX5_rows 2 (some (.array (.array .int))) ∈ lw_good := good_of 554 rfl rfl
theorem gw_555 : Cond.methodLink "MeltHoursLaw" 54 yX6_all ∈ lw_good := good_of 555 (by decide +kernel) rfl
theorem gw_556 : Cond.instanceMethod yX6_all ∈ lw_good := good_of 556 (by decide +kernel) rfl
theorem gw_557 : Cond.selects RX6 yX6_all yX6_all ∈ lw_good := good_of 557 (by decide +kernel) rfl
set_option maxRecDepth 100000 in
theorem gw_558 : Cond.code yX6_all cX6_all 2 (some .int) ∈ lw_good := good_of 558 rfl rfl
theorem gw_559 : Cond.methodLink "MeltHours" 114 yX6_sum ∈ lw_good := good_of 559 (by decide +kernel) rfl
theorem gw_560 : Cond.static yX6_sum ∈ lw_good := good_of 560 (by decide +kernel) rfl
set_option maxRecDepth 100000 in
theorem gw_561 : Cond.code yX6_sum cX6_sum 6 (some .int) ∈ lw_good := good_of 561 rfl rfl
theorem gw_562 : Cond.methodLink "MeltHours" 121 yX5_inAllPlaces ∈ lw_good := good_of 562 (by decide +kernel) rfl
theorem gw_563 : Cond.instanceMethod yX5_inAllPlaces ∈ lw_good := good_of 563 (by decide +kernel) rfl
theorem gw_564 : Cond.selects RX5 yX5_inAllPlaces yX5_inAllPlaces ∈ lw_good := good_of 564 (by decide +kernel) rfl
set_option maxRecDepth 100000 in
theorem gw_565 : Cond.code yX5_inAllPlaces cX5_inAllPlaces 4 (some .int) ∈ lw_good := good_of 565 rfl rfl
theorem gw_566 : Cond.methodLink "MeltHours$Water" 134 yX5_inPlace ∈ lw_good := good_of 566 (by decide +kernel) rfl
theorem gw_567 : Cond.instanceMethod yX5_inPlace ∈ lw_good := good_of 567 (by decide +kernel) rfl
theorem gw_568 : Cond.selects RX5 yX5_inPlace yX5_inPlace ∈ lw_good := good_of 568 (by decide +kernel) rfl
set_option maxRecDepth 100000 in
theorem gw_569 : Cond.code yX5_inPlace cX5_inPlace 3 (some .int) ∈ lw_good := good_of 569 rfl rfl
theorem gw_571 : Cond.methodLink "MeltHours" 131 yX5_inPlace ∈ lw_good := good_of 571 (by decide +kernel) rfl
theorem gw_572 : Cond.methodLink "MeltHoursLaw" 58 yX6_want ∈ lw_good := good_of 572 (by decide +kernel) rfl
theorem gw_573 : Cond.instanceMethod yX6_want ∈ lw_good := good_of 573 (by decide +kernel) rfl
theorem gw_574 : Cond.selects RX6 yX6_want yX6_want ∈ lw_good := good_of 574 (by decide +kernel) rfl
set_option maxRecDepth 100000 in
theorem gw_575 : Cond.code yX6_want cX6_want 6 (some .int) ∈ lw_good := good_of 575 rfl rfl
theorem gw_576 : Cond.methodLink "MeltHoursLaw" 62 yX6_wants ∈ lw_good := good_of 576 (by decide +kernel) rfl
theorem gw_577 : Cond.instanceMethod yX6_wants ∈ lw_good := good_of 577 (by decide +kernel) rfl
theorem gw_578 : Cond.selects RX6 yX6_wants yX6_wants ∈ lw_good := good_of 578 (by decide +kernel) rfl
set_option maxRecDepth 100000 in
theorem gw_579 : Cond.code yX6_wants cX6_wants 3 (some .int) ∈ lw_good := good_of 579 rfl rfl
theorem gw_580 : Cond.methodLink "MeltHours" 141 yX2_isWant ∈ lw_good := good_of 580 (by decide +kernel) rfl
theorem gw_581 : Cond.methodLink "MeltHoursLaw" 66 yX6_worth ∈ lw_good := good_of 581 (by decide +kernel) rfl
theorem gw_582 : Cond.instanceMethod yX6_worth ∈ lw_good := good_of 582 (by decide +kernel) rfl
theorem gw_583 : Cond.selects RX6 yX6_worth yX6_worth ∈ lw_good := good_of 583 (by decide +kernel) rfl
set_option maxRecDepth 100000 in
theorem gw_584 : Cond.code yX6_worth cX6_worth 1 (some .int) ∈ lw_good := good_of 584 rfl rfl
theorem gw_585 : Cond.methodLink "MeltHoursLaw" 70 yX6_best ∈ lw_good := good_of 585 (by decide +kernel) rfl
theorem gw_586 : Cond.instanceMethod yX6_best ∈ lw_good := good_of 586 (by decide +kernel) rfl
theorem gw_587 : Cond.selects RX6 yX6_best yX6_best ∈ lw_good := good_of 587 (by decide +kernel) rfl
set_option maxRecDepth 100000 in
theorem gw_588 : Cond.code yX6_best cX6_best 11 (some .int) ∈ lw_good := good_of 588 rfl rfl
theorem gw_589 : Cond.methodLink "MeltHours" 147 yX5_utmost ∈ lw_good := good_of 589 (by decide +kernel) rfl
theorem gw_590 : Cond.instanceMethod yX5_utmost ∈ lw_good := good_of 590 (by decide +kernel) rfl
theorem gw_591 : Cond.selects RX5 yX5_utmost yX5_utmost ∈ lw_good := good_of 591 (by decide +kernel) rfl
set_option maxRecDepth 100000 in
theorem gw_592 : Cond.code yX5_utmost cX5_utmost 6 (some .int) ∈ lw_good := good_of 592 rfl rfl
theorem gw_593 : Cond.methodLink "MeltHours" 152 yX6_span ∈ lw_good := good_of 593 (by decide +kernel) rfl
theorem gw_594 : Cond.static yX6_span ∈ lw_good := good_of 594 (by decide +kernel) rfl
set_option maxRecDepth 100000 in
theorem gw_595 : Cond.code yX6_span cX6_span 4 (some .int) ∈ lw_good := good_of 595 rfl rfl
theorem gw_596 : Cond.methodLink "MeltHours" 155 yX5_again ∈ lw_good := good_of 596 (by decide +kernel) rfl
theorem gw_597 : Cond.methodLink "MeltHoursLaw" 74 yX6_price ∈ lw_good := good_of 597 (by decide +kernel) rfl
theorem gw_598 : Cond.instanceMethod yX6_price ∈ lw_good := good_of 598 (by decide +kernel) rfl
theorem gw_599 : Cond.selects RX6 yX6_price yX6_price ∈ lw_good := good_of 599 (by decide +kernel) rfl
set_option maxRecDepth 100000 in
theorem gw_600 : Cond.code yX6_price cX6_price 3 (some .int) ∈ lw_good := good_of 600 rfl rfl
theorem gw_601 : Cond.methodLink "MeltHoursLaw" 78 yX6_part ∈ lw_good := good_of 601 (by decide +kernel) rfl
theorem gw_602 : Cond.instanceMethod yX6_part ∈ lw_good := good_of 602 (by decide +kernel) rfl
theorem gw_603 : Cond.selects RX6 yX6_part yX6_part ∈ lw_good := good_of 603 (by decide +kernel) rfl
set_option maxRecDepth 100000 in
theorem gw_604 : Cond.code yX6_part cX6_part 8 (some .int) ∈ lw_good := good_of 604 rfl rfl
theorem gw_605 : Cond.methodLink "MeltHours" 158 yX5_load ∈ lw_good := good_of 605 (by decide +kernel) rfl
theorem gw_606 : Cond.methodLink "MeltHours" 161 yX5_going ∈ lw_good := good_of 606 (by decide +kernel) rfl
theorem gw_607 : Cond.methodLink "MeltHours" 164 yX5_arriving ∈ lw_good := good_of 607 (by decide +kernel) rfl
theorem gw_608 : Cond.methodLink "MeltHoursLaw" 82 yX6_odds ∈ lw_good := good_of 608 (by decide +kernel) rfl
theorem gw_609 : Cond.instanceMethod yX6_odds ∈ lw_good := good_of 609 (by decide +kernel) rfl
theorem gw_610 : Cond.selects RX6 yX6_odds yX6_odds ∈ lw_good := good_of 610 (by decide +kernel) rfl
set_option maxRecDepth 100000 in
theorem gw_611 : Cond.code yX6_odds cX6_odds 3 (some .int) ∈ lw_good := good_of 611 rfl rfl
theorem gw_612 : Cond.methodLink "MeltHoursLaw" 86 yX6_mean ∈ lw_good := good_of 612 (by decide +kernel) rfl
theorem gw_613 : Cond.instanceMethod yX6_mean ∈ lw_good := good_of 613 (by decide +kernel) rfl
theorem gw_614 : Cond.selects RX6 yX6_mean yX6_mean ∈ lw_good := good_of 614 (by decide +kernel) rfl
set_option maxRecDepth 100000 in
theorem gw_615 : Cond.code yX6_mean cX6_mean 7 (some .long) ∈ lw_good := good_of 615 rfl rfl
theorem gw_617 : Cond.methodLink "MeltHours" 173 yX6_underSkies ∈ lw_good := good_of 617 (by decide +kernel) rfl
theorem gw_619 : Cond.instanceMethod yX6_underSkies ∈ lw_good := good_of 619 (by decide +kernel) rfl
set_option maxRecDepth 100000 in
theorem gw_620 : Cond.code yX6_underSkies cX6_underSkies 5 (some .int) ∈ lw_good := good_of 620 rfl rfl
theorem gw_621 : Cond.methodLink "MeltHours" 255 yX5_meltUnder ∈ lw_good := good_of 621 (by decide +kernel) rfl
theorem gw_622 : Cond.methodLink "MeltHours" 177 yX6_divisorWithHundred ∈ lw_good := good_of 622 (by decide +kernel) rfl
theorem gw_623 : Cond.static yX6_divisorWithHundred ∈ lw_good := good_of 623 (by decide +kernel) rfl
set_option maxRecDepth 100000 in
theorem gw_624 : Cond.code yX6_divisorWithHundred cX6_divisorWithHundred 2 (some .int) ∈ lw_good := good_of 624 rfl rfl
theorem gw_625 : Cond.methodLink "MeltHoursLaw" 91 yX6_pond ∈ lw_good := good_of 625 (by decide +kernel) rfl
theorem gw_626 : Cond.instanceMethod yX6_pond ∈ lw_good := good_of 626 (by decide +kernel) rfl
theorem gw_627 : Cond.selects RX6 yX6_pond yX6_pond ∈ lw_good := good_of 627 (by decide +kernel) rfl
set_option maxRecDepth 100000 in
theorem gw_628 : Cond.code yX6_pond cX6_pond 6 (some .int) ∈ lw_good := good_of 628 rfl rfl
theorem gw_629 : Cond.methodLink "MeltHoursLaw" 95 yX6_wrong ∈ lw_good := good_of 629 (by decide +kernel) rfl
theorem gw_630 : Cond.instanceMethod yX6_wrong ∈ lw_good := good_of 630 (by decide +kernel) rfl
theorem gw_631 : Cond.selects RX6 yX6_wrong yX6_wrong ∈ lw_good := good_of 631 (by decide +kernel) rfl
set_option maxRecDepth 100000 in
theorem gw_632 : Cond.code yX6_wrong cX6_wrong 4 (some .int) ∈ lw_good := good_of 632 rfl rfl
theorem gw_633 : Cond.methodLink "MeltHoursLaw" 99 yX6_spare ∈ lw_good := good_of 633 (by decide +kernel) rfl
theorem gw_634 : Cond.instanceMethod yX6_spare ∈ lw_good := good_of 634 (by decide +kernel) rfl
theorem gw_635 : Cond.selects RX6 yX6_spare yX6_spare ∈ lw_good := good_of 635 (by decide +kernel) rfl
set_option maxRecDepth 100000 in
theorem gw_636 : Cond.code yX6_spare cX6_spare 4 (some .int) ∈ lw_good := good_of 636 rfl rfl
theorem gw_637 : Cond.methodLink "MeltHours" 180 yJ6_bitCount_0f7a4 ∈ lw_good := good_of 637 (by decide +kernel) rfl
theorem gw_638 : Cond.static yJ6_bitCount_0f7a4 ∈ lw_good := good_of 638 (by decide +kernel) rfl
set_option maxRecDepth 100000 in
theorem gw_639 : Cond.code yJ6_bitCount_0f7a4 cJ6_bitCount_0f7a4 1 (some .int) ∈ lw_good := good_of 639 rfl rfl
theorem gw_643 : Cond.methodLink "MeltHours" 185 yX5_worthWithout ∈ lw_good := good_of 643 (by decide +kernel) rfl
theorem gw_644 : Cond.instanceMethod yX5_worthWithout ∈ lw_good := good_of 644 (by decide +kernel) rfl
theorem gw_645 : Cond.selects RX5 yX5_worthWithout yX5_worthWithout ∈ lw_good := good_of 645 (by decide +kernel) rfl
set_option maxRecDepth 100000 in
theorem gw_646 : Cond.code yX5_worthWithout cX5_worthWithout 3 (some .int) ∈ lw_good := good_of 646 rfl rfl
theorem gw_647 : Cond.methodLink "MeltHoursLaw" 103 yX6_day ∈ lw_good := good_of 647 (by decide +kernel) rfl
theorem gw_648 : Cond.instanceMethod yX6_day ∈ lw_good := good_of 648 (by decide +kernel) rfl
theorem gw_649 : Cond.selects RX6 yX6_day yX6_day ∈ lw_good := good_of 649 (by decide +kernel) rfl
set_option maxRecDepth 100000 in
theorem gw_650 : Cond.code yX6_day cX6_day 2 (some .int) ∈ lw_good := good_of 650 rfl rfl
theorem gw_651 : Cond.methodLink "MeltHoursLaw" 107 yX6_judge ∈ lw_good := good_of 651 (by decide +kernel) rfl
theorem gw_652 : Cond.instanceMethod yX6_judge ∈ lw_good := good_of 652 (by decide +kernel) rfl
theorem gw_653 : Cond.selects RX6 yX6_judge yX6_judge ∈ lw_good := good_of 653 (by decide +kernel) rfl
set_option maxRecDepth 100000 in
theorem gw_654 : Cond.code yX6_judge cX6_judge 8 (some .int) ∈ lw_good := good_of 654 rfl rfl
theorem gw_655 : Cond.methodLink "MeltHours" 194 yX6_tapeAt ∈ lw_good := good_of 655 (by decide +kernel) rfl
theorem gw_657 : Cond.instanceMethod yX6_tapeAt ∈ lw_good := good_of 657 (by decide +kernel) rfl
set_option maxRecDepth 100000 in
theorem gw_658 : Cond.code yX6_tapeAt cX6_tapeAt 2 (some (.object "MeltHours$Tape")) ∈ lw_good := good_of 658 rfl rfl
theorem gw_659 : Cond.methodLink "MeltHours" 216 yJ9_max_7cf53 ∈ lw_good := good_of 659 (by decide +kernel) rfl
theorem gw_660 : Cond.methodLink "MeltHoursLaw" 111 yX6_image ∈ lw_good := good_of 660 (by decide +kernel) rfl
theorem gw_661 : Cond.instanceMethod yX6_image ∈ lw_good := good_of 661 (by decide +kernel) rfl
theorem gw_662 : Cond.selects RX6 yX6_image yX6_image ∈ lw_good := good_of 662 (by decide +kernel) rfl
set_option maxRecDepth 100000 in
theorem gw_663 : Cond.code yX6_image cX6_image 1 (some .int) ∈ lw_good := good_of 663 rfl rfl
theorem gw_664 : Cond.methodLink "MeltHours" 219 yX2_become ∈ lw_good := good_of 664 (by decide +kernel) rfl
theorem gw_665 : Cond.instanceMethod yX2_become ∈ lw_good := good_of 665 (by decide +kernel) rfl
theorem gw_666 : Cond.selects RX2 yX2_become yX2_become ∈ lw_good := good_of 666 (by decide +kernel) rfl
set_option maxRecDepth 100000 in
theorem gw_667 : Cond.code yX2_become cX2_become 2 none ∈ lw_good := good_of 667 rfl rfl
theorem gw_670 : Cond.methodLink "MeltHoursLaw" 115 yX6_undo ∈ lw_good := good_of 670 (by decide +kernel) rfl
theorem gw_671 : Cond.instanceMethod yX6_undo ∈ lw_good := good_of 671 (by decide +kernel) rfl
theorem gw_672 : Cond.selects RX6 yX6_undo yX6_undo ∈ lw_good := good_of 672 (by decide +kernel) rfl
set_option maxRecDepth 100000 in
theorem gw_673 : Cond.code yX6_undo cX6_undo 1 (some .int) ∈ lw_good := good_of 673 rfl rfl
theorem gw_674 : Cond.methodLink "MeltHoursLaw" 119 yX6_act ∈ lw_good := good_of 674 (by decide +kernel) rfl
theorem gw_675 : Cond.instanceMethod yX6_act ∈ lw_good := good_of 675 (by decide +kernel) rfl
theorem gw_676 : Cond.selects RX6 yX6_act yX6_act ∈ lw_good := good_of 676 (by decide +kernel) rfl
set_option maxRecDepth 100000 in
theorem gw_677 : Cond.code yX6_act cX6_act 4 (some .int) ∈ lw_good := good_of 677 rfl rfl
theorem gw_678 : Cond.methodLink "MeltHours" 229 yX0_standAt ∈ lw_good := good_of 678 (by decide +kernel) rfl
theorem gw_679 : Cond.instanceMethod yX0_standAt ∈ lw_good := good_of 679 (by decide +kernel) rfl
theorem gw_680 : Cond.selects RX0 yX0_standAt yX0_standAt ∈ lw_good := good_of 680 (by decide +kernel) rfl
set_option maxRecDepth 100000 in
theorem gw_681 : Cond.code yX0_standAt cX0_standAt 3 none ∈ lw_good := good_of 681 rfl rfl
theorem gw_682 : Cond.methodLink "MeltHours" 233 yX0_done ∈ lw_good := good_of 682 (by decide +kernel) rfl
theorem gw_683 : Cond.instanceMethod yX0_done ∈ lw_good := good_of 683 (by decide +kernel) rfl
theorem gw_684 : Cond.selects RX0 yX0_done yX0_done ∈ lw_good := good_of 684 (by decide +kernel) rfl
set_option maxRecDepth 100000 in
theorem gw_685 : Cond.code yX0_done cX0_done 3 (some .int) ∈ lw_good := good_of 685 rfl rfl
theorem gw_686 : Cond.methodLink "MeltHours$Acts" 25 yX0_lets ∈ lw_good := good_of 686 (by decide +kernel) rfl
theorem gw_688 : Cond.instanceMethod yX0_lets ∈ lw_good := good_of 688 (by decide +kernel) rfl
set_option maxRecDepth 100000 in
theorem gw_689 : Cond.code yX0_lets cX0_lets 3 (some .int) ∈ lw_good := good_of 689 rfl rfl
theorem gw_690 : Cond.methodLink "MeltHours$Acts" 35 yX0_began ∈ lw_good := good_of 690 (by decide +kernel) rfl
theorem gw_692 : Cond.instanceMethod yX0_began ∈ lw_good := good_of 692 (by decide +kernel) rfl
set_option maxRecDepth 100000 in
theorem gw_693 : Cond.code yX0_began cX0_began 2 none ∈ lw_good := good_of 693 rfl rfl
theorem gw_694 : Cond.methodLink "MeltHours$Acts" 29 yX0_takes ∈ lw_good := good_of 694 (by decide +kernel) rfl
theorem gw_696 : Cond.instanceMethod yX0_takes ∈ lw_good := good_of 696 (by decide +kernel) rfl
set_option maxRecDepth 100000 in
theorem gw_697 : Cond.code yX0_takes cX0_takes 3 (some .int) ∈ lw_good := good_of 697 rfl rfl
theorem gw_698 : Cond.methodLink "MeltHours$Acts" 32 yX0_tells ∈ lw_good := good_of 698 (by decide +kernel) rfl
theorem gw_700 : Cond.instanceMethod yX0_tells ∈ lw_good := good_of 700 (by decide +kernel) rfl
set_option maxRecDepth 100000 in
theorem gw_701 : Cond.code yX0_tells cX0_tells 3 (some .int) ∈ lw_good := good_of 701 rfl rfl
theorem gw_702 : Cond.methodLink "MeltHoursLaw" 123 yX6_trace ∈ lw_good := good_of 702 (by decide +kernel) rfl
theorem gw_703 : Cond.instanceMethod yX6_trace ∈ lw_good := good_of 703 (by decide +kernel) rfl
theorem gw_704 : Cond.selects RX6 yX6_trace yX6_trace ∈ lw_good := good_of 704 (by decide +kernel) rfl
set_option maxRecDepth 100000 in
theorem gw_705 : Cond.code yX6_trace cX6_trace 2 (some .int) ∈ lw_good := good_of 705 rfl rfl
theorem gw_706 : Cond.methodLink "MeltHoursLaw" 127 yX6_taken ∈ lw_good := good_of 706 (by decide +kernel) rfl
theorem gw_707 : Cond.instanceMethod yX6_taken ∈ lw_good := good_of 707 (by decide +kernel) rfl
theorem gw_708 : Cond.selects RX6 yX6_taken yX6_taken ∈ lw_good := good_of 708 (by decide +kernel) rfl
set_option maxRecDepth 100000 in
theorem gw_709 : Cond.code yX6_taken cX6_taken 4 (some .int) ∈ lw_good := good_of 709 rfl rfl
theorem gw_710 : Cond.methodLink "MeltHours" 239 yX6_isOrUnder ∈ lw_good := good_of 710 (by decide +kernel) rfl
theorem gw_711 : Cond.static yX6_isOrUnder ∈ lw_good := good_of 711 (by decide +kernel) rfl
set_option maxRecDepth 100000 in
theorem gw_712 : Cond.code yX6_isOrUnder cX6_isOrUnder 4 (some .boolean) ∈ lw_good := good_of 712 rfl rfl
theorem gw_715 : Cond.methodLink "MeltHoursLaw" 131 yX6_count ∈ lw_good := good_of 715 (by decide +kernel) rfl
theorem gw_716 : Cond.instanceMethod yX6_count ∈ lw_good := good_of 716 (by decide +kernel) rfl
theorem gw_717 : Cond.selects RX6 yX6_count yX6_count ∈ lw_good := good_of 717 (by decide +kernel) rfl
set_option maxRecDepth 100000 in
theorem gw_718 : Cond.code yX6_count cX6_count 2 (some .int) ∈ lw_good := good_of 718 rfl rfl
theorem gw_719 : Cond.methodLink "MeltHoursLaw" 135 yX6_tape ∈ lw_good := good_of 719 (by decide +kernel) rfl
theorem gw_720 : Cond.instanceMethod yX6_tape ∈ lw_good := good_of 720 (by decide +kernel) rfl
theorem gw_721 : Cond.selects RX6 yX6_tape yX6_tape ∈ lw_good := good_of 721 (by decide +kernel) rfl
set_option maxRecDepth 100000 in
theorem gw_722 : Cond.code yX6_tape cX6_tape 5 (some .int) ∈ lw_good := good_of 722 rfl rfl
theorem gw_723 : Cond.methodLink "MeltHours" 242 yX3_become ∈ lw_good := good_of 723 (by decide +kernel) rfl
theorem gw_724 : Cond.instanceMethod yX3_become ∈ lw_good := good_of 724 (by decide +kernel) rfl
theorem gw_725 : Cond.selects RX3 yX3_become yX3_become ∈ lw_good := good_of 725 (by decide +kernel) rfl
set_option maxRecDepth 100000 in
theorem gw_726 : Cond.code yX3_become cX3_become 3 none ∈ lw_good := good_of 726 rfl rfl
theorem gw_727 : Cond.methodLink "MeltHours$Tape" 19 yJ9_min_7cf53 ∈ lw_good := good_of 727 (by decide +kernel) rfl
theorem gw_728 : Cond.methodLink "MeltHours$Tape" 28 yJ7_fill_d0a16 ∈ lw_good := good_of 728 (by decide +kernel) rfl
theorem gw_729 : Cond.static yJ7_fill_d0a16 ∈ lw_good := good_of 729 (by decide +kernel) rfl
set_option maxRecDepth 100000 in
theorem gw_730 : Cond.code yJ7_fill_d0a16 cJ7_fill_d0a16 5 none ∈ lw_good := good_of 730 rfl rfl
theorem gw_731 : Cond.methodLink "MeltHoursLaw" 141 yX6_item ∈ lw_good := good_of 731 (by decide +kernel) rfl
theorem gw_732 : Cond.instanceMethod yX6_item ∈ lw_good := good_of 732 (by decide +kernel) rfl
theorem gw_733 : Cond.selects RX6 yX6_item yX6_item ∈ lw_good := good_of 733 (by decide +kernel) rfl
set_option maxRecDepth 100000 in
theorem gw_734 : Cond.code yX6_item cX6_item 6 (some .int) ∈ lw_good := good_of 734 rfl rfl
theorem gw_735 : Cond.methodLink "MeltHours" 245 yX3_asItem ∈ lw_good := good_of 735 (by decide +kernel) rfl
theorem gw_736 : Cond.instanceMethod yX3_asItem ∈ lw_good := good_of 736 (by decide +kernel) rfl
theorem gw_737 : Cond.selects RX3 yX3_asItem yX3_asItem ∈ lw_good := good_of 737 (by decide +kernel) rfl
set_option maxRecDepth 100000 in
theorem gw_738 : Cond.code yX3_asItem cX3_asItem 3 (some .long) ∈ lw_good := good_of 738 rfl rfl
theorem gw_739 : Cond.methodLink "MeltHoursLaw" 146 yX6_read ∈ lw_good := good_of 739 (by decide +kernel) rfl
theorem gw_740 : Cond.instanceMethod yX6_read ∈ lw_good := good_of 740 (by decide +kernel) rfl
theorem gw_741 : Cond.selects RX6 yX6_read yX6_read ∈ lw_good := good_of 741 (by decide +kernel) rfl
set_option maxRecDepth 100000 in
theorem gw_742 : Cond.code yX6_read cX6_read 4 (some .long) ∈ lw_good := good_of 742 rfl rfl
theorem gw_743 : Cond.methodLink "MeltHoursLaw" 150 yX6_shift ∈ lw_good := good_of 743 (by decide +kernel) rfl
theorem gw_744 : Cond.instanceMethod yX6_shift ∈ lw_good := good_of 744 (by decide +kernel) rfl
theorem gw_745 : Cond.selects RX6 yX6_shift yX6_shift ∈ lw_good := good_of 745 (by decide +kernel) rfl
set_option maxRecDepth 100000 in
theorem gw_746 : Cond.code yX6_shift cX6_shift 8 (some .int) ∈ lw_good := good_of 746 rfl rfl
theorem gw_747 : Cond.classLink "MeltHoursLaw" 10 "MeltHoursModel" ∈ lw_good := good_of 747 (by decide +kernel) rfl
theorem gw_748 : Cond.instantiable "MeltHoursModel" 67 ∈ lw_good := good_of 748 (by decide +kernel) rfl
theorem gw_749 : Cond.methodLink "MeltHoursLaw" 12 yX7_init ∈ lw_good := good_of 749 (by decide +kernel) rfl
theorem gw_750 : Cond.instanceMethod yX7_init ∈ lw_good := good_of 750 (by decide +kernel) rfl
set_option maxRecDepth 100000 in
theorem gw_751 : Cond.code yX7_init cX7_init 1 none ∈ lw_good := good_of 751 rfl rfl
theorem gw_753 : Cond.fieldLink "MeltHoursModel" 7 "MeltHoursModel" "places" "I" ∈ lw_good := good_of 753 (by decide +kernel) rfl
theorem gw_754 : Cond.fieldLink "MeltHoursModel" 13 "MeltHoursModel" "oddsA" "I" ∈ lw_good := good_of 754 (by decide +kernel) rfl
theorem gw_755 : Cond.fieldLink "MeltHoursModel" 16 "MeltHoursModel" "oddsB" "I" ∈ lw_good := good_of 755 (by decide +kernel) rfl
theorem gw_756 : Cond.fieldLink "MeltHoursModel" 19 "MeltHoursModel" "sky" "[I" ∈ lw_good := good_of 756 (by decide +kernel) rfl
theorem gw_757 : Cond.fieldLink "MeltHoursModel" 23 "MeltHoursModel" "kind" "[I" ∈ lw_good := good_of 757 (by decide +kernel) rfl
theorem gw_758 : Cond.fieldLink "MeltHoursModel" 26 "MeltHoursModel" "v" "[I" ∈ lw_good := good_of 758 (by decide +kernel) rfl
theorem gw_759 : Cond.fieldLink "MeltHoursModel" 29 "MeltHoursModel" "hours" "[I" ∈ lw_good := good_of 759 (by decide +kernel) rfl
theorem gw_760 : Cond.fieldLink "MeltHoursModel" 32 "MeltHoursModel" "valleys" "I" ∈ lw_good := good_of 760 (by decide +kernel) rfl
theorem gw_761 : Cond.fieldLink "MeltHoursModel" 35 "MeltHoursModel" "the" "I" ∈ lw_good := good_of 761 (by decide +kernel) rfl
theorem gw_762 : Cond.fieldLink "MeltHoursModel" 38 "MeltHoursModel" "fed" "I" ∈ lw_good := good_of 762 (by decide +kernel) rfl
theorem gw_763 : Cond.fieldLink "MeltHoursModel" 41 "MeltHoursModel" "at" "I" ∈ lw_good := good_of 763 (by decide +kernel) rfl
theorem gw_764 : Cond.fieldLink "MeltHoursModel" 44 "MeltHoursModel" "digits" "I" ∈ lw_good := good_of 764 (by decide +kernel) rfl
theorem gw_765 : Cond.fieldLink "MeltHoursModel" 47 "MeltHoursModel" "text" "[I" ∈ lw_good := good_of 765 (by decide +kernel) rfl
theorem gw_766 : Cond.fieldLink "MeltHoursModel" 50 "MeltHoursModel" "clauses" "[I" ∈ lw_good := good_of 766 (by decide +kernel) rfl
theorem gw_767 : Cond.fieldLink "MeltHoursModel" 53 "MeltHoursModel" "word" "[I" ∈ lw_good := good_of 767 (by decide +kernel) rfl
theorem gw_768 : Cond.fieldLink "MeltHoursModel" 56 "MeltHoursModel" "spot" "[I" ∈ lw_good := good_of 768 (by decide +kernel) rfl
theorem gw_769 : Cond.fieldLink "MeltHoursModel" 59 "MeltHoursModel" "number" "[I" ∈ lw_good := good_of 769 (by decide +kernel) rfl
theorem gw_770 : Cond.fieldLink "MeltHoursModel" 62 "MeltHoursModel" "from" "[I" ∈ lw_good := good_of 770 (by decide +kernel) rfl
theorem gw_771 : Cond.fieldLink "MeltHoursModel" 65 "MeltHoursModel" "to" "[I" ∈ lw_good := good_of 771 (by decide +kernel) rfl
theorem gw_772 : Cond.fieldLink "MeltHoursModel" 68 "MeltHoursModel" "sign" "[I" ∈ lw_good := good_of 772 (by decide +kernel) rfl
theorem gw_773 : Cond.fieldLink "MeltHoursModel" 71 "MeltHoursModel" "waits" "[I" ∈ lw_good := good_of 773 (by decide +kernel) rfl
theorem gw_774 : Cond.fieldLink "MeltHoursModel" 74 "MeltHoursModel" "signs" "I" ∈ lw_good := good_of 774 (by decide +kernel) rfl
theorem gw_775 : Cond.fieldLink "MeltHoursModel" 77 "MeltHoursModel" "waiting" "I" ∈ lw_good := good_of 775 (by decide +kernel) rfl
theorem gw_776 : Cond.fieldLink "MeltHoursModel" 80 "MeltHoursModel" "open" "I" ∈ lw_good := good_of 776 (by decide +kernel) rfl
theorem gw_777 : Cond.fieldLink "MeltHoursModel" 83 "MeltHoursModel" "pile" "[Z" ∈ lw_good := good_of 777 (by decide +kernel) rfl
theorem gw_778 : Cond.fieldLink "MeltHoursModel" 87 "MeltHoursModel" "days" "I" ∈ lw_good := good_of 778 (by decide +kernel) rfl
theorem gw_779 : Cond.fieldLink "MeltHoursModel" 90 "MeltHoursModel" "day" "[I" ∈ lw_good := good_of 779 (by decide +kernel) rfl
theorem gw_780 : Cond.fieldLink "MeltHoursModel" 93 "MeltHoursModel" "melt" "[I" ∈ lw_good := good_of 780 (by decide +kernel) rfl
theorem gw_781 : Cond.fieldLink "MeltHoursModel" 96 "MeltHoursModel" "lag" "[I" ∈ lw_good := good_of 781 (by decide +kernel) rfl
theorem gw_782 : Cond.fieldLink "MeltHoursModel" 99 "MeltHoursModel" "leak" "[I" ∈ lw_good := good_of 782 (by decide +kernel) rfl
theorem gw_783 : Cond.fieldLink "MeltHoursModel" 102 "MeltHoursModel" "most" "[I" ∈ lw_good := good_of 783 (by decide +kernel) rfl
theorem gw_784 : Cond.fieldLink "MeltHoursModel" 105 "MeltHoursModel" "hold" "[I" ∈ lw_good := good_of 784 (by decide +kernel) rfl
theorem gw_785 : Cond.fieldLink "MeltHoursModel" 108 "MeltHoursModel" "tryKind" "[I" ∈ lw_good := good_of 785 (by decide +kernel) rfl
theorem gw_786 : Cond.fieldLink "MeltHoursModel" 111 "MeltHoursModel" "tryHours" "[I" ∈ lw_good := good_of 786 (by decide +kernel) rfl
theorem gw_787 : Cond.fieldLink "MeltHoursModel" 114 "MeltHoursModel" "comes" "[I" ∈ lw_good := good_of 787 (by decide +kernel) rfl
theorem gw_788 : Cond.fieldLink "MeltHoursModel" 117 "MeltHoursModel" "taken" "[I" ∈ lw_good := good_of 788 (by decide +kernel) rfl
theorem gw_789 : Cond.fieldLink "MeltHoursModel" 120 "MeltHoursModel" "by" "[I" ∈ lw_good := good_of 789 (by decide +kernel) rfl
theorem gw_790 : Cond.fieldLink "MeltHoursModel" 123 "MeltHoursModel" "held" "[I" ∈ lw_good := good_of 790 (by decide +kernel) rfl
theorem gw_791 : Cond.fieldLink "MeltHoursModel" 126 "MeltHoursModel" "flood" "[I" ∈ lw_good := good_of 791 (by decide +kernel) rfl
theorem gw_792 : Cond.fieldLink "MeltHoursModel" 129 "MeltHoursModel" "wants" "I" ∈ lw_good := good_of 792 (by decide +kernel) rfl
theorem gw_793 : Cond.fieldLink "MeltHoursModel" 132 "MeltHoursModel" "place" "[I" ∈ lw_good := good_of 793 (by decide +kernel) rfl
theorem gw_794 : Cond.fieldLink "MeltHoursModel" 135 "MeltHoursModel" "hour" "[I" ∈ lw_good := good_of 794 (by decide +kernel) rfl
theorem gw_795 : Cond.fieldLink "MeltHoursModel" 138 "MeltHoursModel" "cups" "[I" ∈ lw_good := good_of 795 (by decide +kernel) rfl
theorem gw_796 : Cond.fieldLink "MeltHoursModel" 141 "MeltHoursModel" "worth" "[I" ∈ lw_good := good_of 796 (by decide +kernel) rfl
theorem gw_797 : Cond.fieldLink "MeltHoursModel" 144 "MeltHoursModel" "served" "[I" ∈ lw_good := good_of 797 (by decide +kernel) rfl
theorem gw_798 : Cond.fieldLink "MeltHoursModel" 147 "MeltHoursModel" "hasImage" "Z" ∈ lw_good := good_of 798 (by decide +kernel) rfl
theorem gw_799 : Cond.fieldLink "MeltHoursModel" 151 "MeltHoursModel" "imagePlaces" "I" ∈ lw_good := good_of 799 (by decide +kernel) rfl
theorem gw_800 : Cond.fieldLink "MeltHoursModel" 154 "MeltHoursModel" "imageA" "I" ∈ lw_good := good_of 800 (by decide +kernel) rfl
theorem gw_801 : Cond.fieldLink "MeltHoursModel" 157 "MeltHoursModel" "imageB" "I" ∈ lw_good := good_of 801 (by decide +kernel) rfl
theorem gw_802 : Cond.fieldLink "MeltHoursModel" 160 "MeltHoursModel" "imageThe" "I" ∈ lw_good := good_of 802 (by decide +kernel) rfl
theorem gw_803 : Cond.fieldLink "MeltHoursModel" 163 "MeltHoursModel" "imageDays" "I" ∈ lw_good := good_of 803 (by decide +kernel) rfl
theorem gw_804 : Cond.fieldLink "MeltHoursModel" 166 "MeltHoursModel" "imageWants" "I" ∈ lw_good := good_of 804 (by decide +kernel) rfl
theorem gw_805 : Cond.fieldLink "MeltHoursModel" 169 "MeltHoursModel" "imageSky" "[I" ∈ lw_good := good_of 805 (by decide +kernel) rfl
theorem gw_806 : Cond.fieldLink "MeltHoursModel" 172 "MeltHoursModel" "imageKind" "[I" ∈ lw_good := good_of 806 (by decide +kernel) rfl
theorem gw_807 : Cond.fieldLink "MeltHoursModel" 175 "MeltHoursModel" "imageV" "[I" ∈ lw_good := good_of 807 (by decide +kernel) rfl
theorem gw_808 : Cond.fieldLink "MeltHoursModel" 178 "MeltHoursModel" "imageHours" "[I" ∈ lw_good := good_of 808 (by decide +kernel) rfl
theorem gw_809 : Cond.fieldLink "MeltHoursModel" 181 "MeltHoursModel" "imageDay" "[I" ∈ lw_good := good_of 809 (by decide +kernel) rfl
theorem gw_810 : Cond.fieldLink "MeltHoursModel" 184 "MeltHoursModel" "imagePlace" "[I" ∈ lw_good := good_of 810 (by decide +kernel) rfl
theorem gw_811 : Cond.fieldLink "MeltHoursModel" 187 "MeltHoursModel" "imageHour" "[I" ∈ lw_good := good_of 811 (by decide +kernel) rfl
theorem gw_812 : Cond.fieldLink "MeltHoursModel" 190 "MeltHoursModel" "imageCups" "[I" ∈ lw_good := good_of 812 (by decide +kernel) rfl
theorem gw_813 : Cond.fieldLink "MeltHoursModel" 193 "MeltHoursModel" "imageWorth" "[I" ∈ lw_good := good_of 813 (by decide +kernel) rfl
theorem gw_814 : Cond.fieldLink "MeltHoursModel" 196 "MeltHoursModel" "ran" "I" ∈ lw_good := good_of 814 (by decide +kernel) rfl
theorem gw_815 : Cond.fieldLink "MeltHoursModel" 199 "MeltHoursModel" "bodies" "[I" ∈ lw_good := good_of 815 (by decide +kernel) rfl
theorem gw_816 : Cond.fieldLink "MeltHoursModel" 202 "MeltHoursModel" "sort" "[I" ∈ lw_good := good_of 816 (by decide +kernel) rfl
theorem gw_817 : Cond.fieldLink "MeltHoursModel" 205 "MeltHoursModel" "length" "[I" ∈ lw_good := good_of 817 (by decide +kernel) rfl
theorem gw_818 : Cond.fieldLink "MeltHoursModel" 208 "MeltHoursModel" "item" "[J" ∈ lw_good := good_of 818 (by decide +kernel) rfl
theorem gw_819 : Cond.fieldLink "MeltHoursModel" 212 "MeltHoursModel" "aside" "[J" ∈ lw_good := good_of 819 (by decide +kernel) rfl
theorem gw_955 : Cond.methodLink "MeltHoursLaw" 17 yX7_places ∈ lw_good := good_of 955 (by decide +kernel) rfl
theorem gw_956 : Cond.instanceMethod yX7_places ∈ lw_good := good_of 956 (by decide +kernel) rfl
theorem gw_957 : Cond.selects RX7 yX7_places yX7_places ∈ lw_good := good_of 957 (by decide +kernel) rfl
set_option maxRecDepth 100000 in
theorem gw_958 : Cond.code yX7_places cX7_places 3 (some .int) ∈ lw_good := good_of 958 rfl rfl
theorem gw_959 : Cond.methodLink "MeltHoursModel" 215 yX7_in ∈ lw_good := good_of 959 (by decide +kernel) rfl
theorem gw_961 : Cond.instanceMethod yX7_in ∈ lw_good := good_of 961 (by decide +kernel) rfl
set_option maxRecDepth 100000 in
theorem gw_962 : Cond.code yX7_in cX7_in 4 (some .boolean) ∈ lw_good := good_of 962 rfl rfl
theorem gw_963 : Cond.methodLink "MeltHoursLaw" 22 yX7_sky ∈ lw_good := good_of 963 (by decide +kernel) rfl
theorem gw_964 : Cond.instanceMethod yX7_sky ∈ lw_good := good_of 964 (by decide +kernel) rfl
theorem gw_965 : Cond.selects RX7 yX7_sky yX7_sky ∈ lw_good := good_of 965 (by decide +kernel) rfl
set_option maxRecDepth 100000 in
theorem gw_966 : Cond.code yX7_sky cX7_sky 4 (some .int) ∈ lw_good := good_of 966 rfl rfl
theorem gw_967 : Cond.methodLink "MeltHoursLaw" 44 yX7_gate ∈ lw_good := good_of 967 (by decide +kernel) rfl
theorem gw_968 : Cond.instanceMethod yX7_gate ∈ lw_good := good_of 968 (by decide +kernel) rfl
theorem gw_969 : Cond.selects RX7 yX7_gate yX7_gate ∈ lw_good := good_of 969 (by decide +kernel) rfl
set_option maxRecDepth 100000 in
theorem gw_970 : Cond.code yX7_gate cX7_gate 6 (some .int) ∈ lw_good := good_of 970 rfl rfl
theorem gw_971 : Cond.methodLink "MeltHoursModel" 219 yX7_isGate ∈ lw_good := good_of 971 (by decide +kernel) rfl
theorem gw_973 : Cond.instanceMethod yX7_isGate ∈ lw_good := good_of 973 (by decide +kernel) rfl
set_option maxRecDepth 100000 in
theorem gw_974 : Cond.code yX7_isGate cX7_isGate 2 (some .boolean) ∈ lw_good := good_of 974 rfl rfl
theorem gw_976 : Cond.methodLink "MeltHoursLaw" 48 yX7_of ∈ lw_good := good_of 976 (by decide +kernel) rfl
theorem gw_977 : Cond.instanceMethod yX7_of ∈ lw_good := good_of 977 (by decide +kernel) rfl
theorem gw_978 : Cond.selects RX7 yX7_of yX7_of ∈ lw_good := good_of 978 (by decide +kernel) rfl
set_option maxRecDepth 100000 in
theorem gw_979 : Cond.code yX7_of cX7_of 3 (some .int) ∈ lw_good := good_of 979 rfl rfl
theorem gw_980 : Cond.methodLink "MeltHoursLaw" 26 yX7_feed ∈ lw_good := good_of 980 (by decide +kernel) rfl
theorem gw_981 : Cond.instanceMethod yX7_feed ∈ lw_good := good_of 981 (by decide +kernel) rfl
theorem gw_982 : Cond.selects RX7 yX7_feed yX7_feed ∈ lw_good := good_of 982 (by decide +kernel) rfl
set_option maxRecDepth 100000 in
theorem gw_983 : Cond.code yX7_feed cX7_feed 4 (some .int) ∈ lw_good := good_of 983 rfl rfl
theorem gw_984 : Cond.methodLink "MeltHoursLaw" 31 yX7_valley ∈ lw_good := good_of 984 (by decide +kernel) rfl
theorem gw_985 : Cond.instanceMethod yX7_valley ∈ lw_good := good_of 985 (by decide +kernel) rfl
theorem gw_986 : Cond.selects RX7 yX7_valley yX7_valley ∈ lw_good := good_of 986 (by decide +kernel) rfl
set_option maxRecDepth 100000 in
theorem gw_987 : Cond.code yX7_valley cX7_valley 2 (some .int) ∈ lw_good := good_of 987 rfl rfl
theorem gw_988 : Cond.methodLink "MeltHoursModel" 271 yX7_goesText ∈ lw_good := good_of 988 (by decide +kernel) rfl
theorem gw_990 : Cond.instanceMethod yX7_goesText ∈ lw_good := good_of 990 (by decide +kernel) rfl
set_option maxRecDepth 100000 in
theorem gw_991 : Cond.code yX7_goesText cX7_goesText 3 (some .boolean) ∈ lw_good := good_of 991 rfl rfl
theorem gw_992 : Cond.methodLink "MeltHoursModel" 268 yX7_takesClause ∈ lw_good := good_of 992 (by decide +kernel) rfl
theorem gw_994 : Cond.instanceMethod yX7_takesClause ∈ lw_good := good_of 994 (by decide +kernel) rfl
set_option maxRecDepth 100000 in
theorem gw_995 : Cond.code yX7_takesClause cX7_takesClause 2 (some .boolean) ∈ lw_good := good_of 995 rfl rfl
theorem gw_996 : Cond.methodLink "MeltHoursModel" 262 yX7_takesHead ∈ lw_good := good_of 996 (by decide +kernel) rfl
theorem gw_998 : Cond.instanceMethod yX7_takesHead ∈ lw_good := good_of 998 (by decide +kernel) rfl
set_option maxRecDepth 100000 in
theorem gw_999 : Cond.code yX7_takesHead cX7_takesHead 3 (some .boolean) ∈ lw_good := good_of 999 rfl rfl
theorem gw_1000 : Cond.methodLink "MeltHoursModel" 251 yX7_second ∈ lw_good := good_of 1000 (by decide +kernel) rfl
theorem gw_1002 : Cond.instanceMethod yX7_second ∈ lw_good := good_of 1002 (by decide +kernel) rfl
set_option maxRecDepth 100000 in
theorem gw_1003 : Cond.code yX7_second cX7_second 1 (some .int) ∈ lw_good := good_of 1003 rfl rfl
theorem gw_1004 : Cond.methodLink "MeltHoursModel" 224 yX7_next ∈ lw_good := good_of 1004 (by decide +kernel) rfl
theorem gw_1006 : Cond.instanceMethod yX7_next ∈ lw_good := good_of 1006 (by decide +kernel) rfl
set_option maxRecDepth 100000 in
theorem gw_1007 : Cond.code yX7_next cX7_next 1 (some .int) ∈ lw_good := good_of 1007 rfl rfl
theorem gw_1009 : Cond.methodLink "MeltHoursModel" 255 yX7_takesWord ∈ lw_good := good_of 1009 (by decide +kernel) rfl
theorem gw_1011 : Cond.instanceMethod yX7_takesWord ∈ lw_good := good_of 1011 (by decide +kernel) rfl
set_option maxRecDepth 100000 in
theorem gw_1012 : Cond.code yX7_takesWord cX7_takesWord 4 (some .boolean) ∈ lw_good := good_of 1012 rfl rfl
theorem gw_1013 : Cond.methodLink "MeltHoursModel" 228 yX7_takesSign ∈ lw_good := good_of 1013 (by decide +kernel) rfl
theorem gw_1015 : Cond.instanceMethod yX7_takesSign ∈ lw_good := good_of 1015 (by decide +kernel) rfl
set_option maxRecDepth 100000 in
theorem gw_1016 : Cond.code yX7_takesSign cX7_takesSign 2 (some .boolean) ∈ lw_good := good_of 1016 rfl rfl
theorem gw_1020 : Cond.methodLink "MeltHoursModel" 239 yX7_takesNumber ∈ lw_good := good_of 1020 (by decide +kernel) rfl
theorem gw_1022 : Cond.instanceMethod yX7_takesNumber ∈ lw_good := good_of 1022 (by decide +kernel) rfl
set_option maxRecDepth 100000 in
theorem gw_1023 : Cond.code yX7_takesNumber cX7_takesNumber 2 (some .boolean) ∈ lw_good := good_of 1023 rfl rfl
theorem gw_1024 : Cond.methodLink "MeltHoursModel" 231 yX7_isDigit ∈ lw_good := good_of 1024 (by decide +kernel) rfl
theorem gw_1026 : Cond.instanceMethod yX7_isDigit ∈ lw_good := good_of 1026 (by decide +kernel) rfl
set_option maxRecDepth 100000 in
theorem gw_1027 : Cond.code yX7_isDigit cX7_isDigit 1 (some .boolean) ∈ lw_good := good_of 1027 rfl rfl
theorem gw_1028 : Cond.methodLink "MeltHoursModel" 265 yX7_takesE ∈ lw_good := good_of 1028 (by decide +kernel) rfl
theorem gw_1030 : Cond.instanceMethod yX7_takesE ∈ lw_good := good_of 1030 (by decide +kernel) rfl
set_option maxRecDepth 100000 in
theorem gw_1031 : Cond.code yX7_takesE cX7_takesE 4 (some .boolean) ∈ lw_good := good_of 1031 rfl rfl
theorem gw_1032 : Cond.methodLink "MeltHoursModel" 245 yX7_takesTest ∈ lw_good := good_of 1032 (by decide +kernel) rfl
theorem gw_1034 : Cond.instanceMethod yX7_takesTest ∈ lw_good := good_of 1034 (by decide +kernel) rfl
set_option maxRecDepth 100000 in
theorem gw_1035 : Cond.code yX7_takesTest cX7_takesTest 3 (some .boolean) ∈ lw_good := good_of 1035 rfl rfl
theorem gw_1036 : Cond.methodLink "MeltHoursModel" 235 yX7_put ∈ lw_good := good_of 1036 (by decide +kernel) rfl
theorem gw_1038 : Cond.instanceMethod yX7_put ∈ lw_good := good_of 1038 (by decide +kernel) rfl
set_option maxRecDepth 100000 in
theorem gw_1039 : Cond.code yX7_put cX7_put 2 none ∈ lw_good := good_of 1039 rfl rfl
theorem gw_1040 : Cond.methodLink "MeltHoursModel" 242 yX7_whole ∈ lw_good := good_of 1040 (by decide +kernel) rfl
theorem gw_1042 : Cond.instanceMethod yX7_whole ∈ lw_good := good_of 1042 (by decide +kernel) rfl
set_option maxRecDepth 100000 in
theorem gw_1043 : Cond.code yX7_whole cX7_whole 1 none ∈ lw_good := good_of 1043 rfl rfl
theorem gw_1044 : Cond.methodLink "MeltHoursModel" 248 yX7_settle ∈ lw_good := good_of 1044 (by decide +kernel) rfl
theorem gw_1046 : Cond.instanceMethod yX7_settle ∈ lw_good := good_of 1046 (by decide +kernel) rfl
set_option maxRecDepth 100000 in
theorem gw_1047 : Cond.code yX7_settle cX7_settle 2 none ∈ lw_good := good_of 1047 rfl rfl
theorem gw_1048 : Cond.methodLink "MeltHoursLaw" 35 yX7_told ∈ lw_good := good_of 1048 (by decide +kernel) rfl
theorem gw_1049 : Cond.instanceMethod yX7_told ∈ lw_good := good_of 1049 (by decide +kernel) rfl
theorem gw_1050 : Cond.selects RX7 yX7_told yX7_told ∈ lw_good := good_of 1050 (by decide +kernel) rfl
set_option maxRecDepth 100000 in
theorem gw_1051 : Cond.code yX7_told cX7_told 3 (some .int) ∈ lw_good := good_of 1051 rfl rfl
theorem gw_1052 : Cond.methodLink "MeltHoursModel" 280 yX7_last ∈ lw_good := good_of 1052 (by decide +kernel) rfl
theorem gw_1054 : Cond.instanceMethod yX7_last ∈ lw_good := good_of 1054 (by decide +kernel) rfl
set_option maxRecDepth 100000 in
theorem gw_1055 : Cond.code yX7_last cX7_last 6 (some .int) ∈ lw_good := good_of 1055 rfl rfl
theorem gw_1056 : Cond.methodLink "MeltHoursModel" 274 yX7_first ∈ lw_good := good_of 1056 (by decide +kernel) rfl
theorem gw_1058 : Cond.instanceMethod yX7_first ∈ lw_good := good_of 1058 (by decide +kernel) rfl
set_option maxRecDepth 100000 in
theorem gw_1059 : Cond.code yX7_first cX7_first 1 (some .int) ∈ lw_good := good_of 1059 rfl rfl
theorem gw_1060 : Cond.methodLink "MeltHoursModel" 277 yX7_behind ∈ lw_good := good_of 1060 (by decide +kernel) rfl
theorem gw_1062 : Cond.instanceMethod yX7_behind ∈ lw_good := good_of 1062 (by decide +kernel) rfl
set_option maxRecDepth 100000 in
theorem gw_1063 : Cond.code yX7_behind cX7_behind 1 (some .int) ∈ lw_good := good_of 1063 rfl rfl
theorem gw_1064 : Cond.methodLink "MeltHoursModel" 284 yX7_min ∈ lw_good := good_of 1064 (by decide +kernel) rfl
theorem gw_1066 : Cond.instanceMethod yX7_min ∈ lw_good := good_of 1066 (by decide +kernel) rfl
set_option maxRecDepth 100000 in
theorem gw_1067 : Cond.code yX7_min cX7_min 3 (some .int) ∈ lw_good := good_of 1067 rfl rfl
theorem gw_1068 : Cond.methodLink "MeltHoursLaw" 106 yX7_day ∈ lw_good := good_of 1068 (by decide +kernel) rfl
theorem gw_1069 : Cond.instanceMethod yX7_day ∈ lw_good := good_of 1069 (by decide +kernel) rfl
theorem gw_1070 : Cond.selects RX7 yX7_day yX7_day ∈ lw_good := good_of 1070 (by decide +kernel) rfl
set_option maxRecDepth 100000 in
theorem gw_1071 : Cond.code yX7_day cX7_day 2 (some .int) ∈ lw_good := good_of 1071 rfl rfl
theorem gw_1072 : Cond.methodLink "MeltHoursLaw" 39 yX7_melts ∈ lw_good := good_of 1072 (by decide +kernel) rfl
theorem gw_1073 : Cond.instanceMethod yX7_melts ∈ lw_good := good_of 1073 (by decide +kernel) rfl
theorem gw_1074 : Cond.selects RX7 yX7_melts yX7_melts ∈ lw_good := good_of 1074 (by decide +kernel) rfl
set_option maxRecDepth 100000 in
theorem gw_1075 : Cond.code yX7_melts cX7_melts 2 (some .int) ∈ lw_good := good_of 1075 rfl rfl
theorem gw_1076 : Cond.methodLink "MeltHoursModel" 291 yX7_isHour ∈ lw_good := good_of 1076 (by decide +kernel) rfl
theorem gw_1078 : Cond.instanceMethod yX7_isHour ∈ lw_good := good_of 1078 (by decide +kernel) rfl
set_option maxRecDepth 100000 in
theorem gw_1079 : Cond.code yX7_isHour cX7_isHour 2 (some .boolean) ∈ lw_good := good_of 1079 rfl rfl
theorem gw_1080 : Cond.methodLink "MeltHoursModel" 294 yX7_meltOf ∈ lw_good := good_of 1080 (by decide +kernel) rfl
theorem gw_1082 : Cond.instanceMethod yX7_meltOf ∈ lw_good := good_of 1082 (by decide +kernel) rfl
set_option maxRecDepth 100000 in
theorem gw_1083 : Cond.code yX7_meltOf cX7_meltOf 5 (some .int) ∈ lw_good := good_of 1083 rfl rfl
theorem gw_1084 : Cond.methodLink "MeltHoursModel" 288 yX7_holds ∈ lw_good := good_of 1084 (by decide +kernel) rfl
theorem gw_1086 : Cond.instanceMethod yX7_holds ∈ lw_good := good_of 1086 (by decide +kernel) rfl
set_option maxRecDepth 100000 in
theorem gw_1087 : Cond.code yX7_holds cX7_holds 9 (some .boolean) ∈ lw_good := good_of 1087 rfl rfl
theorem gw_1088 : Cond.methodLink "MeltHoursLaw" 53 yX7_water ∈ lw_good := good_of 1088 (by decide +kernel) rfl
theorem gw_1089 : Cond.instanceMethod yX7_water ∈ lw_good := good_of 1089 (by decide +kernel) rfl
theorem gw_1090 : Cond.selects RX7 yX7_water yX7_water ∈ lw_good := good_of 1090 (by decide +kernel) rfl
set_option maxRecDepth 100000 in
theorem gw_1091 : Cond.code yX7_water cX7_water 5 (some .int) ∈ lw_good := good_of 1091 rfl rfl
theorem gw_1092 : Cond.methodLink "MeltHoursModel" 314 yX7_isPlace ∈ lw_good := good_of 1092 (by decide +kernel) rfl
theorem gw_1094 : Cond.instanceMethod yX7_isPlace ∈ lw_good := good_of 1094 (by decide +kernel) rfl
set_option maxRecDepth 100000 in
theorem gw_1095 : Cond.code yX7_isPlace cX7_isPlace 2 (some .boolean) ∈ lw_good := good_of 1095 rfl rfl
theorem gw_1096 : Cond.methodLink "MeltHoursModel" 317 yX7_asIs ∈ lw_good := good_of 1096 (by decide +kernel) rfl
theorem gw_1098 : Cond.instanceMethod yX7_asIs ∈ lw_good := good_of 1098 (by decide +kernel) rfl
set_option maxRecDepth 100000 in
theorem gw_1099 : Cond.code yX7_asIs cX7_asIs 2 none ∈ lw_good := good_of 1099 rfl rfl
theorem gw_1100 : Cond.methodLink "MeltHoursModel" 297 yX7_told ∈ lw_good := good_of 1100 (by decide +kernel) rfl
theorem gw_1101 : Cond.methodLink "MeltHoursModel" 320 yX7_go ∈ lw_good := good_of 1101 (by decide +kernel) rfl
theorem gw_1103 : Cond.instanceMethod yX7_go ∈ lw_good := good_of 1103 (by decide +kernel) rfl
set_option maxRecDepth 100000 in
theorem gw_1104 : Cond.code yX7_go cX7_go 8 none ∈ lw_good := good_of 1104 rfl rfl
theorem gw_1105 : Cond.methodLink "MeltHoursModel" 306 yX7_sets ∈ lw_good := good_of 1105 (by decide +kernel) rfl
theorem gw_1107 : Cond.instanceMethod yX7_sets ∈ lw_good := good_of 1107 (by decide +kernel) rfl
set_option maxRecDepth 100000 in
theorem gw_1108 : Cond.code yX7_sets cX7_sets 5 none ∈ lw_good := good_of 1108 rfl rfl
theorem gw_1109 : Cond.methodLink "MeltHoursModel" 300 yX7_less ∈ lw_good := good_of 1109 (by decide +kernel) rfl
theorem gw_1111 : Cond.instanceMethod yX7_less ∈ lw_good := good_of 1111 (by decide +kernel) rfl
set_option maxRecDepth 100000 in
theorem gw_1112 : Cond.code yX7_less cX7_less 3 (some .int) ∈ lw_good := good_of 1112 rfl rfl
theorem gw_1113 : Cond.methodLink "MeltHoursModel" 310 yX7_takes ∈ lw_good := good_of 1113 (by decide +kernel) rfl
theorem gw_1115 : Cond.instanceMethod yX7_takes ∈ lw_good := good_of 1115 (by decide +kernel) rfl
set_option maxRecDepth 100000 in
theorem gw_1116 : Cond.code yX7_takes cX7_takes 7 (some .int) ∈ lw_good := good_of 1116 rfl rfl
theorem gw_1117 : Cond.methodLink "MeltHoursModel" 303 yX7_has ∈ lw_good := good_of 1117 (by decide +kernel) rfl
theorem gw_1119 : Cond.instanceMethod yX7_has ∈ lw_good := good_of 1119 (by decide +kernel) rfl
set_option maxRecDepth 100000 in
theorem gw_1120 : Cond.code yX7_has cX7_has 3 (some .boolean) ∈ lw_good := good_of 1120 rfl rfl
theorem gw_1121 : Cond.methodLink "MeltHoursLaw" 57 yX7_all ∈ lw_good := good_of 1121 (by decide +kernel) rfl
theorem gw_1122 : Cond.instanceMethod yX7_all ∈ lw_good := good_of 1122 (by decide +kernel) rfl
theorem gw_1123 : Cond.selects RX7 yX7_all yX7_all ∈ lw_good := good_of 1123 (by decide +kernel) rfl
set_option maxRecDepth 100000 in
theorem gw_1124 : Cond.code yX7_all cX7_all 4 (some .int) ∈ lw_good := good_of 1124 rfl rfl
theorem gw_1125 : Cond.methodLink "MeltHoursModel" 323 yX7_floods ∈ lw_good := good_of 1125 (by decide +kernel) rfl
theorem gw_1127 : Cond.instanceMethod yX7_floods ∈ lw_good := good_of 1127 (by decide +kernel) rfl
set_option maxRecDepth 100000 in
theorem gw_1128 : Cond.code yX7_floods cX7_floods 3 (some .int) ∈ lw_good := good_of 1128 rfl rfl
theorem gw_1129 : Cond.methodLink "MeltHoursLaw" 61 yX7_want ∈ lw_good := good_of 1129 (by decide +kernel) rfl
theorem gw_1130 : Cond.instanceMethod yX7_want ∈ lw_good := good_of 1130 (by decide +kernel) rfl
theorem gw_1131 : Cond.selects RX7 yX7_want yX7_want ∈ lw_good := good_of 1131 (by decide +kernel) rfl
set_option maxRecDepth 100000 in
theorem gw_1132 : Cond.code yX7_want cX7_want 5 (some .int) ∈ lw_good := good_of 1132 rfl rfl
theorem gw_1133 : Cond.methodLink "MeltHoursLaw" 65 yX7_wants ∈ lw_good := good_of 1133 (by decide +kernel) rfl
theorem gw_1134 : Cond.instanceMethod yX7_wants ∈ lw_good := good_of 1134 (by decide +kernel) rfl
theorem gw_1135 : Cond.selects RX7 yX7_wants yX7_wants ∈ lw_good := good_of 1135 (by decide +kernel) rfl
set_option maxRecDepth 100000 in
theorem gw_1136 : Cond.code yX7_wants cX7_wants 3 (some .int) ∈ lw_good := good_of 1136 rfl rfl
theorem gw_1137 : Cond.methodLink "MeltHoursModel" 329 yX7_worthNow ∈ lw_good := good_of 1137 (by decide +kernel) rfl
theorem gw_1139 : Cond.instanceMethod yX7_worthNow ∈ lw_good := good_of 1139 (by decide +kernel) rfl
set_option maxRecDepth 100000 in
theorem gw_1140 : Cond.code yX7_worthNow cX7_worthNow 1 (some .int) ∈ lw_good := good_of 1140 rfl rfl
theorem gw_1141 : Cond.methodLink "MeltHoursModel" 326 yX7_serve ∈ lw_good := good_of 1141 (by decide +kernel) rfl
theorem gw_1143 : Cond.instanceMethod yX7_serve ∈ lw_good := good_of 1143 (by decide +kernel) rfl
set_option maxRecDepth 100000 in
theorem gw_1144 : Cond.code yX7_serve cX7_serve 5 (some .int) ∈ lw_good := good_of 1144 rfl rfl
theorem gw_1145 : Cond.methodLink "MeltHoursLaw" 69 yX7_worth ∈ lw_good := good_of 1145 (by decide +kernel) rfl
theorem gw_1146 : Cond.instanceMethod yX7_worth ∈ lw_good := good_of 1146 (by decide +kernel) rfl
theorem gw_1147 : Cond.selects RX7 yX7_worth yX7_worth ∈ lw_good := good_of 1147 (by decide +kernel) rfl
set_option maxRecDepth 100000 in
theorem gw_1148 : Cond.code yX7_worth cX7_worth 1 (some .int) ∈ lw_good := good_of 1148 rfl rfl
theorem gw_1149 : Cond.methodLink "MeltHoursLaw" 73 yX7_best ∈ lw_good := good_of 1149 (by decide +kernel) rfl
theorem gw_1150 : Cond.instanceMethod yX7_best ∈ lw_good := good_of 1150 (by decide +kernel) rfl
theorem gw_1151 : Cond.selects RX7 yX7_best yX7_best ∈ lw_good := good_of 1151 (by decide +kernel) rfl
set_option maxRecDepth 100000 in
theorem gw_1152 : Cond.code yX7_best cX7_best 10 (some .int) ∈ lw_good := good_of 1152 rfl rfl
theorem gw_1153 : Cond.methodLink "MeltHoursLaw" 77 yX7_price ∈ lw_good := good_of 1153 (by decide +kernel) rfl
theorem gw_1154 : Cond.instanceMethod yX7_price ∈ lw_good := good_of 1154 (by decide +kernel) rfl
theorem gw_1155 : Cond.selects RX7 yX7_price yX7_price ∈ lw_good := good_of 1155 (by decide +kernel) rfl
set_option maxRecDepth 100000 in
theorem gw_1156 : Cond.code yX7_price cX7_price 3 (some .int) ∈ lw_good := good_of 1156 rfl rfl
theorem gw_1157 : Cond.methodLink "MeltHoursLaw" 81 yX7_part ∈ lw_good := good_of 1157 (by decide +kernel) rfl
theorem gw_1158 : Cond.instanceMethod yX7_part ∈ lw_good := good_of 1158 (by decide +kernel) rfl
theorem gw_1159 : Cond.selects RX7 yX7_part yX7_part ∈ lw_good := good_of 1159 (by decide +kernel) rfl
set_option maxRecDepth 100000 in
theorem gw_1160 : Cond.code yX7_part cX7_part 8 (some .int) ∈ lw_good := good_of 1160 rfl rfl
theorem gw_1161 : Cond.methodLink "MeltHoursLaw" 85 yX7_odds ∈ lw_good := good_of 1161 (by decide +kernel) rfl
theorem gw_1162 : Cond.instanceMethod yX7_odds ∈ lw_good := good_of 1162 (by decide +kernel) rfl
theorem gw_1163 : Cond.selects RX7 yX7_odds yX7_odds ∈ lw_good := good_of 1163 (by decide +kernel) rfl
set_option maxRecDepth 100000 in
theorem gw_1164 : Cond.code yX7_odds cX7_odds 3 (some .int) ∈ lw_good := good_of 1164 rfl rfl
theorem gw_1165 : Cond.methodLink "MeltHoursLaw" 90 yX7_mean ∈ lw_good := good_of 1165 (by decide +kernel) rfl
theorem gw_1166 : Cond.instanceMethod yX7_mean ∈ lw_good := good_of 1166 (by decide +kernel) rfl
theorem gw_1167 : Cond.selects RX7 yX7_mean yX7_mean ∈ lw_good := good_of 1167 (by decide +kernel) rfl
set_option maxRecDepth 100000 in
theorem gw_1168 : Cond.code yX7_mean cX7_mean 10 (some .long) ∈ lw_good := good_of 1168 rfl rfl
theorem gw_1170 : Cond.methodLink "MeltHoursModel" 334 yX7_oddsOf ∈ lw_good := good_of 1170 (by decide +kernel) rfl
theorem gw_1172 : Cond.instanceMethod yX7_oddsOf ∈ lw_good := good_of 1172 (by decide +kernel) rfl
set_option maxRecDepth 100000 in
theorem gw_1173 : Cond.code yX7_oddsOf cX7_oddsOf 2 (some .int) ∈ lw_good := good_of 1173 rfl rfl
theorem gw_1175 : Cond.methodLink "MeltHoursModel" 340 yX7_divisor ∈ lw_good := good_of 1175 (by decide +kernel) rfl
theorem gw_1177 : Cond.instanceMethod yX7_divisor ∈ lw_good := good_of 1177 (by decide +kernel) rfl
set_option maxRecDepth 100000 in
theorem gw_1178 : Cond.code yX7_divisor cX7_divisor 11 (some .long) ∈ lw_good := good_of 1178 rfl rfl
theorem gw_1179 : Cond.methodLink "MeltHoursLaw" 94 yX7_pond ∈ lw_good := good_of 1179 (by decide +kernel) rfl
theorem gw_1180 : Cond.instanceMethod yX7_pond ∈ lw_good := good_of 1180 (by decide +kernel) rfl
theorem gw_1181 : Cond.selects RX7 yX7_pond yX7_pond ∈ lw_good := good_of 1181 (by decide +kernel) rfl
set_option maxRecDepth 100000 in
theorem gw_1182 : Cond.code yX7_pond cX7_pond 6 (some .int) ∈ lw_good := good_of 1182 rfl rfl
theorem gw_1183 : Cond.methodLink "MeltHoursLaw" 98 yX7_wrong ∈ lw_good := good_of 1183 (by decide +kernel) rfl
theorem gw_1184 : Cond.instanceMethod yX7_wrong ∈ lw_good := good_of 1184 (by decide +kernel) rfl
theorem gw_1185 : Cond.selects RX7 yX7_wrong yX7_wrong ∈ lw_good := good_of 1185 (by decide +kernel) rfl
set_option maxRecDepth 100000 in
theorem gw_1186 : Cond.code yX7_wrong cX7_wrong 3 (some .int) ∈ lw_good := good_of 1186 rfl rfl
theorem gw_1187 : Cond.methodLink "MeltHoursLaw" 102 yX7_spare ∈ lw_good := good_of 1187 (by decide +kernel) rfl
theorem gw_1188 : Cond.instanceMethod yX7_spare ∈ lw_good := good_of 1188 (by decide +kernel) rfl
theorem gw_1189 : Cond.selects RX7 yX7_spare yX7_spare ∈ lw_good := good_of 1189 (by decide +kernel) rfl
set_option maxRecDepth 100000 in
theorem gw_1190 : Cond.code yX7_spare cX7_spare 5 (some .int) ∈ lw_good := good_of 1190 rfl rfl
theorem gw_1191 : Cond.methodLink "MeltHoursModel" 344 yX7_ones ∈ lw_good := good_of 1191 (by decide +kernel) rfl
theorem gw_1193 : Cond.instanceMethod yX7_ones ∈ lw_good := good_of 1193 (by decide +kernel) rfl
set_option maxRecDepth 100000 in
theorem gw_1194 : Cond.code yX7_ones cX7_ones 4 (some .int) ∈ lw_good := good_of 1194 rfl rfl
theorem gw_1195 : Cond.methodLink "MeltHoursLaw" 110 yX7_judge ∈ lw_good := good_of 1195 (by decide +kernel) rfl
theorem gw_1196 : Cond.instanceMethod yX7_judge ∈ lw_good := good_of 1196 (by decide +kernel) rfl
theorem gw_1197 : Cond.selects RX7 yX7_judge yX7_judge ∈ lw_good := good_of 1197 (by decide +kernel) rfl
set_option maxRecDepth 100000 in
theorem gw_1198 : Cond.code yX7_judge cX7_judge 5 (some .int) ∈ lw_good := good_of 1198 rfl rfl
theorem gw_1199 : Cond.methodLink "MeltHoursModel" 347 yX7_isTape ∈ lw_good := good_of 1199 (by decide +kernel) rfl
theorem gw_1201 : Cond.instanceMethod yX7_isTape ∈ lw_good := good_of 1201 (by decide +kernel) rfl
set_option maxRecDepth 100000 in
theorem gw_1202 : Cond.code yX7_isTape cX7_isTape 2 (some .boolean) ∈ lw_good := good_of 1202 rfl rfl
theorem gw_1203 : Cond.methodLink "MeltHoursLaw" 114 yX7_image ∈ lw_good := good_of 1203 (by decide +kernel) rfl
theorem gw_1204 : Cond.instanceMethod yX7_image ∈ lw_good := good_of 1204 (by decide +kernel) rfl
theorem gw_1205 : Cond.selects RX7 yX7_image yX7_image ∈ lw_good := good_of 1205 (by decide +kernel) rfl
set_option maxRecDepth 100000 in
theorem gw_1206 : Cond.code yX7_image cX7_image 1 (some .int) ∈ lw_good := good_of 1206 rfl rfl
theorem gw_1207 : Cond.methodLink "MeltHoursModel" 350 yX7_copy ∈ lw_good := good_of 1207 (by decide +kernel) rfl
theorem gw_1209 : Cond.instanceMethod yX7_copy ∈ lw_good := good_of 1209 (by decide +kernel) rfl
set_option maxRecDepth 100000 in
theorem gw_1210 : Cond.code yX7_copy cX7_copy 4 none ∈ lw_good := good_of 1210 rfl rfl
theorem gw_1211 : Cond.methodLink "MeltHoursLaw" 118 yX7_undo ∈ lw_good := good_of 1211 (by decide +kernel) rfl
theorem gw_1212 : Cond.instanceMethod yX7_undo ∈ lw_good := good_of 1212 (by decide +kernel) rfl
theorem gw_1213 : Cond.selects RX7 yX7_undo yX7_undo ∈ lw_good := good_of 1213 (by decide +kernel) rfl
set_option maxRecDepth 100000 in
theorem gw_1214 : Cond.code yX7_undo cX7_undo 1 (some .int) ∈ lw_good := good_of 1214 rfl rfl
theorem gw_1215 : Cond.methodLink "MeltHoursLaw" 122 yX7_act ∈ lw_good := good_of 1215 (by decide +kernel) rfl
theorem gw_1216 : Cond.instanceMethod yX7_act ∈ lw_good := good_of 1216 (by decide +kernel) rfl
theorem gw_1217 : Cond.selects RX7 yX7_act yX7_act ∈ lw_good := good_of 1217 (by decide +kernel) rfl
set_option maxRecDepth 100000 in
theorem gw_1218 : Cond.code yX7_act cX7_act 4 (some .int) ∈ lw_good := good_of 1218 rfl rfl
theorem gw_1219 : Cond.methodLink "MeltHoursModel" 360 yX7_letsAct ∈ lw_good := good_of 1219 (by decide +kernel) rfl
theorem gw_1221 : Cond.instanceMethod yX7_letsAct ∈ lw_good := good_of 1221 (by decide +kernel) rfl
set_option maxRecDepth 100000 in
theorem gw_1222 : Cond.code yX7_letsAct cX7_letsAct 3 (some .int) ∈ lw_good := good_of 1222 rfl rfl
theorem gw_1223 : Cond.methodLink "MeltHoursModel" 354 yX7_body ∈ lw_good := good_of 1223 (by decide +kernel) rfl
theorem gw_1225 : Cond.instanceMethod yX7_body ∈ lw_good := good_of 1225 (by decide +kernel) rfl
set_option maxRecDepth 100000 in
theorem gw_1226 : Cond.code yX7_body cX7_body 2 none ∈ lw_good := good_of 1226 rfl rfl
theorem gw_1227 : Cond.methodLink "MeltHoursModel" 357 yX7_plainLets ∈ lw_good := good_of 1227 (by decide +kernel) rfl
theorem gw_1229 : Cond.instanceMethod yX7_plainLets ∈ lw_good := good_of 1229 (by decide +kernel) rfl
set_option maxRecDepth 100000 in
theorem gw_1230 : Cond.code yX7_plainLets cX7_plainLets 3 (some .int) ∈ lw_good := good_of 1230 rfl rfl
theorem gw_1231 : Cond.methodLink "MeltHoursModel" 369 yX7_takesAct ∈ lw_good := good_of 1231 (by decide +kernel) rfl
theorem gw_1233 : Cond.instanceMethod yX7_takesAct ∈ lw_good := good_of 1233 (by decide +kernel) rfl
set_option maxRecDepth 100000 in
theorem gw_1234 : Cond.code yX7_takesAct cX7_takesAct 4 (some .int) ∈ lw_good := good_of 1234 rfl rfl
theorem gw_1235 : Cond.methodLink "MeltHoursModel" 366 yX7_clockTakes ∈ lw_good := good_of 1235 (by decide +kernel) rfl
theorem gw_1237 : Cond.instanceMethod yX7_clockTakes ∈ lw_good := good_of 1237 (by decide +kernel) rfl
set_option maxRecDepth 100000 in
theorem gw_1238 : Cond.code yX7_clockTakes cX7_clockTakes 3 (some .int) ∈ lw_good := good_of 1238 rfl rfl
theorem gw_1239 : Cond.methodLink "MeltHoursModel" 363 yX7_plainTakes ∈ lw_good := good_of 1239 (by decide +kernel) rfl
theorem gw_1241 : Cond.instanceMethod yX7_plainTakes ∈ lw_good := good_of 1241 (by decide +kernel) rfl
set_option maxRecDepth 100000 in
theorem gw_1242 : Cond.code yX7_plainTakes cX7_plainTakes 3 (some .int) ∈ lw_good := good_of 1242 rfl rfl
theorem gw_1243 : Cond.methodLink "MeltHoursModel" 375 yX7_tellsAct ∈ lw_good := good_of 1243 (by decide +kernel) rfl
theorem gw_1245 : Cond.instanceMethod yX7_tellsAct ∈ lw_good := good_of 1245 (by decide +kernel) rfl
set_option maxRecDepth 100000 in
theorem gw_1246 : Cond.code yX7_tellsAct cX7_tellsAct 4 (some .int) ∈ lw_good := good_of 1246 rfl rfl
theorem gw_1247 : Cond.methodLink "MeltHoursModel" 372 yX7_plainTells ∈ lw_good := good_of 1247 (by decide +kernel) rfl
theorem gw_1249 : Cond.instanceMethod yX7_plainTells ∈ lw_good := good_of 1249 (by decide +kernel) rfl
set_option maxRecDepth 100000 in
theorem gw_1250 : Cond.code yX7_plainTells cX7_plainTells 3 (some .int) ∈ lw_good := good_of 1250 rfl rfl
theorem gw_1251 : Cond.methodLink "MeltHoursLaw" 126 yX7_trace ∈ lw_good := good_of 1251 (by decide +kernel) rfl
theorem gw_1252 : Cond.instanceMethod yX7_trace ∈ lw_good := good_of 1252 (by decide +kernel) rfl
theorem gw_1253 : Cond.selects RX7 yX7_trace yX7_trace ∈ lw_good := good_of 1253 (by decide +kernel) rfl
set_option maxRecDepth 100000 in
theorem gw_1254 : Cond.code yX7_trace cX7_trace 2 (some .int) ∈ lw_good := good_of 1254 rfl rfl
theorem gw_1255 : Cond.methodLink "MeltHoursLaw" 130 yX7_taken ∈ lw_good := good_of 1255 (by decide +kernel) rfl
theorem gw_1256 : Cond.instanceMethod yX7_taken ∈ lw_good := good_of 1256 (by decide +kernel) rfl
theorem gw_1257 : Cond.selects RX7 yX7_taken yX7_taken ∈ lw_good := good_of 1257 (by decide +kernel) rfl
set_option maxRecDepth 100000 in
theorem gw_1258 : Cond.code yX7_taken cX7_taken 4 (some .int) ∈ lw_good := good_of 1258 rfl rfl
theorem gw_1259 : Cond.methodLink "MeltHoursLaw" 134 yX7_count ∈ lw_good := good_of 1259 (by decide +kernel) rfl
theorem gw_1260 : Cond.instanceMethod yX7_count ∈ lw_good := good_of 1260 (by decide +kernel) rfl
theorem gw_1261 : Cond.selects RX7 yX7_count yX7_count ∈ lw_good := good_of 1261 (by decide +kernel) rfl
set_option maxRecDepth 100000 in
theorem gw_1262 : Cond.code yX7_count cX7_count 2 (some .int) ∈ lw_good := good_of 1262 rfl rfl
theorem gw_1263 : Cond.methodLink "MeltHoursLaw" 138 yX7_tape ∈ lw_good := good_of 1263 (by decide +kernel) rfl
theorem gw_1264 : Cond.instanceMethod yX7_tape ∈ lw_good := good_of 1264 (by decide +kernel) rfl
theorem gw_1265 : Cond.selects RX7 yX7_tape yX7_tape ∈ lw_good := good_of 1265 (by decide +kernel) rfl
set_option maxRecDepth 100000 in
theorem gw_1266 : Cond.code yX7_tape cX7_tape 5 (some .int) ∈ lw_good := good_of 1266 rfl rfl
theorem gw_1267 : Cond.methodLink "MeltHoursLaw" 145 yX7_item ∈ lw_good := good_of 1267 (by decide +kernel) rfl
theorem gw_1268 : Cond.instanceMethod yX7_item ∈ lw_good := good_of 1268 (by decide +kernel) rfl
theorem gw_1269 : Cond.selects RX7 yX7_item yX7_item ∈ lw_good := good_of 1269 (by decide +kernel) rfl
set_option maxRecDepth 100000 in
theorem gw_1270 : Cond.code yX7_item cX7_item 5 (some .int) ∈ lw_good := good_of 1270 rfl rfl
theorem gw_1271 : Cond.methodLink "MeltHoursModel" 378 yX7_narrow ∈ lw_good := good_of 1271 (by decide +kernel) rfl
theorem gw_1273 : Cond.instanceMethod yX7_narrow ∈ lw_good := good_of 1273 (by decide +kernel) rfl
set_option maxRecDepth 100000 in
theorem gw_1274 : Cond.code yX7_narrow cX7_narrow 4 (some .long) ∈ lw_good := good_of 1274 rfl rfl
theorem gw_1275 : Cond.methodLink "MeltHoursLaw" 149 yX7_read ∈ lw_good := good_of 1275 (by decide +kernel) rfl
theorem gw_1276 : Cond.instanceMethod yX7_read ∈ lw_good := good_of 1276 (by decide +kernel) rfl
theorem gw_1277 : Cond.selects RX7 yX7_read yX7_read ∈ lw_good := good_of 1277 (by decide +kernel) rfl
set_option maxRecDepth 100000 in
theorem gw_1278 : Cond.code yX7_read cX7_read 3 (some .long) ∈ lw_good := good_of 1278 rfl rfl
theorem gw_1279 : Cond.methodLink "MeltHoursLaw" 154 yX7_shift ∈ lw_good := good_of 1279 (by decide +kernel) rfl
theorem gw_1280 : Cond.instanceMethod yX7_shift ∈ lw_good := good_of 1280 (by decide +kernel) rfl
theorem gw_1281 : Cond.selects RX7 yX7_shift yX7_shift ∈ lw_good := good_of 1281 (by decide +kernel) rfl
set_option maxRecDepth 100000 in
theorem gw_1282 : Cond.code yX7_shift cX7_shift 7 (some .int) ∈ lw_good := good_of 1282 rfl rfl
theorem dok_of {d0 nL0 d : Nat} (h : d0 + 1 ≤ d) (h2 : nL0 + 19 ≤ 120) : dok d0 nL0 d = true := by
  unfold dok
  rw [Bool.and_eq_true]
  exact ⟨Nat.ble_eq_true_of_le h, Nat.ble_eq_true_of_le h2⟩
theorem aw_int : Cond.arrayClass (newarray.typeOf .int) ∈ lw_good := good_of 118 (by decide +kernel) (by decide +kernel)
theorem aw_boolean : Cond.arrayClass (newarray.typeOf .boolean) ∈ lw_good := good_of 453 (by decide +kernel) (by decide +kernel)
theorem aw_long : Cond.arrayClass (newarray.typeOf .long) ∈ lw_good := good_of 256 (by decide +kernel) (by decide +kernel)
section JW
variable {G : GT} {X : XT} {Q : State → Prop} {nL : Nat} {sh : SH} {I : IH} {L : LH} {n e es pc : Nat} {ls : List (Nat × Value)} {st : List Value}
variable {own : String} {cc : ByteArray} {d : Nat} {ret : Option FieldType} {nm : String}
theorem j_callV1 (F : MF G X own cc nL d ret nm) {ix cnt d' nL' ci b e1 es1 e0 es0 : Nat} {y : MethodName} {cc' : ByteArray} {ret' : Option FieldType} {As st0 : List Value} {v : Value} {sh' : SH} {I' : IH} {L' : LH} {n' : Nat} (cl : CLV own ix y cnt) (hcode : Cond.code y cc' nL' ret' ∈ lw_good) (hC : (vwCl[ci]?).map (·.1) = some y.cls) (hrc : isO sh ci b) (hct : Ct G y cc' nL' ret' d' (.ref b :: As) sh I L n (some v) sh' I' L' n' e0 es0) (hdk : dok d' nL' d = true) (hn : As.length = cnt) (hs0 : st0 = As.reverse ++ .ref b :: st) (hst : Nat.ble ((st.map fun v => v.category).sum) 8 = true) (he : e = e0 + e1) (hes : es = es0 + es1) (hd : decode cc pc = .ok (.invokevirtual ix, 3)) (kk : J G X Q nL sh' I' L' n' e1 es1 (pc + 3) ls (v :: st)) : J G X Q nL sh I L n e es pc ls st0 := j_callV F cl hcode hC hrc hct hdk hn hs0 hst he hes hd kk
theorem j_callV0 (F : MF G X own cc nL d ret nm) {ix cnt d' nL' ci b e1 es1 e0 es0 : Nat} {y : MethodName} {cc' : ByteArray} {ret' : Option FieldType} {As st0 : List Value} {sh' : SH} {I' : IH} {L' : LH} {n' : Nat} (cl : CLV own ix y cnt) (hcode : Cond.code y cc' nL' ret' ∈ lw_good) (hC : (vwCl[ci]?).map (·.1) = some y.cls) (hrc : isO sh ci b) (hct : Ct G y cc' nL' ret' d' (.ref b :: As) sh I L n none sh' I' L' n' e0 es0) (hdk : dok d' nL' d = true) (hn : As.length = cnt) (hs0 : st0 = As.reverse ++ .ref b :: st) (hst : Nat.ble ((st.map fun v => v.category).sum) 8 = true) (he : e = e0 + e1) (hes : es = es0 + es1) (hd : decode cc pc = .ok (.invokevirtual ix, 3)) (kk : J G X Q nL sh' I' L' n' e1 es1 (pc + 3) ls st) : J G X Q nL sh I L n e es pc ls st0 := j_callV F cl hcode hC hrc hct hdk hn hs0 hst he hes hd kk
theorem j_callS1 (F : MF G X own cc nL d ret nm) {ix cnt d' nL' e1 es1 e0 es0 : Nat} {y : MethodName} {cc' : ByteArray} {ret' : Option FieldType} {As st0 : List Value} {v : Value} {sh' : SH} {I' : IH} {L' : LH} {n' : Nat} (cl : CLS own ix y cnt) (hcode : Cond.code y cc' nL' ret' ∈ lw_good) (hct : Ct G y cc' nL' ret' d' As sh I L n (some v) sh' I' L' n' e0 es0) (hdk : dok d' nL' d = true) (hn : As.length = cnt) (hs0 : st0 = As.reverse ++ st) (hst : Nat.ble ((st.map fun v => v.category).sum) 8 = true) (he : e = e0 + e1) (hes : es = es0 + es1) (hd : decode cc pc = .ok (.invokestatic ix, 3)) (kk : J G X Q nL sh' I' L' n' e1 es1 (pc + 3) ls (v :: st)) : J G X Q nL sh I L n e es pc ls st0 := j_callS F cl hcode hct hdk hn hs0 hst he hes hd kk
theorem j_callS0 (F : MF G X own cc nL d ret nm) {ix cnt d' nL' e1 es1 e0 es0 : Nat} {y : MethodName} {cc' : ByteArray} {ret' : Option FieldType} {As st0 : List Value} {sh' : SH} {I' : IH} {L' : LH} {n' : Nat} (cl : CLS own ix y cnt) (hcode : Cond.code y cc' nL' ret' ∈ lw_good) (hct : Ct G y cc' nL' ret' d' As sh I L n none sh' I' L' n' e0 es0) (hdk : dok d' nL' d = true) (hn : As.length = cnt) (hs0 : st0 = As.reverse ++ st) (hst : Nat.ble ((st.map fun v => v.category).sum) 8 = true) (he : e = e0 + e1) (hes : es = es0 + es1) (hd : decode cc pc = .ok (.invokestatic ix, 3)) (kk : J G X Q nL sh' I' L' n' e1 es1 (pc + 3) ls st) : J G X Q nL sh I L n e es pc ls st0 := j_callS F cl hcode hct hdk hn hs0 hst he hes hd kk
theorem j_callSN1 (F : MF G X own cc nL d ret nm) {ix cnt d' nL' e1 es1 e0 es0 : Nat} {y : MethodName} {cc' : ByteArray} {ret' : Option FieldType} {As st0 : List Value} {v : Value} {sh' : SH} {I' : IH} {L' : LH} {n' : Nat} (cl : CLSN own ix y cnt) (hcode : Cond.code y cc' nL' ret' ∈ lw_good) (hct : Ct G y cc' nL' ret' d' As sh I L n (some v) sh' I' L' n' e0 es0) (hdk : dok d' nL' d = true) (hn : As.length = cnt) (hs0 : st0 = As.reverse ++ st) (hst : Nat.ble ((st.map fun v => v.category).sum) 8 = true) (he : e = e0 + e1) (hes : es = es0 + es1) (hd : decode cc pc = .ok (.invokestatic ix, 3)) (kk : J G X Q nL sh' I' L' n' e1 es1 (pc + 3) ls (v :: st)) : J G X Q nL sh I L n e es pc ls st0 := j_callSN F cl hcode hct hdk hn hs0 hst he hes hd kk
theorem j_callSN0 (F : MF G X own cc nL d ret nm) {ix cnt d' nL' e1 es1 e0 es0 : Nat} {y : MethodName} {cc' : ByteArray} {ret' : Option FieldType} {As st0 : List Value} {sh' : SH} {I' : IH} {L' : LH} {n' : Nat} (cl : CLSN own ix y cnt) (hcode : Cond.code y cc' nL' ret' ∈ lw_good) (hct : Ct G y cc' nL' ret' d' As sh I L n none sh' I' L' n' e0 es0) (hdk : dok d' nL' d = true) (hn : As.length = cnt) (hs0 : st0 = As.reverse ++ st) (hst : Nat.ble ((st.map fun v => v.category).sum) 8 = true) (he : e = e0 + e1) (hes : es = es0 + es1) (hd : decode cc pc = .ok (.invokestatic ix, 3)) (kk : J G X Q nL sh' I' L' n' e1 es1 (pc + 3) ls st) : J G X Q nL sh I L n e es pc ls st0 := j_callSN F cl hcode hct hdk hn hs0 hst he hes hd kk
theorem j_aretR (F : MF G X own cc nL d ret nm) {a : Nat} {rt : FieldType} (hret : ret = some rt) (hrt : (∃ n, rt = .object n) ∨ ∃ t, rt = .array t) (hd : decode cc pc = .ok (.areturn, 1)) : J G X (QE G X (some (.ref a)) sh I L n) nL sh I L n 0 0 pc ls [.ref a] := j_aret (o := some a) F hret hrt rfl hd
theorem j_aretN (F : MF G X own cc nL d ret nm) {rt : FieldType} (hret : ret = some rt) (hrt : (∃ n, rt = .object n) ∨ ∃ t, rt = .array t) (hd : decode cc pc = .ok (.areturn, 1)) : J G X (QE G X (some .null) sh I L n) nL sh I L n 0 0 pc ls [.null] := j_aret (o := none) F hret hrt rfl hd
end JW
set_option maxHeartbeats 1000000 in
theorem ct_ofJ {G : GT} {y : MethodName} {cc : ByteArray} {nL : Nat} {ret : Option FieldType} {d : Nat} {av : List Value} {sh : SH} {I : IH} {L : LH} {n : Nat} {v : Option Value} {sh' : SH} {I' : IH} {L' : LH} {n' e es : Nat} (hy : plainFor y = true) (hn : Nat.ble (lg_sl av).length nL = true)
    (body : ∀ X : XT, MF G X y.cls cc nL d ret y.name → J G X (QE G X v sh' I' L' n') nL sh I L n e es 0 (lv_args 0 av) []) : Ct G y cc nL ret d av sh I L n v sh' I' L' n' e es := by
  intro l
  refine va_MetF (cc := cc) (maxL := nL) (ret := ret) hy rfl ?_
  intro p e9 s m args below meth c s₁ B hml hv
  obtain ⟨rfl, hH, hK⟩ := hv
  have hts := atoms_spec (ws := wsU y cc nL ret) B.pre
  have hown : s.vm.findClass y.cls = some m.cls := findClass_of_methodNamed B.named
  have hl := lv_entry av (n := nL) (Nat.le_of_ble_eq_true hn)
  rw [lg_entry_eq]
  exact body (p, l, e9, rmD d e es, s, m, av.toArray, below, meth, c) ⟨B.exec, B.bytes, hml, hown, htsU hts, B.returns, B.notSynchronized, fun _ => (name_of_methodNamed B.named B.method).1, hK, hH.2.2.1, by rw [hH.1]; exact hH.2.1, Nat.le_refl _, Nat.le_refl _⟩ s.heap [] 0 0 _ (Nat.zero_add e) (Nat.zero_add es) hH va_S.rf hl
theorem flX6_19 : FL RX6 19 6 0 := ⟨RX6, TX6, 9, rfl, by decide, inX6, gw_257, rfl⟩
theorem flX6_23 : FL RX6 23 2 8 := ⟨RX2, TX2, 9, rfl, by decide, inX2, gw_144, rfl⟩
theorem flX6_27 : FL RX6 27 6 1 := ⟨RX6, TX6, 9, rfl, by decide, inX6, gw_258, rfl⟩
theorem flX6_35 : FL RX6 35 6 3 := ⟨RX6, TX6, 9, rfl, by decide, inX6, gw_260, rfl⟩
theorem flX6_42 : FL RX6 42 6 4 := ⟨RX6, TX6, 9, rfl, by decide, inX6, gw_261, rfl⟩
theorem flX6_46 : FL RX6 46 6 5 := ⟨RX6, TX6, 9, rfl, by decide, inX6, gw_262, rfl⟩
theorem flX6_52 : FL RX6 52 6 8 := ⟨RX6, TX6, 9, rfl, by decide, inX6, gw_265, rfl⟩
theorem flX6_57 : FL RX6 57 2 0 := ⟨RX2, TX2, 9, rfl, by decide, inX2, gw_125, rfl⟩
theorem flX6_65 : FL RX6 65 2 1 := ⟨RX2, TX2, 9, rfl, by decide, inX2, gw_128, rfl⟩
theorem flX6_68 : FL RX6 68 6 6 := ⟨RX6, TX6, 9, rfl, by decide, inX6, gw_263, rfl⟩
theorem flX6_71 : FL RX6 71 6 7 := ⟨RX6, TX6, 9, rfl, by decide, inX6, gw_264, rfl⟩
theorem flX6_83 : FL RX6 83 1 3 := ⟨RX1, TX1, 5, rfl, by decide, inX1, gw_319, rfl⟩
theorem flX6_86 : FL RX6 86 1 4 := ⟨RX1, TX1, 5, rfl, by decide, inX1, gw_321, rfl⟩
theorem flX6_87 : FL RX6 87 4 0 := ⟨RX4, TX4, 2, rfl, by decide, inX4, gw_110, rfl⟩
theorem flX6_96 : FL RX6 96 2 3 := ⟨RX2, TX2, 9, rfl, by decide, inX2, gw_134, rfl⟩
theorem flX6_111 : FL RX6 111 5 1 := ⟨RX5, TX5, 10, rfl, by decide, inX5, gw_175, rfl⟩
theorem flX6_118 : FL RX6 118 5 5 := ⟨RX5, TX5, 10, rfl, by decide, inX5, gw_183, rfl⟩
theorem flX6_125 : FL RX6 125 5 8 := ⟨RX5, TX5, 10, rfl, by decide, inX5, gw_188, rfl⟩
theorem flX6_128 : FL RX6 128 5 6 := ⟨RX5, TX5, 10, rfl, by decide, inX5, gw_185, rfl⟩
theorem flX6_135 : FL RX6 135 2 5 := ⟨RX2, TX2, 9, rfl, by decide, inX2, gw_139, rfl⟩
theorem flX6_138 : FL RX6 138 2 4 := ⟨RX2, TX2, 9, rfl, by decide, inX2, gw_137, rfl⟩
theorem flX6_144 : FL RX6 144 5 9 := ⟨RX5, TX5, 10, rfl, by decide, inX5, gw_190, rfl⟩
theorem flX6_151 : FL RX6 151 5 3 := ⟨RX5, TX5, 10, rfl, by decide, inX5, gw_179, rfl⟩
theorem flX6_167 : FL RX6 167 5 2 := ⟨RX5, TX5, 10, rfl, by decide, inX5, gw_177, rfl⟩
theorem flX6_168 : FL RX6 168 2 2 := ⟨RX2, TX2, 9, rfl, by decide, inX2, gw_131, rfl⟩
theorem flX6_188 : FL RX6 188 2 7 := ⟨RX2, TX2, 9, rfl, by decide, inX2, gw_143, rfl⟩
theorem flX6_191 : FL RX6 191 2 6 := ⟨RX2, TX2, 9, rfl, by decide, inX2, gw_141, rfl⟩
theorem flX6_198 : FL RX6 198 3 0 := ⟨RX3, TX3, 3, rfl, by decide, inX3, gw_244, rfl⟩
theorem flX6_201 : FL RX6 201 5 4 := ⟨RX5, TX5, 10, rfl, by decide, inX5, gw_181, rfl⟩
theorem flX6_204 : FL RX6 204 3 1 := ⟨RX3, TX3, 3, rfl, by decide, inX3, gw_246, rfl⟩
theorem flX6_212 : FL RX6 212 3 2 := ⟨RX3, TX3, 3, rfl, by decide, inX3, gw_248, rfl⟩
theorem flX6_222 : FL RX6 222 6 2 := ⟨RX6, TX6, 9, rfl, by decide, inX6, gw_259, rfl⟩
theorem flX6_226 : FL RX6 226 0 4 := ⟨RX0, TX0, 5, rfl, by decide, inX0, gw_224, rfl⟩
theorem flX6_236 : FL RX6 236 0 3 := ⟨RX0, TX0, 5, rfl, by decide, inX0, gw_222, rfl⟩
theorem flX0_9 : FL RX0 9 0 3 := ⟨RX0, TX0, 5, rfl, by decide, inX0, gw_221, rfl⟩
theorem flX0_15 : FL RX0 15 0 0 := ⟨RX0, TX0, 5, rfl, by decide, inX0, gw_218, rfl⟩
theorem flX0_19 : FL RX0 19 0 2 := ⟨RX0, TX0, 5, rfl, by decide, inX0, gw_220, rfl⟩
theorem flX0_22 : FL RX0 22 0 1 := ⟨RX0, TX0, 5, rfl, by decide, inX0, gw_219, rfl⟩
theorem flX0_39 : FL RX0 39 0 4 := ⟨RX0, TX0, 5, rfl, by decide, inX0, gw_223, rfl⟩
theorem flX1_9 : FL RX1 9 1 2 := ⟨RX1, TX1, 5, rfl, by decide, inX1, gw_317, rfl⟩
theorem flX1_18 : FL RX1 18 1 4 := ⟨RX1, TX1, 5, rfl, by decide, inX1, gw_320, rfl⟩
theorem flX1_22 : FL RX1 22 1 0 := ⟨RX1, TX1, 5, rfl, by decide, inX1, gw_315, rfl⟩
theorem flX1_32 : FL RX1 32 1 1 := ⟨RX1, TX1, 5, rfl, by decide, inX1, gw_316, rfl⟩
theorem flX1_43 : FL RX1 43 1 3 := ⟨RX1, TX1, 5, rfl, by decide, inX1, gw_318, rfl⟩
theorem flX2_9 : FL RX2 9 2 0 := ⟨RX2, TX2, 9, rfl, by decide, inX2, gw_124, rfl⟩
theorem flX2_15 : FL RX2 15 2 1 := ⟨RX2, TX2, 9, rfl, by decide, inX2, gw_127, rfl⟩
theorem flX2_19 : FL RX2 19 2 2 := ⟨RX2, TX2, 9, rfl, by decide, inX2, gw_130, rfl⟩
theorem flX2_24 : FL RX2 24 2 3 := ⟨RX2, TX2, 9, rfl, by decide, inX2, gw_132, rfl⟩
theorem flX2_27 : FL RX2 27 2 4 := ⟨RX2, TX2, 9, rfl, by decide, inX2, gw_135, rfl⟩
theorem flX2_30 : FL RX2 30 2 6 := ⟨RX2, TX2, 9, rfl, by decide, inX2, gw_140, rfl⟩
theorem flX2_33 : FL RX2 33 2 8 := ⟨RX2, TX2, 9, rfl, by decide, inX2, gw_145, rfl⟩
theorem flX2_45 : FL RX2 45 2 5 := ⟨RX2, TX2, 9, rfl, by decide, inX2, gw_138, rfl⟩
theorem flX2_48 : FL RX2 48 2 7 := ⟨RX2, TX2, 9, rfl, by decide, inX2, gw_142, rfl⟩
theorem flX2_61 : FL RX2 61 4 1 := ⟨RX4, TX4, 2, rfl, by decide, inX4, gw_112, rfl⟩
theorem flX3_9 : FL RX3 9 3 0 := ⟨RX3, TX3, 3, rfl, by decide, inX3, gw_243, rfl⟩
theorem flX3_15 : FL RX3 15 3 2 := ⟨RX3, TX3, 3, rfl, by decide, inX3, gw_247, rfl⟩
theorem flX3_25 : FL RX3 25 3 1 := ⟨RX3, TX3, 3, rfl, by decide, inX3, gw_245, rfl⟩
theorem flX4_11 : FL RX4 11 4 0 := ⟨RX4, TX4, 2, rfl, by decide, inX4, gw_108, rfl⟩
theorem flX4_16 : FL RX4 16 4 1 := ⟨RX4, TX4, 2, rfl, by decide, inX4, gw_111, rfl⟩
theorem flX5_9 : FL RX5 9 5 1 := ⟨RX5, TX5, 10, rfl, by decide, inX5, gw_174, rfl⟩
theorem flX5_17 : FL RX5 17 5 2 := ⟨RX5, TX5, 10, rfl, by decide, inX5, gw_176, rfl⟩
theorem flX5_20 : FL RX5 20 5 3 := ⟨RX5, TX5, 10, rfl, by decide, inX5, gw_178, rfl⟩
theorem flX5_23 : FL RX5 23 5 4 := ⟨RX5, TX5, 10, rfl, by decide, inX5, gw_180, rfl⟩
theorem flX5_26 : FL RX5 26 5 5 := ⟨RX5, TX5, 10, rfl, by decide, inX5, gw_182, rfl⟩
theorem flX5_29 : FL RX5 29 5 6 := ⟨RX5, TX5, 10, rfl, by decide, inX5, gw_184, rfl⟩
theorem flX5_32 : FL RX5 32 5 7 := ⟨RX5, TX5, 10, rfl, by decide, inX5, gw_186, rfl⟩
theorem flX5_35 : FL RX5 35 5 8 := ⟨RX5, TX5, 10, rfl, by decide, inX5, gw_187, rfl⟩
theorem flX5_38 : FL RX5 38 5 9 := ⟨RX5, TX5, 10, rfl, by decide, inX5, gw_189, rfl⟩
theorem flX5_41 : FL RX5 41 5 0 := ⟨RX5, TX5, 10, rfl, by decide, inX5, gw_173, rfl⟩
theorem flX5_45 : FL RX5 45 2 8 := ⟨RX2, TX2, 9, rfl, by decide, inX2, gw_146, rfl⟩
theorem flX5_51 : FL RX5 51 4 0 := ⟨RX4, TX4, 2, rfl, by decide, inX4, gw_109, rfl⟩
theorem flX5_58 : FL RX5 58 2 3 := ⟨RX2, TX2, 9, rfl, by decide, inX2, gw_133, rfl⟩
theorem flX5_66 : FL RX5 66 2 1 := ⟨RX2, TX2, 9, rfl, by decide, inX2, gw_129, rfl⟩
theorem flX5_121 : FL RX5 121 2 0 := ⟨RX2, TX2, 9, rfl, by decide, inX2, gw_126, rfl⟩
theorem flX5_128 : FL RX5 128 2 4 := ⟨RX2, TX2, 9, rfl, by decide, inX2, gw_136, rfl⟩
theorem flX7_7 : FL RX7 7 7 0 := ⟨RX7, TX7, 67, rfl, by decide, inX7, gw_753, rfl⟩
theorem flX7_13 : FL RX7 13 7 1 := ⟨RX7, TX7, 67, rfl, by decide, inX7, gw_754, rfl⟩
theorem flX7_16 : FL RX7 16 7 2 := ⟨RX7, TX7, 67, rfl, by decide, inX7, gw_755, rfl⟩
theorem flX7_19 : FL RX7 19 7 3 := ⟨RX7, TX7, 67, rfl, by decide, inX7, gw_756, rfl⟩
theorem flX7_23 : FL RX7 23 7 4 := ⟨RX7, TX7, 67, rfl, by decide, inX7, gw_757, rfl⟩
theorem flX7_26 : FL RX7 26 7 5 := ⟨RX7, TX7, 67, rfl, by decide, inX7, gw_758, rfl⟩
theorem flX7_29 : FL RX7 29 7 6 := ⟨RX7, TX7, 67, rfl, by decide, inX7, gw_759, rfl⟩
theorem flX7_32 : FL RX7 32 7 7 := ⟨RX7, TX7, 67, rfl, by decide, inX7, gw_760, rfl⟩
theorem flX7_35 : FL RX7 35 7 8 := ⟨RX7, TX7, 67, rfl, by decide, inX7, gw_761, rfl⟩
theorem flX7_38 : FL RX7 38 7 9 := ⟨RX7, TX7, 67, rfl, by decide, inX7, gw_762, rfl⟩
theorem flX7_41 : FL RX7 41 7 10 := ⟨RX7, TX7, 67, rfl, by decide, inX7, gw_763, rfl⟩
theorem flX7_44 : FL RX7 44 7 11 := ⟨RX7, TX7, 67, rfl, by decide, inX7, gw_764, rfl⟩
theorem flX7_47 : FL RX7 47 7 12 := ⟨RX7, TX7, 67, rfl, by decide, inX7, gw_765, rfl⟩
theorem flX7_50 : FL RX7 50 7 13 := ⟨RX7, TX7, 67, rfl, by decide, inX7, gw_766, rfl⟩
theorem flX7_53 : FL RX7 53 7 14 := ⟨RX7, TX7, 67, rfl, by decide, inX7, gw_767, rfl⟩
theorem flX7_56 : FL RX7 56 7 15 := ⟨RX7, TX7, 67, rfl, by decide, inX7, gw_768, rfl⟩
theorem flX7_59 : FL RX7 59 7 16 := ⟨RX7, TX7, 67, rfl, by decide, inX7, gw_769, rfl⟩
theorem flX7_62 : FL RX7 62 7 17 := ⟨RX7, TX7, 67, rfl, by decide, inX7, gw_770, rfl⟩
theorem flX7_65 : FL RX7 65 7 18 := ⟨RX7, TX7, 67, rfl, by decide, inX7, gw_771, rfl⟩
theorem flX7_68 : FL RX7 68 7 19 := ⟨RX7, TX7, 67, rfl, by decide, inX7, gw_772, rfl⟩
theorem flX7_71 : FL RX7 71 7 20 := ⟨RX7, TX7, 67, rfl, by decide, inX7, gw_773, rfl⟩
theorem flX7_74 : FL RX7 74 7 21 := ⟨RX7, TX7, 67, rfl, by decide, inX7, gw_774, rfl⟩
theorem flX7_77 : FL RX7 77 7 22 := ⟨RX7, TX7, 67, rfl, by decide, inX7, gw_775, rfl⟩
theorem flX7_80 : FL RX7 80 7 23 := ⟨RX7, TX7, 67, rfl, by decide, inX7, gw_776, rfl⟩
theorem flX7_83 : FL RX7 83 7 24 := ⟨RX7, TX7, 67, rfl, by decide, inX7, gw_777, rfl⟩
theorem flX7_87 : FL RX7 87 7 25 := ⟨RX7, TX7, 67, rfl, by decide, inX7, gw_778, rfl⟩
theorem flX7_90 : FL RX7 90 7 26 := ⟨RX7, TX7, 67, rfl, by decide, inX7, gw_779, rfl⟩
theorem flX7_93 : FL RX7 93 7 27 := ⟨RX7, TX7, 67, rfl, by decide, inX7, gw_780, rfl⟩
theorem flX7_96 : FL RX7 96 7 28 := ⟨RX7, TX7, 67, rfl, by decide, inX7, gw_781, rfl⟩
theorem flX7_99 : FL RX7 99 7 29 := ⟨RX7, TX7, 67, rfl, by decide, inX7, gw_782, rfl⟩
theorem flX7_102 : FL RX7 102 7 30 := ⟨RX7, TX7, 67, rfl, by decide, inX7, gw_783, rfl⟩
theorem flX7_105 : FL RX7 105 7 31 := ⟨RX7, TX7, 67, rfl, by decide, inX7, gw_784, rfl⟩
theorem flX7_108 : FL RX7 108 7 32 := ⟨RX7, TX7, 67, rfl, by decide, inX7, gw_785, rfl⟩
theorem flX7_111 : FL RX7 111 7 33 := ⟨RX7, TX7, 67, rfl, by decide, inX7, gw_786, rfl⟩
theorem flX7_114 : FL RX7 114 7 34 := ⟨RX7, TX7, 67, rfl, by decide, inX7, gw_787, rfl⟩
theorem flX7_117 : FL RX7 117 7 35 := ⟨RX7, TX7, 67, rfl, by decide, inX7, gw_788, rfl⟩
theorem flX7_120 : FL RX7 120 7 36 := ⟨RX7, TX7, 67, rfl, by decide, inX7, gw_789, rfl⟩
theorem flX7_123 : FL RX7 123 7 37 := ⟨RX7, TX7, 67, rfl, by decide, inX7, gw_790, rfl⟩
theorem flX7_126 : FL RX7 126 7 38 := ⟨RX7, TX7, 67, rfl, by decide, inX7, gw_791, rfl⟩
theorem flX7_129 : FL RX7 129 7 39 := ⟨RX7, TX7, 67, rfl, by decide, inX7, gw_792, rfl⟩
theorem flX7_132 : FL RX7 132 7 40 := ⟨RX7, TX7, 67, rfl, by decide, inX7, gw_793, rfl⟩
theorem flX7_135 : FL RX7 135 7 41 := ⟨RX7, TX7, 67, rfl, by decide, inX7, gw_794, rfl⟩
theorem flX7_138 : FL RX7 138 7 42 := ⟨RX7, TX7, 67, rfl, by decide, inX7, gw_795, rfl⟩
theorem flX7_141 : FL RX7 141 7 43 := ⟨RX7, TX7, 67, rfl, by decide, inX7, gw_796, rfl⟩
theorem flX7_144 : FL RX7 144 7 44 := ⟨RX7, TX7, 67, rfl, by decide, inX7, gw_797, rfl⟩
theorem flX7_147 : FL RX7 147 7 45 := ⟨RX7, TX7, 67, rfl, by decide, inX7, gw_798, rfl⟩
theorem flX7_151 : FL RX7 151 7 46 := ⟨RX7, TX7, 67, rfl, by decide, inX7, gw_799, rfl⟩
theorem flX7_154 : FL RX7 154 7 47 := ⟨RX7, TX7, 67, rfl, by decide, inX7, gw_800, rfl⟩
theorem flX7_157 : FL RX7 157 7 48 := ⟨RX7, TX7, 67, rfl, by decide, inX7, gw_801, rfl⟩
theorem flX7_160 : FL RX7 160 7 49 := ⟨RX7, TX7, 67, rfl, by decide, inX7, gw_802, rfl⟩
theorem flX7_163 : FL RX7 163 7 50 := ⟨RX7, TX7, 67, rfl, by decide, inX7, gw_803, rfl⟩
theorem flX7_166 : FL RX7 166 7 51 := ⟨RX7, TX7, 67, rfl, by decide, inX7, gw_804, rfl⟩
theorem flX7_169 : FL RX7 169 7 52 := ⟨RX7, TX7, 67, rfl, by decide, inX7, gw_805, rfl⟩
theorem flX7_172 : FL RX7 172 7 53 := ⟨RX7, TX7, 67, rfl, by decide, inX7, gw_806, rfl⟩
theorem flX7_175 : FL RX7 175 7 54 := ⟨RX7, TX7, 67, rfl, by decide, inX7, gw_807, rfl⟩
theorem flX7_178 : FL RX7 178 7 55 := ⟨RX7, TX7, 67, rfl, by decide, inX7, gw_808, rfl⟩
theorem flX7_181 : FL RX7 181 7 56 := ⟨RX7, TX7, 67, rfl, by decide, inX7, gw_809, rfl⟩
theorem flX7_184 : FL RX7 184 7 57 := ⟨RX7, TX7, 67, rfl, by decide, inX7, gw_810, rfl⟩
theorem flX7_187 : FL RX7 187 7 58 := ⟨RX7, TX7, 67, rfl, by decide, inX7, gw_811, rfl⟩
theorem flX7_190 : FL RX7 190 7 59 := ⟨RX7, TX7, 67, rfl, by decide, inX7, gw_812, rfl⟩
theorem flX7_193 : FL RX7 193 7 60 := ⟨RX7, TX7, 67, rfl, by decide, inX7, gw_813, rfl⟩
theorem flX7_196 : FL RX7 196 7 61 := ⟨RX7, TX7, 67, rfl, by decide, inX7, gw_814, rfl⟩
theorem flX7_199 : FL RX7 199 7 62 := ⟨RX7, TX7, 67, rfl, by decide, inX7, gw_815, rfl⟩
theorem flX7_202 : FL RX7 202 7 63 := ⟨RX7, TX7, 67, rfl, by decide, inX7, gw_816, rfl⟩
theorem flX7_205 : FL RX7 205 7 64 := ⟨RX7, TX7, 67, rfl, by decide, inX7, gw_817, rfl⟩
theorem flX7_208 : FL RX7 208 7 65 := ⟨RX7, TX7, 67, rfl, by decide, inX7, gw_818, rfl⟩
theorem flX7_212 : FL RX7 212 7 66 := ⟨RX7, TX7, 67, rfl, by decide, inX7, gw_819, rfl⟩
theorem fp0_0 : FP 0 0 false .int := ⟨RX0, TX0, 5, tyX0, rfl, tyX0_ok, nmX0, rfl, by decide +kernel⟩
theorem fp0_1 : FP 0 1 false .int := ⟨RX0, TX0, 5, tyX0, rfl, tyX0_ok, nmX0, rfl, by decide +kernel⟩
theorem fp0_2 : FP 0 2 false .int := ⟨RX0, TX0, 5, tyX0, rfl, tyX0_ok, nmX0, rfl, by decide +kernel⟩
theorem fp0_3 : FP 0 3 true (.array .int) := ⟨RX0, TX0, 5, tyX0, rfl, tyX0_ok, nmX0, rfl, by decide +kernel⟩
theorem fp0_4 : FP 0 4 false .int := ⟨RX0, TX0, 5, tyX0, rfl, tyX0_ok, nmX0, rfl, by decide +kernel⟩
theorem fp1_0 : FP 1 0 true (.array .int) := ⟨RX1, TX1, 5, tyX1, rfl, tyX1_ok, nmX1, rfl, by decide +kernel⟩
theorem fp1_1 : FP 1 1 true .int := ⟨RX1, TX1, 5, tyX1, rfl, tyX1_ok, nmX1, rfl, by decide +kernel⟩
theorem fp1_2 : FP 1 2 false .boolean := ⟨RX1, TX1, 5, tyX1, rfl, tyX1_ok, nmX1, rfl, by decide +kernel⟩
theorem fp1_3 : FP 1 3 false .int := ⟨RX1, TX1, 5, tyX1, rfl, tyX1_ok, nmX1, rfl, by decide +kernel⟩
theorem fp1_4 : FP 1 4 true (.object "MeltHours$Valley") := ⟨RX1, TX1, 5, tyX1, rfl, tyX1_ok, nmX1, rfl, by decide +kernel⟩
theorem fp2_0 : FP 2 0 false .int := ⟨RX2, TX2, 9, tyX2, rfl, tyX2_ok, nmX2, rfl, by decide +kernel⟩
theorem fp2_1 : FP 2 1 true (.array .int) := ⟨RX2, TX2, 9, tyX2, rfl, tyX2_ok, nmX2, rfl, by decide +kernel⟩
theorem fp2_2 : FP 2 2 true (.array .int) := ⟨RX2, TX2, 9, tyX2, rfl, tyX2_ok, nmX2, rfl, by decide +kernel⟩
theorem fp2_3 : FP 2 3 true (.array (.array .int)) := ⟨RX2, TX2, 9, tyX2, rfl, tyX2_ok, nmX2, rfl, by decide +kernel⟩
theorem fp2_4 : FP 2 4 true (.array (.array .int)) := ⟨RX2, TX2, 9, tyX2, rfl, tyX2_ok, nmX2, rfl, by decide +kernel⟩
theorem fp2_5 : FP 2 5 false .int := ⟨RX2, TX2, 9, tyX2, rfl, tyX2_ok, nmX2, rfl, by decide +kernel⟩
theorem fp2_6 : FP 2 6 true (.array .int) := ⟨RX2, TX2, 9, tyX2, rfl, tyX2_ok, nmX2, rfl, by decide +kernel⟩
theorem fp2_7 : FP 2 7 false .int := ⟨RX2, TX2, 9, tyX2, rfl, tyX2_ok, nmX2, rfl, by decide +kernel⟩
theorem fp2_8 : FP 2 8 false (.object "MeltHours$Valley") := ⟨RX2, TX2, 9, tyX2, rfl, tyX2_ok, nmX2, rfl, by decide +kernel⟩
theorem fp3_0 : FP 3 0 false .int := ⟨RX3, TX3, 3, tyX3, rfl, tyX3_ok, nmX3, rfl, by decide +kernel⟩
theorem fp3_1 : FP 3 1 false .int := ⟨RX3, TX3, 3, tyX3, rfl, tyX3_ok, nmX3, rfl, by decide +kernel⟩
theorem fp3_2 : FP 3 2 true (.array .long) := ⟨RX3, TX3, 3, tyX3, rfl, tyX3_ok, nmX3, rfl, by decide +kernel⟩
theorem fp4_0 : FP 4 0 true (.array (.array .int)) := ⟨RX4, TX4, 2, tyX4, rfl, tyX4_ok, nmX4, rfl, by decide +kernel⟩
theorem fp4_1 : FP 4 1 true (.array .int) := ⟨RX4, TX4, 2, tyX4, rfl, tyX4_ok, nmX4, rfl, by decide +kernel⟩
theorem fp5_0 : FP 5 0 true (.object "MeltHours$State") := ⟨RX5, TX5, 10, tyX5, rfl, tyX5_ok, nmX5, rfl, by decide +kernel⟩
theorem fp5_1 : FP 5 1 true (.array .int) := ⟨RX5, TX5, 10, tyX5, rfl, tyX5_ok, nmX5, rfl, by decide +kernel⟩
theorem fp5_2 : FP 5 2 true (.array (.array .int)) := ⟨RX5, TX5, 10, tyX5, rfl, tyX5_ok, nmX5, rfl, by decide +kernel⟩
theorem fp5_3 : FP 5 3 true (.array (.array .int)) := ⟨RX5, TX5, 10, tyX5, rfl, tyX5_ok, nmX5, rfl, by decide +kernel⟩
theorem fp5_4 : FP 5 4 true (.array (.array .int)) := ⟨RX5, TX5, 10, tyX5, rfl, tyX5_ok, nmX5, rfl, by decide +kernel⟩
theorem fp5_5 : FP 5 5 true (.array (.array .int)) := ⟨RX5, TX5, 10, tyX5, rfl, tyX5_ok, nmX5, rfl, by decide +kernel⟩
theorem fp5_6 : FP 5 6 true (.array (.array .int)) := ⟨RX5, TX5, 10, tyX5, rfl, tyX5_ok, nmX5, rfl, by decide +kernel⟩
theorem fp5_7 : FP 5 7 true (.array (.array .int)) := ⟨RX5, TX5, 10, tyX5, rfl, tyX5_ok, nmX5, rfl, by decide +kernel⟩
theorem fp5_8 : FP 5 8 true (.array (.array .int)) := ⟨RX5, TX5, 10, tyX5, rfl, tyX5_ok, nmX5, rfl, by decide +kernel⟩
theorem fp5_9 : FP 5 9 true (.array .int) := ⟨RX5, TX5, 10, tyX5, rfl, tyX5_ok, nmX5, rfl, by decide +kernel⟩
theorem fp6_0 : FP 6 0 true (.object "MeltHours$State") := ⟨RX6, TX6, 9, tyX6, rfl, tyX6_ok, nmX6, rfl, by decide +kernel⟩
theorem fp6_1 : FP 6 1 true (.object "MeltHours$State") := ⟨RX6, TX6, 9, tyX6, rfl, tyX6_ok, nmX6, rfl, by decide +kernel⟩
theorem fp6_2 : FP 6 2 false .boolean := ⟨RX6, TX6, 9, tyX6, rfl, tyX6_ok, nmX6, rfl, by decide +kernel⟩
theorem fp6_3 : FP 6 3 true (.object "MeltHours$Water") := ⟨RX6, TX6, 9, tyX6, rfl, tyX6_ok, nmX6, rfl, by decide +kernel⟩
theorem fp6_4 : FP 6 4 true (.object "MeltHours$Acts") := ⟨RX6, TX6, 9, tyX6, rfl, tyX6_ok, nmX6, rfl, by decide +kernel⟩
theorem fp6_5 : FP 6 5 true (.array .int) := ⟨RX6, TX6, 9, tyX6, rfl, tyX6_ok, nmX6, rfl, by decide +kernel⟩
theorem fp6_6 : FP 6 6 false .int := ⟨RX6, TX6, 9, tyX6, rfl, tyX6_ok, nmX6, rfl, by decide +kernel⟩
theorem fp6_7 : FP 6 7 false .int := ⟨RX6, TX6, 9, tyX6, rfl, tyX6_ok, nmX6, rfl, by decide +kernel⟩
theorem fp6_8 : FP 6 8 true (.array (.object "MeltHours$Tape")) := ⟨RX6, TX6, 9, tyX6, rfl, tyX6_ok, nmX6, rfl, by decide +kernel⟩
theorem fp7_0 : FP 7 0 false .int := ⟨RX7, TX7, 67, tyX7, rfl, tyX7_ok, nmX7, rfl, by decide +kernel⟩
theorem fp7_1 : FP 7 1 false .int := ⟨RX7, TX7, 67, tyX7, rfl, tyX7_ok, nmX7, rfl, by decide +kernel⟩
theorem fp7_2 : FP 7 2 false .int := ⟨RX7, TX7, 67, tyX7, rfl, tyX7_ok, nmX7, rfl, by decide +kernel⟩
theorem fp7_3 : FP 7 3 true (.array .int) := ⟨RX7, TX7, 67, tyX7, rfl, tyX7_ok, nmX7, rfl, by decide +kernel⟩
theorem fp7_4 : FP 7 4 true (.array .int) := ⟨RX7, TX7, 67, tyX7, rfl, tyX7_ok, nmX7, rfl, by decide +kernel⟩
theorem fp7_5 : FP 7 5 true (.array .int) := ⟨RX7, TX7, 67, tyX7, rfl, tyX7_ok, nmX7, rfl, by decide +kernel⟩
theorem fp7_6 : FP 7 6 true (.array .int) := ⟨RX7, TX7, 67, tyX7, rfl, tyX7_ok, nmX7, rfl, by decide +kernel⟩
theorem fp7_7 : FP 7 7 false .int := ⟨RX7, TX7, 67, tyX7, rfl, tyX7_ok, nmX7, rfl, by decide +kernel⟩
theorem fp7_8 : FP 7 8 false .int := ⟨RX7, TX7, 67, tyX7, rfl, tyX7_ok, nmX7, rfl, by decide +kernel⟩
theorem fp7_9 : FP 7 9 false .int := ⟨RX7, TX7, 67, tyX7, rfl, tyX7_ok, nmX7, rfl, by decide +kernel⟩
theorem fp7_10 : FP 7 10 false .int := ⟨RX7, TX7, 67, tyX7, rfl, tyX7_ok, nmX7, rfl, by decide +kernel⟩
theorem fp7_11 : FP 7 11 false .int := ⟨RX7, TX7, 67, tyX7, rfl, tyX7_ok, nmX7, rfl, by decide +kernel⟩
theorem fp7_12 : FP 7 12 true (.array .int) := ⟨RX7, TX7, 67, tyX7, rfl, tyX7_ok, nmX7, rfl, by decide +kernel⟩
theorem fp7_13 : FP 7 13 true (.array .int) := ⟨RX7, TX7, 67, tyX7, rfl, tyX7_ok, nmX7, rfl, by decide +kernel⟩
theorem fp7_14 : FP 7 14 true (.array .int) := ⟨RX7, TX7, 67, tyX7, rfl, tyX7_ok, nmX7, rfl, by decide +kernel⟩
theorem fp7_15 : FP 7 15 true (.array .int) := ⟨RX7, TX7, 67, tyX7, rfl, tyX7_ok, nmX7, rfl, by decide +kernel⟩
theorem fp7_16 : FP 7 16 true (.array .int) := ⟨RX7, TX7, 67, tyX7, rfl, tyX7_ok, nmX7, rfl, by decide +kernel⟩
theorem fp7_17 : FP 7 17 true (.array .int) := ⟨RX7, TX7, 67, tyX7, rfl, tyX7_ok, nmX7, rfl, by decide +kernel⟩
theorem fp7_18 : FP 7 18 true (.array .int) := ⟨RX7, TX7, 67, tyX7, rfl, tyX7_ok, nmX7, rfl, by decide +kernel⟩
theorem fp7_19 : FP 7 19 true (.array .int) := ⟨RX7, TX7, 67, tyX7, rfl, tyX7_ok, nmX7, rfl, by decide +kernel⟩
theorem fp7_20 : FP 7 20 true (.array .int) := ⟨RX7, TX7, 67, tyX7, rfl, tyX7_ok, nmX7, rfl, by decide +kernel⟩
theorem fp7_21 : FP 7 21 false .int := ⟨RX7, TX7, 67, tyX7, rfl, tyX7_ok, nmX7, rfl, by decide +kernel⟩
theorem fp7_22 : FP 7 22 false .int := ⟨RX7, TX7, 67, tyX7, rfl, tyX7_ok, nmX7, rfl, by decide +kernel⟩
theorem fp7_23 : FP 7 23 false .int := ⟨RX7, TX7, 67, tyX7, rfl, tyX7_ok, nmX7, rfl, by decide +kernel⟩
theorem fp7_24 : FP 7 24 true (.array .boolean) := ⟨RX7, TX7, 67, tyX7, rfl, tyX7_ok, nmX7, rfl, by decide +kernel⟩
theorem fp7_25 : FP 7 25 false .int := ⟨RX7, TX7, 67, tyX7, rfl, tyX7_ok, nmX7, rfl, by decide +kernel⟩
theorem fp7_26 : FP 7 26 true (.array .int) := ⟨RX7, TX7, 67, tyX7, rfl, tyX7_ok, nmX7, rfl, by decide +kernel⟩
theorem fp7_27 : FP 7 27 true (.array .int) := ⟨RX7, TX7, 67, tyX7, rfl, tyX7_ok, nmX7, rfl, by decide +kernel⟩
theorem fp7_28 : FP 7 28 true (.array .int) := ⟨RX7, TX7, 67, tyX7, rfl, tyX7_ok, nmX7, rfl, by decide +kernel⟩
theorem fp7_29 : FP 7 29 true (.array .int) := ⟨RX7, TX7, 67, tyX7, rfl, tyX7_ok, nmX7, rfl, by decide +kernel⟩
theorem fp7_30 : FP 7 30 true (.array .int) := ⟨RX7, TX7, 67, tyX7, rfl, tyX7_ok, nmX7, rfl, by decide +kernel⟩
theorem fp7_31 : FP 7 31 true (.array .int) := ⟨RX7, TX7, 67, tyX7, rfl, tyX7_ok, nmX7, rfl, by decide +kernel⟩
theorem fp7_32 : FP 7 32 true (.array .int) := ⟨RX7, TX7, 67, tyX7, rfl, tyX7_ok, nmX7, rfl, by decide +kernel⟩
theorem fp7_33 : FP 7 33 true (.array .int) := ⟨RX7, TX7, 67, tyX7, rfl, tyX7_ok, nmX7, rfl, by decide +kernel⟩
theorem fp7_34 : FP 7 34 true (.array .int) := ⟨RX7, TX7, 67, tyX7, rfl, tyX7_ok, nmX7, rfl, by decide +kernel⟩
theorem fp7_35 : FP 7 35 true (.array .int) := ⟨RX7, TX7, 67, tyX7, rfl, tyX7_ok, nmX7, rfl, by decide +kernel⟩
theorem fp7_36 : FP 7 36 true (.array .int) := ⟨RX7, TX7, 67, tyX7, rfl, tyX7_ok, nmX7, rfl, by decide +kernel⟩
theorem fp7_37 : FP 7 37 true (.array .int) := ⟨RX7, TX7, 67, tyX7, rfl, tyX7_ok, nmX7, rfl, by decide +kernel⟩
theorem fp7_38 : FP 7 38 true (.array .int) := ⟨RX7, TX7, 67, tyX7, rfl, tyX7_ok, nmX7, rfl, by decide +kernel⟩
theorem fp7_39 : FP 7 39 false .int := ⟨RX7, TX7, 67, tyX7, rfl, tyX7_ok, nmX7, rfl, by decide +kernel⟩
theorem fp7_40 : FP 7 40 true (.array .int) := ⟨RX7, TX7, 67, tyX7, rfl, tyX7_ok, nmX7, rfl, by decide +kernel⟩
theorem fp7_41 : FP 7 41 true (.array .int) := ⟨RX7, TX7, 67, tyX7, rfl, tyX7_ok, nmX7, rfl, by decide +kernel⟩
theorem fp7_42 : FP 7 42 true (.array .int) := ⟨RX7, TX7, 67, tyX7, rfl, tyX7_ok, nmX7, rfl, by decide +kernel⟩
theorem fp7_43 : FP 7 43 true (.array .int) := ⟨RX7, TX7, 67, tyX7, rfl, tyX7_ok, nmX7, rfl, by decide +kernel⟩
theorem fp7_44 : FP 7 44 true (.array .int) := ⟨RX7, TX7, 67, tyX7, rfl, tyX7_ok, nmX7, rfl, by decide +kernel⟩
theorem fp7_45 : FP 7 45 false .boolean := ⟨RX7, TX7, 67, tyX7, rfl, tyX7_ok, nmX7, rfl, by decide +kernel⟩
theorem fp7_46 : FP 7 46 false .int := ⟨RX7, TX7, 67, tyX7, rfl, tyX7_ok, nmX7, rfl, by decide +kernel⟩
theorem fp7_47 : FP 7 47 false .int := ⟨RX7, TX7, 67, tyX7, rfl, tyX7_ok, nmX7, rfl, by decide +kernel⟩
theorem fp7_48 : FP 7 48 false .int := ⟨RX7, TX7, 67, tyX7, rfl, tyX7_ok, nmX7, rfl, by decide +kernel⟩
theorem fp7_49 : FP 7 49 false .int := ⟨RX7, TX7, 67, tyX7, rfl, tyX7_ok, nmX7, rfl, by decide +kernel⟩
theorem fp7_50 : FP 7 50 false .int := ⟨RX7, TX7, 67, tyX7, rfl, tyX7_ok, nmX7, rfl, by decide +kernel⟩
theorem fp7_51 : FP 7 51 false .int := ⟨RX7, TX7, 67, tyX7, rfl, tyX7_ok, nmX7, rfl, by decide +kernel⟩
theorem fp7_52 : FP 7 52 true (.array .int) := ⟨RX7, TX7, 67, tyX7, rfl, tyX7_ok, nmX7, rfl, by decide +kernel⟩
theorem fp7_53 : FP 7 53 true (.array .int) := ⟨RX7, TX7, 67, tyX7, rfl, tyX7_ok, nmX7, rfl, by decide +kernel⟩
theorem fp7_54 : FP 7 54 true (.array .int) := ⟨RX7, TX7, 67, tyX7, rfl, tyX7_ok, nmX7, rfl, by decide +kernel⟩
theorem fp7_55 : FP 7 55 true (.array .int) := ⟨RX7, TX7, 67, tyX7, rfl, tyX7_ok, nmX7, rfl, by decide +kernel⟩
theorem fp7_56 : FP 7 56 true (.array .int) := ⟨RX7, TX7, 67, tyX7, rfl, tyX7_ok, nmX7, rfl, by decide +kernel⟩
theorem fp7_57 : FP 7 57 true (.array .int) := ⟨RX7, TX7, 67, tyX7, rfl, tyX7_ok, nmX7, rfl, by decide +kernel⟩
theorem fp7_58 : FP 7 58 true (.array .int) := ⟨RX7, TX7, 67, tyX7, rfl, tyX7_ok, nmX7, rfl, by decide +kernel⟩
theorem fp7_59 : FP 7 59 true (.array .int) := ⟨RX7, TX7, 67, tyX7, rfl, tyX7_ok, nmX7, rfl, by decide +kernel⟩
theorem fp7_60 : FP 7 60 true (.array .int) := ⟨RX7, TX7, 67, tyX7, rfl, tyX7_ok, nmX7, rfl, by decide +kernel⟩
theorem fp7_61 : FP 7 61 false .int := ⟨RX7, TX7, 67, tyX7, rfl, tyX7_ok, nmX7, rfl, by decide +kernel⟩
theorem fp7_62 : FP 7 62 true (.array .int) := ⟨RX7, TX7, 67, tyX7, rfl, tyX7_ok, nmX7, rfl, by decide +kernel⟩
theorem fp7_63 : FP 7 63 true (.array .int) := ⟨RX7, TX7, 67, tyX7, rfl, tyX7_ok, nmX7, rfl, by decide +kernel⟩
theorem fp7_64 : FP 7 64 true (.array .int) := ⟨RX7, TX7, 67, tyX7, rfl, tyX7_ok, nmX7, rfl, by decide +kernel⟩
theorem fp7_65 : FP 7 65 true (.array .long) := ⟨RX7, TX7, 67, tyX7, rfl, tyX7_ok, nmX7, rfl, by decide +kernel⟩
theorem fp7_66 : FP 7 66 true (.array .long) := ⟨RX7, TX7, 67, tyX7, rfl, tyX7_ok, nmX7, rfl, by decide +kernel⟩
theorem cnX6_11 : CN RX6 11 2 9 := ⟨RX2, TX2, tyX2, rfl, gw_95, gw_96, gw_72, inX2, tyX2_ok, fun j hj => match j, hj with
  | 0, _ => rfl
  | 1, _ => rfl
  | 2, _ => rfl
  | 3, _ => rfl
  | 4, _ => rfl
  | 5, _ => rfl
  | 6, _ => rfl
  | 7, _ => rfl
  | 8, _ => rfl
  | j + 9, h => absurd h (by omega)⟩
theorem cnX6_13 : CN RX6 13 4 2 := ⟨RX4, TX4, tyX4, rfl, gw_97, gw_98, gw_73, inX4, tyX4_ok, fun j hj => match j, hj with
  | 0, _ => rfl
  | 1, _ => rfl
  | j + 2, h => absurd h (by omega)⟩
theorem cnX6_30 : CN RX6 30 5 10 := ⟨RX5, TX5, tyX5, rfl, gw_166, gw_167, gw_75, inX5, tyX5_ok, fun j hj => match j, hj with
  | 0, _ => rfl
  | 1, _ => rfl
  | 2, _ => rfl
  | 3, _ => rfl
  | 4, _ => rfl
  | 5, _ => rfl
  | 6, _ => rfl
  | 7, _ => rfl
  | 8, _ => rfl
  | 9, _ => rfl
  | j + 10, h => absurd h (by omega)⟩
theorem cnX6_39 : CN RX6 39 0 5 := ⟨RX0, TX0, tyX0, rfl, gw_212, gw_213, gw_76, inX0, tyX0_ok, fun j hj => match j, hj with
  | 0, _ => rfl
  | 1, _ => rfl
  | 2, _ => rfl
  | 3, _ => rfl
  | 4, _ => rfl
  | j + 5, h => absurd h (by omega)⟩
theorem cnX6_50 : CN RX6 50 3 3 := ⟨RX3, TX3, tyX3, rfl, gw_236, gw_238, gw_77, inX3, tyX3_ok, fun j hj => match j, hj with
  | 0, _ => rfl
  | 1, _ => rfl
  | 2, _ => rfl
  | j + 3, h => absurd h (by omega)⟩
theorem cnX6_74 : CN RX6 74 1 5 := ⟨RX1, TX1, tyX1, rfl, gw_304, gw_305, gw_79, inX1, tyX1_ok, fun j hj => match j, hj with
  | 0, _ => rfl
  | 1, _ => rfl
  | 2, _ => rfl
  | 3, _ => rfl
  | 4, _ => rfl
  | j + 5, h => absurd h (by omega)⟩
theorem cnX1_15 : CN RX1 15 4 2 := ⟨RX4, TX4, tyX4, rfl, gw_310, gw_98, gw_73, inX4, tyX4_ok, fun j hj => match j, hj with
  | 0, _ => rfl
  | 1, _ => rfl
  | j + 2, h => absurd h (by omega)⟩
theorem cnL_7 : CN RL 7 6 9 := ⟨RX6, TX6, tyX6, rfl, gw_87, gw_88, gw_71, inX6, tyX6_ok, fun j hj => match j, hj with
  | 0, _ => rfl
  | 1, _ => rfl
  | 2, _ => rfl
  | 3, _ => rfl
  | 4, _ => rfl
  | 5, _ => rfl
  | 6, _ => rfl
  | 7, _ => rfl
  | 8, _ => rfl
  | j + 9, h => absurd h (by omega)⟩
theorem cnL_10 : CN RL 10 7 67 := ⟨RX7, TX7, tyX7, rfl, gw_747, gw_748, gw_78, inX7, tyX7_ok, fun j hj => match j, hj with
  | 0, _ => rfl
  | 1, _ => rfl
  | 2, _ => rfl
  | 3, _ => rfl
  | 4, _ => rfl
  | 5, _ => rfl
  | 6, _ => rfl
  | 7, _ => rfl
  | 8, _ => rfl
  | 9, _ => rfl
  | 10, _ => rfl
  | 11, _ => rfl
  | 12, _ => rfl
  | 13, _ => rfl
  | 14, _ => rfl
  | 15, _ => rfl
  | 16, _ => rfl
  | 17, _ => rfl
  | 18, _ => rfl
  | 19, _ => rfl
  | 20, _ => rfl
  | 21, _ => rfl
  | 22, _ => rfl
  | 23, _ => rfl
  | 24, _ => rfl
  | 25, _ => rfl
  | 26, _ => rfl
  | 27, _ => rfl
  | 28, _ => rfl
  | 29, _ => rfl
  | 30, _ => rfl
  | 31, _ => rfl
  | 32, _ => rfl
  | 33, _ => rfl
  | 34, _ => rfl
  | 35, _ => rfl
  | 36, _ => rfl
  | 37, _ => rfl
  | 38, _ => rfl
  | 39, _ => rfl
  | 40, _ => rfl
  | 41, _ => rfl
  | 42, _ => rfl
  | 43, _ => rfl
  | 44, _ => rfl
  | 45, _ => rfl
  | 46, _ => rfl
  | 47, _ => rfl
  | 48, _ => rfl
  | 49, _ => rfl
  | 50, _ => rfl
  | 51, _ => rfl
  | 52, _ => rfl
  | 53, _ => rfl
  | 54, _ => rfl
  | 55, _ => rfl
  | 56, _ => rfl
  | 57, _ => rfl
  | 58, _ => rfl
  | 59, _ => rfl
  | 60, _ => rfl
  | 61, _ => rfl
  | 62, _ => rfl
  | 63, _ => rfl
  | 64, _ => rfl
  | 65, _ => rfl
  | 66, _ => rfl
  | j + 67, h => absurd h (by omega)⟩
theorem cwX0_init : Cond.code yX0_init cX0_init 1 none ∈ lw_good := gw_216
theorem cwX0_began : Cond.code yX0_began cX0_began 2 none ∈ lw_good := gw_693
theorem cwX0_done : Cond.code yX0_done cX0_done 3 (some .int) ∈ lw_good := gw_685
theorem cwX0_lets : Cond.code yX0_lets cX0_lets 3 (some .int) ∈ lw_good := gw_689
theorem cwX0_standAt : Cond.code yX0_standAt cX0_standAt 3 none ∈ lw_good := gw_681
theorem cwX0_takes : Cond.code yX0_takes cX0_takes 3 (some .int) ∈ lw_good := gw_697
theorem cwX0_tells : Cond.code yX0_tells cX0_tells 3 (some .int) ∈ lw_good := gw_701
theorem cwX1_init : Cond.code yX1_init cX1_init 3 none ∈ lw_good := gw_308
theorem cwX1_both : Cond.code yX1_both cX1_both 6 (some (.array .boolean)) ∈ lw_good := gw_426
theorem cwX1_clause : Cond.code yX1_clause cX1_clause 4 none ∈ lw_good := gw_340
theorem cwX1_either : Cond.code yX1_either cX1_either 6 (some (.array .boolean)) ∈ lw_good := gw_422
theorem cwX1_ending : Cond.code yX1_ending cX1_ending 4 (some .int) ∈ lw_good := gw_357
theorem cwX1_expect : Cond.code yX1_expect cX1_expect 2 none ∈ lw_good := gw_409
theorem cwX1_factor : Cond.code yX1_factor cX1_factor 4 (some (.array .boolean)) ∈ lw_good := gw_430
theorem cwX1_figure : Cond.code yX1_figure cX1_figure 3 (some .int) ∈ lw_good := gw_445
theorem cwX1_isValley : Cond.code yX1_isValley cX1_isValley 2 (some .boolean) ∈ lw_good := gw_336
theorem cwX1_next : Cond.code yX1_next cX1_next 1 (some .int) ∈ lw_good := gw_352
theorem cwX1_number : Cond.code yX1_number cX1_number 3 (some .int) ∈ lw_good := gw_417
theorem cwX1_oneOf : Cond.code yX1_oneOf cX1_oneOf 5 (some .int) ∈ lw_good := gw_434
theorem cwX1_passes : Cond.code yX1_passes cX1_passes 2 (some .boolean) ∈ lw_good := gw_348
theorem cwX1_whereHolds : Cond.code yX1_whereHolds cX1_whereHolds 6 (some (.array .boolean)) ∈ lw_good := gw_437
theorem cwX1_word : Cond.code yX1_word cX1_word 1 (some .int) ∈ lw_good := gw_344
theorem cwX2_init : Cond.code yX2_init cX2_init 2 none ∈ lw_good := gw_121
theorem cwX2_become : Cond.code yX2_become cX2_become 2 none ∈ lw_good := gw_667
theorem cwX2_isPlace : Cond.code yX2_isPlace cX2_isPlace 2 (some .boolean) ∈ lw_good := gw_484
theorem cwX2_isWant : Cond.code yX2_isWant cX2_isWant 2 (some .boolean) ∈ lw_good := gw_546
theorem cwX2_melting : Cond.code yX2_melting cX2_melting 4 (some .int) ∈ lw_good := gw_465
theorem cwX3_init : Cond.code yX3_init cX3_init 1 none ∈ lw_good := gw_241
theorem cwX3_asItem : Cond.code yX3_asItem cX3_asItem 3 (some .long) ∈ lw_good := gw_738
theorem cwX3_become : Cond.code yX3_become cX3_become 3 none ∈ lw_good := gw_726
theorem cwX4_init : Cond.code yX4_init cX4_init 1 none ∈ lw_good := gw_101
theorem cwX4_melt : Cond.code yX4_melt cX4_melt 4 none ∈ lw_good := gw_441
theorem cwX4_tell : Cond.code yX4_tell cX4_tell 4 none ∈ lw_good := gw_449
theorem cwX5_init : Cond.code yX5_init cX5_init 2 none ∈ lw_good := gw_170
theorem cwX5_again : Cond.code yX5_again cX5_again 3 (some .int) ∈ lw_good := gw_511
theorem cwX5_arriving : Cond.code yX5_arriving cX5_arriving 3 (some .int) ∈ lw_good := gw_527
theorem cwX5_come : Cond.code yX5_come cX5_come 7 none ∈ lw_good := gw_516
theorem cwX5_going : Cond.code yX5_going cX5_going 3 (some .int) ∈ lw_good := gw_521
theorem cwX5_inAllPlaces : Cond.code yX5_inAllPlaces cX5_inAllPlaces 4 (some .int) ∈ lw_good := gw_565
theorem cwX5_inPlace : Cond.code yX5_inPlace cX5_inPlace 3 (some .int) ∈ lw_good := gw_569
theorem cwX5_load : Cond.code yX5_load cX5_load 1 none ∈ lw_good := gw_492
theorem cwX5_meltUnder : Cond.code yX5_meltUnder cX5_meltUnder 4 none ∈ lw_good := gw_506
theorem cwX5_pass : Cond.code yX5_pass cX5_pass 8 none ∈ lw_good := gw_531
theorem cwX5_rows : Cond.code yX5_rows cX5_rows 2 (some (.array (.array .int))) ∈ lw_good := gw_554
theorem cwX5_serve : Cond.code yX5_serve cX5_serve 7 (some .int) ∈ lw_good := gw_542
theorem cwX5_servedBefore : Cond.code yX5_servedBefore cX5_servedBefore 4 (some .int) ∈ lw_good := gw_550
theorem cwX5_settle : Cond.code yX5_settle cX5_settle 1 (some .int) ∈ lw_good := gw_488
theorem cwX5_takes : Cond.code yX5_takes cX5_takes 8 (some .int) ∈ lw_good := gw_535
theorem cwX5_utmost : Cond.code yX5_utmost cX5_utmost 6 (some .int) ∈ lw_good := gw_592
theorem cwX5_worthWithout : Cond.code yX5_worthWithout cX5_worthWithout 3 (some .int) ∈ lw_good := gw_646
theorem cwX6_init : Cond.code yX6_init cX6_init 2 none ∈ lw_good := gw_91
theorem cwX6_act : Cond.code yX6_act cX6_act 4 (some .int) ∈ lw_good := gw_677
theorem cwX6_all : Cond.code yX6_all cX6_all 2 (some .int) ∈ lw_good := gw_558
theorem cwX6_best : Cond.code yX6_best cX6_best 11 (some .int) ∈ lw_good := gw_588
theorem cwX6_copy : Cond.code yX6_copy cX6_copy 2 none ∈ lw_good := gw_498
theorem cwX6_copyRows : Cond.code yX6_copyRows cX6_copyRows 3 none ∈ lw_good := gw_495
theorem cwX6_count : Cond.code yX6_count cX6_count 2 (some .int) ∈ lw_good := gw_718
theorem cwX6_day : Cond.code yX6_day cX6_day 2 (some .int) ∈ lw_good := gw_650
theorem cwX6_divisorWithHundred : Cond.code yX6_divisorWithHundred cX6_divisorWithHundred 2 (some .int) ∈ lw_good := gw_624
theorem cwX6_feed : Cond.code yX6_feed cX6_feed 4 (some .int) ∈ lw_good := gw_299
theorem cwX6_gate : Cond.code yX6_gate cX6_gate 7 (some .int) ∈ lw_good := gw_471
theorem cwX6_image : Cond.code yX6_image cX6_image 1 (some .int) ∈ lw_good := gw_663
theorem cwX6_isOrUnder : Cond.code yX6_isOrUnder cX6_isOrUnder 4 (some .boolean) ∈ lw_good := gw_712
theorem cwX6_isUnder : Cond.code yX6_isUnder cX6_isUnder 2 (some .boolean) ∈ lw_good := gw_295
theorem cwX6_item : Cond.code yX6_item cX6_item 6 (some .int) ∈ lw_good := gw_734
theorem cwX6_judge : Cond.code yX6_judge cX6_judge 8 (some .int) ∈ lw_good := gw_654
theorem cwX6_mean : Cond.code yX6_mean cX6_mean 7 (some .long) ∈ lw_good := gw_615
theorem cwX6_melts : Cond.code yX6_melts cX6_melts 2 (some .int) ∈ lw_good := gw_461
theorem cwX6_odds : Cond.code yX6_odds cX6_odds 3 (some .int) ∈ lw_good := gw_611
theorem cwX6_of : Cond.code yX6_of cX6_of 3 (some .int) ∈ lw_good := gw_476
theorem cwX6_part : Cond.code yX6_part cX6_part 8 (some .int) ∈ lw_good := gw_604
theorem cwX6_places : Cond.code yX6_places cX6_places 3 (some .int) ∈ lw_good := gw_288
theorem cwX6_pond : Cond.code yX6_pond cX6_pond 6 (some .int) ∈ lw_good := gw_628
theorem cwX6_price : Cond.code yX6_price cX6_price 3 (some .int) ∈ lw_good := gw_600
theorem cwX6_read : Cond.code yX6_read cX6_read 4 (some .long) ∈ lw_good := gw_742
theorem cwX6_shift : Cond.code yX6_shift cX6_shift 8 (some .int) ∈ lw_good := gw_746
theorem cwX6_sky : Cond.code yX6_sky cX6_sky 4 (some .int) ∈ lw_good := gw_292
theorem cwX6_span : Cond.code yX6_span cX6_span 4 (some .int) ∈ lw_good := gw_595
theorem cwX6_spare : Cond.code yX6_spare cX6_spare 4 (some .int) ∈ lw_good := gw_636
theorem cwX6_sum : Cond.code yX6_sum cX6_sum 6 (some .int) ∈ lw_good := gw_561
theorem cwX6_taken : Cond.code yX6_taken cX6_taken 4 (some .int) ∈ lw_good := gw_709
theorem cwX6_tape : Cond.code yX6_tape cX6_tape 5 (some .int) ∈ lw_good := gw_722
theorem cwX6_tapeAt : Cond.code yX6_tapeAt cX6_tapeAt 2 (some (.object "MeltHours$Tape")) ∈ lw_good := gw_658
theorem cwX6_told : Cond.code yX6_told cX6_told 3 (some .int) ∈ lw_good := gw_457
theorem cwX6_trace : Cond.code yX6_trace cX6_trace 2 (some .int) ∈ lw_good := gw_705
theorem cwX6_underSkies : Cond.code yX6_underSkies cX6_underSkies 5 (some .int) ∈ lw_good := gw_620
theorem cwX6_undo : Cond.code yX6_undo cX6_undo 1 (some .int) ∈ lw_good := gw_673
theorem cwX6_valley : Cond.code yX6_valley cX6_valley 2 (some .int) ∈ lw_good := gw_303
theorem cwX6_want : Cond.code yX6_want cX6_want 6 (some .int) ∈ lw_good := gw_575
theorem cwX6_wants : Cond.code yX6_wants cX6_wants 3 (some .int) ∈ lw_good := gw_579
theorem cwX6_water : Cond.code yX6_water cX6_water 4 (some .int) ∈ lw_good := gw_480
theorem cwX6_worth : Cond.code yX6_worth cX6_worth 1 (some .int) ∈ lw_good := gw_584
theorem cwX6_wrong : Cond.code yX6_wrong cX6_wrong 4 (some .int) ∈ lw_good := gw_632
theorem cwX7_init : Cond.code yX7_init cX7_init 1 none ∈ lw_good := gw_751
theorem cwX7_act : Cond.code yX7_act cX7_act 4 (some .int) ∈ lw_good := gw_1218
theorem cwX7_all : Cond.code yX7_all cX7_all 4 (some .int) ∈ lw_good := gw_1124
theorem cwX7_asIs : Cond.code yX7_asIs cX7_asIs 2 none ∈ lw_good := gw_1099
theorem cwX7_behind : Cond.code yX7_behind cX7_behind 1 (some .int) ∈ lw_good := gw_1063
theorem cwX7_best : Cond.code yX7_best cX7_best 10 (some .int) ∈ lw_good := gw_1152
theorem cwX7_body : Cond.code yX7_body cX7_body 2 none ∈ lw_good := gw_1226
theorem cwX7_clockTakes : Cond.code yX7_clockTakes cX7_clockTakes 3 (some .int) ∈ lw_good := gw_1238
theorem cwX7_copy : Cond.code yX7_copy cX7_copy 4 none ∈ lw_good := gw_1210
theorem cwX7_count : Cond.code yX7_count cX7_count 2 (some .int) ∈ lw_good := gw_1262
theorem cwX7_day : Cond.code yX7_day cX7_day 2 (some .int) ∈ lw_good := gw_1071
theorem cwX7_divisor : Cond.code yX7_divisor cX7_divisor 11 (some .long) ∈ lw_good := gw_1178
theorem cwX7_feed : Cond.code yX7_feed cX7_feed 4 (some .int) ∈ lw_good := gw_983
theorem cwX7_first : Cond.code yX7_first cX7_first 1 (some .int) ∈ lw_good := gw_1059
theorem cwX7_floods : Cond.code yX7_floods cX7_floods 3 (some .int) ∈ lw_good := gw_1128
theorem cwX7_gate : Cond.code yX7_gate cX7_gate 6 (some .int) ∈ lw_good := gw_970
theorem cwX7_go : Cond.code yX7_go cX7_go 8 none ∈ lw_good := gw_1104
theorem cwX7_goesText : Cond.code yX7_goesText cX7_goesText 3 (some .boolean) ∈ lw_good := gw_991
theorem cwX7_has : Cond.code yX7_has cX7_has 3 (some .boolean) ∈ lw_good := gw_1120
theorem cwX7_holds : Cond.code yX7_holds cX7_holds 9 (some .boolean) ∈ lw_good := gw_1087
theorem cwX7_image : Cond.code yX7_image cX7_image 1 (some .int) ∈ lw_good := gw_1206
theorem cwX7_in : Cond.code yX7_in cX7_in 4 (some .boolean) ∈ lw_good := gw_962
theorem cwX7_isDigit : Cond.code yX7_isDigit cX7_isDigit 1 (some .boolean) ∈ lw_good := gw_1027
theorem cwX7_isGate : Cond.code yX7_isGate cX7_isGate 2 (some .boolean) ∈ lw_good := gw_974
theorem cwX7_isHour : Cond.code yX7_isHour cX7_isHour 2 (some .boolean) ∈ lw_good := gw_1079
theorem cwX7_isPlace : Cond.code yX7_isPlace cX7_isPlace 2 (some .boolean) ∈ lw_good := gw_1095
theorem cwX7_isTape : Cond.code yX7_isTape cX7_isTape 2 (some .boolean) ∈ lw_good := gw_1202
theorem cwX7_item : Cond.code yX7_item cX7_item 5 (some .int) ∈ lw_good := gw_1270
theorem cwX7_judge : Cond.code yX7_judge cX7_judge 5 (some .int) ∈ lw_good := gw_1198
theorem cwX7_last : Cond.code yX7_last cX7_last 6 (some .int) ∈ lw_good := gw_1055
theorem cwX7_less : Cond.code yX7_less cX7_less 3 (some .int) ∈ lw_good := gw_1112
theorem cwX7_letsAct : Cond.code yX7_letsAct cX7_letsAct 3 (some .int) ∈ lw_good := gw_1222
theorem cwX7_mean : Cond.code yX7_mean cX7_mean 10 (some .long) ∈ lw_good := gw_1168
theorem cwX7_meltOf : Cond.code yX7_meltOf cX7_meltOf 5 (some .int) ∈ lw_good := gw_1083
theorem cwX7_melts : Cond.code yX7_melts cX7_melts 2 (some .int) ∈ lw_good := gw_1075
theorem cwX7_min : Cond.code yX7_min cX7_min 3 (some .int) ∈ lw_good := gw_1067
theorem cwX7_narrow : Cond.code yX7_narrow cX7_narrow 4 (some .long) ∈ lw_good := gw_1274
theorem cwX7_next : Cond.code yX7_next cX7_next 1 (some .int) ∈ lw_good := gw_1007
theorem cwX7_odds : Cond.code yX7_odds cX7_odds 3 (some .int) ∈ lw_good := gw_1164
theorem cwX7_oddsOf : Cond.code yX7_oddsOf cX7_oddsOf 2 (some .int) ∈ lw_good := gw_1173
theorem cwX7_of : Cond.code yX7_of cX7_of 3 (some .int) ∈ lw_good := gw_979
theorem cwX7_ones : Cond.code yX7_ones cX7_ones 4 (some .int) ∈ lw_good := gw_1194
theorem cwX7_part : Cond.code yX7_part cX7_part 8 (some .int) ∈ lw_good := gw_1160
theorem cwX7_places : Cond.code yX7_places cX7_places 3 (some .int) ∈ lw_good := gw_958
theorem cwX7_plainLets : Cond.code yX7_plainLets cX7_plainLets 3 (some .int) ∈ lw_good := gw_1230
theorem cwX7_plainTakes : Cond.code yX7_plainTakes cX7_plainTakes 3 (some .int) ∈ lw_good := gw_1242
theorem cwX7_plainTells : Cond.code yX7_plainTells cX7_plainTells 3 (some .int) ∈ lw_good := gw_1250
theorem cwX7_pond : Cond.code yX7_pond cX7_pond 6 (some .int) ∈ lw_good := gw_1182
theorem cwX7_price : Cond.code yX7_price cX7_price 3 (some .int) ∈ lw_good := gw_1156
theorem cwX7_put : Cond.code yX7_put cX7_put 2 none ∈ lw_good := gw_1039
theorem cwX7_read : Cond.code yX7_read cX7_read 3 (some .long) ∈ lw_good := gw_1278
theorem cwX7_second : Cond.code yX7_second cX7_second 1 (some .int) ∈ lw_good := gw_1003
theorem cwX7_serve : Cond.code yX7_serve cX7_serve 5 (some .int) ∈ lw_good := gw_1144
theorem cwX7_sets : Cond.code yX7_sets cX7_sets 5 none ∈ lw_good := gw_1108
theorem cwX7_settle : Cond.code yX7_settle cX7_settle 2 none ∈ lw_good := gw_1047
theorem cwX7_shift : Cond.code yX7_shift cX7_shift 7 (some .int) ∈ lw_good := gw_1282
theorem cwX7_sky : Cond.code yX7_sky cX7_sky 4 (some .int) ∈ lw_good := gw_966
theorem cwX7_spare : Cond.code yX7_spare cX7_spare 5 (some .int) ∈ lw_good := gw_1190
theorem cwX7_taken : Cond.code yX7_taken cX7_taken 4 (some .int) ∈ lw_good := gw_1258
theorem cwX7_takes : Cond.code yX7_takes cX7_takes 7 (some .int) ∈ lw_good := gw_1116
theorem cwX7_takesAct : Cond.code yX7_takesAct cX7_takesAct 4 (some .int) ∈ lw_good := gw_1234
theorem cwX7_takesClause : Cond.code yX7_takesClause cX7_takesClause 2 (some .boolean) ∈ lw_good := gw_995
theorem cwX7_takesE : Cond.code yX7_takesE cX7_takesE 4 (some .boolean) ∈ lw_good := gw_1031
theorem cwX7_takesHead : Cond.code yX7_takesHead cX7_takesHead 3 (some .boolean) ∈ lw_good := gw_999
theorem cwX7_takesNumber : Cond.code yX7_takesNumber cX7_takesNumber 2 (some .boolean) ∈ lw_good := gw_1023
theorem cwX7_takesSign : Cond.code yX7_takesSign cX7_takesSign 2 (some .boolean) ∈ lw_good := gw_1016
theorem cwX7_takesTest : Cond.code yX7_takesTest cX7_takesTest 3 (some .boolean) ∈ lw_good := gw_1035
theorem cwX7_takesWord : Cond.code yX7_takesWord cX7_takesWord 4 (some .boolean) ∈ lw_good := gw_1012
theorem cwX7_tape : Cond.code yX7_tape cX7_tape 5 (some .int) ∈ lw_good := gw_1266
theorem cwX7_tellsAct : Cond.code yX7_tellsAct cX7_tellsAct 4 (some .int) ∈ lw_good := gw_1246
theorem cwX7_told : Cond.code yX7_told cX7_told 3 (some .int) ∈ lw_good := gw_1051
theorem cwX7_trace : Cond.code yX7_trace cX7_trace 2 (some .int) ∈ lw_good := gw_1254
theorem cwX7_undo : Cond.code yX7_undo cX7_undo 1 (some .int) ∈ lw_good := gw_1214
theorem cwX7_valley : Cond.code yX7_valley cX7_valley 2 (some .int) ∈ lw_good := gw_987
theorem cwX7_want : Cond.code yX7_want cX7_want 5 (some .int) ∈ lw_good := gw_1132
theorem cwX7_wants : Cond.code yX7_wants cX7_wants 3 (some .int) ∈ lw_good := gw_1136
theorem cwX7_water : Cond.code yX7_water cX7_water 5 (some .int) ∈ lw_good := gw_1091
theorem cwX7_whole : Cond.code yX7_whole cX7_whole 1 none ∈ lw_good := gw_1043
theorem cwX7_worth : Cond.code yX7_worth cX7_worth 1 (some .int) ∈ lw_good := gw_1148
theorem cwX7_worthNow : Cond.code yX7_worthNow cX7_worthNow 1 (some .int) ∈ lw_good := gw_1140
theorem cwX7_wrong : Cond.code yX7_wrong cX7_wrong 3 (some .int) ∈ lw_good := gw_1186
theorem cwJ6_bitCount_0f7a4 : Cond.code yJ6_bitCount_0f7a4 cJ6_bitCount_0f7a4 1 (some .int) ∈ lw_good := gw_639
theorem cwJ9_max_7cf53 : Cond.code yJ9_max_7cf53 cJ9_max_7cf53 2 (some .int) ∈ lw_good := gw_538
theorem cwJ9_min_7cf53 : Cond.code yJ9_min_7cf53 cJ9_min_7cf53 2 (some .int) ∈ lw_good := gw_314
theorem cwJ7_fill_53178 : Cond.code yJ7_fill_53178 cJ7_fill_53178 4 none ∈ lw_good := gw_107
theorem cwJ7_fill_d0a16 : Cond.code yJ7_fill_d0a16 cJ7_fill_d0a16 5 none ∈ lw_good := gw_730
theorem cwd_of {y : MethodName} {cnt : Nat} (h1 : (y.cls ≠ "java/lang/invoke/MethodHandle" ∧ y.cls ≠ "java/lang/invoke/VarHandle")) (h2 : (parseMethodDescriptor y.desc).map (fun d => d.parameters.length) = some cnt) : cwd y cnt := ⟨h1, h2⟩
theorem clX6_15 : CLI RX6 15 yX4_init 0 := ⟨gw_99, gw_100, gw_73, ⟨by decide +kernel, by decide +kernel⟩, rfl⟩
theorem clX6_16 : CLI RX6 16 yX2_init 1 := ⟨gw_119, gw_120, gw_72, ⟨by decide +kernel, by decide +kernel⟩, rfl⟩
theorem clX6_32 : CLI RX6 32 yX5_init 1 := ⟨gw_168, gw_169, gw_75, ⟨by decide +kernel, by decide +kernel⟩, rfl⟩
theorem clX6_41 : CLIN RX6 41 yX0_init 0 := ⟨List.mem_of_getElem? (i := 0) rfl, gw_215, gw_76, ⟨by decide +kernel, by decide +kernel⟩, rfl⟩
theorem clX6_56 : CLIN RX6 56 yX3_init 0 := ⟨List.mem_of_getElem? (i := 1) rfl, gw_240, gw_77, ⟨by decide +kernel, by decide +kernel⟩, rfl⟩
theorem clX6_61 : CLS RX6 61 yX6_isUnder 2 := ⟨gw_293, gw_294, gw_71, ⟨by decide +kernel, by decide +kernel⟩⟩
theorem clX6_76 : CLI RX6 76 yX1_init 2 := ⟨gw_306, gw_307, gw_79, ⟨by decide +kernel, by decide +kernel⟩, rfl⟩
theorem clX6_79 : CLV RX6 79 yX1_isValley 0 := ⟨gw_333, gw_334, gw_335, gw_79, ⟨by decide +kernel, by decide +kernel⟩⟩
theorem clX6_91 : CLV RX6 91 yX2_melting 2 := ⟨gw_462, gw_463, gw_464, gw_72, ⟨by decide +kernel, by decide +kernel⟩⟩
theorem clX6_99 : CLV RX6 99 yX2_isPlace 1 := ⟨gw_481, gw_482, gw_483, gw_72, ⟨by decide +kernel, by decide +kernel⟩⟩
theorem clX6_103 : CLV RX6 103 yX5_settle 0 := ⟨gw_485, gw_486, gw_487, gw_75, ⟨by decide +kernel, by decide +kernel⟩⟩
theorem clX6_107 : CLV RX6 107 yX5_rows 1 := ⟨gw_551, gw_552, gw_553, gw_75, ⟨by decide +kernel, by decide +kernel⟩⟩
theorem clX6_114 : CLS RX6 114 yX6_sum 1 := ⟨gw_559, gw_560, gw_71, ⟨by decide +kernel, by decide +kernel⟩⟩
theorem clX6_121 : CLV RX6 121 yX5_inAllPlaces 1 := ⟨gw_562, gw_563, gw_564, gw_75, ⟨by decide +kernel, by decide +kernel⟩⟩
theorem clX6_131 : CLV RX6 131 yX5_inPlace 2 := ⟨gw_571, gw_567, gw_568, gw_75, ⟨by decide +kernel, by decide +kernel⟩⟩
theorem clX6_141 : CLV RX6 141 yX2_isWant 1 := ⟨gw_580, gw_544, gw_545, gw_72, ⟨by decide +kernel, by decide +kernel⟩⟩
theorem clX6_147 : CLV RX6 147 yX5_utmost 1 := ⟨gw_589, gw_590, gw_591, gw_75, ⟨by decide +kernel, by decide +kernel⟩⟩
theorem clX6_152 : CLS RX6 152 yX6_span 2 := ⟨gw_593, gw_594, gw_71, ⟨by decide +kernel, by decide +kernel⟩⟩
theorem clX6_155 : CLV RX6 155 yX5_again 1 := ⟨gw_596, gw_509, gw_510, gw_75, ⟨by decide +kernel, by decide +kernel⟩⟩
theorem clX6_158 : CLV RX6 158 yX5_load 0 := ⟨gw_605, gw_490, gw_491, gw_75, ⟨by decide +kernel, by decide +kernel⟩⟩
theorem clX6_161 : CLV RX6 161 yX5_going 2 := ⟨gw_606, gw_519, gw_520, gw_75, ⟨by decide +kernel, by decide +kernel⟩⟩
theorem clX6_164 : CLV RX6 164 yX5_arriving 2 := ⟨gw_607, gw_525, gw_526, gw_75, ⟨by decide +kernel, by decide +kernel⟩⟩
theorem clX6_173 : CLV RX6 173 yX6_underSkies 3 := ⟨gw_617, gw_619, gw_17, gw_71, ⟨by decide +kernel, by decide +kernel⟩⟩
theorem clX6_177 : CLS RX6 177 yX6_divisorWithHundred 1 := ⟨gw_622, gw_623, gw_71, ⟨by decide +kernel, by decide +kernel⟩⟩
theorem clX6_180 : CLS RX6 180 yJ6_bitCount_0f7a4 1 := ⟨gw_637, gw_638, gw_86, ⟨by decide +kernel, by decide +kernel⟩⟩
theorem clX6_185 : CLV RX6 185 yX5_worthWithout 1 := ⟨gw_643, gw_644, gw_645, gw_75, ⟨by decide +kernel, by decide +kernel⟩⟩
theorem clX6_194 : CLV RX6 194 yX6_tapeAt 1 := ⟨gw_655, gw_657, gw_18, gw_71, ⟨by decide +kernel, by decide +kernel⟩⟩
theorem clX6_207 : CLS RX6 207 yJ9_min_7cf53 2 := ⟨gw_499, gw_313, gw_80, ⟨by decide +kernel, by decide +kernel⟩⟩
theorem clX6_216 : CLS RX6 216 yJ9_max_7cf53 2 := ⟨gw_659, gw_537, gw_80, ⟨by decide +kernel, by decide +kernel⟩⟩
theorem clX6_219 : CLV RX6 219 yX2_become 1 := ⟨gw_664, gw_665, gw_666, gw_72, ⟨by decide +kernel, by decide +kernel⟩⟩
theorem clX6_229 : CLV RX6 229 yX0_standAt 2 := ⟨gw_678, gw_679, gw_680, gw_76, ⟨by decide +kernel, by decide +kernel⟩⟩
theorem clX6_233 : CLV RX6 233 yX0_done 2 := ⟨gw_682, gw_683, gw_684, gw_76, ⟨by decide +kernel, by decide +kernel⟩⟩
theorem clX6_239 : CLS RX6 239 yX6_isOrUnder 2 := ⟨gw_710, gw_711, gw_71, ⟨by decide +kernel, by decide +kernel⟩⟩
theorem clX6_242 : CLV RX6 242 yX3_become 2 := ⟨gw_723, gw_724, gw_725, gw_77, ⟨by decide +kernel, by decide +kernel⟩⟩
theorem clX6_245 : CLV RX6 245 yX3_asItem 1 := ⟨gw_735, gw_736, gw_737, gw_77, ⟨by decide +kernel, by decide +kernel⟩⟩
theorem clX6_255 : CLV RX6 255 yX5_meltUnder 2 := ⟨gw_621, gw_504, gw_505, gw_75, ⟨by decide +kernel, by decide +kernel⟩⟩
theorem clX6_261 : CLS RX6 261 yX6_copy 2 := ⟨gw_496, gw_497, gw_71, ⟨by decide +kernel, by decide +kernel⟩⟩
theorem clX0_25 : CLV RX0 25 yX0_lets 2 := ⟨gw_686, gw_688, gw_19, gw_76, ⟨by decide +kernel, by decide +kernel⟩⟩
theorem clX0_29 : CLV RX0 29 yX0_takes 2 := ⟨gw_694, gw_696, gw_21, gw_76, ⟨by decide +kernel, by decide +kernel⟩⟩
theorem clX0_32 : CLV RX0 32 yX0_tells 2 := ⟨gw_698, gw_700, gw_22, gw_76, ⟨by decide +kernel, by decide +kernel⟩⟩
theorem clX0_35 : CLV RX0 35 yX0_began 1 := ⟨gw_690, gw_692, gw_20, gw_76, ⟨by decide +kernel, by decide +kernel⟩⟩
theorem clX1_17 : CLI RX1 17 yX4_init 0 := ⟨gw_311, gw_100, gw_73, ⟨by decide +kernel, by decide +kernel⟩, rfl⟩
theorem clX1_26 : CLS RX1 26 yJ9_min_7cf53 2 := ⟨gw_312, gw_313, gw_80, ⟨by decide +kernel, by decide +kernel⟩⟩
theorem clX1_36 : CLV RX1 36 yX1_clause 0 := ⟨gw_337, gw_339, gw_0, gw_79, ⟨by decide +kernel, by decide +kernel⟩⟩
theorem clX1_39 : CLV RX1 39 yX1_passes 1 := ⟨gw_345, gw_347, gw_2, gw_79, ⟨by decide +kernel, by decide +kernel⟩⟩
theorem clX1_46 : CLV RX1 46 yX1_word 0 := ⟨gw_341, gw_343, gw_1, gw_79, ⟨by decide +kernel, by decide +kernel⟩⟩
theorem clX1_50 : CLV RX1 50 yX1_expect 1 := ⟨gw_406, gw_408, gw_5, gw_79, ⟨by decide +kernel, by decide +kernel⟩⟩
theorem clX1_54 : CLV RX1 54 yX1_number 0 := ⟨gw_414, gw_416, gw_6, gw_79, ⟨by decide +kernel, by decide +kernel⟩⟩
theorem clX1_57 : CLV RX1 57 yX1_either 1 := ⟨gw_419, gw_421, gw_7, gw_79, ⟨by decide +kernel, by decide +kernel⟩⟩
theorem clX1_61 : CLV RX1 61 yX4_melt 2 := ⟨gw_438, gw_439, gw_440, gw_73, ⟨by decide +kernel, by decide +kernel⟩⟩
theorem clX1_65 : CLV RX1 65 yX1_figure 1 := ⟨gw_442, gw_444, gw_11, gw_79, ⟨by decide +kernel, by decide +kernel⟩⟩
theorem clX1_69 : CLV RX1 69 yX4_tell 3 := ⟨gw_446, gw_447, gw_448, gw_73, ⟨by decide +kernel, by decide +kernel⟩⟩
theorem clX1_75 : CLV RX1 75 yX1_ending 2 := ⟨gw_354, gw_356, gw_4, gw_79, ⟨by decide +kernel, by decide +kernel⟩⟩
theorem clX1_87 : CLV RX1 87 yJ0_length_8abf5 0 := ⟨gw_358, gw_359, gw_360, gw_81, ⟨by decide +kernel, by decide +kernel⟩⟩
theorem clX1_91 : CLV RX1 91 yJ0_charAt_5068e 1 := ⟨gw_368, gw_369, gw_370, gw_81, ⟨by decide +kernel, by decide +kernel⟩⟩
theorem clX1_95 : CLV RX1 95 yX1_both 1 := ⟨gw_423, gw_425, gw_8, gw_79, ⟨by decide +kernel, by decide +kernel⟩⟩
theorem clX1_98 : CLV RX1 98 yX1_factor 1 := ⟨gw_427, gw_429, gw_9, gw_79, ⟨by decide +kernel, by decide +kernel⟩⟩
theorem clX1_101 : CLV RX1 101 yX1_oneOf 3 := ⟨gw_431, gw_433, gw_10, gw_79, ⟨by decide +kernel, by decide +kernel⟩⟩
theorem clX1_105 : CLS RX1 105 yX1_whereHolds 3 := ⟨gw_435, gw_436, gw_79, ⟨by decide +kernel, by decide +kernel⟩⟩
theorem clX1_109 : CLV RX1 109 yX1_next 0 := ⟨gw_349, gw_351, gw_3, gw_79, ⟨by decide +kernel, by decide +kernel⟩⟩
theorem clX1_112 : CLSN RX1 112 yX6_isUnder 2 := ⟨List.mem_of_getElem? (i := 2) rfl, gw_294, gw_71, ⟨by decide +kernel, by decide +kernel⟩⟩
theorem clX2_37 : CLSN RX2 37 yX6_copy 2 := ⟨List.mem_of_getElem? (i := 8) rfl, gw_497, gw_71, ⟨by decide +kernel, by decide +kernel⟩⟩
theorem clX2_41 : CLSN RX2 41 yX6_copyRows 2 := ⟨List.mem_of_getElem? (i := 9) rfl, gw_494, gw_71, ⟨by decide +kernel, by decide +kernel⟩⟩
theorem clX2_51 : CLSN RX2 51 yX6_isUnder 2 := ⟨List.mem_of_getElem? (i := 4) rfl, gw_294, gw_71, ⟨by decide +kernel, by decide +kernel⟩⟩
theorem clX2_55 : CLS RX2 55 yJ9_min_7cf53 2 := ⟨gw_466, gw_313, gw_80, ⟨by decide +kernel, by decide +kernel⟩⟩
theorem clX3_19 : CLS RX3 19 yJ9_min_7cf53 2 := ⟨gw_727, gw_313, gw_80, ⟨by decide +kernel, by decide +kernel⟩⟩
theorem clX3_28 : CLS RX3 28 yJ7_fill_d0a16 2 := ⟨gw_728, gw_729, gw_74, ⟨by decide +kernel, by decide +kernel⟩⟩
theorem clX4_20 : CLS RX4 20 yJ7_fill_53178 2 := ⟨gw_105, gw_106, gw_74, ⟨by decide +kernel, by decide +kernel⟩⟩
theorem clX4_26 : CLSN RX4 26 yX6_isUnder 2 := ⟨List.mem_of_getElem? (i := 3) rfl, gw_294, gw_71, ⟨by decide +kernel, by decide +kernel⟩⟩
theorem clX4_30 : CLS RX4 30 yJ9_min_7cf53 2 := ⟨gw_451, gw_313, gw_80, ⟨by decide +kernel, by decide +kernel⟩⟩
theorem clX5_54 : CLSN RX5 54 yX6_copyRows 2 := ⟨List.mem_of_getElem? (i := 5) rfl, gw_494, gw_71, ⟨by decide +kernel, by decide +kernel⟩⟩
theorem clX5_59 : CLV RX5 59 yX2_melting 2 := ⟨gw_507, gw_463, gw_464, gw_72, ⟨by decide +kernel, by decide +kernel⟩⟩
theorem clX5_63 : CLV RX5 63 yX5_load 0 := ⟨gw_489, gw_490, gw_491, gw_75, ⟨by decide +kernel, by decide +kernel⟩⟩
theorem clX5_69 : CLV RX5 69 yX5_meltUnder 2 := ⟨gw_503, gw_504, gw_505, gw_75, ⟨by decide +kernel, by decide +kernel⟩⟩
theorem clX5_73 : CLV RX5 73 yX5_again 1 := ⟨gw_508, gw_509, gw_510, gw_75, ⟨by decide +kernel, by decide +kernel⟩⟩
theorem clX5_77 : CLV RX5 77 yX2_isPlace 1 := ⟨gw_512, gw_482, gw_483, gw_72, ⟨by decide +kernel, by decide +kernel⟩⟩
theorem clX5_81 : CLV RX5 81 yX5_come 2 := ⟨gw_513, gw_515, gw_12, gw_75, ⟨by decide +kernel, by decide +kernel⟩⟩
theorem clX5_85 : CLV RX5 85 yX5_pass 1 := ⟨gw_528, gw_530, gw_13, gw_75, ⟨by decide +kernel, by decide +kernel⟩⟩
theorem clX5_89 : CLV RX5 89 yX5_serve 0 := ⟨gw_539, gw_541, gw_15, gw_75, ⟨by decide +kernel, by decide +kernel⟩⟩
theorem clX5_93 : CLS RX5 93 yJ9_min_7cf53 2 := ⟨gw_522, gw_313, gw_80, ⟨by decide +kernel, by decide +kernel⟩⟩
theorem clX5_98 : CLS RX5 98 yJ7_fill_53178 2 := ⟨gw_517, gw_106, gw_74, ⟨by decide +kernel, by decide +kernel⟩⟩
theorem clX5_104 : CLV RX5 104 yX5_going 2 := ⟨gw_518, gw_519, gw_520, gw_75, ⟨by decide +kernel, by decide +kernel⟩⟩
theorem clX5_107 : CLSN RX5 107 yX6_isUnder 2 := ⟨List.mem_of_getElem? (i := 6) rfl, gw_294, gw_71, ⟨by decide +kernel, by decide +kernel⟩⟩
theorem clX5_111 : CLV RX5 111 yX5_arriving 2 := ⟨gw_524, gw_525, gw_526, gw_75, ⟨by decide +kernel, by decide +kernel⟩⟩
theorem clX5_114 : CLV RX5 114 yX5_takes 4 := ⟨gw_532, gw_534, gw_14, gw_75, ⟨by decide +kernel, by decide +kernel⟩⟩
theorem clX5_118 : CLS RX5 118 yJ9_max_7cf53 2 := ⟨gw_536, gw_537, gw_80, ⟨by decide +kernel, by decide +kernel⟩⟩
theorem clX5_125 : CLV RX5 125 yX2_isWant 1 := ⟨gw_543, gw_544, gw_545, gw_72, ⟨by decide +kernel, by decide +kernel⟩⟩
theorem clX5_131 : CLV RX5 131 yX5_servedBefore 1 := ⟨gw_547, gw_549, gw_16, gw_75, ⟨by decide +kernel, by decide +kernel⟩⟩
theorem clX5_134 : CLV RX5 134 yX5_inPlace 2 := ⟨gw_566, gw_567, gw_568, gw_75, ⟨by decide +kernel, by decide +kernel⟩⟩
theorem clX5_138 : CLSN RX5 138 yX6_sum 1 := ⟨List.mem_of_getElem? (i := 7) rfl, gw_560, gw_71, ⟨by decide +kernel, by decide +kernel⟩⟩
theorem clL_9 : CLI RL 9 yX6_init 0 := ⟨gw_89, gw_90, gw_71, ⟨by decide +kernel, by decide +kernel⟩, rfl⟩
theorem clL_12 : CLI RL 12 yX7_init 0 := ⟨gw_749, gw_750, gw_78, ⟨by decide +kernel, by decide +kernel⟩, rfl⟩
theorem clL_13 : CLV RL 13 yX6_places 1 := ⟨gw_285, gw_286, gw_287, gw_71, ⟨by decide +kernel, by decide +kernel⟩⟩
theorem clL_17 : CLV RL 17 yX7_places 1 := ⟨gw_955, gw_956, gw_957, gw_78, ⟨by decide +kernel, by decide +kernel⟩⟩
theorem clL_18 : CLV RL 18 yX6_sky 2 := ⟨gw_289, gw_290, gw_291, gw_71, ⟨by decide +kernel, by decide +kernel⟩⟩
theorem clL_22 : CLV RL 22 yX7_sky 2 := ⟨gw_963, gw_964, gw_965, gw_78, ⟨by decide +kernel, by decide +kernel⟩⟩
theorem clL_23 : CLV RL 23 yX6_feed 2 := ⟨gw_296, gw_297, gw_298, gw_71, ⟨by decide +kernel, by decide +kernel⟩⟩
theorem clL_26 : CLV RL 26 yX7_feed 2 := ⟨gw_980, gw_981, gw_982, gw_78, ⟨by decide +kernel, by decide +kernel⟩⟩
theorem clL_27 : CLV RL 27 yX6_valley 0 := ⟨gw_300, gw_301, gw_302, gw_71, ⟨by decide +kernel, by decide +kernel⟩⟩
theorem clL_31 : CLV RL 31 yX7_valley 0 := ⟨gw_984, gw_985, gw_986, gw_78, ⟨by decide +kernel, by decide +kernel⟩⟩
theorem clL_32 : CLV RL 32 yX6_told 2 := ⟨gw_454, gw_455, gw_456, gw_71, ⟨by decide +kernel, by decide +kernel⟩⟩
theorem clL_35 : CLV RL 35 yX7_told 2 := ⟨gw_1048, gw_1049, gw_1050, gw_78, ⟨by decide +kernel, by decide +kernel⟩⟩
theorem clL_36 : CLV RL 36 yX6_melts 1 := ⟨gw_458, gw_459, gw_460, gw_71, ⟨by decide +kernel, by decide +kernel⟩⟩
theorem clL_39 : CLV RL 39 yX7_melts 1 := ⟨gw_1072, gw_1073, gw_1074, gw_78, ⟨by decide +kernel, by decide +kernel⟩⟩
theorem clL_40 : CLV RL 40 yX6_gate 4 := ⟨gw_468, gw_469, gw_470, gw_71, ⟨by decide +kernel, by decide +kernel⟩⟩
theorem clL_44 : CLV RL 44 yX7_gate 4 := ⟨gw_967, gw_968, gw_969, gw_78, ⟨by decide +kernel, by decide +kernel⟩⟩
theorem clL_45 : CLV RL 45 yX6_of 2 := ⟨gw_473, gw_474, gw_475, gw_71, ⟨by decide +kernel, by decide +kernel⟩⟩
theorem clL_48 : CLV RL 48 yX7_of 2 := ⟨gw_976, gw_977, gw_978, gw_78, ⟨by decide +kernel, by decide +kernel⟩⟩
theorem clL_49 : CLV RL 49 yX6_water 3 := ⟨gw_477, gw_478, gw_479, gw_71, ⟨by decide +kernel, by decide +kernel⟩⟩
theorem clL_53 : CLV RL 53 yX7_water 3 := ⟨gw_1088, gw_1089, gw_1090, gw_78, ⟨by decide +kernel, by decide +kernel⟩⟩
theorem clL_54 : CLV RL 54 yX6_all 1 := ⟨gw_555, gw_556, gw_557, gw_71, ⟨by decide +kernel, by decide +kernel⟩⟩
theorem clL_57 : CLV RL 57 yX7_all 1 := ⟨gw_1121, gw_1122, gw_1123, gw_78, ⟨by decide +kernel, by decide +kernel⟩⟩
theorem clL_58 : CLV RL 58 yX6_want 4 := ⟨gw_572, gw_573, gw_574, gw_71, ⟨by decide +kernel, by decide +kernel⟩⟩
theorem clL_61 : CLV RL 61 yX7_want 4 := ⟨gw_1129, gw_1130, gw_1131, gw_78, ⟨by decide +kernel, by decide +kernel⟩⟩
theorem clL_62 : CLV RL 62 yX6_wants 2 := ⟨gw_576, gw_577, gw_578, gw_71, ⟨by decide +kernel, by decide +kernel⟩⟩
theorem clL_65 : CLV RL 65 yX7_wants 2 := ⟨gw_1133, gw_1134, gw_1135, gw_78, ⟨by decide +kernel, by decide +kernel⟩⟩
theorem clL_66 : CLV RL 66 yX6_worth 0 := ⟨gw_581, gw_582, gw_583, gw_71, ⟨by decide +kernel, by decide +kernel⟩⟩
theorem clL_69 : CLV RL 69 yX7_worth 0 := ⟨gw_1145, gw_1146, gw_1147, gw_78, ⟨by decide +kernel, by decide +kernel⟩⟩
theorem clL_70 : CLV RL 70 yX6_best 2 := ⟨gw_585, gw_586, gw_587, gw_71, ⟨by decide +kernel, by decide +kernel⟩⟩
theorem clL_73 : CLV RL 73 yX7_best 2 := ⟨gw_1149, gw_1150, gw_1151, gw_78, ⟨by decide +kernel, by decide +kernel⟩⟩
theorem clL_74 : CLV RL 74 yX6_price 1 := ⟨gw_597, gw_598, gw_599, gw_71, ⟨by decide +kernel, by decide +kernel⟩⟩
theorem clL_77 : CLV RL 77 yX7_price 1 := ⟨gw_1153, gw_1154, gw_1155, gw_78, ⟨by decide +kernel, by decide +kernel⟩⟩
theorem clL_78 : CLV RL 78 yX6_part 4 := ⟨gw_601, gw_602, gw_603, gw_71, ⟨by decide +kernel, by decide +kernel⟩⟩
theorem clL_81 : CLV RL 81 yX7_part 4 := ⟨gw_1157, gw_1158, gw_1159, gw_78, ⟨by decide +kernel, by decide +kernel⟩⟩
theorem clL_82 : CLV RL 82 yX6_odds 2 := ⟨gw_608, gw_609, gw_610, gw_71, ⟨by decide +kernel, by decide +kernel⟩⟩
theorem clL_85 : CLV RL 85 yX7_odds 2 := ⟨gw_1161, gw_1162, gw_1163, gw_78, ⟨by decide +kernel, by decide +kernel⟩⟩
theorem clL_86 : CLV RL 86 yX6_mean 2 := ⟨gw_612, gw_613, gw_614, gw_71, ⟨by decide +kernel, by decide +kernel⟩⟩
theorem clL_90 : CLV RL 90 yX7_mean 2 := ⟨gw_1165, gw_1166, gw_1167, gw_78, ⟨by decide +kernel, by decide +kernel⟩⟩
theorem clL_91 : CLV RL 91 yX6_pond 1 := ⟨gw_625, gw_626, gw_627, gw_71, ⟨by decide +kernel, by decide +kernel⟩⟩
theorem clL_94 : CLV RL 94 yX7_pond 1 := ⟨gw_1179, gw_1180, gw_1181, gw_78, ⟨by decide +kernel, by decide +kernel⟩⟩
theorem clL_95 : CLV RL 95 yX6_wrong 0 := ⟨gw_629, gw_630, gw_631, gw_71, ⟨by decide +kernel, by decide +kernel⟩⟩
theorem clL_98 : CLV RL 98 yX7_wrong 0 := ⟨gw_1183, gw_1184, gw_1185, gw_78, ⟨by decide +kernel, by decide +kernel⟩⟩
theorem clL_99 : CLV RL 99 yX6_spare 0 := ⟨gw_633, gw_634, gw_635, gw_71, ⟨by decide +kernel, by decide +kernel⟩⟩
theorem clL_102 : CLV RL 102 yX7_spare 0 := ⟨gw_1187, gw_1188, gw_1189, gw_78, ⟨by decide +kernel, by decide +kernel⟩⟩
theorem clL_103 : CLV RL 103 yX6_day 1 := ⟨gw_647, gw_648, gw_649, gw_71, ⟨by decide +kernel, by decide +kernel⟩⟩
theorem clL_106 : CLV RL 106 yX7_day 1 := ⟨gw_1068, gw_1069, gw_1070, gw_78, ⟨by decide +kernel, by decide +kernel⟩⟩
theorem clL_107 : CLV RL 107 yX6_judge 3 := ⟨gw_651, gw_652, gw_653, gw_71, ⟨by decide +kernel, by decide +kernel⟩⟩
theorem clL_110 : CLV RL 110 yX7_judge 3 := ⟨gw_1195, gw_1196, gw_1197, gw_78, ⟨by decide +kernel, by decide +kernel⟩⟩
theorem clL_111 : CLV RL 111 yX6_image 0 := ⟨gw_660, gw_661, gw_662, gw_71, ⟨by decide +kernel, by decide +kernel⟩⟩
theorem clL_114 : CLV RL 114 yX7_image 0 := ⟨gw_1203, gw_1204, gw_1205, gw_78, ⟨by decide +kernel, by decide +kernel⟩⟩
theorem clL_115 : CLV RL 115 yX6_undo 0 := ⟨gw_670, gw_671, gw_672, gw_71, ⟨by decide +kernel, by decide +kernel⟩⟩
theorem clL_118 : CLV RL 118 yX7_undo 0 := ⟨gw_1211, gw_1212, gw_1213, gw_78, ⟨by decide +kernel, by decide +kernel⟩⟩
theorem clL_119 : CLV RL 119 yX6_act 3 := ⟨gw_674, gw_675, gw_676, gw_71, ⟨by decide +kernel, by decide +kernel⟩⟩
theorem clL_122 : CLV RL 122 yX7_act 3 := ⟨gw_1215, gw_1216, gw_1217, gw_78, ⟨by decide +kernel, by decide +kernel⟩⟩
theorem clL_123 : CLV RL 123 yX6_trace 1 := ⟨gw_702, gw_703, gw_704, gw_71, ⟨by decide +kernel, by decide +kernel⟩⟩
theorem clL_126 : CLV RL 126 yX7_trace 1 := ⟨gw_1251, gw_1252, gw_1253, gw_78, ⟨by decide +kernel, by decide +kernel⟩⟩
theorem clL_127 : CLV RL 127 yX6_taken 2 := ⟨gw_706, gw_707, gw_708, gw_71, ⟨by decide +kernel, by decide +kernel⟩⟩
theorem clL_130 : CLV RL 130 yX7_taken 2 := ⟨gw_1255, gw_1256, gw_1257, gw_78, ⟨by decide +kernel, by decide +kernel⟩⟩
theorem clL_131 : CLV RL 131 yX6_count 1 := ⟨gw_715, gw_716, gw_717, gw_71, ⟨by decide +kernel, by decide +kernel⟩⟩
theorem clL_134 : CLV RL 134 yX7_count 1 := ⟨gw_1259, gw_1260, gw_1261, gw_78, ⟨by decide +kernel, by decide +kernel⟩⟩
theorem clL_135 : CLV RL 135 yX6_tape 3 := ⟨gw_719, gw_720, gw_721, gw_71, ⟨by decide +kernel, by decide +kernel⟩⟩
theorem clL_138 : CLV RL 138 yX7_tape 3 := ⟨gw_1263, gw_1264, gw_1265, gw_78, ⟨by decide +kernel, by decide +kernel⟩⟩
theorem clL_141 : CLV RL 141 yX6_item 3 := ⟨gw_731, gw_732, gw_733, gw_71, ⟨by decide +kernel, by decide +kernel⟩⟩
theorem clL_145 : CLV RL 145 yX7_item 3 := ⟨gw_1267, gw_1268, gw_1269, gw_78, ⟨by decide +kernel, by decide +kernel⟩⟩
theorem clL_146 : CLV RL 146 yX6_read 2 := ⟨gw_739, gw_740, gw_741, gw_71, ⟨by decide +kernel, by decide +kernel⟩⟩
theorem clL_149 : CLV RL 149 yX7_read 2 := ⟨gw_1275, gw_1276, gw_1277, gw_78, ⟨by decide +kernel, by decide +kernel⟩⟩
theorem clL_150 : CLV RL 150 yX6_shift 5 := ⟨gw_743, gw_744, gw_745, gw_71, ⟨by decide +kernel, by decide +kernel⟩⟩
theorem clL_154 : CLV RL 154 yX7_shift 5 := ⟨gw_1279, gw_1280, gw_1281, gw_78, ⟨by decide +kernel, by decide +kernel⟩⟩
theorem clX7_215 : CLV RX7 215 yX7_in 3 := ⟨gw_959, gw_961, gw_23, gw_78, ⟨by decide +kernel, by decide +kernel⟩⟩
theorem clX7_219 : CLV RX7 219 yX7_isGate 1 := ⟨gw_971, gw_973, gw_24, gw_78, ⟨by decide +kernel, by decide +kernel⟩⟩
theorem clX7_224 : CLV RX7 224 yX7_next 0 := ⟨gw_1004, gw_1006, gw_29, gw_78, ⟨by decide +kernel, by decide +kernel⟩⟩
theorem clX7_228 : CLV RX7 228 yX7_takesSign 1 := ⟨gw_1013, gw_1015, gw_31, gw_78, ⟨by decide +kernel, by decide +kernel⟩⟩
theorem clX7_231 : CLV RX7 231 yX7_isDigit 0 := ⟨gw_1024, gw_1026, gw_33, gw_78, ⟨by decide +kernel, by decide +kernel⟩⟩
theorem clX7_235 : CLV RX7 235 yX7_put 1 := ⟨gw_1036, gw_1038, gw_36, gw_78, ⟨by decide +kernel, by decide +kernel⟩⟩
theorem clX7_239 : CLV RX7 239 yX7_takesNumber 0 := ⟨gw_1020, gw_1022, gw_32, gw_78, ⟨by decide +kernel, by decide +kernel⟩⟩
theorem clX7_242 : CLV RX7 242 yX7_whole 0 := ⟨gw_1040, gw_1042, gw_37, gw_78, ⟨by decide +kernel, by decide +kernel⟩⟩
theorem clX7_245 : CLV RX7 245 yX7_takesTest 0 := ⟨gw_1032, gw_1034, gw_35, gw_78, ⟨by decide +kernel, by decide +kernel⟩⟩
theorem clX7_248 : CLV RX7 248 yX7_settle 1 := ⟨gw_1044, gw_1046, gw_38, gw_78, ⟨by decide +kernel, by decide +kernel⟩⟩
theorem clX7_251 : CLV RX7 251 yX7_second 0 := ⟨gw_1000, gw_1002, gw_28, gw_78, ⟨by decide +kernel, by decide +kernel⟩⟩
theorem clX7_255 : CLV RX7 255 yX7_takesWord 2 := ⟨gw_1009, gw_1011, gw_30, gw_78, ⟨by decide +kernel, by decide +kernel⟩⟩
theorem clX7_262 : CLV RX7 262 yX7_takesHead 1 := ⟨gw_996, gw_998, gw_27, gw_78, ⟨by decide +kernel, by decide +kernel⟩⟩
theorem clX7_265 : CLV RX7 265 yX7_takesE 1 := ⟨gw_1028, gw_1030, gw_34, gw_78, ⟨by decide +kernel, by decide +kernel⟩⟩
theorem clX7_268 : CLV RX7 268 yX7_takesClause 1 := ⟨gw_992, gw_994, gw_26, gw_78, ⟨by decide +kernel, by decide +kernel⟩⟩
theorem clX7_271 : CLV RX7 271 yX7_goesText 1 := ⟨gw_988, gw_990, gw_25, gw_78, ⟨by decide +kernel, by decide +kernel⟩⟩
theorem clX7_274 : CLV RX7 274 yX7_first 0 := ⟨gw_1056, gw_1058, gw_40, gw_78, ⟨by decide +kernel, by decide +kernel⟩⟩
theorem clX7_277 : CLV RX7 277 yX7_behind 0 := ⟨gw_1060, gw_1062, gw_41, gw_78, ⟨by decide +kernel, by decide +kernel⟩⟩
theorem clX7_280 : CLV RX7 280 yX7_last 3 := ⟨gw_1052, gw_1054, gw_39, gw_78, ⟨by decide +kernel, by decide +kernel⟩⟩
theorem clX7_284 : CLV RX7 284 yX7_min 2 := ⟨gw_1064, gw_1066, gw_42, gw_78, ⟨by decide +kernel, by decide +kernel⟩⟩
theorem clX7_288 : CLV RX7 288 yX7_holds 3 := ⟨gw_1084, gw_1086, gw_45, gw_78, ⟨by decide +kernel, by decide +kernel⟩⟩
theorem clX7_291 : CLV RX7 291 yX7_isHour 1 := ⟨gw_1076, gw_1078, gw_43, gw_78, ⟨by decide +kernel, by decide +kernel⟩⟩
theorem clX7_294 : CLV RX7 294 yX7_meltOf 2 := ⟨gw_1080, gw_1082, gw_44, gw_78, ⟨by decide +kernel, by decide +kernel⟩⟩
theorem clX7_297 : CLV RX7 297 yX7_told 2 := ⟨gw_1100, gw_1049, gw_1050, gw_78, ⟨by decide +kernel, by decide +kernel⟩⟩
theorem clX7_300 : CLV RX7 300 yX7_less 2 := ⟨gw_1109, gw_1111, gw_50, gw_78, ⟨by decide +kernel, by decide +kernel⟩⟩
theorem clX7_303 : CLV RX7 303 yX7_has 2 := ⟨gw_1117, gw_1119, gw_52, gw_78, ⟨by decide +kernel, by decide +kernel⟩⟩
theorem clX7_306 : CLV RX7 306 yX7_sets 3 := ⟨gw_1105, gw_1107, gw_49, gw_78, ⟨by decide +kernel, by decide +kernel⟩⟩
theorem clX7_310 : CLV RX7 310 yX7_takes 4 := ⟨gw_1113, gw_1115, gw_51, gw_78, ⟨by decide +kernel, by decide +kernel⟩⟩
theorem clX7_314 : CLV RX7 314 yX7_isPlace 1 := ⟨gw_1092, gw_1094, gw_46, gw_78, ⟨by decide +kernel, by decide +kernel⟩⟩
theorem clX7_317 : CLV RX7 317 yX7_asIs 0 := ⟨gw_1096, gw_1098, gw_47, gw_78, ⟨by decide +kernel, by decide +kernel⟩⟩
theorem clX7_320 : CLV RX7 320 yX7_go 0 := ⟨gw_1101, gw_1103, gw_48, gw_78, ⟨by decide +kernel, by decide +kernel⟩⟩
theorem clX7_323 : CLV RX7 323 yX7_floods 0 := ⟨gw_1125, gw_1127, gw_53, gw_78, ⟨by decide +kernel, by decide +kernel⟩⟩
theorem clX7_326 : CLV RX7 326 yX7_serve 0 := ⟨gw_1141, gw_1143, gw_55, gw_78, ⟨by decide +kernel, by decide +kernel⟩⟩
theorem clX7_329 : CLV RX7 329 yX7_worthNow 0 := ⟨gw_1137, gw_1139, gw_54, gw_78, ⟨by decide +kernel, by decide +kernel⟩⟩
theorem clX7_334 : CLV RX7 334 yX7_oddsOf 1 := ⟨gw_1170, gw_1172, gw_56, gw_78, ⟨by decide +kernel, by decide +kernel⟩⟩
theorem clX7_340 : CLV RX7 340 yX7_divisor 2 := ⟨gw_1175, gw_1177, gw_57, gw_78, ⟨by decide +kernel, by decide +kernel⟩⟩
theorem clX7_344 : CLV RX7 344 yX7_ones 1 := ⟨gw_1191, gw_1193, gw_58, gw_78, ⟨by decide +kernel, by decide +kernel⟩⟩
theorem clX7_347 : CLV RX7 347 yX7_isTape 1 := ⟨gw_1199, gw_1201, gw_59, gw_78, ⟨by decide +kernel, by decide +kernel⟩⟩
theorem clX7_350 : CLV RX7 350 yX7_copy 2 := ⟨gw_1207, gw_1209, gw_60, gw_78, ⟨by decide +kernel, by decide +kernel⟩⟩
theorem clX7_354 : CLV RX7 354 yX7_body 1 := ⟨gw_1223, gw_1225, gw_62, gw_78, ⟨by decide +kernel, by decide +kernel⟩⟩
theorem clX7_357 : CLV RX7 357 yX7_plainLets 2 := ⟨gw_1227, gw_1229, gw_63, gw_78, ⟨by decide +kernel, by decide +kernel⟩⟩
theorem clX7_360 : CLV RX7 360 yX7_letsAct 2 := ⟨gw_1219, gw_1221, gw_61, gw_78, ⟨by decide +kernel, by decide +kernel⟩⟩
theorem clX7_363 : CLV RX7 363 yX7_plainTakes 2 := ⟨gw_1239, gw_1241, gw_66, gw_78, ⟨by decide +kernel, by decide +kernel⟩⟩
theorem clX7_366 : CLV RX7 366 yX7_clockTakes 2 := ⟨gw_1235, gw_1237, gw_65, gw_78, ⟨by decide +kernel, by decide +kernel⟩⟩
theorem clX7_369 : CLV RX7 369 yX7_takesAct 2 := ⟨gw_1231, gw_1233, gw_64, gw_78, ⟨by decide +kernel, by decide +kernel⟩⟩
theorem clX7_372 : CLV RX7 372 yX7_plainTells 2 := ⟨gw_1247, gw_1249, gw_68, gw_78, ⟨by decide +kernel, by decide +kernel⟩⟩
theorem clX7_375 : CLV RX7 375 yX7_tellsAct 2 := ⟨gw_1243, gw_1245, gw_67, gw_78, ⟨by decide +kernel, by decide +kernel⟩⟩
theorem clX7_378 : CLV RX7 378 yX7_narrow 2 := ⟨gw_1271, gw_1273, gw_69, gw_78, ⟨by decide +kernel, by decide +kernel⟩⟩
