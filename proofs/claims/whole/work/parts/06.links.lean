/-! words of fields and calls, by program; small combinators of the decompiled functions -/
def addE {ρ : Type} (c s : Nat) (o : Option ((Nat × Nat) × ρ)) : Option ((Nat × Nat) × ρ) := o.map (fun q => ((c + q.1.1, s + q.1.2), q.2))
theorem addE_obt {ρ : Type} {c s : Nat} {o : Option ((Nat × Nat) × ρ)} {e es : Nat} {x : ρ} (h : addE c s o = some ((e, es), x)) : ∃ e1 es1, o = some ((e1, es1), x) ∧ e = c + e1 ∧ es = s + es1 := by
  unfold addE at h
  obtain ⟨⟨⟨a, b⟩, y⟩, h1, h2⟩ := Option.map_eq_some_iff.mp h
  cases h2
  exact ⟨a, b, h1, rfl, rfl⟩
def b2 {α β γ : Type} (o : Option (α × β)) (f : α → β → Option γ) : Option γ := match o with
  | none => none
  | some x => f x.1 x.2
theorem b2_obt {α β γ : Type} {o : Option (α × β)} {f : α → β → Option γ} {r : γ} (h : b2 o f = some r) : ∃ a b, o = some (a, b) ∧ f a b = some r := by
  cases o with
  | none => cases h
  | some x => exact ⟨x.1, x.2, rfl, h⟩
def b3 {α β γ δ : Type} (o : Option (α × β × γ)) (f : α → β → γ → Option δ) : Option δ := match o with
  | none => none
  | some x => f x.1 x.2.1 x.2.2
theorem b3_obt {α β γ δ : Type} {o : Option (α × β × γ)} {f : α → β → γ → Option δ} {r : δ} (h : b3 o f = some r) : ∃ a b c, o = some (a, b, c) ∧ f a b c = some r := by
  cases o with
  | none => cases h
  | some x => exact ⟨x.1, x.2.1, x.2.2, rfl, h⟩
def bE1 {α0 γ : Type} (o : Option ((Nat × Nat) × (α0))) (f : α0 → Option ((Nat × Nat) × γ)) : Option ((Nat × Nat) × γ) := match o with
  | none => none
  | some q => addE q.1.1 q.1.2 (f q.2)
theorem bE1_obt {α0 γ : Type} {o : Option ((Nat × Nat) × (α0))} {f : α0 → Option ((Nat × Nat) × γ)} {e es : Nat} {r : γ} (h : bE1 o f = some ((e, es), r)) : ∃ d ds a0 e1 es1, o = some ((d, ds), a0) ∧ f a0 = some ((e1, es1), r) ∧ e = d + e1 ∧ es = ds + es1 := by
  cases o with
  | none => cases h
  | some q =>
    obtain ⟨e1, es1, h1, h2, h3⟩ := addE_obt h
    exact ⟨q.1.1, q.1.2, q.2, e1, es1, rfl, h1, h2, h3⟩
def bE2 {α0 α1 γ : Type} (o : Option ((Nat × Nat) × (α0 × α1))) (f : α0 → α1 → Option ((Nat × Nat) × γ)) : Option ((Nat × Nat) × γ) := match o with
  | none => none
  | some q => addE q.1.1 q.1.2 (f q.2.1 q.2.2)
theorem bE2_obt {α0 α1 γ : Type} {o : Option ((Nat × Nat) × (α0 × α1))} {f : α0 → α1 → Option ((Nat × Nat) × γ)} {e es : Nat} {r : γ} (h : bE2 o f = some ((e, es), r)) : ∃ d ds a0 a1 e1 es1, o = some ((d, ds), (a0, a1)) ∧ f a0 a1 = some ((e1, es1), r) ∧ e = d + e1 ∧ es = ds + es1 := by
  cases o with
  | none => cases h
  | some q =>
    obtain ⟨e1, es1, h1, h2, h3⟩ := addE_obt h
    exact ⟨q.1.1, q.1.2, q.2.1, q.2.2, e1, es1, rfl, h1, h2, h3⟩
def bE3 {α0 α1 α2 γ : Type} (o : Option ((Nat × Nat) × (α0 × α1 × α2))) (f : α0 → α1 → α2 → Option ((Nat × Nat) × γ)) : Option ((Nat × Nat) × γ) := match o with
  | none => none
  | some q => addE q.1.1 q.1.2 (f q.2.1 q.2.2.1 q.2.2.2)
theorem bE3_obt {α0 α1 α2 γ : Type} {o : Option ((Nat × Nat) × (α0 × α1 × α2))} {f : α0 → α1 → α2 → Option ((Nat × Nat) × γ)} {e es : Nat} {r : γ} (h : bE3 o f = some ((e, es), r)) : ∃ d ds a0 a1 a2 e1 es1, o = some ((d, ds), (a0, a1, a2)) ∧ f a0 a1 a2 = some ((e1, es1), r) ∧ e = d + e1 ∧ es = ds + es1 := by
  cases o with
  | none => cases h
  | some q =>
    obtain ⟨e1, es1, h1, h2, h3⟩ := addE_obt h
    exact ⟨q.1.1, q.1.2, q.2.1, q.2.2.1, q.2.2.2, e1, es1, rfl, h1, h2, h3⟩
def bE4 {α0 α1 α2 α3 γ : Type} (o : Option ((Nat × Nat) × (α0 × α1 × α2 × α3))) (f : α0 → α1 → α2 → α3 → Option ((Nat × Nat) × γ)) : Option ((Nat × Nat) × γ) := match o with
  | none => none
  | some q => addE q.1.1 q.1.2 (f q.2.1 q.2.2.1 q.2.2.2.1 q.2.2.2.2)
theorem bE4_obt {α0 α1 α2 α3 γ : Type} {o : Option ((Nat × Nat) × (α0 × α1 × α2 × α3))} {f : α0 → α1 → α2 → α3 → Option ((Nat × Nat) × γ)} {e es : Nat} {r : γ} (h : bE4 o f = some ((e, es), r)) : ∃ d ds a0 a1 a2 a3 e1 es1, o = some ((d, ds), (a0, a1, a2, a3)) ∧ f a0 a1 a2 a3 = some ((e1, es1), r) ∧ e = d + e1 ∧ es = ds + es1 := by
  cases o with
  | none => cases h
  | some q =>
    obtain ⟨e1, es1, h1, h2, h3⟩ := addE_obt h
    exact ⟨q.1.1, q.1.2, q.2.1, q.2.2.1, q.2.2.2.1, q.2.2.2.2, e1, es1, rfl, h1, h2, h3⟩
def bE5 {α0 α1 α2 α3 α4 γ : Type} (o : Option ((Nat × Nat) × (α0 × α1 × α2 × α3 × α4))) (f : α0 → α1 → α2 → α3 → α4 → Option ((Nat × Nat) × γ)) : Option ((Nat × Nat) × γ) := match o with
  | none => none
  | some q => addE q.1.1 q.1.2 (f q.2.1 q.2.2.1 q.2.2.2.1 q.2.2.2.2.1 q.2.2.2.2.2)
theorem bE5_obt {α0 α1 α2 α3 α4 γ : Type} {o : Option ((Nat × Nat) × (α0 × α1 × α2 × α3 × α4))} {f : α0 → α1 → α2 → α3 → α4 → Option ((Nat × Nat) × γ)} {e es : Nat} {r : γ} (h : bE5 o f = some ((e, es), r)) : ∃ d ds a0 a1 a2 a3 a4 e1 es1, o = some ((d, ds), (a0, a1, a2, a3, a4)) ∧ f a0 a1 a2 a3 a4 = some ((e1, es1), r) ∧ e = d + e1 ∧ es = ds + es1 := by
  cases o with
  | none => cases h
  | some q =>
    obtain ⟨e1, es1, h1, h2, h3⟩ := addE_obt h
    exact ⟨q.1.1, q.1.2, q.2.1, q.2.2.1, q.2.2.2.1, q.2.2.2.2.1, q.2.2.2.2.2, e1, es1, rfl, h1, h2, h3⟩
theorem gw_0 : Cond.selects RX1 yX1_clause yX1_clause ∈ lw_good := good_of 0 (by decide +kernel) rfl
theorem gw_1 : Cond.selects RX1 yX1_word yX1_word ∈ lw_good := good_of 1 (by decide +kernel) rfl
theorem gw_2 : Cond.selects RX1 yX1_passes yX1_passes ∈ lw_good := good_of 2 (by decide +kernel) rfl
theorem gw_3 : Cond.selects RX1 yX1_next yX1_next ∈ lw_good := good_of 3 (by decide +kernel) rfl
theorem gw_4 : Cond.selects RX1 yX1_ending yX1_ending ∈ lw_good := good_of 4 (by decide +kernel) rfl
theorem gw_5 : Cond.selects RX1 yX1_expect yX1_expect ∈ lw_good := good_of 5 (by decide +kernel) rfl
theorem gw_6 : Cond.selects RX1 yX1_number yX1_number ∈ lw_good := good_of 6 (by decide +kernel) rfl
theorem gw_7 : Cond.selects RX1 yX1_either yX1_either ∈ lw_good := good_of 7 (by decide +kernel) rfl
theorem gw_8 : Cond.selects RX1 yX1_both yX1_both ∈ lw_good := good_of 8 (by decide +kernel) rfl
theorem gw_9 : Cond.selects RX1 yX1_factor yX1_factor ∈ lw_good := good_of 9 (by decide +kernel) rfl
theorem gw_10 : Cond.selects RX1 yX1_oneOf yX1_oneOf ∈ lw_good := good_of 10 (by decide +kernel) rfl
theorem gw_11 : Cond.selects RX1 yX1_figure yX1_figure ∈ lw_good := good_of 11 (by decide +kernel) rfl
theorem gw_12 : Cond.selects RX5 yX5_come yX5_come ∈ lw_good := good_of 12 (by decide +kernel) rfl
theorem gw_13 : Cond.selects RX5 yX5_pass yX5_pass ∈ lw_good := good_of 13 (by decide +kernel) rfl
theorem gw_14 : Cond.selects RX5 yX5_takes yX5_takes ∈ lw_good := good_of 14 (by decide +kernel) rfl
theorem gw_15 : Cond.selects RX5 yX5_serve yX5_serve ∈ lw_good := good_of 15 (by decide +kernel) rfl
theorem gw_16 : Cond.selects RX5 yX5_servedBefore yX5_servedBefore ∈ lw_good := good_of 16 (by decide +kernel) rfl
theorem gw_17 : Cond.selects RX6 yX6_underSkies yX6_underSkies ∈ lw_good := good_of 17 (by decide +kernel) rfl
theorem gw_18 : Cond.selects RX6 yX6_tapeAt yX6_tapeAt ∈ lw_good := good_of 18 (by decide +kernel) rfl
theorem gw_19 : Cond.selects RX0 yX0_began yX0_began ∈ lw_good := good_of 19 (by decide +kernel) rfl
theorem gw_20 : Cond.selects RX7 yX7_in yX7_in ∈ lw_good := good_of 20 (by decide +kernel) rfl
theorem gw_21 : Cond.selects RX7 yX7_isGate yX7_isGate ∈ lw_good := good_of 21 (by decide +kernel) rfl
theorem gw_22 : Cond.selects RX7 yX7_goesText yX7_goesText ∈ lw_good := good_of 22 (by decide +kernel) rfl
theorem gw_23 : Cond.selects RX7 yX7_takesClause yX7_takesClause ∈ lw_good := good_of 23 (by decide +kernel) rfl
theorem gw_24 : Cond.selects RX7 yX7_takesHead yX7_takesHead ∈ lw_good := good_of 24 (by decide +kernel) rfl
theorem gw_25 : Cond.selects RX7 yX7_second yX7_second ∈ lw_good := good_of 25 (by decide +kernel) rfl
theorem gw_26 : Cond.selects RX7 yX7_next yX7_next ∈ lw_good := good_of 26 (by decide +kernel) rfl
theorem gw_27 : Cond.selects RX7 yX7_takesWord yX7_takesWord ∈ lw_good := good_of 27 (by decide +kernel) rfl
theorem gw_28 : Cond.selects RX7 yX7_takesSign yX7_takesSign ∈ lw_good := good_of 28 (by decide +kernel) rfl
theorem gw_29 : Cond.selects RX7 yX7_takesNumber yX7_takesNumber ∈ lw_good := good_of 29 (by decide +kernel) rfl
theorem gw_30 : Cond.selects RX7 yX7_isDigit yX7_isDigit ∈ lw_good := good_of 30 (by decide +kernel) rfl
theorem gw_31 : Cond.selects RX7 yX7_takesE yX7_takesE ∈ lw_good := good_of 31 (by decide +kernel) rfl
theorem gw_32 : Cond.selects RX7 yX7_takesTest yX7_takesTest ∈ lw_good := good_of 32 (by decide +kernel) rfl
theorem gw_33 : Cond.selects RX7 yX7_put yX7_put ∈ lw_good := good_of 33 (by decide +kernel) rfl
theorem gw_34 : Cond.selects RX7 yX7_whole yX7_whole ∈ lw_good := good_of 34 (by decide +kernel) rfl
theorem gw_35 : Cond.selects RX7 yX7_settle yX7_settle ∈ lw_good := good_of 35 (by decide +kernel) rfl
theorem gw_36 : Cond.selects RX7 yX7_last yX7_last ∈ lw_good := good_of 36 (by decide +kernel) rfl
theorem gw_37 : Cond.selects RX7 yX7_first yX7_first ∈ lw_good := good_of 37 (by decide +kernel) rfl
theorem gw_38 : Cond.selects RX7 yX7_behind yX7_behind ∈ lw_good := good_of 38 (by decide +kernel) rfl
theorem gw_39 : Cond.selects RX7 yX7_min yX7_min ∈ lw_good := good_of 39 (by decide +kernel) rfl
theorem gw_40 : Cond.selects RX7 yX7_isHour yX7_isHour ∈ lw_good := good_of 40 (by decide +kernel) rfl
theorem gw_41 : Cond.selects RX7 yX7_meltOf yX7_meltOf ∈ lw_good := good_of 41 (by decide +kernel) rfl
theorem gw_42 : Cond.selects RX7 yX7_holds yX7_holds ∈ lw_good := good_of 42 (by decide +kernel) rfl
theorem gw_43 : Cond.selects RX7 yX7_isPlace yX7_isPlace ∈ lw_good := good_of 43 (by decide +kernel) rfl
theorem gw_44 : Cond.selects RX7 yX7_asIs yX7_asIs ∈ lw_good := good_of 44 (by decide +kernel) rfl
theorem gw_45 : Cond.selects RX7 yX7_go yX7_go ∈ lw_good := good_of 45 (by decide +kernel) rfl
theorem gw_46 : Cond.selects RX7 yX7_sets yX7_sets ∈ lw_good := good_of 46 (by decide +kernel) rfl
theorem gw_47 : Cond.selects RX7 yX7_less yX7_less ∈ lw_good := good_of 47 (by decide +kernel) rfl
theorem gw_48 : Cond.selects RX7 yX7_takes yX7_takes ∈ lw_good := good_of 48 (by decide +kernel) rfl
theorem gw_49 : Cond.selects RX7 yX7_has yX7_has ∈ lw_good := good_of 49 (by decide +kernel) rfl
theorem gw_50 : Cond.selects RX7 yX7_floods yX7_floods ∈ lw_good := good_of 50 (by decide +kernel) rfl
theorem gw_51 : Cond.selects RX7 yX7_worthNow yX7_worthNow ∈ lw_good := good_of 51 (by decide +kernel) rfl
theorem gw_52 : Cond.selects RX7 yX7_serve yX7_serve ∈ lw_good := good_of 52 (by decide +kernel) rfl
theorem gw_53 : Cond.selects RX7 yX7_oddsOf yX7_oddsOf ∈ lw_good := good_of 53 (by decide +kernel) rfl
theorem gw_54 : Cond.selects RX7 yX7_divisor yX7_divisor ∈ lw_good := good_of 54 (by decide +kernel) rfl
theorem gw_55 : Cond.selects RX7 yX7_ones yX7_ones ∈ lw_good := good_of 55 (by decide +kernel) rfl
theorem gw_56 : Cond.selects RX7 yX7_isTape yX7_isTape ∈ lw_good := good_of 56 (by decide +kernel) rfl
theorem gw_57 : Cond.selects RX7 yX7_copy yX7_copy ∈ lw_good := good_of 57 (by decide +kernel) rfl
theorem gw_58 : Cond.selects RX7 yX7_letsAct yX7_letsAct ∈ lw_good := good_of 58 (by decide +kernel) rfl
theorem gw_59 : Cond.selects RX7 yX7_body yX7_body ∈ lw_good := good_of 59 (by decide +kernel) rfl
theorem gw_60 : Cond.selects RX7 yX7_plainLets yX7_plainLets ∈ lw_good := good_of 60 (by decide +kernel) rfl
theorem gw_61 : Cond.selects RX7 yX7_takesAct yX7_takesAct ∈ lw_good := good_of 61 (by decide +kernel) rfl
theorem gw_62 : Cond.selects RX7 yX7_clockTakes yX7_clockTakes ∈ lw_good := good_of 62 (by decide +kernel) rfl
theorem gw_63 : Cond.selects RX7 yX7_plainTakes yX7_plainTakes ∈ lw_good := good_of 63 (by decide +kernel) rfl
theorem gw_64 : Cond.selects RX7 yX7_tellsAct yX7_tellsAct ∈ lw_good := good_of 64 (by decide +kernel) rfl
theorem gw_65 : Cond.selects RX7 yX7_plainTells yX7_plainTells ∈ lw_good := good_of 65 (by decide +kernel) rfl
theorem gw_66 : Cond.selects RX7 yX7_narrow yX7_narrow ∈ lw_good := good_of 66 (by decide +kernel) rfl
theorem gw_68 : Cond.initialized "MeltHours" ∈ lw_good := good_of 68 (by decide +kernel) rfl
theorem gw_69 : Cond.initialized "MeltHours$State" ∈ lw_good := good_of 69 (by decide +kernel) rfl
theorem gw_70 : Cond.initialized "MeltHours$Valley" ∈ lw_good := good_of 70 (by decide +kernel) rfl
theorem gw_71 : Cond.initialized "java/util/Arrays" ∈ lw_good := good_of 71 (by decide +kernel) rfl
theorem gw_72 : Cond.initialized "MeltHours$Water" ∈ lw_good := good_of 72 (by decide +kernel) rfl
theorem gw_73 : Cond.initialized "MeltHours$Acts" ∈ lw_good := good_of 73 (by decide +kernel) rfl
theorem gw_74 : Cond.initialized "MeltHours$Tape" ∈ lw_good := good_of 74 (by decide +kernel) rfl
theorem gw_75 : Cond.initialized "MeltHoursModel" ∈ lw_good := good_of 75 (by decide +kernel) rfl
theorem gw_76 : Cond.initialized "MeltHours$Reader" ∈ lw_good := good_of 76 (by decide +kernel) rfl
theorem gw_77 : Cond.initialized "java/lang/Math" ∈ lw_good := good_of 77 (by decide +kernel) rfl
theorem gw_78 : Cond.initialized "java/lang/String" ∈ lw_good := good_of 78 (by decide +kernel) rfl
theorem gw_83 : Cond.initialized "java/lang/Integer" ∈ lw_good := good_of 83 (by decide +kernel) rfl
theorem gw_84 : Cond.classLink "MeltHoursLaw" 7 "MeltHours" ∈ lw_good := good_of 84 (by decide +kernel) rfl
theorem gw_85 : Cond.instantiable "MeltHours" 9 ∈ lw_good := good_of 85 (by decide +kernel) rfl
theorem gw_86 : Cond.methodLink "MeltHoursLaw" 9 yX6_init ∈ lw_good := good_of 86 (by decide +kernel) rfl
theorem gw_87 : Cond.instanceMethod yX6_init ∈ lw_good := good_of 87 (by decide +kernel) rfl
set_option maxRecDepth 100000 in
theorem gw_88 : Cond.code yX6_init cX6_init 2 none ∈ lw_good := good_of 88 rfl rfl
theorem gw_92 : Cond.classLink "MeltHours" 11 "MeltHours$State" ∈ lw_good := good_of 92 (by decide +kernel) rfl
theorem gw_93 : Cond.instantiable "MeltHours$State" 9 ∈ lw_good := good_of 93 (by decide +kernel) rfl
theorem gw_94 : Cond.classLink "MeltHours" 13 "MeltHours$Valley" ∈ lw_good := good_of 94 (by decide +kernel) rfl
theorem gw_95 : Cond.instantiable "MeltHours$Valley" 2 ∈ lw_good := good_of 95 (by decide +kernel) rfl
theorem gw_96 : Cond.methodLink "MeltHours" 15 yX4_init ∈ lw_good := good_of 96 (by decide +kernel) rfl
theorem gw_97 : Cond.instanceMethod yX4_init ∈ lw_good := good_of 97 (by decide +kernel) rfl
set_option maxRecDepth 100000 in
theorem gw_98 : Cond.code yX4_init cX4_init 1 none ∈ lw_good := good_of 98 rfl rfl
theorem gw_102 : Cond.methodLink "MeltHours$Valley" 20 yJ7_fill_53178 ∈ lw_good := good_of 102 (by decide +kernel) rfl
theorem gw_103 : Cond.static yJ7_fill_53178 ∈ lw_good := good_of 103 (by decide +kernel) rfl
set_option maxRecDepth 100000 in
theorem gw_104 : Cond.code yJ7_fill_53178 cJ7_fill_53178 4 none ∈ lw_good := good_of 104 rfl rfl
theorem gw_105 : Cond.fieldLink "MeltHours$Valley" 11 "MeltHours$Valley" "ways" "[[I" ∈ lw_good := good_of 105 (by decide +kernel) rfl
theorem gw_106 : Cond.fieldLink "MeltHours$Water" 51 "MeltHours$Valley" "ways" "[[I" ∈ lw_good := good_of 106 (by decide +kernel) rfl
theorem gw_107 : Cond.fieldLink "MeltHours" 87 "MeltHours$Valley" "ways" "[[I" ∈ lw_good := good_of 107 (by decide +kernel) rfl
theorem gw_108 : Cond.fieldLink "MeltHours$Valley" 16 "MeltHours$Valley" "melts" "[I" ∈ lw_good := good_of 108 (by decide +kernel) rfl
theorem gw_109 : Cond.fieldLink "MeltHours$State" 61 "MeltHours$Valley" "melts" "[I" ∈ lw_good := good_of 109 (by decide +kernel) rfl
theorem gw_116 : Cond.methodLink "MeltHours" 16 yX2_init ∈ lw_good := good_of 116 (by decide +kernel) rfl
theorem gw_117 : Cond.instanceMethod yX2_init ∈ lw_good := good_of 117 (by decide +kernel) rfl
set_option maxRecDepth 100000 in
theorem gw_118 : Cond.code yX2_init cX2_init 2 none ∈ lw_good := good_of 118 rfl rfl
theorem gw_121 : Cond.fieldLink "MeltHours$State" 9 "MeltHours$State" "placeCount" "I" ∈ lw_good := good_of 121 (by decide +kernel) rfl
theorem gw_122 : Cond.fieldLink "MeltHours" 57 "MeltHours$State" "placeCount" "I" ∈ lw_good := good_of 122 (by decide +kernel) rfl
theorem gw_123 : Cond.fieldLink "MeltHours$Water" 121 "MeltHours$State" "placeCount" "I" ∈ lw_good := good_of 123 (by decide +kernel) rfl
theorem gw_124 : Cond.fieldLink "MeltHours$State" 15 "MeltHours$State" "skies" "[I" ∈ lw_good := good_of 124 (by decide +kernel) rfl
theorem gw_125 : Cond.fieldLink "MeltHours" 65 "MeltHours$State" "skies" "[I" ∈ lw_good := good_of 125 (by decide +kernel) rfl
theorem gw_126 : Cond.fieldLink "MeltHours$Water" 66 "MeltHours$State" "skies" "[I" ∈ lw_good := good_of 126 (by decide +kernel) rfl
theorem gw_127 : Cond.fieldLink "MeltHours$State" 19 "MeltHours$State" "odds" "[I" ∈ lw_good := good_of 127 (by decide +kernel) rfl
theorem gw_128 : Cond.fieldLink "MeltHours" 168 "MeltHours$State" "odds" "[I" ∈ lw_good := good_of 128 (by decide +kernel) rfl
theorem gw_129 : Cond.fieldLink "MeltHours$State" 24 "MeltHours$State" "gates" "[[I" ∈ lw_good := good_of 129 (by decide +kernel) rfl
theorem gw_130 : Cond.fieldLink "MeltHours$Water" 58 "MeltHours$State" "gates" "[[I" ∈ lw_good := good_of 130 (by decide +kernel) rfl
theorem gw_131 : Cond.fieldLink "MeltHours" 96 "MeltHours$State" "gates" "[[I" ∈ lw_good := good_of 131 (by decide +kernel) rfl
theorem gw_132 : Cond.fieldLink "MeltHours$State" 27 "MeltHours$State" "wants" "[[I" ∈ lw_good := good_of 132 (by decide +kernel) rfl
theorem gw_133 : Cond.fieldLink "MeltHours$Water" 128 "MeltHours$State" "wants" "[[I" ∈ lw_good := good_of 133 (by decide +kernel) rfl
theorem gw_134 : Cond.fieldLink "MeltHours" 138 "MeltHours$State" "wants" "[[I" ∈ lw_good := good_of 134 (by decide +kernel) rfl
theorem gw_135 : Cond.fieldLink "MeltHours$State" 45 "MeltHours$State" "wantCount" "I" ∈ lw_good := good_of 135 (by decide +kernel) rfl
theorem gw_136 : Cond.fieldLink "MeltHours" 135 "MeltHours$State" "wantCount" "I" ∈ lw_good := good_of 136 (by decide +kernel) rfl
theorem gw_137 : Cond.fieldLink "MeltHours$State" 30 "MeltHours$State" "toldMelts" "[I" ∈ lw_good := good_of 137 (by decide +kernel) rfl
theorem gw_138 : Cond.fieldLink "MeltHours" 191 "MeltHours$State" "toldMelts" "[I" ∈ lw_good := good_of 138 (by decide +kernel) rfl
theorem gw_139 : Cond.fieldLink "MeltHours$State" 48 "MeltHours$State" "toldHours" "I" ∈ lw_good := good_of 139 (by decide +kernel) rfl
theorem gw_140 : Cond.fieldLink "MeltHours" 188 "MeltHours$State" "toldHours" "I" ∈ lw_good := good_of 140 (by decide +kernel) rfl
theorem gw_141 : Cond.fieldLink "MeltHours" 23 "MeltHours$State" "valley" "LMeltHours$Valley;" ∈ lw_good := good_of 141 (by decide +kernel) rfl
theorem gw_142 : Cond.fieldLink "MeltHours$State" 33 "MeltHours$State" "valley" "LMeltHours$Valley;" ∈ lw_good := good_of 142 (by decide +kernel) rfl
theorem gw_143 : Cond.fieldLink "MeltHours$Water" 45 "MeltHours$State" "valley" "LMeltHours$Valley;" ∈ lw_good := good_of 143 (by decide +kernel) rfl
theorem gw_163 : Cond.classLink "MeltHours" 30 "MeltHours$Water" ∈ lw_good := good_of 163 (by decide +kernel) rfl
theorem gw_164 : Cond.instantiable "MeltHours$Water" 10 ∈ lw_good := good_of 164 (by decide +kernel) rfl
theorem gw_165 : Cond.methodLink "MeltHours" 32 yX5_init ∈ lw_good := good_of 165 (by decide +kernel) rfl
theorem gw_166 : Cond.instanceMethod yX5_init ∈ lw_good := good_of 166 (by decide +kernel) rfl
set_option maxRecDepth 100000 in
theorem gw_167 : Cond.code yX5_init cX5_init 2 none ∈ lw_good := good_of 167 rfl rfl
theorem gw_170 : Cond.fieldLink "MeltHours$Water" 41 "MeltHours$Water" "state" "LMeltHours$State;" ∈ lw_good := good_of 170 (by decide +kernel) rfl
theorem gw_171 : Cond.fieldLink "MeltHours$Water" 9 "MeltHours$Water" "melts" "[I" ∈ lw_good := good_of 171 (by decide +kernel) rfl
theorem gw_172 : Cond.fieldLink "MeltHours" 111 "MeltHours$Water" "melts" "[I" ∈ lw_good := good_of 172 (by decide +kernel) rfl
theorem gw_173 : Cond.fieldLink "MeltHours$Water" 17 "MeltHours$Water" "ways" "[[I" ∈ lw_good := good_of 173 (by decide +kernel) rfl
theorem gw_174 : Cond.fieldLink "MeltHours" 167 "MeltHours$Water" "ways" "[[I" ∈ lw_good := good_of 174 (by decide +kernel) rfl
theorem gw_175 : Cond.fieldLink "MeltHours$Water" 20 "MeltHours$Water" "gates" "[[I" ∈ lw_good := good_of 175 (by decide +kernel) rfl
theorem gw_176 : Cond.fieldLink "MeltHours" 151 "MeltHours$Water" "gates" "[[I" ∈ lw_good := good_of 176 (by decide +kernel) rfl
theorem gw_177 : Cond.fieldLink "MeltHours$Water" 23 "MeltHours$Water" "comes" "[[I" ∈ lw_good := good_of 177 (by decide +kernel) rfl
theorem gw_178 : Cond.fieldLink "MeltHours" 201 "MeltHours$Water" "comes" "[[I" ∈ lw_good := good_of 178 (by decide +kernel) rfl
theorem gw_179 : Cond.fieldLink "MeltHours$Water" 26 "MeltHours$Water" "taken" "[[I" ∈ lw_good := good_of 179 (by decide +kernel) rfl
theorem gw_180 : Cond.fieldLink "MeltHours" 118 "MeltHours$Water" "taken" "[[I" ∈ lw_good := good_of 180 (by decide +kernel) rfl
theorem gw_181 : Cond.fieldLink "MeltHours$Water" 29 "MeltHours$Water" "by" "[[I" ∈ lw_good := good_of 181 (by decide +kernel) rfl
theorem gw_182 : Cond.fieldLink "MeltHours" 128 "MeltHours$Water" "by" "[[I" ∈ lw_good := good_of 182 (by decide +kernel) rfl
theorem gw_183 : Cond.fieldLink "MeltHours$Water" 32 "MeltHours$Water" "held" "[[I" ∈ lw_good := good_of 183 (by decide +kernel) rfl
theorem gw_184 : Cond.fieldLink "MeltHours$Water" 35 "MeltHours$Water" "flood" "[[I" ∈ lw_good := good_of 184 (by decide +kernel) rfl
theorem gw_185 : Cond.fieldLink "MeltHours" 125 "MeltHours$Water" "flood" "[[I" ∈ lw_good := good_of 185 (by decide +kernel) rfl
theorem gw_186 : Cond.fieldLink "MeltHours$Water" 38 "MeltHours$Water" "served" "[I" ∈ lw_good := good_of 186 (by decide +kernel) rfl
theorem gw_187 : Cond.fieldLink "MeltHours" 144 "MeltHours$Water" "served" "[I" ∈ lw_good := good_of 187 (by decide +kernel) rfl
theorem gw_209 : Cond.classLink "MeltHours" 39 "MeltHours$Acts" ∈ lw_good := good_of 209 (by decide +kernel) rfl
theorem gw_210 : Cond.instantiable "MeltHours$Acts" 5 ∈ lw_good := good_of 210 (by decide +kernel) rfl
theorem gw_212 : Cond.instanceMethod yX0_init ∈ lw_good := good_of 212 (by decide +kernel) rfl
set_option maxRecDepth 100000 in
theorem gw_213 : Cond.code yX0_init cX0_init 1 none ∈ lw_good := good_of 213 rfl rfl
theorem gw_215 : Cond.fieldLink "MeltHours$Acts" 15 "MeltHours$Acts" "place" "I" ∈ lw_good := good_of 215 (by decide +kernel) rfl
theorem gw_216 : Cond.fieldLink "MeltHours$Acts" 22 "MeltHours$Acts" "might" "I" ∈ lw_good := good_of 216 (by decide +kernel) rfl
theorem gw_217 : Cond.fieldLink "MeltHours$Acts" 19 "MeltHours$Acts" "kind" "I" ∈ lw_good := good_of 217 (by decide +kernel) rfl
theorem gw_218 : Cond.fieldLink "MeltHours" 233 "MeltHours$Acts" "kind" "I" ∈ lw_good := good_of 218 (by decide +kernel) rfl
theorem gw_219 : Cond.fieldLink "MeltHours$Acts" 9 "MeltHours$Acts" "bodies" "[I" ∈ lw_good := good_of 219 (by decide +kernel) rfl
theorem gw_220 : Cond.fieldLink "MeltHours" 245 "MeltHours$Acts" "bodies" "[I" ∈ lw_good := good_of 220 (by decide +kernel) rfl
theorem gw_221 : Cond.fieldLink "MeltHours$Acts" 39 "MeltHours$Acts" "ran" "I" ∈ lw_good := good_of 221 (by decide +kernel) rfl
theorem gw_222 : Cond.fieldLink "MeltHours" 226 "MeltHours$Acts" "ran" "I" ∈ lw_good := good_of 222 (by decide +kernel) rfl
theorem gw_234 : Cond.classLink "MeltHours" 50 "MeltHours$Tape" ∈ lw_good := good_of 234 (by decide +kernel) rfl
theorem gw_236 : Cond.instantiable "MeltHours$Tape" 3 ∈ lw_good := good_of 236 (by decide +kernel) rfl
theorem gw_238 : Cond.instanceMethod yX3_init ∈ lw_good := good_of 238 (by decide +kernel) rfl
set_option maxRecDepth 100000 in
theorem gw_239 : Cond.code yX3_init cX3_init 1 none ∈ lw_good := good_of 239 rfl rfl
theorem gw_241 : Cond.fieldLink "MeltHours$Tape" 9 "MeltHours$Tape" "sort" "I" ∈ lw_good := good_of 241 (by decide +kernel) rfl
theorem gw_242 : Cond.fieldLink "MeltHours" 198 "MeltHours$Tape" "sort" "I" ∈ lw_good := good_of 242 (by decide +kernel) rfl
theorem gw_243 : Cond.fieldLink "MeltHours$Tape" 25 "MeltHours$Tape" "size" "I" ∈ lw_good := good_of 243 (by decide +kernel) rfl
theorem gw_244 : Cond.fieldLink "MeltHours" 204 "MeltHours$Tape" "size" "I" ∈ lw_good := good_of 244 (by decide +kernel) rfl
theorem gw_245 : Cond.fieldLink "MeltHours$Tape" 15 "MeltHours$Tape" "items" "[J" ∈ lw_good := good_of 245 (by decide +kernel) rfl
theorem gw_246 : Cond.fieldLink "MeltHours" 212 "MeltHours$Tape" "items" "[J" ∈ lw_good := good_of 246 (by decide +kernel) rfl
theorem gw_255 : Cond.fieldLink "MeltHours" 19 "MeltHours" "now" "LMeltHours$State;" ∈ lw_good := good_of 255 (by decide +kernel) rfl
theorem gw_256 : Cond.fieldLink "MeltHours" 27 "MeltHours" "kept" "LMeltHours$State;" ∈ lw_good := good_of 256 (by decide +kernel) rfl
theorem gw_257 : Cond.fieldLink "MeltHours" 222 "MeltHours" "isKept" "Z" ∈ lw_good := good_of 257 (by decide +kernel) rfl
theorem gw_258 : Cond.fieldLink "MeltHours" 35 "MeltHours" "flow" "LMeltHours$Water;" ∈ lw_good := good_of 258 (by decide +kernel) rfl
theorem gw_259 : Cond.fieldLink "MeltHours" 42 "MeltHours" "acts" "LMeltHours$Acts;" ∈ lw_good := good_of 259 (by decide +kernel) rfl
theorem gw_260 : Cond.fieldLink "MeltHours" 46 "MeltHours" "text" "[I" ∈ lw_good := good_of 260 (by decide +kernel) rfl
theorem gw_261 : Cond.fieldLink "MeltHours" 68 "MeltHours" "textLength" "I" ∈ lw_good := good_of 261 (by decide +kernel) rfl
theorem gw_262 : Cond.fieldLink "MeltHours" 71 "MeltHours" "valleyCount" "I" ∈ lw_good := good_of 262 (by decide +kernel) rfl
theorem gw_263 : Cond.fieldLink "MeltHours" 52 "MeltHours" "tapes" "[LMeltHours$Tape;" ∈ lw_good := good_of 263 (by decide +kernel) rfl
theorem gw_283 : Cond.methodLink "MeltHoursLaw" 13 yX6_places ∈ lw_good := good_of 283 (by decide +kernel) rfl
theorem gw_284 : Cond.instanceMethod yX6_places ∈ lw_good := good_of 284 (by decide +kernel) rfl
theorem gw_285 : Cond.selects RX6 yX6_places yX6_places ∈ lw_good := good_of 285 (by decide +kernel) rfl
set_option maxRecDepth 100000 in
theorem gw_286 : Cond.code yX6_places cX6_places 3 (some .int) ∈ lw_good := good_of 286 rfl rfl
theorem gw_287 : Cond.methodLink "MeltHoursLaw" 18 yX6_sky ∈ lw_good := good_of 287 (by decide +kernel) rfl
theorem gw_288 : Cond.instanceMethod yX6_sky ∈ lw_good := good_of 288 (by decide +kernel) rfl
theorem gw_289 : Cond.selects RX6 yX6_sky yX6_sky ∈ lw_good := good_of 289 (by decide +kernel) rfl
set_option maxRecDepth 100000 in
theorem gw_290 : Cond.code yX6_sky cX6_sky 4 (some .int) ∈ lw_good := good_of 290 rfl rfl
theorem gw_291 : Cond.methodLink "MeltHours" 61 yX6_isUnder ∈ lw_good := good_of 291 (by decide +kernel) rfl
theorem gw_292 : Cond.static yX6_isUnder ∈ lw_good := good_of 292 (by decide +kernel) rfl
set_option maxRecDepth 100000 in
theorem gw_293 : Cond.code yX6_isUnder cX6_isUnder 2 (some .boolean) ∈ lw_good := good_of 293 rfl rfl
theorem gw_294 : Cond.methodLink "MeltHoursLaw" 23 yX6_feed ∈ lw_good := good_of 294 (by decide +kernel) rfl
theorem gw_295 : Cond.instanceMethod yX6_feed ∈ lw_good := good_of 295 (by decide +kernel) rfl
theorem gw_296 : Cond.selects RX6 yX6_feed yX6_feed ∈ lw_good := good_of 296 (by decide +kernel) rfl
set_option maxRecDepth 100000 in
theorem gw_297 : Cond.code yX6_feed cX6_feed 4 (some .int) ∈ lw_good := good_of 297 rfl rfl
theorem gw_298 : Cond.methodLink "MeltHoursLaw" 27 yX6_valley ∈ lw_good := good_of 298 (by decide +kernel) rfl
theorem gw_299 : Cond.instanceMethod yX6_valley ∈ lw_good := good_of 299 (by decide +kernel) rfl
theorem gw_300 : Cond.selects RX6 yX6_valley yX6_valley ∈ lw_good := good_of 300 (by decide +kernel) rfl
set_option maxRecDepth 100000 in
theorem gw_301 : Cond.code yX6_valley cX6_valley 2 (some .int) ∈ lw_good := good_of 301 rfl rfl
theorem gw_302 : Cond.classLink "MeltHours" 74 "MeltHours$Reader" ∈ lw_good := good_of 302 (by decide +kernel) rfl
theorem gw_303 : Cond.instantiable "MeltHours$Reader" 5 ∈ lw_good := good_of 303 (by decide +kernel) rfl
theorem gw_304 : Cond.methodLink "MeltHours" 76 yX1_init ∈ lw_good := good_of 304 (by decide +kernel) rfl
theorem gw_305 : Cond.instanceMethod yX1_init ∈ lw_good := good_of 305 (by decide +kernel) rfl
set_option maxRecDepth 100000 in
theorem gw_306 : Cond.code yX1_init cX1_init 3 none ∈ lw_good := good_of 306 rfl rfl
theorem gw_308 : Cond.classLink "MeltHours$Reader" 15 "MeltHours$Valley" ∈ lw_good := good_of 308 (by decide +kernel) rfl
theorem gw_309 : Cond.methodLink "MeltHours$Reader" 17 yX4_init ∈ lw_good := good_of 309 (by decide +kernel) rfl
theorem gw_310 : Cond.methodLink "MeltHours$Reader" 26 yJ9_min_7cf53 ∈ lw_good := good_of 310 (by decide +kernel) rfl
theorem gw_311 : Cond.static yJ9_min_7cf53 ∈ lw_good := good_of 311 (by decide +kernel) rfl
set_option maxRecDepth 100000 in
theorem gw_312 : Cond.code yJ9_min_7cf53 cJ9_min_7cf53 2 (some .int) ∈ lw_good := good_of 312 rfl rfl
theorem gw_313 : Cond.fieldLink "MeltHours$Reader" 22 "MeltHours$Reader" "text" "[I" ∈ lw_good := good_of 313 (by decide +kernel) rfl
theorem gw_314 : Cond.fieldLink "MeltHours$Reader" 32 "MeltHours$Reader" "length" "I" ∈ lw_good := good_of 314 (by decide +kernel) rfl
theorem gw_315 : Cond.fieldLink "MeltHours$Reader" 9 "MeltHours$Reader" "sound" "Z" ∈ lw_good := good_of 315 (by decide +kernel) rfl
theorem gw_316 : Cond.fieldLink "MeltHours$Reader" 43 "MeltHours$Reader" "at" "I" ∈ lw_good := good_of 316 (by decide +kernel) rfl
theorem gw_317 : Cond.fieldLink "MeltHours" 83 "MeltHours$Reader" "at" "I" ∈ lw_good := good_of 317 (by decide +kernel) rfl
theorem gw_318 : Cond.fieldLink "MeltHours$Reader" 18 "MeltHours$Reader" "valley" "LMeltHours$Valley;" ∈ lw_good := good_of 318 (by decide +kernel) rfl
theorem gw_319 : Cond.fieldLink "MeltHours" 86 "MeltHours$Reader" "valley" "LMeltHours$Valley;" ∈ lw_good := good_of 319 (by decide +kernel) rfl
theorem gw_331 : Cond.methodLink "MeltHours" 79 yX1_isValley ∈ lw_good := good_of 331 (by decide +kernel) rfl
theorem gw_332 : Cond.instanceMethod yX1_isValley ∈ lw_good := good_of 332 (by decide +kernel) rfl
theorem gw_333 : Cond.selects RX1 yX1_isValley yX1_isValley ∈ lw_good := good_of 333 (by decide +kernel) rfl
set_option maxRecDepth 100000 in
theorem gw_334 : Cond.code yX1_isValley cX1_isValley 2 (some .boolean) ∈ lw_good := good_of 334 rfl rfl
theorem gw_335 : Cond.methodLink "MeltHours$Reader" 36 yX1_clause ∈ lw_good := good_of 335 (by decide +kernel) rfl
theorem gw_337 : Cond.instanceMethod yX1_clause ∈ lw_good := good_of 337 (by decide +kernel) rfl
set_option maxRecDepth 100000 in
theorem gw_338 : Cond.code yX1_clause cX1_clause 4 none ∈ lw_good := good_of 338 rfl rfl
theorem gw_339 : Cond.methodLink "MeltHours$Reader" 46 yX1_word ∈ lw_good := good_of 339 (by decide +kernel) rfl
theorem gw_341 : Cond.instanceMethod yX1_word ∈ lw_good := good_of 341 (by decide +kernel) rfl
set_option maxRecDepth 100000 in
theorem gw_342 : Cond.code yX1_word cX1_word 1 (some .int) ∈ lw_good := good_of 342 rfl rfl
theorem gw_343 : Cond.methodLink "MeltHours$Reader" 39 yX1_passes ∈ lw_good := good_of 343 (by decide +kernel) rfl
theorem gw_345 : Cond.instanceMethod yX1_passes ∈ lw_good := good_of 345 (by decide +kernel) rfl
set_option maxRecDepth 100000 in
theorem gw_346 : Cond.code yX1_passes cX1_passes 2 (some .boolean) ∈ lw_good := good_of 346 rfl rfl
theorem gw_347 : Cond.methodLink "MeltHours$Reader" 109 yX1_next ∈ lw_good := good_of 347 (by decide +kernel) rfl
theorem gw_349 : Cond.instanceMethod yX1_next ∈ lw_good := good_of 349 (by decide +kernel) rfl
set_option maxRecDepth 100000 in
theorem gw_350 : Cond.code yX1_next cX1_next 1 (some .int) ∈ lw_good := good_of 350 rfl rfl
theorem gw_352 : Cond.methodLink "MeltHours$Reader" 75 yX1_ending ∈ lw_good := good_of 352 (by decide +kernel) rfl
theorem gw_354 : Cond.instanceMethod yX1_ending ∈ lw_good := good_of 354 (by decide +kernel) rfl
set_option maxRecDepth 100000 in
theorem gw_355 : Cond.code yX1_ending cX1_ending 4 (some .int) ∈ lw_good := good_of 355 rfl rfl
theorem gw_356 : Cond.methodLink "MeltHours$Reader" 87 yJ0_length_8abf5 ∈ lw_good := good_of 356 (by decide +kernel) rfl
theorem gw_357 : Cond.instanceMethod yJ0_length_8abf5 ∈ lw_good := good_of 357 (by decide +kernel) rfl
theorem gw_358 : Cond.selects RJ0 yJ0_length_8abf5 yJ0_length_8abf5 ∈ lw_good := good_of 358 (by decide +kernel) rfl
theorem gw_366 : Cond.methodLink "MeltHours$Reader" 91 yJ0_charAt_5068e ∈ lw_good := good_of 366 (by decide +kernel) rfl
theorem gw_367 : Cond.instanceMethod yJ0_charAt_5068e ∈ lw_good := good_of 367 (by decide +kernel) rfl
theorem gw_368 : Cond.selects RJ0 yJ0_charAt_5068e yJ0_charAt_5068e ∈ lw_good := good_of 368 (by decide +kernel) rfl
theorem gw_404 : Cond.methodLink "MeltHours$Reader" 50 yX1_expect ∈ lw_good := good_of 404 (by decide +kernel) rfl
theorem gw_406 : Cond.instanceMethod yX1_expect ∈ lw_good := good_of 406 (by decide +kernel) rfl
set_option maxRecDepth 100000 in
theorem gw_407 : Cond.code yX1_expect cX1_expect 2 none ∈ lw_good := good_of 407 rfl rfl
theorem gw_412 : Cond.methodLink "MeltHours$Reader" 54 yX1_number ∈ lw_good := good_of 412 (by decide +kernel) rfl
theorem gw_414 : Cond.instanceMethod yX1_number ∈ lw_good := good_of 414 (by decide +kernel) rfl
set_option maxRecDepth 100000 in
theorem gw_415 : Cond.code yX1_number cX1_number 3 (some .int) ∈ lw_good := good_of 415 rfl rfl
theorem gw_417 : Cond.methodLink "MeltHours$Reader" 57 yX1_either ∈ lw_good := good_of 417 (by decide +kernel) rfl
theorem gw_419 : Cond.instanceMethod yX1_either ∈ lw_good := good_of 419 (by decide +kernel) rfl
set_option maxRecDepth 100000 in
theorem gw_420 : Cond.code yX1_either cX1_either 6 (some (.array .boolean)) ∈ lw_good := good_of 420 rfl rfl
theorem gw_421 : Cond.methodLink "MeltHours$Reader" 95 yX1_both ∈ lw_good := good_of 421 (by decide +kernel) rfl
theorem gw_423 : Cond.instanceMethod yX1_both ∈ lw_good := good_of 423 (by decide +kernel) rfl
set_option maxRecDepth 100000 in
theorem gw_424 : Cond.code yX1_both cX1_both 6 (some (.array .boolean)) ∈ lw_good := good_of 424 rfl rfl
theorem gw_425 : Cond.methodLink "MeltHours$Reader" 98 yX1_factor ∈ lw_good := good_of 425 (by decide +kernel) rfl
theorem gw_427 : Cond.instanceMethod yX1_factor ∈ lw_good := good_of 427 (by decide +kernel) rfl
set_option maxRecDepth 100000 in
theorem gw_428 : Cond.code yX1_factor cX1_factor 4 (some (.array .boolean)) ∈ lw_good := good_of 428 rfl rfl
theorem gw_429 : Cond.methodLink "MeltHours$Reader" 101 yX1_oneOf ∈ lw_good := good_of 429 (by decide +kernel) rfl
theorem gw_431 : Cond.instanceMethod yX1_oneOf ∈ lw_good := good_of 431 (by decide +kernel) rfl
set_option maxRecDepth 100000 in
theorem gw_432 : Cond.code yX1_oneOf cX1_oneOf 5 (some .int) ∈ lw_good := good_of 432 rfl rfl
theorem gw_433 : Cond.methodLink "MeltHours$Reader" 105 yX1_whereHolds ∈ lw_good := good_of 433 (by decide +kernel) rfl
theorem gw_434 : Cond.static yX1_whereHolds ∈ lw_good := good_of 434 (by decide +kernel) rfl
set_option maxRecDepth 100000 in
theorem gw_435 : Cond.code yX1_whereHolds cX1_whereHolds 6 (some (.array .boolean)) ∈ lw_good := good_of 435 rfl rfl
theorem gw_436 : Cond.methodLink "MeltHours$Reader" 61 yX4_melt ∈ lw_good := good_of 436 (by decide +kernel) rfl
theorem gw_437 : Cond.instanceMethod yX4_melt ∈ lw_good := good_of 437 (by decide +kernel) rfl
theorem gw_438 : Cond.selects RX4 yX4_melt yX4_melt ∈ lw_good := good_of 438 (by decide +kernel) rfl
set_option maxRecDepth 100000 in
theorem gw_439 : Cond.code yX4_melt cX4_melt 4 none ∈ lw_good := good_of 439 rfl rfl
theorem gw_440 : Cond.methodLink "MeltHours$Reader" 65 yX1_figure ∈ lw_good := good_of 440 (by decide +kernel) rfl
theorem gw_442 : Cond.instanceMethod yX1_figure ∈ lw_good := good_of 442 (by decide +kernel) rfl
set_option maxRecDepth 100000 in
theorem gw_443 : Cond.code yX1_figure cX1_figure 3 (some .int) ∈ lw_good := good_of 443 rfl rfl
theorem gw_444 : Cond.methodLink "MeltHours$Reader" 69 yX4_tell ∈ lw_good := good_of 444 (by decide +kernel) rfl
theorem gw_445 : Cond.instanceMethod yX4_tell ∈ lw_good := good_of 445 (by decide +kernel) rfl
theorem gw_446 : Cond.selects RX4 yX4_tell yX4_tell ∈ lw_good := good_of 446 (by decide +kernel) rfl
set_option maxRecDepth 100000 in
theorem gw_447 : Cond.code yX4_tell cX4_tell 4 none ∈ lw_good := good_of 447 rfl rfl
theorem gw_449 : Cond.methodLink "MeltHours$Valley" 30 yJ9_min_7cf53 ∈ lw_good := good_of 449 (by decide +kernel) rfl
theorem gw_452 : Cond.methodLink "MeltHoursLaw" 32 yX6_told ∈ lw_good := good_of 452 (by decide +kernel) rfl
theorem gw_453 : Cond.instanceMethod yX6_told ∈ lw_good := good_of 453 (by decide +kernel) rfl
theorem gw_454 : Cond.selects RX6 yX6_told yX6_told ∈ lw_good := good_of 454 (by decide +kernel) rfl
set_option maxRecDepth 100000 in
theorem gw_455 : Cond.code yX6_told cX6_told 3 (some .int) ∈ lw_good := good_of 455 rfl rfl
theorem gw_456 : Cond.methodLink "MeltHoursLaw" 36 yX6_melts ∈ lw_good := good_of 456 (by decide +kernel) rfl
theorem gw_457 : Cond.instanceMethod yX6_melts ∈ lw_good := good_of 457 (by decide +kernel) rfl
theorem gw_458 : Cond.selects RX6 yX6_melts yX6_melts ∈ lw_good := good_of 458 (by decide +kernel) rfl
set_option maxRecDepth 100000 in
theorem gw_459 : Cond.code yX6_melts cX6_melts 2 (some .int) ∈ lw_good := good_of 459 rfl rfl
theorem gw_460 : Cond.methodLink "MeltHours" 91 yX2_melting ∈ lw_good := good_of 460 (by decide +kernel) rfl
theorem gw_461 : Cond.instanceMethod yX2_melting ∈ lw_good := good_of 461 (by decide +kernel) rfl
theorem gw_462 : Cond.selects RX2 yX2_melting yX2_melting ∈ lw_good := good_of 462 (by decide +kernel) rfl
set_option maxRecDepth 100000 in
theorem gw_463 : Cond.code yX2_melting cX2_melting 4 (some .int) ∈ lw_good := good_of 463 rfl rfl
theorem gw_464 : Cond.methodLink "MeltHours$State" 55 yJ9_min_7cf53 ∈ lw_good := good_of 464 (by decide +kernel) rfl
theorem gw_466 : Cond.methodLink "MeltHoursLaw" 40 yX6_gate ∈ lw_good := good_of 466 (by decide +kernel) rfl
theorem gw_467 : Cond.instanceMethod yX6_gate ∈ lw_good := good_of 467 (by decide +kernel) rfl
theorem gw_468 : Cond.selects RX6 yX6_gate yX6_gate ∈ lw_good := good_of 468 (by decide +kernel) rfl
set_option maxRecDepth 100000 in
theorem gw_469 : Cond.code yX6_gate cX6_gate 7 (some .int) ∈ lw_good := good_of 469 rfl rfl
theorem gw_471 : Cond.methodLink "MeltHoursLaw" 45 yX6_of ∈ lw_good := good_of 471 (by decide +kernel) rfl
theorem gw_472 : Cond.instanceMethod yX6_of ∈ lw_good := good_of 472 (by decide +kernel) rfl
theorem gw_473 : Cond.selects RX6 yX6_of yX6_of ∈ lw_good := good_of 473 (by decide +kernel) rfl
set_option maxRecDepth 100000 in
theorem gw_474 : Cond.code yX6_of cX6_of 3 (some .int) ∈ lw_good := good_of 474 rfl rfl
theorem gw_475 : Cond.methodLink "MeltHoursLaw" 49 yX6_water ∈ lw_good := good_of 475 (by decide +kernel) rfl
theorem gw_476 : Cond.instanceMethod yX6_water ∈ lw_good := good_of 476 (by decide +kernel) rfl
theorem gw_477 : Cond.selects RX6 yX6_water yX6_water ∈ lw_good := good_of 477 (by decide +kernel) rfl
set_option maxRecDepth 100000 in
theorem gw_478 : Cond.code yX6_water cX6_water 4 (some .int) ∈ lw_good := good_of 478 rfl rfl
theorem gw_479 : Cond.methodLink "MeltHours" 99 yX2_isPlace ∈ lw_good := good_of 479 (by decide +kernel) rfl
theorem gw_480 : Cond.instanceMethod yX2_isPlace ∈ lw_good := good_of 480 (by decide +kernel) rfl
theorem gw_481 : Cond.selects RX2 yX2_isPlace yX2_isPlace ∈ lw_good := good_of 481 (by decide +kernel) rfl
set_option maxRecDepth 100000 in
theorem gw_482 : Cond.code yX2_isPlace cX2_isPlace 2 (some .boolean) ∈ lw_good := good_of 482 rfl rfl
theorem gw_483 : Cond.methodLink "MeltHours" 103 yX5_settle ∈ lw_good := good_of 483 (by decide +kernel) rfl
theorem gw_484 : Cond.instanceMethod yX5_settle ∈ lw_good := good_of 484 (by decide +kernel) rfl
theorem gw_485 : Cond.selects RX5 yX5_settle yX5_settle ∈ lw_good := good_of 485 (by decide +kernel) rfl
set_option maxRecDepth 100000 in
theorem gw_486 : Cond.code yX5_settle cX5_settle 1 (some .int) ∈ lw_good := good_of 486 rfl rfl
theorem gw_487 : Cond.methodLink "MeltHours$Water" 63 yX5_load ∈ lw_good := good_of 487 (by decide +kernel) rfl
theorem gw_488 : Cond.instanceMethod yX5_load ∈ lw_good := good_of 488 (by decide +kernel) rfl
theorem gw_489 : Cond.selects RX5 yX5_load yX5_load ∈ lw_good := good_of 489 (by decide +kernel) rfl
set_option maxRecDepth 100000 in
theorem gw_490 : Cond.code yX5_load cX5_load 1 none ∈ lw_good := good_of 490 rfl rfl
theorem gw_492 : Cond.static yX6_copyRows ∈ lw_good := good_of 492 (by decide +kernel) rfl
set_option maxRecDepth 100000 in
theorem gw_493 : Cond.code yX6_copyRows cX6_copyRows 3 none ∈ lw_good := good_of 493 rfl rfl
theorem gw_494 : Cond.methodLink "MeltHours" 270 yX6_copy ∈ lw_good := good_of 494 (by decide +kernel) rfl
theorem gw_495 : Cond.static yX6_copy ∈ lw_good := good_of 495 (by decide +kernel) rfl
set_option maxRecDepth 100000 in
theorem gw_496 : Cond.code yX6_copy cX6_copy 2 none ∈ lw_good := good_of 496 rfl rfl
theorem gw_497 : Cond.methodLink "MeltHours" 207 yJ9_min_7cf53 ∈ lw_good := good_of 497 (by decide +kernel) rfl
theorem gw_501 : Cond.methodLink "MeltHours$Water" 69 yX5_meltUnder ∈ lw_good := good_of 501 (by decide +kernel) rfl
theorem gw_502 : Cond.instanceMethod yX5_meltUnder ∈ lw_good := good_of 502 (by decide +kernel) rfl
theorem gw_503 : Cond.selects RX5 yX5_meltUnder yX5_meltUnder ∈ lw_good := good_of 503 (by decide +kernel) rfl
set_option maxRecDepth 100000 in
theorem gw_504 : Cond.code yX5_meltUnder cX5_meltUnder 4 none ∈ lw_good := good_of 504 rfl rfl
theorem gw_505 : Cond.methodLink "MeltHours$Water" 59 yX2_melting ∈ lw_good := good_of 505 (by decide +kernel) rfl
theorem gw_506 : Cond.methodLink "MeltHours$Water" 73 yX5_again ∈ lw_good := good_of 506 (by decide +kernel) rfl
theorem gw_507 : Cond.instanceMethod yX5_again ∈ lw_good := good_of 507 (by decide +kernel) rfl
theorem gw_508 : Cond.selects RX5 yX5_again yX5_again ∈ lw_good := good_of 508 (by decide +kernel) rfl
set_option maxRecDepth 100000 in
theorem gw_509 : Cond.code yX5_again cX5_again 3 (some .int) ∈ lw_good := good_of 509 rfl rfl
theorem gw_510 : Cond.methodLink "MeltHours$Water" 77 yX2_isPlace ∈ lw_good := good_of 510 (by decide +kernel) rfl
theorem gw_511 : Cond.methodLink "MeltHours$Water" 81 yX5_come ∈ lw_good := good_of 511 (by decide +kernel) rfl
theorem gw_513 : Cond.instanceMethod yX5_come ∈ lw_good := good_of 513 (by decide +kernel) rfl
set_option maxRecDepth 100000 in
theorem gw_514 : Cond.code yX5_come cX5_come 7 none ∈ lw_good := good_of 514 rfl rfl
theorem gw_515 : Cond.methodLink "MeltHours$Water" 98 yJ7_fill_53178 ∈ lw_good := good_of 515 (by decide +kernel) rfl
theorem gw_516 : Cond.methodLink "MeltHours$Water" 104 yX5_going ∈ lw_good := good_of 516 (by decide +kernel) rfl
theorem gw_517 : Cond.instanceMethod yX5_going ∈ lw_good := good_of 517 (by decide +kernel) rfl
theorem gw_518 : Cond.selects RX5 yX5_going yX5_going ∈ lw_good := good_of 518 (by decide +kernel) rfl
set_option maxRecDepth 100000 in
theorem gw_519 : Cond.code yX5_going cX5_going 3 (some .int) ∈ lw_good := good_of 519 rfl rfl
theorem gw_520 : Cond.methodLink "MeltHours$Water" 93 yJ9_min_7cf53 ∈ lw_good := good_of 520 (by decide +kernel) rfl
theorem gw_522 : Cond.methodLink "MeltHours$Water" 111 yX5_arriving ∈ lw_good := good_of 522 (by decide +kernel) rfl
theorem gw_523 : Cond.instanceMethod yX5_arriving ∈ lw_good := good_of 523 (by decide +kernel) rfl
theorem gw_524 : Cond.selects RX5 yX5_arriving yX5_arriving ∈ lw_good := good_of 524 (by decide +kernel) rfl
set_option maxRecDepth 100000 in
theorem gw_525 : Cond.code yX5_arriving cX5_arriving 3 (some .int) ∈ lw_good := good_of 525 rfl rfl
theorem gw_526 : Cond.methodLink "MeltHours$Water" 85 yX5_pass ∈ lw_good := good_of 526 (by decide +kernel) rfl
theorem gw_528 : Cond.instanceMethod yX5_pass ∈ lw_good := good_of 528 (by decide +kernel) rfl
set_option maxRecDepth 100000 in
theorem gw_529 : Cond.code yX5_pass cX5_pass 8 none ∈ lw_good := good_of 529 rfl rfl
theorem gw_530 : Cond.methodLink "MeltHours$Water" 114 yX5_takes ∈ lw_good := good_of 530 (by decide +kernel) rfl
theorem gw_532 : Cond.instanceMethod yX5_takes ∈ lw_good := good_of 532 (by decide +kernel) rfl
set_option maxRecDepth 100000 in
theorem gw_533 : Cond.code yX5_takes cX5_takes 8 (some .int) ∈ lw_good := good_of 533 rfl rfl
theorem gw_534 : Cond.methodLink "MeltHours$Water" 118 yJ9_max_7cf53 ∈ lw_good := good_of 534 (by decide +kernel) rfl
theorem gw_535 : Cond.static yJ9_max_7cf53 ∈ lw_good := good_of 535 (by decide +kernel) rfl
set_option maxRecDepth 100000 in
theorem gw_536 : Cond.code yJ9_max_7cf53 cJ9_max_7cf53 2 (some .int) ∈ lw_good := good_of 536 rfl rfl
theorem gw_537 : Cond.methodLink "MeltHours$Water" 89 yX5_serve ∈ lw_good := good_of 537 (by decide +kernel) rfl
theorem gw_539 : Cond.instanceMethod yX5_serve ∈ lw_good := good_of 539 (by decide +kernel) rfl
set_option maxRecDepth 100000 in
theorem gw_540 : Cond.code yX5_serve cX5_serve 7 (some .int) ∈ lw_good := good_of 540 rfl rfl
theorem gw_541 : Cond.methodLink "MeltHours$Water" 125 yX2_isWant ∈ lw_good := good_of 541 (by decide +kernel) rfl
theorem gw_542 : Cond.instanceMethod yX2_isWant ∈ lw_good := good_of 542 (by decide +kernel) rfl
theorem gw_543 : Cond.selects RX2 yX2_isWant yX2_isWant ∈ lw_good := good_of 543 (by decide +kernel) rfl
set_option maxRecDepth 100000 in
theorem gw_544 : Cond.code yX2_isWant cX2_isWant 2 (some .boolean) ∈ lw_good := good_of 544 rfl rfl
theorem gw_545 : Cond.methodLink "MeltHours$Water" 131 yX5_servedBefore ∈ lw_good := good_of 545 (by decide +kernel) rfl
theorem gw_547 : Cond.instanceMethod yX5_servedBefore ∈ lw_good := good_of 547 (by decide +kernel) rfl
set_option maxRecDepth 100000 in
theorem gw_548 : Cond.code yX5_servedBefore cX5_servedBefore 4 (some .int) ∈ lw_good := good_of 548 rfl rfl
theorem gw_549 : Cond.methodLink "MeltHours" 107 yX5_rows ∈ lw_good := good_of 549 (by decide +kernel) rfl
theorem gw_550 : Cond.instanceMethod yX5_rows ∈ lw_good := good_of 550 (by decide +kernel) rfl
theorem gw_551 : Cond.selects RX5 yX5_rows yX5_rows ∈ lw_good := good_of 551 (by decide +kernel) rfl
set_option maxRecDepth 100000 in
theorem gw_552 : Cond.code yX5_rows cX5_rows 2 (some (.array (.array .int))) ∈ lw_good := good_of 552 rfl rfl
theorem gw_553 : Cond.methodLink "MeltHoursLaw" 54 yX6_all ∈ lw_good := good_of 553 (by decide +kernel) rfl
theorem gw_554 : Cond.instanceMethod yX6_all ∈ lw_good := good_of 554 (by decide +kernel) rfl
theorem gw_555 : Cond.selects RX6 yX6_all yX6_all ∈ lw_good := good_of 555 (by decide +kernel) rfl
set_option maxRecDepth 100000 in
theorem gw_556 : Cond.code yX6_all cX6_all 2 (some .int) ∈ lw_good := good_of 556 rfl rfl
theorem gw_557 : Cond.methodLink "MeltHours" 114 yX6_sum ∈ lw_good := good_of 557 (by decide +kernel) rfl
theorem gw_558 : Cond.static yX6_sum ∈ lw_good := good_of 558 (by decide +kernel) rfl
set_option maxRecDepth 100000 in
theorem gw_559 : Cond.code yX6_sum cX6_sum 6 (some .int) ∈ lw_good := good_of 559 rfl rfl
theorem gw_560 : Cond.methodLink "MeltHours" 121 yX5_inAllPlaces ∈ lw_good := good_of 560 (by decide +kernel) rfl
theorem gw_561 : Cond.instanceMethod yX5_inAllPlaces ∈ lw_good := good_of 561 (by decide +kernel) rfl
theorem gw_562 : Cond.selects RX5 yX5_inAllPlaces yX5_inAllPlaces ∈ lw_good := good_of 562 (by decide +kernel) rfl
set_option maxRecDepth 100000 in
theorem gw_563 : Cond.code yX5_inAllPlaces cX5_inAllPlaces 4 (some .int) ∈ lw_good := good_of 563 rfl rfl
theorem gw_564 : Cond.methodLink "MeltHours$Water" 134 yX5_inPlace ∈ lw_good := good_of 564 (by decide +kernel) rfl
theorem gw_565 : Cond.instanceMethod yX5_inPlace ∈ lw_good := good_of 565 (by decide +kernel) rfl
theorem gw_566 : Cond.selects RX5 yX5_inPlace yX5_inPlace ∈ lw_good := good_of 566 (by decide +kernel) rfl
set_option maxRecDepth 100000 in
theorem gw_567 : Cond.code yX5_inPlace cX5_inPlace 3 (some .int) ∈ lw_good := good_of 567 rfl rfl
theorem gw_569 : Cond.methodLink "MeltHours" 131 yX5_inPlace ∈ lw_good := good_of 569 (by decide +kernel) rfl
theorem gw_570 : Cond.methodLink "MeltHoursLaw" 58 yX6_want ∈ lw_good := good_of 570 (by decide +kernel) rfl
theorem gw_571 : Cond.instanceMethod yX6_want ∈ lw_good := good_of 571 (by decide +kernel) rfl
theorem gw_572 : Cond.selects RX6 yX6_want yX6_want ∈ lw_good := good_of 572 (by decide +kernel) rfl
set_option maxRecDepth 100000 in
theorem gw_573 : Cond.code yX6_want cX6_want 6 (some .int) ∈ lw_good := good_of 573 rfl rfl
theorem gw_574 : Cond.methodLink "MeltHoursLaw" 62 yX6_wants ∈ lw_good := good_of 574 (by decide +kernel) rfl
theorem gw_575 : Cond.instanceMethod yX6_wants ∈ lw_good := good_of 575 (by decide +kernel) rfl
theorem gw_576 : Cond.selects RX6 yX6_wants yX6_wants ∈ lw_good := good_of 576 (by decide +kernel) rfl
set_option maxRecDepth 100000 in
theorem gw_577 : Cond.code yX6_wants cX6_wants 3 (some .int) ∈ lw_good := good_of 577 rfl rfl
theorem gw_578 : Cond.methodLink "MeltHours" 141 yX2_isWant ∈ lw_good := good_of 578 (by decide +kernel) rfl
theorem gw_579 : Cond.methodLink "MeltHoursLaw" 66 yX6_worth ∈ lw_good := good_of 579 (by decide +kernel) rfl
theorem gw_580 : Cond.instanceMethod yX6_worth ∈ lw_good := good_of 580 (by decide +kernel) rfl
theorem gw_581 : Cond.selects RX6 yX6_worth yX6_worth ∈ lw_good := good_of 581 (by decide +kernel) rfl
set_option maxRecDepth 100000 in
theorem gw_582 : Cond.code yX6_worth cX6_worth 1 (some .int) ∈ lw_good := good_of 582 rfl rfl
theorem gw_583 : Cond.methodLink "MeltHoursLaw" 70 yX6_best ∈ lw_good := good_of 583 (by decide +kernel) rfl
theorem gw_584 : Cond.instanceMethod yX6_best ∈ lw_good := good_of 584 (by decide +kernel) rfl
theorem gw_585 : Cond.selects RX6 yX6_best yX6_best ∈ lw_good := good_of 585 (by decide +kernel) rfl
set_option maxRecDepth 100000 in
theorem gw_586 : Cond.code yX6_best cX6_best 11 (some .int) ∈ lw_good := good_of 586 rfl rfl
theorem gw_587 : Cond.methodLink "MeltHours" 147 yX5_utmost ∈ lw_good := good_of 587 (by decide +kernel) rfl
theorem gw_588 : Cond.instanceMethod yX5_utmost ∈ lw_good := good_of 588 (by decide +kernel) rfl
theorem gw_589 : Cond.selects RX5 yX5_utmost yX5_utmost ∈ lw_good := good_of 589 (by decide +kernel) rfl
set_option maxRecDepth 100000 in
theorem gw_590 : Cond.code yX5_utmost cX5_utmost 6 (some .int) ∈ lw_good := good_of 590 rfl rfl
theorem gw_591 : Cond.methodLink "MeltHours" 152 yX6_span ∈ lw_good := good_of 591 (by decide +kernel) rfl
theorem gw_592 : Cond.static yX6_span ∈ lw_good := good_of 592 (by decide +kernel) rfl
set_option maxRecDepth 100000 in
theorem gw_593 : Cond.code yX6_span cX6_span 4 (some .int) ∈ lw_good := good_of 593 rfl rfl
theorem gw_594 : Cond.methodLink "MeltHours" 155 yX5_again ∈ lw_good := good_of 594 (by decide +kernel) rfl
theorem gw_595 : Cond.methodLink "MeltHoursLaw" 74 yX6_price ∈ lw_good := good_of 595 (by decide +kernel) rfl
theorem gw_596 : Cond.instanceMethod yX6_price ∈ lw_good := good_of 596 (by decide +kernel) rfl
theorem gw_597 : Cond.selects RX6 yX6_price yX6_price ∈ lw_good := good_of 597 (by decide +kernel) rfl
set_option maxRecDepth 100000 in
theorem gw_598 : Cond.code yX6_price cX6_price 3 (some .int) ∈ lw_good := good_of 598 rfl rfl
theorem gw_599 : Cond.methodLink "MeltHoursLaw" 78 yX6_part ∈ lw_good := good_of 599 (by decide +kernel) rfl
theorem gw_600 : Cond.instanceMethod yX6_part ∈ lw_good := good_of 600 (by decide +kernel) rfl
theorem gw_601 : Cond.selects RX6 yX6_part yX6_part ∈ lw_good := good_of 601 (by decide +kernel) rfl
set_option maxRecDepth 100000 in
theorem gw_602 : Cond.code yX6_part cX6_part 8 (some .int) ∈ lw_good := good_of 602 rfl rfl
theorem gw_603 : Cond.methodLink "MeltHours" 158 yX5_load ∈ lw_good := good_of 603 (by decide +kernel) rfl
theorem gw_604 : Cond.methodLink "MeltHours" 161 yX5_going ∈ lw_good := good_of 604 (by decide +kernel) rfl
theorem gw_605 : Cond.methodLink "MeltHours" 164 yX5_arriving ∈ lw_good := good_of 605 (by decide +kernel) rfl
theorem gw_606 : Cond.methodLink "MeltHoursLaw" 82 yX6_odds ∈ lw_good := good_of 606 (by decide +kernel) rfl
theorem gw_607 : Cond.instanceMethod yX6_odds ∈ lw_good := good_of 607 (by decide +kernel) rfl
theorem gw_608 : Cond.selects RX6 yX6_odds yX6_odds ∈ lw_good := good_of 608 (by decide +kernel) rfl
set_option maxRecDepth 100000 in
theorem gw_609 : Cond.code yX6_odds cX6_odds 3 (some .int) ∈ lw_good := good_of 609 rfl rfl
theorem gw_610 : Cond.methodLink "MeltHoursLaw" 86 yX6_mean ∈ lw_good := good_of 610 (by decide +kernel) rfl
theorem gw_611 : Cond.instanceMethod yX6_mean ∈ lw_good := good_of 611 (by decide +kernel) rfl
theorem gw_612 : Cond.selects RX6 yX6_mean yX6_mean ∈ lw_good := good_of 612 (by decide +kernel) rfl
set_option maxRecDepth 100000 in
theorem gw_613 : Cond.code yX6_mean cX6_mean 7 (some .long) ∈ lw_good := good_of 613 rfl rfl
theorem gw_615 : Cond.methodLink "MeltHours" 173 yX6_underSkies ∈ lw_good := good_of 615 (by decide +kernel) rfl
theorem gw_617 : Cond.instanceMethod yX6_underSkies ∈ lw_good := good_of 617 (by decide +kernel) rfl
set_option maxRecDepth 100000 in
theorem gw_618 : Cond.code yX6_underSkies cX6_underSkies 5 (some .int) ∈ lw_good := good_of 618 rfl rfl
theorem gw_619 : Cond.methodLink "MeltHours" 264 yX5_meltUnder ∈ lw_good := good_of 619 (by decide +kernel) rfl
theorem gw_620 : Cond.methodLink "MeltHours" 177 yX6_divisorWithHundred ∈ lw_good := good_of 620 (by decide +kernel) rfl
theorem gw_621 : Cond.static yX6_divisorWithHundred ∈ lw_good := good_of 621 (by decide +kernel) rfl
set_option maxRecDepth 100000 in
theorem gw_622 : Cond.code yX6_divisorWithHundred cX6_divisorWithHundred 2 (some .int) ∈ lw_good := good_of 622 rfl rfl
theorem gw_623 : Cond.methodLink "MeltHoursLaw" 91 yX6_pond ∈ lw_good := good_of 623 (by decide +kernel) rfl
theorem gw_624 : Cond.instanceMethod yX6_pond ∈ lw_good := good_of 624 (by decide +kernel) rfl
theorem gw_625 : Cond.selects RX6 yX6_pond yX6_pond ∈ lw_good := good_of 625 (by decide +kernel) rfl
set_option maxRecDepth 100000 in
theorem gw_626 : Cond.code yX6_pond cX6_pond 6 (some .int) ∈ lw_good := good_of 626 rfl rfl
theorem gw_627 : Cond.methodLink "MeltHoursLaw" 95 yX6_wrong ∈ lw_good := good_of 627 (by decide +kernel) rfl
theorem gw_628 : Cond.instanceMethod yX6_wrong ∈ lw_good := good_of 628 (by decide +kernel) rfl
theorem gw_629 : Cond.selects RX6 yX6_wrong yX6_wrong ∈ lw_good := good_of 629 (by decide +kernel) rfl
set_option maxRecDepth 100000 in
theorem gw_630 : Cond.code yX6_wrong cX6_wrong 4 (some .int) ∈ lw_good := good_of 630 rfl rfl
theorem gw_631 : Cond.methodLink "MeltHoursLaw" 99 yX6_spare ∈ lw_good := good_of 631 (by decide +kernel) rfl
theorem gw_632 : Cond.instanceMethod yX6_spare ∈ lw_good := good_of 632 (by decide +kernel) rfl
theorem gw_633 : Cond.selects RX6 yX6_spare yX6_spare ∈ lw_good := good_of 633 (by decide +kernel) rfl
set_option maxRecDepth 100000 in
theorem gw_634 : Cond.code yX6_spare cX6_spare 4 (some .int) ∈ lw_good := good_of 634 rfl rfl
theorem gw_635 : Cond.methodLink "MeltHours" 180 yJ6_bitCount_0f7a4 ∈ lw_good := good_of 635 (by decide +kernel) rfl
theorem gw_636 : Cond.static yJ6_bitCount_0f7a4 ∈ lw_good := good_of 636 (by decide +kernel) rfl
set_option maxRecDepth 100000 in
theorem gw_637 : Cond.code yJ6_bitCount_0f7a4 cJ6_bitCount_0f7a4 1 (some .int) ∈ lw_good := good_of 637 rfl rfl
theorem gw_641 : Cond.methodLink "MeltHours" 185 yX5_worthWithout ∈ lw_good := good_of 641 (by decide +kernel) rfl
theorem gw_642 : Cond.instanceMethod yX5_worthWithout ∈ lw_good := good_of 642 (by decide +kernel) rfl
theorem gw_643 : Cond.selects RX5 yX5_worthWithout yX5_worthWithout ∈ lw_good := good_of 643 (by decide +kernel) rfl
set_option maxRecDepth 100000 in
theorem gw_644 : Cond.code yX5_worthWithout cX5_worthWithout 3 (some .int) ∈ lw_good := good_of 644 rfl rfl
theorem gw_645 : Cond.methodLink "MeltHoursLaw" 103 yX6_day ∈ lw_good := good_of 645 (by decide +kernel) rfl
theorem gw_646 : Cond.instanceMethod yX6_day ∈ lw_good := good_of 646 (by decide +kernel) rfl
theorem gw_647 : Cond.selects RX6 yX6_day yX6_day ∈ lw_good := good_of 647 (by decide +kernel) rfl
set_option maxRecDepth 100000 in
theorem gw_648 : Cond.code yX6_day cX6_day 2 (some .int) ∈ lw_good := good_of 648 rfl rfl
theorem gw_649 : Cond.methodLink "MeltHoursLaw" 107 yX6_judge ∈ lw_good := good_of 649 (by decide +kernel) rfl
theorem gw_650 : Cond.instanceMethod yX6_judge ∈ lw_good := good_of 650 (by decide +kernel) rfl
theorem gw_651 : Cond.selects RX6 yX6_judge yX6_judge ∈ lw_good := good_of 651 (by decide +kernel) rfl
set_option maxRecDepth 100000 in
theorem gw_652 : Cond.code yX6_judge cX6_judge 8 (some .int) ∈ lw_good := good_of 652 rfl rfl
theorem gw_653 : Cond.methodLink "MeltHours" 194 yX6_tapeAt ∈ lw_good := good_of 653 (by decide +kernel) rfl
theorem gw_655 : Cond.instanceMethod yX6_tapeAt ∈ lw_good := good_of 655 (by decide +kernel) rfl
set_option maxRecDepth 100000 in
theorem gw_656 : Cond.code yX6_tapeAt cX6_tapeAt 2 (some (.object "MeltHours$Tape")) ∈ lw_good := good_of 656 rfl rfl
theorem gw_657 : Cond.methodLink "MeltHours" 216 yJ9_max_7cf53 ∈ lw_good := good_of 657 (by decide +kernel) rfl
theorem gw_658 : Cond.methodLink "MeltHoursLaw" 111 yX6_image ∈ lw_good := good_of 658 (by decide +kernel) rfl
theorem gw_659 : Cond.instanceMethod yX6_image ∈ lw_good := good_of 659 (by decide +kernel) rfl
theorem gw_660 : Cond.selects RX6 yX6_image yX6_image ∈ lw_good := good_of 660 (by decide +kernel) rfl
set_option maxRecDepth 100000 in
theorem gw_661 : Cond.code yX6_image cX6_image 1 (some .int) ∈ lw_good := good_of 661 rfl rfl
theorem gw_662 : Cond.methodLink "MeltHours" 219 yX2_become ∈ lw_good := good_of 662 (by decide +kernel) rfl
theorem gw_663 : Cond.instanceMethod yX2_become ∈ lw_good := good_of 663 (by decide +kernel) rfl
theorem gw_664 : Cond.selects RX2 yX2_become yX2_become ∈ lw_good := good_of 664 (by decide +kernel) rfl
set_option maxRecDepth 100000 in
theorem gw_665 : Cond.code yX2_become cX2_become 2 none ∈ lw_good := good_of 665 rfl rfl
theorem gw_668 : Cond.methodLink "MeltHoursLaw" 115 yX6_undo ∈ lw_good := good_of 668 (by decide +kernel) rfl
theorem gw_669 : Cond.instanceMethod yX6_undo ∈ lw_good := good_of 669 (by decide +kernel) rfl
theorem gw_670 : Cond.selects RX6 yX6_undo yX6_undo ∈ lw_good := good_of 670 (by decide +kernel) rfl
set_option maxRecDepth 100000 in
theorem gw_671 : Cond.code yX6_undo cX6_undo 1 (some .int) ∈ lw_good := good_of 671 rfl rfl
theorem gw_672 : Cond.methodLink "MeltHoursLaw" 119 yX6_act ∈ lw_good := good_of 672 (by decide +kernel) rfl
theorem gw_673 : Cond.instanceMethod yX6_act ∈ lw_good := good_of 673 (by decide +kernel) rfl
theorem gw_674 : Cond.selects RX6 yX6_act yX6_act ∈ lw_good := good_of 674 (by decide +kernel) rfl
set_option maxRecDepth 100000 in
theorem gw_675 : Cond.code yX6_act cX6_act 4 (some .int) ∈ lw_good := good_of 675 rfl rfl
theorem gw_676 : Cond.methodLink "MeltHours" 229 yX0_standAt ∈ lw_good := good_of 676 (by decide +kernel) rfl
theorem gw_677 : Cond.instanceMethod yX0_standAt ∈ lw_good := good_of 677 (by decide +kernel) rfl
theorem gw_678 : Cond.selects RX0 yX0_standAt yX0_standAt ∈ lw_good := good_of 678 (by decide +kernel) rfl
set_option maxRecDepth 100000 in
theorem gw_679 : Cond.code yX0_standAt cX0_standAt 3 none ∈ lw_good := good_of 679 rfl rfl
theorem gw_680 : Cond.methodLink "MeltHours" 236 yX0_lets ∈ lw_good := good_of 680 (by decide +kernel) rfl
theorem gw_681 : Cond.instanceMethod yX0_lets ∈ lw_good := good_of 681 (by decide +kernel) rfl
theorem gw_682 : Cond.selects RX0 yX0_lets yX0_lets ∈ lw_good := good_of 682 (by decide +kernel) rfl
set_option maxRecDepth 100000 in
theorem gw_683 : Cond.code yX0_lets cX0_lets 3 (some .int) ∈ lw_good := good_of 683 rfl rfl
theorem gw_684 : Cond.methodLink "MeltHours$Acts" 25 yX0_began ∈ lw_good := good_of 684 (by decide +kernel) rfl
theorem gw_686 : Cond.instanceMethod yX0_began ∈ lw_good := good_of 686 (by decide +kernel) rfl
set_option maxRecDepth 100000 in
theorem gw_687 : Cond.code yX0_began cX0_began 2 none ∈ lw_good := good_of 687 rfl rfl
theorem gw_688 : Cond.methodLink "MeltHours$Acts" 29 yX0_lets ∈ lw_good := good_of 688 (by decide +kernel) rfl
theorem gw_689 : Cond.methodLink "MeltHours" 239 yX0_takes ∈ lw_good := good_of 689 (by decide +kernel) rfl
theorem gw_690 : Cond.instanceMethod yX0_takes ∈ lw_good := good_of 690 (by decide +kernel) rfl
theorem gw_691 : Cond.selects RX0 yX0_takes yX0_takes ∈ lw_good := good_of 691 (by decide +kernel) rfl
set_option maxRecDepth 100000 in
theorem gw_692 : Cond.code yX0_takes cX0_takes 3 (some .int) ∈ lw_good := good_of 692 rfl rfl
theorem gw_693 : Cond.methodLink "MeltHours$Acts" 33 yX0_takes ∈ lw_good := good_of 693 (by decide +kernel) rfl
theorem gw_694 : Cond.methodLink "MeltHours" 242 yX0_tells ∈ lw_good := good_of 694 (by decide +kernel) rfl
theorem gw_695 : Cond.instanceMethod yX0_tells ∈ lw_good := good_of 695 (by decide +kernel) rfl
theorem gw_696 : Cond.selects RX0 yX0_tells yX0_tells ∈ lw_good := good_of 696 (by decide +kernel) rfl
set_option maxRecDepth 100000 in
theorem gw_697 : Cond.code yX0_tells cX0_tells 3 (some .int) ∈ lw_good := good_of 697 rfl rfl
theorem gw_698 : Cond.methodLink "MeltHours$Acts" 36 yX0_tells ∈ lw_good := good_of 698 (by decide +kernel) rfl
theorem gw_699 : Cond.methodLink "MeltHoursLaw" 123 yX6_trace ∈ lw_good := good_of 699 (by decide +kernel) rfl
theorem gw_700 : Cond.instanceMethod yX6_trace ∈ lw_good := good_of 700 (by decide +kernel) rfl
theorem gw_701 : Cond.selects RX6 yX6_trace yX6_trace ∈ lw_good := good_of 701 (by decide +kernel) rfl
set_option maxRecDepth 100000 in
theorem gw_702 : Cond.code yX6_trace cX6_trace 2 (some .int) ∈ lw_good := good_of 702 rfl rfl
theorem gw_703 : Cond.methodLink "MeltHoursLaw" 127 yX6_taken ∈ lw_good := good_of 703 (by decide +kernel) rfl
theorem gw_704 : Cond.instanceMethod yX6_taken ∈ lw_good := good_of 704 (by decide +kernel) rfl
theorem gw_705 : Cond.selects RX6 yX6_taken yX6_taken ∈ lw_good := good_of 705 (by decide +kernel) rfl
set_option maxRecDepth 100000 in
theorem gw_706 : Cond.code yX6_taken cX6_taken 4 (some .int) ∈ lw_good := good_of 706 rfl rfl
theorem gw_707 : Cond.methodLink "MeltHours" 248 yX6_isOrUnder ∈ lw_good := good_of 707 (by decide +kernel) rfl
theorem gw_708 : Cond.static yX6_isOrUnder ∈ lw_good := good_of 708 (by decide +kernel) rfl
set_option maxRecDepth 100000 in
theorem gw_709 : Cond.code yX6_isOrUnder cX6_isOrUnder 4 (some .boolean) ∈ lw_good := good_of 709 rfl rfl
theorem gw_712 : Cond.methodLink "MeltHoursLaw" 131 yX6_count ∈ lw_good := good_of 712 (by decide +kernel) rfl
theorem gw_713 : Cond.instanceMethod yX6_count ∈ lw_good := good_of 713 (by decide +kernel) rfl
theorem gw_714 : Cond.selects RX6 yX6_count yX6_count ∈ lw_good := good_of 714 (by decide +kernel) rfl
set_option maxRecDepth 100000 in
theorem gw_715 : Cond.code yX6_count cX6_count 2 (some .int) ∈ lw_good := good_of 715 rfl rfl
theorem gw_716 : Cond.methodLink "MeltHoursLaw" 135 yX6_tape ∈ lw_good := good_of 716 (by decide +kernel) rfl
theorem gw_717 : Cond.instanceMethod yX6_tape ∈ lw_good := good_of 717 (by decide +kernel) rfl
theorem gw_718 : Cond.selects RX6 yX6_tape yX6_tape ∈ lw_good := good_of 718 (by decide +kernel) rfl
set_option maxRecDepth 100000 in
theorem gw_719 : Cond.code yX6_tape cX6_tape 5 (some .int) ∈ lw_good := good_of 719 rfl rfl
theorem gw_720 : Cond.methodLink "MeltHours" 251 yX3_become ∈ lw_good := good_of 720 (by decide +kernel) rfl
theorem gw_721 : Cond.instanceMethod yX3_become ∈ lw_good := good_of 721 (by decide +kernel) rfl
theorem gw_722 : Cond.selects RX3 yX3_become yX3_become ∈ lw_good := good_of 722 (by decide +kernel) rfl
set_option maxRecDepth 100000 in
theorem gw_723 : Cond.code yX3_become cX3_become 3 none ∈ lw_good := good_of 723 rfl rfl
theorem gw_724 : Cond.methodLink "MeltHours$Tape" 19 yJ9_min_7cf53 ∈ lw_good := good_of 724 (by decide +kernel) rfl
theorem gw_725 : Cond.methodLink "MeltHours$Tape" 28 yJ7_fill_d0a16 ∈ lw_good := good_of 725 (by decide +kernel) rfl
theorem gw_726 : Cond.static yJ7_fill_d0a16 ∈ lw_good := good_of 726 (by decide +kernel) rfl
set_option maxRecDepth 100000 in
theorem gw_727 : Cond.code yJ7_fill_d0a16 cJ7_fill_d0a16 5 none ∈ lw_good := good_of 727 rfl rfl
theorem gw_728 : Cond.methodLink "MeltHoursLaw" 141 yX6_item ∈ lw_good := good_of 728 (by decide +kernel) rfl
theorem gw_729 : Cond.instanceMethod yX6_item ∈ lw_good := good_of 729 (by decide +kernel) rfl
theorem gw_730 : Cond.selects RX6 yX6_item yX6_item ∈ lw_good := good_of 730 (by decide +kernel) rfl
set_option maxRecDepth 100000 in
theorem gw_731 : Cond.code yX6_item cX6_item 6 (some .int) ∈ lw_good := good_of 731 rfl rfl
theorem gw_732 : Cond.methodLink "MeltHours" 254 yX3_asItem ∈ lw_good := good_of 732 (by decide +kernel) rfl
theorem gw_733 : Cond.instanceMethod yX3_asItem ∈ lw_good := good_of 733 (by decide +kernel) rfl
theorem gw_734 : Cond.selects RX3 yX3_asItem yX3_asItem ∈ lw_good := good_of 734 (by decide +kernel) rfl
set_option maxRecDepth 100000 in
theorem gw_735 : Cond.code yX3_asItem cX3_asItem 3 (some .long) ∈ lw_good := good_of 735 rfl rfl
theorem gw_736 : Cond.methodLink "MeltHoursLaw" 146 yX6_read ∈ lw_good := good_of 736 (by decide +kernel) rfl
theorem gw_737 : Cond.instanceMethod yX6_read ∈ lw_good := good_of 737 (by decide +kernel) rfl
theorem gw_738 : Cond.selects RX6 yX6_read yX6_read ∈ lw_good := good_of 738 (by decide +kernel) rfl
set_option maxRecDepth 100000 in
theorem gw_739 : Cond.code yX6_read cX6_read 4 (some .long) ∈ lw_good := good_of 739 rfl rfl
theorem gw_740 : Cond.methodLink "MeltHoursLaw" 150 yX6_shift ∈ lw_good := good_of 740 (by decide +kernel) rfl
theorem gw_741 : Cond.instanceMethod yX6_shift ∈ lw_good := good_of 741 (by decide +kernel) rfl
theorem gw_742 : Cond.selects RX6 yX6_shift yX6_shift ∈ lw_good := good_of 742 (by decide +kernel) rfl
set_option maxRecDepth 100000 in
theorem gw_743 : Cond.code yX6_shift cX6_shift 8 (some .int) ∈ lw_good := good_of 743 rfl rfl
theorem gw_744 : Cond.classLink "MeltHoursLaw" 10 "MeltHoursModel" ∈ lw_good := good_of 744 (by decide +kernel) rfl
theorem gw_745 : Cond.instantiable "MeltHoursModel" 67 ∈ lw_good := good_of 745 (by decide +kernel) rfl
theorem gw_746 : Cond.methodLink "MeltHoursLaw" 12 yX7_init ∈ lw_good := good_of 746 (by decide +kernel) rfl
theorem gw_747 : Cond.instanceMethod yX7_init ∈ lw_good := good_of 747 (by decide +kernel) rfl
set_option maxRecDepth 100000 in
theorem gw_748 : Cond.code yX7_init cX7_init 1 none ∈ lw_good := good_of 748 rfl rfl
theorem gw_750 : Cond.fieldLink "MeltHoursModel" 7 "MeltHoursModel" "places" "I" ∈ lw_good := good_of 750 (by decide +kernel) rfl
theorem gw_751 : Cond.fieldLink "MeltHoursModel" 13 "MeltHoursModel" "oddsA" "I" ∈ lw_good := good_of 751 (by decide +kernel) rfl
theorem gw_752 : Cond.fieldLink "MeltHoursModel" 16 "MeltHoursModel" "oddsB" "I" ∈ lw_good := good_of 752 (by decide +kernel) rfl
theorem gw_753 : Cond.fieldLink "MeltHoursModel" 19 "MeltHoursModel" "sky" "[I" ∈ lw_good := good_of 753 (by decide +kernel) rfl
theorem gw_754 : Cond.fieldLink "MeltHoursModel" 23 "MeltHoursModel" "kind" "[I" ∈ lw_good := good_of 754 (by decide +kernel) rfl
theorem gw_755 : Cond.fieldLink "MeltHoursModel" 26 "MeltHoursModel" "v" "[I" ∈ lw_good := good_of 755 (by decide +kernel) rfl
theorem gw_756 : Cond.fieldLink "MeltHoursModel" 29 "MeltHoursModel" "hours" "[I" ∈ lw_good := good_of 756 (by decide +kernel) rfl
theorem gw_757 : Cond.fieldLink "MeltHoursModel" 32 "MeltHoursModel" "valleys" "I" ∈ lw_good := good_of 757 (by decide +kernel) rfl
theorem gw_758 : Cond.fieldLink "MeltHoursModel" 35 "MeltHoursModel" "the" "I" ∈ lw_good := good_of 758 (by decide +kernel) rfl
theorem gw_759 : Cond.fieldLink "MeltHoursModel" 38 "MeltHoursModel" "fed" "I" ∈ lw_good := good_of 759 (by decide +kernel) rfl
theorem gw_760 : Cond.fieldLink "MeltHoursModel" 41 "MeltHoursModel" "at" "I" ∈ lw_good := good_of 760 (by decide +kernel) rfl
theorem gw_761 : Cond.fieldLink "MeltHoursModel" 44 "MeltHoursModel" "digits" "I" ∈ lw_good := good_of 761 (by decide +kernel) rfl
theorem gw_762 : Cond.fieldLink "MeltHoursModel" 47 "MeltHoursModel" "text" "[I" ∈ lw_good := good_of 762 (by decide +kernel) rfl
theorem gw_763 : Cond.fieldLink "MeltHoursModel" 50 "MeltHoursModel" "clauses" "[I" ∈ lw_good := good_of 763 (by decide +kernel) rfl
theorem gw_764 : Cond.fieldLink "MeltHoursModel" 53 "MeltHoursModel" "word" "[I" ∈ lw_good := good_of 764 (by decide +kernel) rfl
theorem gw_765 : Cond.fieldLink "MeltHoursModel" 56 "MeltHoursModel" "spot" "[I" ∈ lw_good := good_of 765 (by decide +kernel) rfl
theorem gw_766 : Cond.fieldLink "MeltHoursModel" 59 "MeltHoursModel" "number" "[I" ∈ lw_good := good_of 766 (by decide +kernel) rfl
theorem gw_767 : Cond.fieldLink "MeltHoursModel" 62 "MeltHoursModel" "from" "[I" ∈ lw_good := good_of 767 (by decide +kernel) rfl
theorem gw_768 : Cond.fieldLink "MeltHoursModel" 65 "MeltHoursModel" "to" "[I" ∈ lw_good := good_of 768 (by decide +kernel) rfl
theorem gw_769 : Cond.fieldLink "MeltHoursModel" 68 "MeltHoursModel" "sign" "[I" ∈ lw_good := good_of 769 (by decide +kernel) rfl
theorem gw_770 : Cond.fieldLink "MeltHoursModel" 71 "MeltHoursModel" "waits" "[I" ∈ lw_good := good_of 770 (by decide +kernel) rfl
theorem gw_771 : Cond.fieldLink "MeltHoursModel" 74 "MeltHoursModel" "signs" "I" ∈ lw_good := good_of 771 (by decide +kernel) rfl
theorem gw_772 : Cond.fieldLink "MeltHoursModel" 77 "MeltHoursModel" "waiting" "I" ∈ lw_good := good_of 772 (by decide +kernel) rfl
theorem gw_773 : Cond.fieldLink "MeltHoursModel" 80 "MeltHoursModel" "open" "I" ∈ lw_good := good_of 773 (by decide +kernel) rfl
theorem gw_774 : Cond.fieldLink "MeltHoursModel" 83 "MeltHoursModel" "pile" "[Z" ∈ lw_good := good_of 774 (by decide +kernel) rfl
theorem gw_775 : Cond.fieldLink "MeltHoursModel" 87 "MeltHoursModel" "days" "I" ∈ lw_good := good_of 775 (by decide +kernel) rfl
theorem gw_776 : Cond.fieldLink "MeltHoursModel" 90 "MeltHoursModel" "day" "[I" ∈ lw_good := good_of 776 (by decide +kernel) rfl
theorem gw_777 : Cond.fieldLink "MeltHoursModel" 93 "MeltHoursModel" "melt" "[I" ∈ lw_good := good_of 777 (by decide +kernel) rfl
theorem gw_778 : Cond.fieldLink "MeltHoursModel" 96 "MeltHoursModel" "lag" "[I" ∈ lw_good := good_of 778 (by decide +kernel) rfl
theorem gw_779 : Cond.fieldLink "MeltHoursModel" 99 "MeltHoursModel" "leak" "[I" ∈ lw_good := good_of 779 (by decide +kernel) rfl
theorem gw_780 : Cond.fieldLink "MeltHoursModel" 102 "MeltHoursModel" "most" "[I" ∈ lw_good := good_of 780 (by decide +kernel) rfl
theorem gw_781 : Cond.fieldLink "MeltHoursModel" 105 "MeltHoursModel" "hold" "[I" ∈ lw_good := good_of 781 (by decide +kernel) rfl
theorem gw_782 : Cond.fieldLink "MeltHoursModel" 108 "MeltHoursModel" "tryKind" "[I" ∈ lw_good := good_of 782 (by decide +kernel) rfl
theorem gw_783 : Cond.fieldLink "MeltHoursModel" 111 "MeltHoursModel" "tryHours" "[I" ∈ lw_good := good_of 783 (by decide +kernel) rfl
theorem gw_784 : Cond.fieldLink "MeltHoursModel" 114 "MeltHoursModel" "comes" "[I" ∈ lw_good := good_of 784 (by decide +kernel) rfl
theorem gw_785 : Cond.fieldLink "MeltHoursModel" 117 "MeltHoursModel" "taken" "[I" ∈ lw_good := good_of 785 (by decide +kernel) rfl
theorem gw_786 : Cond.fieldLink "MeltHoursModel" 120 "MeltHoursModel" "by" "[I" ∈ lw_good := good_of 786 (by decide +kernel) rfl
theorem gw_787 : Cond.fieldLink "MeltHoursModel" 123 "MeltHoursModel" "held" "[I" ∈ lw_good := good_of 787 (by decide +kernel) rfl
theorem gw_788 : Cond.fieldLink "MeltHoursModel" 126 "MeltHoursModel" "flood" "[I" ∈ lw_good := good_of 788 (by decide +kernel) rfl
theorem gw_789 : Cond.fieldLink "MeltHoursModel" 129 "MeltHoursModel" "wants" "I" ∈ lw_good := good_of 789 (by decide +kernel) rfl
theorem gw_790 : Cond.fieldLink "MeltHoursModel" 132 "MeltHoursModel" "place" "[I" ∈ lw_good := good_of 790 (by decide +kernel) rfl
theorem gw_791 : Cond.fieldLink "MeltHoursModel" 135 "MeltHoursModel" "hour" "[I" ∈ lw_good := good_of 791 (by decide +kernel) rfl
theorem gw_792 : Cond.fieldLink "MeltHoursModel" 138 "MeltHoursModel" "cups" "[I" ∈ lw_good := good_of 792 (by decide +kernel) rfl
theorem gw_793 : Cond.fieldLink "MeltHoursModel" 141 "MeltHoursModel" "worth" "[I" ∈ lw_good := good_of 793 (by decide +kernel) rfl
theorem gw_794 : Cond.fieldLink "MeltHoursModel" 144 "MeltHoursModel" "served" "[I" ∈ lw_good := good_of 794 (by decide +kernel) rfl
theorem gw_795 : Cond.fieldLink "MeltHoursModel" 147 "MeltHoursModel" "hasImage" "Z" ∈ lw_good := good_of 795 (by decide +kernel) rfl
theorem gw_796 : Cond.fieldLink "MeltHoursModel" 151 "MeltHoursModel" "imagePlaces" "I" ∈ lw_good := good_of 796 (by decide +kernel) rfl
theorem gw_797 : Cond.fieldLink "MeltHoursModel" 154 "MeltHoursModel" "imageA" "I" ∈ lw_good := good_of 797 (by decide +kernel) rfl
theorem gw_798 : Cond.fieldLink "MeltHoursModel" 157 "MeltHoursModel" "imageB" "I" ∈ lw_good := good_of 798 (by decide +kernel) rfl
theorem gw_799 : Cond.fieldLink "MeltHoursModel" 160 "MeltHoursModel" "imageThe" "I" ∈ lw_good := good_of 799 (by decide +kernel) rfl
theorem gw_800 : Cond.fieldLink "MeltHoursModel" 163 "MeltHoursModel" "imageDays" "I" ∈ lw_good := good_of 800 (by decide +kernel) rfl
theorem gw_801 : Cond.fieldLink "MeltHoursModel" 166 "MeltHoursModel" "imageWants" "I" ∈ lw_good := good_of 801 (by decide +kernel) rfl
theorem gw_802 : Cond.fieldLink "MeltHoursModel" 169 "MeltHoursModel" "imageSky" "[I" ∈ lw_good := good_of 802 (by decide +kernel) rfl
theorem gw_803 : Cond.fieldLink "MeltHoursModel" 172 "MeltHoursModel" "imageKind" "[I" ∈ lw_good := good_of 803 (by decide +kernel) rfl
theorem gw_804 : Cond.fieldLink "MeltHoursModel" 175 "MeltHoursModel" "imageV" "[I" ∈ lw_good := good_of 804 (by decide +kernel) rfl
theorem gw_805 : Cond.fieldLink "MeltHoursModel" 178 "MeltHoursModel" "imageHours" "[I" ∈ lw_good := good_of 805 (by decide +kernel) rfl
theorem gw_806 : Cond.fieldLink "MeltHoursModel" 181 "MeltHoursModel" "imageDay" "[I" ∈ lw_good := good_of 806 (by decide +kernel) rfl
theorem gw_807 : Cond.fieldLink "MeltHoursModel" 184 "MeltHoursModel" "imagePlace" "[I" ∈ lw_good := good_of 807 (by decide +kernel) rfl
theorem gw_808 : Cond.fieldLink "MeltHoursModel" 187 "MeltHoursModel" "imageHour" "[I" ∈ lw_good := good_of 808 (by decide +kernel) rfl
theorem gw_809 : Cond.fieldLink "MeltHoursModel" 190 "MeltHoursModel" "imageCups" "[I" ∈ lw_good := good_of 809 (by decide +kernel) rfl
theorem gw_810 : Cond.fieldLink "MeltHoursModel" 193 "MeltHoursModel" "imageWorth" "[I" ∈ lw_good := good_of 810 (by decide +kernel) rfl
theorem gw_811 : Cond.fieldLink "MeltHoursModel" 196 "MeltHoursModel" "ran" "I" ∈ lw_good := good_of 811 (by decide +kernel) rfl
theorem gw_812 : Cond.fieldLink "MeltHoursModel" 199 "MeltHoursModel" "bodies" "[I" ∈ lw_good := good_of 812 (by decide +kernel) rfl
theorem gw_813 : Cond.fieldLink "MeltHoursModel" 202 "MeltHoursModel" "sort" "[I" ∈ lw_good := good_of 813 (by decide +kernel) rfl
theorem gw_814 : Cond.fieldLink "MeltHoursModel" 205 "MeltHoursModel" "length" "[I" ∈ lw_good := good_of 814 (by decide +kernel) rfl
theorem gw_815 : Cond.fieldLink "MeltHoursModel" 208 "MeltHoursModel" "item" "[J" ∈ lw_good := good_of 815 (by decide +kernel) rfl
theorem gw_816 : Cond.fieldLink "MeltHoursModel" 212 "MeltHoursModel" "aside" "[J" ∈ lw_good := good_of 816 (by decide +kernel) rfl
theorem gw_952 : Cond.methodLink "MeltHoursLaw" 17 yX7_places ∈ lw_good := good_of 952 (by decide +kernel) rfl
theorem gw_953 : Cond.instanceMethod yX7_places ∈ lw_good := good_of 953 (by decide +kernel) rfl
theorem gw_954 : Cond.selects RX7 yX7_places yX7_places ∈ lw_good := good_of 954 (by decide +kernel) rfl
set_option maxRecDepth 100000 in
theorem gw_955 : Cond.code yX7_places cX7_places 3 (some .int) ∈ lw_good := good_of 955 rfl rfl
theorem gw_956 : Cond.methodLink "MeltHoursModel" 215 yX7_in ∈ lw_good := good_of 956 (by decide +kernel) rfl
theorem gw_958 : Cond.instanceMethod yX7_in ∈ lw_good := good_of 958 (by decide +kernel) rfl
set_option maxRecDepth 100000 in
theorem gw_959 : Cond.code yX7_in cX7_in 4 (some .boolean) ∈ lw_good := good_of 959 rfl rfl
theorem gw_960 : Cond.methodLink "MeltHoursLaw" 22 yX7_sky ∈ lw_good := good_of 960 (by decide +kernel) rfl
theorem gw_961 : Cond.instanceMethod yX7_sky ∈ lw_good := good_of 961 (by decide +kernel) rfl
theorem gw_962 : Cond.selects RX7 yX7_sky yX7_sky ∈ lw_good := good_of 962 (by decide +kernel) rfl
set_option maxRecDepth 100000 in
theorem gw_963 : Cond.code yX7_sky cX7_sky 4 (some .int) ∈ lw_good := good_of 963 rfl rfl
theorem gw_964 : Cond.methodLink "MeltHoursLaw" 44 yX7_gate ∈ lw_good := good_of 964 (by decide +kernel) rfl
theorem gw_965 : Cond.instanceMethod yX7_gate ∈ lw_good := good_of 965 (by decide +kernel) rfl
theorem gw_966 : Cond.selects RX7 yX7_gate yX7_gate ∈ lw_good := good_of 966 (by decide +kernel) rfl
set_option maxRecDepth 100000 in
theorem gw_967 : Cond.code yX7_gate cX7_gate 6 (some .int) ∈ lw_good := good_of 967 rfl rfl
theorem gw_968 : Cond.methodLink "MeltHoursModel" 219 yX7_isGate ∈ lw_good := good_of 968 (by decide +kernel) rfl
theorem gw_970 : Cond.instanceMethod yX7_isGate ∈ lw_good := good_of 970 (by decide +kernel) rfl
set_option maxRecDepth 100000 in
theorem gw_971 : Cond.code yX7_isGate cX7_isGate 2 (some .boolean) ∈ lw_good := good_of 971 rfl rfl
theorem gw_973 : Cond.methodLink "MeltHoursLaw" 48 yX7_of ∈ lw_good := good_of 973 (by decide +kernel) rfl
theorem gw_974 : Cond.instanceMethod yX7_of ∈ lw_good := good_of 974 (by decide +kernel) rfl
theorem gw_975 : Cond.selects RX7 yX7_of yX7_of ∈ lw_good := good_of 975 (by decide +kernel) rfl
set_option maxRecDepth 100000 in
theorem gw_976 : Cond.code yX7_of cX7_of 3 (some .int) ∈ lw_good := good_of 976 rfl rfl
theorem gw_977 : Cond.methodLink "MeltHoursLaw" 26 yX7_feed ∈ lw_good := good_of 977 (by decide +kernel) rfl
theorem gw_978 : Cond.instanceMethod yX7_feed ∈ lw_good := good_of 978 (by decide +kernel) rfl
theorem gw_979 : Cond.selects RX7 yX7_feed yX7_feed ∈ lw_good := good_of 979 (by decide +kernel) rfl
set_option maxRecDepth 100000 in
theorem gw_980 : Cond.code yX7_feed cX7_feed 4 (some .int) ∈ lw_good := good_of 980 rfl rfl
theorem gw_981 : Cond.methodLink "MeltHoursLaw" 31 yX7_valley ∈ lw_good := good_of 981 (by decide +kernel) rfl
theorem gw_982 : Cond.instanceMethod yX7_valley ∈ lw_good := good_of 982 (by decide +kernel) rfl
theorem gw_983 : Cond.selects RX7 yX7_valley yX7_valley ∈ lw_good := good_of 983 (by decide +kernel) rfl
set_option maxRecDepth 100000 in
theorem gw_984 : Cond.code yX7_valley cX7_valley 2 (some .int) ∈ lw_good := good_of 984 rfl rfl
theorem gw_985 : Cond.methodLink "MeltHoursModel" 271 yX7_goesText ∈ lw_good := good_of 985 (by decide +kernel) rfl
theorem gw_987 : Cond.instanceMethod yX7_goesText ∈ lw_good := good_of 987 (by decide +kernel) rfl
set_option maxRecDepth 100000 in
theorem gw_988 : Cond.code yX7_goesText cX7_goesText 3 (some .boolean) ∈ lw_good := good_of 988 rfl rfl
theorem gw_989 : Cond.methodLink "MeltHoursModel" 268 yX7_takesClause ∈ lw_good := good_of 989 (by decide +kernel) rfl
theorem gw_991 : Cond.instanceMethod yX7_takesClause ∈ lw_good := good_of 991 (by decide +kernel) rfl
set_option maxRecDepth 100000 in
theorem gw_992 : Cond.code yX7_takesClause cX7_takesClause 2 (some .boolean) ∈ lw_good := good_of 992 rfl rfl
theorem gw_993 : Cond.methodLink "MeltHoursModel" 262 yX7_takesHead ∈ lw_good := good_of 993 (by decide +kernel) rfl
theorem gw_995 : Cond.instanceMethod yX7_takesHead ∈ lw_good := good_of 995 (by decide +kernel) rfl
set_option maxRecDepth 100000 in
theorem gw_996 : Cond.code yX7_takesHead cX7_takesHead 3 (some .boolean) ∈ lw_good := good_of 996 rfl rfl
theorem gw_997 : Cond.methodLink "MeltHoursModel" 251 yX7_second ∈ lw_good := good_of 997 (by decide +kernel) rfl
theorem gw_999 : Cond.instanceMethod yX7_second ∈ lw_good := good_of 999 (by decide +kernel) rfl
set_option maxRecDepth 100000 in
theorem gw_1000 : Cond.code yX7_second cX7_second 1 (some .int) ∈ lw_good := good_of 1000 rfl rfl
theorem gw_1001 : Cond.methodLink "MeltHoursModel" 224 yX7_next ∈ lw_good := good_of 1001 (by decide +kernel) rfl
theorem gw_1003 : Cond.instanceMethod yX7_next ∈ lw_good := good_of 1003 (by decide +kernel) rfl
set_option maxRecDepth 100000 in
theorem gw_1004 : Cond.code yX7_next cX7_next 1 (some .int) ∈ lw_good := good_of 1004 rfl rfl
theorem gw_1006 : Cond.methodLink "MeltHoursModel" 255 yX7_takesWord ∈ lw_good := good_of 1006 (by decide +kernel) rfl
theorem gw_1008 : Cond.instanceMethod yX7_takesWord ∈ lw_good := good_of 1008 (by decide +kernel) rfl
set_option maxRecDepth 100000 in
theorem gw_1009 : Cond.code yX7_takesWord cX7_takesWord 4 (some .boolean) ∈ lw_good := good_of 1009 rfl rfl
theorem gw_1010 : Cond.methodLink "MeltHoursModel" 228 yX7_takesSign ∈ lw_good := good_of 1010 (by decide +kernel) rfl
theorem gw_1012 : Cond.instanceMethod yX7_takesSign ∈ lw_good := good_of 1012 (by decide +kernel) rfl
set_option maxRecDepth 100000 in
theorem gw_1013 : Cond.code yX7_takesSign cX7_takesSign 2 (some .boolean) ∈ lw_good := good_of 1013 rfl rfl
theorem gw_1017 : Cond.methodLink "MeltHoursModel" 239 yX7_takesNumber ∈ lw_good := good_of 1017 (by decide +kernel) rfl
theorem gw_1019 : Cond.instanceMethod yX7_takesNumber ∈ lw_good := good_of 1019 (by decide +kernel) rfl
set_option maxRecDepth 100000 in
theorem gw_1020 : Cond.code yX7_takesNumber cX7_takesNumber 2 (some .boolean) ∈ lw_good := good_of 1020 rfl rfl
theorem gw_1021 : Cond.methodLink "MeltHoursModel" 231 yX7_isDigit ∈ lw_good := good_of 1021 (by decide +kernel) rfl
theorem gw_1023 : Cond.instanceMethod yX7_isDigit ∈ lw_good := good_of 1023 (by decide +kernel) rfl
set_option maxRecDepth 100000 in
theorem gw_1024 : Cond.code yX7_isDigit cX7_isDigit 1 (some .boolean) ∈ lw_good := good_of 1024 rfl rfl
theorem gw_1025 : Cond.methodLink "MeltHoursModel" 265 yX7_takesE ∈ lw_good := good_of 1025 (by decide +kernel) rfl
theorem gw_1027 : Cond.instanceMethod yX7_takesE ∈ lw_good := good_of 1027 (by decide +kernel) rfl
set_option maxRecDepth 100000 in
theorem gw_1028 : Cond.code yX7_takesE cX7_takesE 4 (some .boolean) ∈ lw_good := good_of 1028 rfl rfl
theorem gw_1029 : Cond.methodLink "MeltHoursModel" 245 yX7_takesTest ∈ lw_good := good_of 1029 (by decide +kernel) rfl
theorem gw_1031 : Cond.instanceMethod yX7_takesTest ∈ lw_good := good_of 1031 (by decide +kernel) rfl
set_option maxRecDepth 100000 in
theorem gw_1032 : Cond.code yX7_takesTest cX7_takesTest 3 (some .boolean) ∈ lw_good := good_of 1032 rfl rfl
theorem gw_1033 : Cond.methodLink "MeltHoursModel" 235 yX7_put ∈ lw_good := good_of 1033 (by decide +kernel) rfl
theorem gw_1035 : Cond.instanceMethod yX7_put ∈ lw_good := good_of 1035 (by decide +kernel) rfl
set_option maxRecDepth 100000 in
theorem gw_1036 : Cond.code yX7_put cX7_put 2 none ∈ lw_good := good_of 1036 rfl rfl
theorem gw_1037 : Cond.methodLink "MeltHoursModel" 242 yX7_whole ∈ lw_good := good_of 1037 (by decide +kernel) rfl
theorem gw_1039 : Cond.instanceMethod yX7_whole ∈ lw_good := good_of 1039 (by decide +kernel) rfl
set_option maxRecDepth 100000 in
theorem gw_1040 : Cond.code yX7_whole cX7_whole 1 none ∈ lw_good := good_of 1040 rfl rfl
theorem gw_1041 : Cond.methodLink "MeltHoursModel" 248 yX7_settle ∈ lw_good := good_of 1041 (by decide +kernel) rfl
theorem gw_1043 : Cond.instanceMethod yX7_settle ∈ lw_good := good_of 1043 (by decide +kernel) rfl
set_option maxRecDepth 100000 in
theorem gw_1044 : Cond.code yX7_settle cX7_settle 2 none ∈ lw_good := good_of 1044 rfl rfl
theorem gw_1045 : Cond.methodLink "MeltHoursLaw" 35 yX7_told ∈ lw_good := good_of 1045 (by decide +kernel) rfl
theorem gw_1046 : Cond.instanceMethod yX7_told ∈ lw_good := good_of 1046 (by decide +kernel) rfl
theorem gw_1047 : Cond.selects RX7 yX7_told yX7_told ∈ lw_good := good_of 1047 (by decide +kernel) rfl
set_option maxRecDepth 100000 in
theorem gw_1048 : Cond.code yX7_told cX7_told 3 (some .int) ∈ lw_good := good_of 1048 rfl rfl
theorem gw_1049 : Cond.methodLink "MeltHoursModel" 280 yX7_last ∈ lw_good := good_of 1049 (by decide +kernel) rfl
theorem gw_1051 : Cond.instanceMethod yX7_last ∈ lw_good := good_of 1051 (by decide +kernel) rfl
set_option maxRecDepth 100000 in
theorem gw_1052 : Cond.code yX7_last cX7_last 6 (some .int) ∈ lw_good := good_of 1052 rfl rfl
theorem gw_1053 : Cond.methodLink "MeltHoursModel" 274 yX7_first ∈ lw_good := good_of 1053 (by decide +kernel) rfl
theorem gw_1055 : Cond.instanceMethod yX7_first ∈ lw_good := good_of 1055 (by decide +kernel) rfl
set_option maxRecDepth 100000 in
theorem gw_1056 : Cond.code yX7_first cX7_first 1 (some .int) ∈ lw_good := good_of 1056 rfl rfl
theorem gw_1057 : Cond.methodLink "MeltHoursModel" 277 yX7_behind ∈ lw_good := good_of 1057 (by decide +kernel) rfl
theorem gw_1059 : Cond.instanceMethod yX7_behind ∈ lw_good := good_of 1059 (by decide +kernel) rfl
set_option maxRecDepth 100000 in
theorem gw_1060 : Cond.code yX7_behind cX7_behind 1 (some .int) ∈ lw_good := good_of 1060 rfl rfl
theorem gw_1061 : Cond.methodLink "MeltHoursModel" 284 yX7_min ∈ lw_good := good_of 1061 (by decide +kernel) rfl
theorem gw_1063 : Cond.instanceMethod yX7_min ∈ lw_good := good_of 1063 (by decide +kernel) rfl
set_option maxRecDepth 100000 in
theorem gw_1064 : Cond.code yX7_min cX7_min 3 (some .int) ∈ lw_good := good_of 1064 rfl rfl
theorem gw_1065 : Cond.methodLink "MeltHoursLaw" 106 yX7_day ∈ lw_good := good_of 1065 (by decide +kernel) rfl
theorem gw_1066 : Cond.instanceMethod yX7_day ∈ lw_good := good_of 1066 (by decide +kernel) rfl
theorem gw_1067 : Cond.selects RX7 yX7_day yX7_day ∈ lw_good := good_of 1067 (by decide +kernel) rfl
set_option maxRecDepth 100000 in
theorem gw_1068 : Cond.code yX7_day cX7_day 2 (some .int) ∈ lw_good := good_of 1068 rfl rfl
theorem gw_1069 : Cond.methodLink "MeltHoursLaw" 39 yX7_melts ∈ lw_good := good_of 1069 (by decide +kernel) rfl
theorem gw_1070 : Cond.instanceMethod yX7_melts ∈ lw_good := good_of 1070 (by decide +kernel) rfl
theorem gw_1071 : Cond.selects RX7 yX7_melts yX7_melts ∈ lw_good := good_of 1071 (by decide +kernel) rfl
set_option maxRecDepth 100000 in
theorem gw_1072 : Cond.code yX7_melts cX7_melts 2 (some .int) ∈ lw_good := good_of 1072 rfl rfl
theorem gw_1073 : Cond.methodLink "MeltHoursModel" 291 yX7_isHour ∈ lw_good := good_of 1073 (by decide +kernel) rfl
theorem gw_1075 : Cond.instanceMethod yX7_isHour ∈ lw_good := good_of 1075 (by decide +kernel) rfl
set_option maxRecDepth 100000 in
theorem gw_1076 : Cond.code yX7_isHour cX7_isHour 2 (some .boolean) ∈ lw_good := good_of 1076 rfl rfl
theorem gw_1077 : Cond.methodLink "MeltHoursModel" 294 yX7_meltOf ∈ lw_good := good_of 1077 (by decide +kernel) rfl
theorem gw_1079 : Cond.instanceMethod yX7_meltOf ∈ lw_good := good_of 1079 (by decide +kernel) rfl
set_option maxRecDepth 100000 in
theorem gw_1080 : Cond.code yX7_meltOf cX7_meltOf 5 (some .int) ∈ lw_good := good_of 1080 rfl rfl
theorem gw_1081 : Cond.methodLink "MeltHoursModel" 288 yX7_holds ∈ lw_good := good_of 1081 (by decide +kernel) rfl
theorem gw_1083 : Cond.instanceMethod yX7_holds ∈ lw_good := good_of 1083 (by decide +kernel) rfl
set_option maxRecDepth 100000 in
theorem gw_1084 : Cond.code yX7_holds cX7_holds 9 (some .boolean) ∈ lw_good := good_of 1084 rfl rfl
theorem gw_1085 : Cond.methodLink "MeltHoursLaw" 53 yX7_water ∈ lw_good := good_of 1085 (by decide +kernel) rfl
theorem gw_1086 : Cond.instanceMethod yX7_water ∈ lw_good := good_of 1086 (by decide +kernel) rfl
theorem gw_1087 : Cond.selects RX7 yX7_water yX7_water ∈ lw_good := good_of 1087 (by decide +kernel) rfl
set_option maxRecDepth 100000 in
theorem gw_1088 : Cond.code yX7_water cX7_water 5 (some .int) ∈ lw_good := good_of 1088 rfl rfl
theorem gw_1089 : Cond.methodLink "MeltHoursModel" 314 yX7_isPlace ∈ lw_good := good_of 1089 (by decide +kernel) rfl
theorem gw_1091 : Cond.instanceMethod yX7_isPlace ∈ lw_good := good_of 1091 (by decide +kernel) rfl
set_option maxRecDepth 100000 in
theorem gw_1092 : Cond.code yX7_isPlace cX7_isPlace 2 (some .boolean) ∈ lw_good := good_of 1092 rfl rfl
theorem gw_1093 : Cond.methodLink "MeltHoursModel" 317 yX7_asIs ∈ lw_good := good_of 1093 (by decide +kernel) rfl
theorem gw_1095 : Cond.instanceMethod yX7_asIs ∈ lw_good := good_of 1095 (by decide +kernel) rfl
set_option maxRecDepth 100000 in
theorem gw_1096 : Cond.code yX7_asIs cX7_asIs 2 none ∈ lw_good := good_of 1096 rfl rfl
theorem gw_1097 : Cond.methodLink "MeltHoursModel" 297 yX7_told ∈ lw_good := good_of 1097 (by decide +kernel) rfl
theorem gw_1098 : Cond.methodLink "MeltHoursModel" 320 yX7_go ∈ lw_good := good_of 1098 (by decide +kernel) rfl
theorem gw_1100 : Cond.instanceMethod yX7_go ∈ lw_good := good_of 1100 (by decide +kernel) rfl
set_option maxRecDepth 100000 in
theorem gw_1101 : Cond.code yX7_go cX7_go 8 none ∈ lw_good := good_of 1101 rfl rfl
theorem gw_1102 : Cond.methodLink "MeltHoursModel" 306 yX7_sets ∈ lw_good := good_of 1102 (by decide +kernel) rfl
theorem gw_1104 : Cond.instanceMethod yX7_sets ∈ lw_good := good_of 1104 (by decide +kernel) rfl
set_option maxRecDepth 100000 in
theorem gw_1105 : Cond.code yX7_sets cX7_sets 5 none ∈ lw_good := good_of 1105 rfl rfl
theorem gw_1106 : Cond.methodLink "MeltHoursModel" 300 yX7_less ∈ lw_good := good_of 1106 (by decide +kernel) rfl
theorem gw_1108 : Cond.instanceMethod yX7_less ∈ lw_good := good_of 1108 (by decide +kernel) rfl
set_option maxRecDepth 100000 in
theorem gw_1109 : Cond.code yX7_less cX7_less 3 (some .int) ∈ lw_good := good_of 1109 rfl rfl
theorem gw_1110 : Cond.methodLink "MeltHoursModel" 310 yX7_takes ∈ lw_good := good_of 1110 (by decide +kernel) rfl
theorem gw_1112 : Cond.instanceMethod yX7_takes ∈ lw_good := good_of 1112 (by decide +kernel) rfl
set_option maxRecDepth 100000 in
theorem gw_1113 : Cond.code yX7_takes cX7_takes 7 (some .int) ∈ lw_good := good_of 1113 rfl rfl
theorem gw_1114 : Cond.methodLink "MeltHoursModel" 303 yX7_has ∈ lw_good := good_of 1114 (by decide +kernel) rfl
theorem gw_1116 : Cond.instanceMethod yX7_has ∈ lw_good := good_of 1116 (by decide +kernel) rfl
set_option maxRecDepth 100000 in
theorem gw_1117 : Cond.code yX7_has cX7_has 3 (some .boolean) ∈ lw_good := good_of 1117 rfl rfl
theorem gw_1118 : Cond.methodLink "MeltHoursLaw" 57 yX7_all ∈ lw_good := good_of 1118 (by decide +kernel) rfl
theorem gw_1119 : Cond.instanceMethod yX7_all ∈ lw_good := good_of 1119 (by decide +kernel) rfl
theorem gw_1120 : Cond.selects RX7 yX7_all yX7_all ∈ lw_good := good_of 1120 (by decide +kernel) rfl
set_option maxRecDepth 100000 in
theorem gw_1121 : Cond.code yX7_all cX7_all 4 (some .int) ∈ lw_good := good_of 1121 rfl rfl
theorem gw_1122 : Cond.methodLink "MeltHoursModel" 323 yX7_floods ∈ lw_good := good_of 1122 (by decide +kernel) rfl
theorem gw_1124 : Cond.instanceMethod yX7_floods ∈ lw_good := good_of 1124 (by decide +kernel) rfl
set_option maxRecDepth 100000 in
theorem gw_1125 : Cond.code yX7_floods cX7_floods 3 (some .int) ∈ lw_good := good_of 1125 rfl rfl
theorem gw_1126 : Cond.methodLink "MeltHoursLaw" 61 yX7_want ∈ lw_good := good_of 1126 (by decide +kernel) rfl
theorem gw_1127 : Cond.instanceMethod yX7_want ∈ lw_good := good_of 1127 (by decide +kernel) rfl
theorem gw_1128 : Cond.selects RX7 yX7_want yX7_want ∈ lw_good := good_of 1128 (by decide +kernel) rfl
set_option maxRecDepth 100000 in
theorem gw_1129 : Cond.code yX7_want cX7_want 5 (some .int) ∈ lw_good := good_of 1129 rfl rfl
theorem gw_1130 : Cond.methodLink "MeltHoursLaw" 65 yX7_wants ∈ lw_good := good_of 1130 (by decide +kernel) rfl
theorem gw_1131 : Cond.instanceMethod yX7_wants ∈ lw_good := good_of 1131 (by decide +kernel) rfl
theorem gw_1132 : Cond.selects RX7 yX7_wants yX7_wants ∈ lw_good := good_of 1132 (by decide +kernel) rfl
set_option maxRecDepth 100000 in
theorem gw_1133 : Cond.code yX7_wants cX7_wants 3 (some .int) ∈ lw_good := good_of 1133 rfl rfl
theorem gw_1134 : Cond.methodLink "MeltHoursModel" 329 yX7_worthNow ∈ lw_good := good_of 1134 (by decide +kernel) rfl
theorem gw_1136 : Cond.instanceMethod yX7_worthNow ∈ lw_good := good_of 1136 (by decide +kernel) rfl
set_option maxRecDepth 100000 in
theorem gw_1137 : Cond.code yX7_worthNow cX7_worthNow 1 (some .int) ∈ lw_good := good_of 1137 rfl rfl
theorem gw_1138 : Cond.methodLink "MeltHoursModel" 326 yX7_serve ∈ lw_good := good_of 1138 (by decide +kernel) rfl
theorem gw_1140 : Cond.instanceMethod yX7_serve ∈ lw_good := good_of 1140 (by decide +kernel) rfl
set_option maxRecDepth 100000 in
theorem gw_1141 : Cond.code yX7_serve cX7_serve 5 (some .int) ∈ lw_good := good_of 1141 rfl rfl
theorem gw_1142 : Cond.methodLink "MeltHoursLaw" 69 yX7_worth ∈ lw_good := good_of 1142 (by decide +kernel) rfl
theorem gw_1143 : Cond.instanceMethod yX7_worth ∈ lw_good := good_of 1143 (by decide +kernel) rfl
theorem gw_1144 : Cond.selects RX7 yX7_worth yX7_worth ∈ lw_good := good_of 1144 (by decide +kernel) rfl
set_option maxRecDepth 100000 in
theorem gw_1145 : Cond.code yX7_worth cX7_worth 1 (some .int) ∈ lw_good := good_of 1145 rfl rfl
theorem gw_1146 : Cond.methodLink "MeltHoursLaw" 73 yX7_best ∈ lw_good := good_of 1146 (by decide +kernel) rfl
theorem gw_1147 : Cond.instanceMethod yX7_best ∈ lw_good := good_of 1147 (by decide +kernel) rfl
theorem gw_1148 : Cond.selects RX7 yX7_best yX7_best ∈ lw_good := good_of 1148 (by decide +kernel) rfl
set_option maxRecDepth 100000 in
theorem gw_1149 : Cond.code yX7_best cX7_best 10 (some .int) ∈ lw_good := good_of 1149 rfl rfl
theorem gw_1150 : Cond.methodLink "MeltHoursLaw" 77 yX7_price ∈ lw_good := good_of 1150 (by decide +kernel) rfl
theorem gw_1151 : Cond.instanceMethod yX7_price ∈ lw_good := good_of 1151 (by decide +kernel) rfl
theorem gw_1152 : Cond.selects RX7 yX7_price yX7_price ∈ lw_good := good_of 1152 (by decide +kernel) rfl
set_option maxRecDepth 100000 in
theorem gw_1153 : Cond.code yX7_price cX7_price 3 (some .int) ∈ lw_good := good_of 1153 rfl rfl
theorem gw_1154 : Cond.methodLink "MeltHoursLaw" 81 yX7_part ∈ lw_good := good_of 1154 (by decide +kernel) rfl
theorem gw_1155 : Cond.instanceMethod yX7_part ∈ lw_good := good_of 1155 (by decide +kernel) rfl
theorem gw_1156 : Cond.selects RX7 yX7_part yX7_part ∈ lw_good := good_of 1156 (by decide +kernel) rfl
set_option maxRecDepth 100000 in
theorem gw_1157 : Cond.code yX7_part cX7_part 8 (some .int) ∈ lw_good := good_of 1157 rfl rfl
theorem gw_1158 : Cond.methodLink "MeltHoursLaw" 85 yX7_odds ∈ lw_good := good_of 1158 (by decide +kernel) rfl
theorem gw_1159 : Cond.instanceMethod yX7_odds ∈ lw_good := good_of 1159 (by decide +kernel) rfl
theorem gw_1160 : Cond.selects RX7 yX7_odds yX7_odds ∈ lw_good := good_of 1160 (by decide +kernel) rfl
set_option maxRecDepth 100000 in
theorem gw_1161 : Cond.code yX7_odds cX7_odds 3 (some .int) ∈ lw_good := good_of 1161 rfl rfl
theorem gw_1162 : Cond.methodLink "MeltHoursLaw" 90 yX7_mean ∈ lw_good := good_of 1162 (by decide +kernel) rfl
theorem gw_1163 : Cond.instanceMethod yX7_mean ∈ lw_good := good_of 1163 (by decide +kernel) rfl
theorem gw_1164 : Cond.selects RX7 yX7_mean yX7_mean ∈ lw_good := good_of 1164 (by decide +kernel) rfl
set_option maxRecDepth 100000 in
theorem gw_1165 : Cond.code yX7_mean cX7_mean 10 (some .long) ∈ lw_good := good_of 1165 rfl rfl
theorem gw_1167 : Cond.methodLink "MeltHoursModel" 334 yX7_oddsOf ∈ lw_good := good_of 1167 (by decide +kernel) rfl
theorem gw_1169 : Cond.instanceMethod yX7_oddsOf ∈ lw_good := good_of 1169 (by decide +kernel) rfl
set_option maxRecDepth 100000 in
theorem gw_1170 : Cond.code yX7_oddsOf cX7_oddsOf 2 (some .int) ∈ lw_good := good_of 1170 rfl rfl
theorem gw_1172 : Cond.methodLink "MeltHoursModel" 340 yX7_divisor ∈ lw_good := good_of 1172 (by decide +kernel) rfl
theorem gw_1174 : Cond.instanceMethod yX7_divisor ∈ lw_good := good_of 1174 (by decide +kernel) rfl
set_option maxRecDepth 100000 in
theorem gw_1175 : Cond.code yX7_divisor cX7_divisor 11 (some .long) ∈ lw_good := good_of 1175 rfl rfl
theorem gw_1176 : Cond.methodLink "MeltHoursLaw" 94 yX7_pond ∈ lw_good := good_of 1176 (by decide +kernel) rfl
theorem gw_1177 : Cond.instanceMethod yX7_pond ∈ lw_good := good_of 1177 (by decide +kernel) rfl
theorem gw_1178 : Cond.selects RX7 yX7_pond yX7_pond ∈ lw_good := good_of 1178 (by decide +kernel) rfl
set_option maxRecDepth 100000 in
theorem gw_1179 : Cond.code yX7_pond cX7_pond 6 (some .int) ∈ lw_good := good_of 1179 rfl rfl
theorem gw_1180 : Cond.methodLink "MeltHoursLaw" 98 yX7_wrong ∈ lw_good := good_of 1180 (by decide +kernel) rfl
theorem gw_1181 : Cond.instanceMethod yX7_wrong ∈ lw_good := good_of 1181 (by decide +kernel) rfl
theorem gw_1182 : Cond.selects RX7 yX7_wrong yX7_wrong ∈ lw_good := good_of 1182 (by decide +kernel) rfl
set_option maxRecDepth 100000 in
theorem gw_1183 : Cond.code yX7_wrong cX7_wrong 3 (some .int) ∈ lw_good := good_of 1183 rfl rfl
theorem gw_1184 : Cond.methodLink "MeltHoursLaw" 102 yX7_spare ∈ lw_good := good_of 1184 (by decide +kernel) rfl
theorem gw_1185 : Cond.instanceMethod yX7_spare ∈ lw_good := good_of 1185 (by decide +kernel) rfl
theorem gw_1186 : Cond.selects RX7 yX7_spare yX7_spare ∈ lw_good := good_of 1186 (by decide +kernel) rfl
set_option maxRecDepth 100000 in
theorem gw_1187 : Cond.code yX7_spare cX7_spare 5 (some .int) ∈ lw_good := good_of 1187 rfl rfl
theorem gw_1188 : Cond.methodLink "MeltHoursModel" 344 yX7_ones ∈ lw_good := good_of 1188 (by decide +kernel) rfl
theorem gw_1190 : Cond.instanceMethod yX7_ones ∈ lw_good := good_of 1190 (by decide +kernel) rfl
set_option maxRecDepth 100000 in
theorem gw_1191 : Cond.code yX7_ones cX7_ones 4 (some .int) ∈ lw_good := good_of 1191 rfl rfl
theorem gw_1192 : Cond.methodLink "MeltHoursLaw" 110 yX7_judge ∈ lw_good := good_of 1192 (by decide +kernel) rfl
theorem gw_1193 : Cond.instanceMethod yX7_judge ∈ lw_good := good_of 1193 (by decide +kernel) rfl
theorem gw_1194 : Cond.selects RX7 yX7_judge yX7_judge ∈ lw_good := good_of 1194 (by decide +kernel) rfl
set_option maxRecDepth 100000 in
theorem gw_1195 : Cond.code yX7_judge cX7_judge 5 (some .int) ∈ lw_good := good_of 1195 rfl rfl
theorem gw_1196 : Cond.methodLink "MeltHoursModel" 347 yX7_isTape ∈ lw_good := good_of 1196 (by decide +kernel) rfl
theorem gw_1198 : Cond.instanceMethod yX7_isTape ∈ lw_good := good_of 1198 (by decide +kernel) rfl
set_option maxRecDepth 100000 in
theorem gw_1199 : Cond.code yX7_isTape cX7_isTape 2 (some .boolean) ∈ lw_good := good_of 1199 rfl rfl
theorem gw_1200 : Cond.methodLink "MeltHoursLaw" 114 yX7_image ∈ lw_good := good_of 1200 (by decide +kernel) rfl
theorem gw_1201 : Cond.instanceMethod yX7_image ∈ lw_good := good_of 1201 (by decide +kernel) rfl
theorem gw_1202 : Cond.selects RX7 yX7_image yX7_image ∈ lw_good := good_of 1202 (by decide +kernel) rfl
set_option maxRecDepth 100000 in
theorem gw_1203 : Cond.code yX7_image cX7_image 1 (some .int) ∈ lw_good := good_of 1203 rfl rfl
theorem gw_1204 : Cond.methodLink "MeltHoursModel" 350 yX7_copy ∈ lw_good := good_of 1204 (by decide +kernel) rfl
theorem gw_1206 : Cond.instanceMethod yX7_copy ∈ lw_good := good_of 1206 (by decide +kernel) rfl
set_option maxRecDepth 100000 in
theorem gw_1207 : Cond.code yX7_copy cX7_copy 4 none ∈ lw_good := good_of 1207 rfl rfl
theorem gw_1208 : Cond.methodLink "MeltHoursLaw" 118 yX7_undo ∈ lw_good := good_of 1208 (by decide +kernel) rfl
theorem gw_1209 : Cond.instanceMethod yX7_undo ∈ lw_good := good_of 1209 (by decide +kernel) rfl
theorem gw_1210 : Cond.selects RX7 yX7_undo yX7_undo ∈ lw_good := good_of 1210 (by decide +kernel) rfl
set_option maxRecDepth 100000 in
theorem gw_1211 : Cond.code yX7_undo cX7_undo 1 (some .int) ∈ lw_good := good_of 1211 rfl rfl
theorem gw_1212 : Cond.methodLink "MeltHoursLaw" 122 yX7_act ∈ lw_good := good_of 1212 (by decide +kernel) rfl
theorem gw_1213 : Cond.instanceMethod yX7_act ∈ lw_good := good_of 1213 (by decide +kernel) rfl
theorem gw_1214 : Cond.selects RX7 yX7_act yX7_act ∈ lw_good := good_of 1214 (by decide +kernel) rfl
set_option maxRecDepth 100000 in
theorem gw_1215 : Cond.code yX7_act cX7_act 4 (some .int) ∈ lw_good := good_of 1215 rfl rfl
theorem gw_1216 : Cond.methodLink "MeltHoursModel" 360 yX7_letsAct ∈ lw_good := good_of 1216 (by decide +kernel) rfl
theorem gw_1218 : Cond.instanceMethod yX7_letsAct ∈ lw_good := good_of 1218 (by decide +kernel) rfl
set_option maxRecDepth 100000 in
theorem gw_1219 : Cond.code yX7_letsAct cX7_letsAct 3 (some .int) ∈ lw_good := good_of 1219 rfl rfl
theorem gw_1220 : Cond.methodLink "MeltHoursModel" 354 yX7_body ∈ lw_good := good_of 1220 (by decide +kernel) rfl
theorem gw_1222 : Cond.instanceMethod yX7_body ∈ lw_good := good_of 1222 (by decide +kernel) rfl
set_option maxRecDepth 100000 in
theorem gw_1223 : Cond.code yX7_body cX7_body 2 none ∈ lw_good := good_of 1223 rfl rfl
theorem gw_1224 : Cond.methodLink "MeltHoursModel" 357 yX7_plainLets ∈ lw_good := good_of 1224 (by decide +kernel) rfl
theorem gw_1226 : Cond.instanceMethod yX7_plainLets ∈ lw_good := good_of 1226 (by decide +kernel) rfl
set_option maxRecDepth 100000 in
theorem gw_1227 : Cond.code yX7_plainLets cX7_plainLets 3 (some .int) ∈ lw_good := good_of 1227 rfl rfl
theorem gw_1228 : Cond.methodLink "MeltHoursModel" 369 yX7_takesAct ∈ lw_good := good_of 1228 (by decide +kernel) rfl
theorem gw_1230 : Cond.instanceMethod yX7_takesAct ∈ lw_good := good_of 1230 (by decide +kernel) rfl
set_option maxRecDepth 100000 in
theorem gw_1231 : Cond.code yX7_takesAct cX7_takesAct 4 (some .int) ∈ lw_good := good_of 1231 rfl rfl
theorem gw_1232 : Cond.methodLink "MeltHoursModel" 366 yX7_clockTakes ∈ lw_good := good_of 1232 (by decide +kernel) rfl
theorem gw_1234 : Cond.instanceMethod yX7_clockTakes ∈ lw_good := good_of 1234 (by decide +kernel) rfl
set_option maxRecDepth 100000 in
theorem gw_1235 : Cond.code yX7_clockTakes cX7_clockTakes 3 (some .int) ∈ lw_good := good_of 1235 rfl rfl
theorem gw_1236 : Cond.methodLink "MeltHoursModel" 363 yX7_plainTakes ∈ lw_good := good_of 1236 (by decide +kernel) rfl
theorem gw_1238 : Cond.instanceMethod yX7_plainTakes ∈ lw_good := good_of 1238 (by decide +kernel) rfl
set_option maxRecDepth 100000 in
theorem gw_1239 : Cond.code yX7_plainTakes cX7_plainTakes 3 (some .int) ∈ lw_good := good_of 1239 rfl rfl
theorem gw_1240 : Cond.methodLink "MeltHoursModel" 375 yX7_tellsAct ∈ lw_good := good_of 1240 (by decide +kernel) rfl
theorem gw_1242 : Cond.instanceMethod yX7_tellsAct ∈ lw_good := good_of 1242 (by decide +kernel) rfl
set_option maxRecDepth 100000 in
theorem gw_1243 : Cond.code yX7_tellsAct cX7_tellsAct 4 (some .int) ∈ lw_good := good_of 1243 rfl rfl
theorem gw_1244 : Cond.methodLink "MeltHoursModel" 372 yX7_plainTells ∈ lw_good := good_of 1244 (by decide +kernel) rfl
theorem gw_1246 : Cond.instanceMethod yX7_plainTells ∈ lw_good := good_of 1246 (by decide +kernel) rfl
set_option maxRecDepth 100000 in
theorem gw_1247 : Cond.code yX7_plainTells cX7_plainTells 3 (some .int) ∈ lw_good := good_of 1247 rfl rfl
theorem gw_1248 : Cond.methodLink "MeltHoursLaw" 126 yX7_trace ∈ lw_good := good_of 1248 (by decide +kernel) rfl
theorem gw_1249 : Cond.instanceMethod yX7_trace ∈ lw_good := good_of 1249 (by decide +kernel) rfl
theorem gw_1250 : Cond.selects RX7 yX7_trace yX7_trace ∈ lw_good := good_of 1250 (by decide +kernel) rfl
set_option maxRecDepth 100000 in
theorem gw_1251 : Cond.code yX7_trace cX7_trace 2 (some .int) ∈ lw_good := good_of 1251 rfl rfl
theorem gw_1252 : Cond.methodLink "MeltHoursLaw" 130 yX7_taken ∈ lw_good := good_of 1252 (by decide +kernel) rfl
theorem gw_1253 : Cond.instanceMethod yX7_taken ∈ lw_good := good_of 1253 (by decide +kernel) rfl
theorem gw_1254 : Cond.selects RX7 yX7_taken yX7_taken ∈ lw_good := good_of 1254 (by decide +kernel) rfl
set_option maxRecDepth 100000 in
theorem gw_1255 : Cond.code yX7_taken cX7_taken 4 (some .int) ∈ lw_good := good_of 1255 rfl rfl
theorem gw_1256 : Cond.methodLink "MeltHoursLaw" 134 yX7_count ∈ lw_good := good_of 1256 (by decide +kernel) rfl
theorem gw_1257 : Cond.instanceMethod yX7_count ∈ lw_good := good_of 1257 (by decide +kernel) rfl
theorem gw_1258 : Cond.selects RX7 yX7_count yX7_count ∈ lw_good := good_of 1258 (by decide +kernel) rfl
set_option maxRecDepth 100000 in
theorem gw_1259 : Cond.code yX7_count cX7_count 2 (some .int) ∈ lw_good := good_of 1259 rfl rfl
theorem gw_1260 : Cond.methodLink "MeltHoursLaw" 138 yX7_tape ∈ lw_good := good_of 1260 (by decide +kernel) rfl
theorem gw_1261 : Cond.instanceMethod yX7_tape ∈ lw_good := good_of 1261 (by decide +kernel) rfl
theorem gw_1262 : Cond.selects RX7 yX7_tape yX7_tape ∈ lw_good := good_of 1262 (by decide +kernel) rfl
set_option maxRecDepth 100000 in
theorem gw_1263 : Cond.code yX7_tape cX7_tape 5 (some .int) ∈ lw_good := good_of 1263 rfl rfl
theorem gw_1264 : Cond.methodLink "MeltHoursLaw" 145 yX7_item ∈ lw_good := good_of 1264 (by decide +kernel) rfl
theorem gw_1265 : Cond.instanceMethod yX7_item ∈ lw_good := good_of 1265 (by decide +kernel) rfl
theorem gw_1266 : Cond.selects RX7 yX7_item yX7_item ∈ lw_good := good_of 1266 (by decide +kernel) rfl
set_option maxRecDepth 100000 in
theorem gw_1267 : Cond.code yX7_item cX7_item 5 (some .int) ∈ lw_good := good_of 1267 rfl rfl
theorem gw_1268 : Cond.methodLink "MeltHoursModel" 378 yX7_narrow ∈ lw_good := good_of 1268 (by decide +kernel) rfl
theorem gw_1270 : Cond.instanceMethod yX7_narrow ∈ lw_good := good_of 1270 (by decide +kernel) rfl
set_option maxRecDepth 100000 in
theorem gw_1271 : Cond.code yX7_narrow cX7_narrow 4 (some .long) ∈ lw_good := good_of 1271 rfl rfl
theorem gw_1272 : Cond.methodLink "MeltHoursLaw" 149 yX7_read ∈ lw_good := good_of 1272 (by decide +kernel) rfl
theorem gw_1273 : Cond.instanceMethod yX7_read ∈ lw_good := good_of 1273 (by decide +kernel) rfl
theorem gw_1274 : Cond.selects RX7 yX7_read yX7_read ∈ lw_good := good_of 1274 (by decide +kernel) rfl
set_option maxRecDepth 100000 in
theorem gw_1275 : Cond.code yX7_read cX7_read 3 (some .long) ∈ lw_good := good_of 1275 rfl rfl
theorem gw_1276 : Cond.methodLink "MeltHoursLaw" 154 yX7_shift ∈ lw_good := good_of 1276 (by decide +kernel) rfl
theorem gw_1277 : Cond.instanceMethod yX7_shift ∈ lw_good := good_of 1277 (by decide +kernel) rfl
theorem gw_1278 : Cond.selects RX7 yX7_shift yX7_shift ∈ lw_good := good_of 1278 (by decide +kernel) rfl
set_option maxRecDepth 100000 in
theorem gw_1279 : Cond.code yX7_shift cX7_shift 7 (some .int) ∈ lw_good := good_of 1279 rfl rfl
theorem dok_of {d0 nL0 d : Nat} (h : d0 + 1 ≤ d) (h2 : nL0 + 19 ≤ 120) : dok d0 nL0 d = true := by
  unfold dok
  rw [Bool.and_eq_true]
  exact ⟨Nat.ble_eq_true_of_le h, Nat.ble_eq_true_of_le h2⟩
theorem aw_int : Cond.arrayClass (newarray.typeOf .int) ∈ lw_good := good_of 115 (by decide +kernel) (by decide +kernel)
theorem aw_boolean : Cond.arrayClass (newarray.typeOf .boolean) ∈ lw_good := good_of 451 (by decide +kernel) (by decide +kernel)
theorem aw_long : Cond.arrayClass (newarray.typeOf .long) ∈ lw_good := good_of 254 (by decide +kernel) (by decide +kernel)
section JW
variable {G : GT} {X : XT} {Q : State → Prop} {nL : Nat} {sh : SH} {I : IH} {L : LH} {n e es pc : Nat} {ls : List (Nat × Value)} {st : List Value}
variable {own : String} {cc : ByteArray} {d : Nat} {ret : Option FieldType} {nm : String}
theorem j_callV1 (F : MF G X own cc nL d ret nm) {ix cnt d' nL' ci b e1 es1 e0 es0 : Nat} {y : MethodName} {cc' : ByteArray} {ret' : Option FieldType} {As st0 : List Value} {v : Value} {sh' : SH} {I' : IH} {L' : LH} {n' : Nat} (cl : CLV own ix y cnt) (hcode : Cond.code y cc' nL' ret' ∈ lw_good) (hC : (vwCl[ci]?).map (·.1) = some y.cls) (hrc : isO sh ci b) (hct : Ct G y cc' nL' ret' d' (.ref b :: As) sh I L n (some v) sh' I' L' n' e0 es0) (hdk : dok d' nL' d = true) (hn : As.length = cnt) (hs0 : st0 = As.reverse ++ .ref b :: st) (hst : Nat.ble ((st.map fun v => v.category).sum) 8 = true) (he : e = e0 + e1) (hes : es = es0 + es1) (hd : decode cc pc = .ok (.invokevirtual ix, 3)) (kk : J G X Q nL sh' I' L' n' e1 es1 (pc + 3) ls (v :: st)) : J G X Q nL sh I L n e es pc ls st0 := j_callV F cl hcode hC hrc hct hdk hn hs0 hst he hes hd kk
theorem j_callV0 (F : MF G X own cc nL d ret nm) {ix cnt d' nL' ci b e1 es1 e0 es0 : Nat} {y : MethodName} {cc' : ByteArray} {ret' : Option FieldType} {As st0 : List Value} {sh' : SH} {I' : IH} {L' : LH} {n' : Nat} (cl : CLV own ix y cnt) (hcode : Cond.code y cc' nL' ret' ∈ lw_good) (hC : (vwCl[ci]?).map (·.1) = some y.cls) (hrc : isO sh ci b) (hct : Ct G y cc' nL' ret' d' (.ref b :: As) sh I L n none sh' I' L' n' e0 es0) (hdk : dok d' nL' d = true) (hn : As.length = cnt) (hs0 : st0 = As.reverse ++ .ref b :: st) (hst : Nat.ble ((st.map fun v => v.category).sum) 8 = true) (he : e = e0 + e1) (hes : es = es0 + es1) (hd : decode cc pc = .ok (.invokevirtual ix, 3)) (kk : J G X Q nL sh' I' L' n' e1 es1 (pc + 3) ls st) : J G X Q nL sh I L n e es pc ls st0 := j_callV F cl hcode hC hrc hct hdk hn hs0 hst he hes hd kk
theorem j_callS1 (F : MF G X own cc nL d ret nm) {ix cnt d' nL' e1 es1 e0 es0 : Nat} {y : MethodName} {cc' : ByteArray} {ret' : Option FieldType} {As st0 : List Value} {v : Value} {sh' : SH} {I' : IH} {L' : LH} {n' : Nat} (cl : CLS own ix y cnt) (hcode : Cond.code y cc' nL' ret' ∈ lw_good) (hct : Ct G y cc' nL' ret' d' As sh I L n (some v) sh' I' L' n' e0 es0) (hdk : dok d' nL' d = true) (hn : As.length = cnt) (hs0 : st0 = As.reverse ++ st) (hst : Nat.ble ((st.map fun v => v.category).sum) 8 = true) (he : e = e0 + e1) (hes : es = es0 + es1) (hd : decode cc pc = .ok (.invokestatic ix, 3)) (kk : J G X Q nL sh' I' L' n' e1 es1 (pc + 3) ls (v :: st)) : J G X Q nL sh I L n e es pc ls st0 := j_callS F cl hcode hct hdk hn hs0 hst he hes hd kk
theorem j_callS0 (F : MF G X own cc nL d ret nm) {ix cnt d' nL' e1 es1 e0 es0 : Nat} {y : MethodName} {cc' : ByteArray} {ret' : Option FieldType} {As st0 : List Value} {sh' : SH} {I' : IH} {L' : LH} {n' : Nat} (cl : CLS own ix y cnt) (hcode : Cond.code y cc' nL' ret' ∈ lw_good) (hct : Ct G y cc' nL' ret' d' As sh I L n none sh' I' L' n' e0 es0) (hdk : dok d' nL' d = true) (hn : As.length = cnt) (hs0 : st0 = As.reverse ++ st) (hst : Nat.ble ((st.map fun v => v.category).sum) 8 = true) (he : e = e0 + e1) (hes : es = es0 + es1) (hd : decode cc pc = .ok (.invokestatic ix, 3)) (kk : J G X Q nL sh' I' L' n' e1 es1 (pc + 3) ls st) : J G X Q nL sh I L n e es pc ls st0 := j_callS F cl hcode hct hdk hn hs0 hst he hes hd kk
theorem j_callSN1 (F : MF G X own cc nL d ret nm) {ix cnt d' nL' e1 es1 e0 es0 : Nat} {y : MethodName} {cc' : ByteArray} {ret' : Option FieldType} {As st0 : List Value} {v : Value} {sh' : SH} {I' : IH} {L' : LH} {n' : Nat} (cl : CLSN own ix y cnt) (hcode : Cond.code y cc' nL' ret' ∈ lw_good) (hct : Ct G y cc' nL' ret' d' As sh I L n (some v) sh' I' L' n' e0 es0) (hdk : dok d' nL' d = true) (hn : As.length = cnt) (hs0 : st0 = As.reverse ++ st) (hst : Nat.ble ((st.map fun v => v.category).sum) 8 = true) (he : e = e0 + e1) (hes : es = es0 + es1) (hd : decode cc pc = .ok (.invokestatic ix, 3)) (kk : J G X Q nL sh' I' L' n' e1 es1 (pc + 3) ls (v :: st)) : J G X Q nL sh I L n e es pc ls st0 := j_callSN F cl hcode hct hdk hn hs0 hst he hes hd kk
theorem j_callSN0 (F : MF G X own cc nL d ret nm) {ix cnt d' nL' e1 es1 e0 es0 : Nat} {y : MethodName} {cc' : ByteArray} {ret' : Option FieldType} {As st0 : List Value} {sh' : SH} {I' : IH} {L' : LH} {n' : Nat} (cl : CLSN own ix y cnt) (hcode : Cond.code y cc' nL' ret' ∈ lw_good) (hct : Ct G y cc' nL' ret' d' As sh I L n none sh' I' L' n' e0 es0) (hdk : dok d' nL' d = true) (hn : As.length = cnt) (hs0 : st0 = As.reverse ++ st) (hst : Nat.ble ((st.map fun v => v.category).sum) 8 = true) (he : e = e0 + e1) (hes : es = es0 + es1) (hd : decode cc pc = .ok (.invokestatic ix, 3)) (kk : J G X Q nL sh' I' L' n' e1 es1 (pc + 3) ls st) : J G X Q nL sh I L n e es pc ls st0 := j_callSN F cl hcode hct hdk hn hs0 hst he hes hd kk
theorem j_aretR (F : MF G X own cc nL d ret nm) {a : Nat} {rt : FieldType} (hret : ret = some rt) (hrt : (∃ n, rt = .object n) ∨ ∃ t, rt = .array t) (hd : decode cc pc = .ok (.areturn, 1)) : J G X (QE G X (some (.ref a)) sh I L n) nL sh I L n 0 0 pc ls [.ref a] := j_aret (o := some a) F hret hrt rfl hd
theorem j_aretN (F : MF G X own cc nL d ret nm) {rt : FieldType} (hret : ret = some rt) (hrt : (∃ n, rt = .object n) ∨ ∃ t, rt = .array t) (hd : decode cc pc = .ok (.areturn, 1)) : J G X (QE G X (some .null) sh I L n) nL sh I L n 0 0 pc ls [.null] := j_aret (o := none) F hret hrt rfl hd
end JW
set_option maxHeartbeats 1000000 in
theorem ct_ofJ {G : GT} {y : MethodName} {cc : ByteArray} {nL : Nat} {ret : Option FieldType} {d : Nat} {av : List Value} {sh : SH} {I : IH} {L : LH} {n : Nat} {v : Option Value} {sh' : SH} {I' : IH} {L' : LH} {n' e es : Nat} (hy : plainFor y = true) (hn : Nat.ble (lg_sl av).length nL = true)
    (body : ∀ X : XT, MF G X y.cls cc nL d ret y.name → J G X (QE G X v sh' I' L' n') nL sh I L n e es 0 (lv_args 0 av) []) : Ct G y cc nL ret d av sh I L n v sh' I' L' n' e es := by
  intro l
  refine va_MetF (cc := cc) (maxL := nL) (ret := ret) hy rfl ?_
  intro p e9 s m args below meth c s₁ B hml hv
  obtain ⟨rfl, hH, hK⟩ := hv
  have hts := atoms_spec (ws := wsU y cc nL ret) B.pre
  have hown : s.vm.findClass y.cls = some m.cls := findClass_of_methodNamed B.named
  have hl := lv_entry av (n := nL) (Nat.le_of_ble_eq_true hn)
  rw [lg_entry_eq]
  exact body (p, l, e9, rmD d e es, s, m, av.toArray, below, meth, c) ⟨B.exec, B.bytes, hml, hown, htsU hts, B.returns, B.notSynchronized, fun _ => (name_of_methodNamed B.named B.method).1, hK, hH.2.2.1, by rw [hH.1]; exact hH.2.1, Nat.le_refl _, Nat.le_refl _⟩ s.heap [] 0 0 _ (Nat.zero_add e) (Nat.zero_add es) hH va_S.rf hl
theorem flX6_19 : FL RX6 19 6 0 := ⟨RX6, TX6, 9, rfl, by decide, inX6, gw_255, rfl⟩
theorem flX6_23 : FL RX6 23 2 8 := ⟨RX2, TX2, 9, rfl, by decide, inX2, gw_141, rfl⟩
theorem flX6_27 : FL RX6 27 6 1 := ⟨RX6, TX6, 9, rfl, by decide, inX6, gw_256, rfl⟩
theorem flX6_35 : FL RX6 35 6 3 := ⟨RX6, TX6, 9, rfl, by decide, inX6, gw_258, rfl⟩
theorem flX6_42 : FL RX6 42 6 4 := ⟨RX6, TX6, 9, rfl, by decide, inX6, gw_259, rfl⟩
theorem flX6_46 : FL RX6 46 6 5 := ⟨RX6, TX6, 9, rfl, by decide, inX6, gw_260, rfl⟩
theorem flX6_52 : FL RX6 52 6 8 := ⟨RX6, TX6, 9, rfl, by decide, inX6, gw_263, rfl⟩
theorem flX6_57 : FL RX6 57 2 0 := ⟨RX2, TX2, 9, rfl, by decide, inX2, gw_122, rfl⟩
theorem flX6_65 : FL RX6 65 2 1 := ⟨RX2, TX2, 9, rfl, by decide, inX2, gw_125, rfl⟩
theorem flX6_68 : FL RX6 68 6 6 := ⟨RX6, TX6, 9, rfl, by decide, inX6, gw_261, rfl⟩
theorem flX6_71 : FL RX6 71 6 7 := ⟨RX6, TX6, 9, rfl, by decide, inX6, gw_262, rfl⟩
theorem flX6_83 : FL RX6 83 1 3 := ⟨RX1, TX1, 5, rfl, by decide, inX1, gw_317, rfl⟩
theorem flX6_86 : FL RX6 86 1 4 := ⟨RX1, TX1, 5, rfl, by decide, inX1, gw_319, rfl⟩
theorem flX6_87 : FL RX6 87 4 0 := ⟨RX4, TX4, 2, rfl, by decide, inX4, gw_107, rfl⟩
theorem flX6_96 : FL RX6 96 2 3 := ⟨RX2, TX2, 9, rfl, by decide, inX2, gw_131, rfl⟩
theorem flX6_111 : FL RX6 111 5 1 := ⟨RX5, TX5, 10, rfl, by decide, inX5, gw_172, rfl⟩
theorem flX6_118 : FL RX6 118 5 5 := ⟨RX5, TX5, 10, rfl, by decide, inX5, gw_180, rfl⟩
theorem flX6_125 : FL RX6 125 5 8 := ⟨RX5, TX5, 10, rfl, by decide, inX5, gw_185, rfl⟩
theorem flX6_128 : FL RX6 128 5 6 := ⟨RX5, TX5, 10, rfl, by decide, inX5, gw_182, rfl⟩
theorem flX6_135 : FL RX6 135 2 5 := ⟨RX2, TX2, 9, rfl, by decide, inX2, gw_136, rfl⟩
theorem flX6_138 : FL RX6 138 2 4 := ⟨RX2, TX2, 9, rfl, by decide, inX2, gw_134, rfl⟩
theorem flX6_144 : FL RX6 144 5 9 := ⟨RX5, TX5, 10, rfl, by decide, inX5, gw_187, rfl⟩
theorem flX6_151 : FL RX6 151 5 3 := ⟨RX5, TX5, 10, rfl, by decide, inX5, gw_176, rfl⟩
theorem flX6_167 : FL RX6 167 5 2 := ⟨RX5, TX5, 10, rfl, by decide, inX5, gw_174, rfl⟩
theorem flX6_168 : FL RX6 168 2 2 := ⟨RX2, TX2, 9, rfl, by decide, inX2, gw_128, rfl⟩
theorem flX6_188 : FL RX6 188 2 7 := ⟨RX2, TX2, 9, rfl, by decide, inX2, gw_140, rfl⟩
theorem flX6_191 : FL RX6 191 2 6 := ⟨RX2, TX2, 9, rfl, by decide, inX2, gw_138, rfl⟩
theorem flX6_198 : FL RX6 198 3 0 := ⟨RX3, TX3, 3, rfl, by decide, inX3, gw_242, rfl⟩
theorem flX6_201 : FL RX6 201 5 4 := ⟨RX5, TX5, 10, rfl, by decide, inX5, gw_178, rfl⟩
theorem flX6_204 : FL RX6 204 3 1 := ⟨RX3, TX3, 3, rfl, by decide, inX3, gw_244, rfl⟩
theorem flX6_212 : FL RX6 212 3 2 := ⟨RX3, TX3, 3, rfl, by decide, inX3, gw_246, rfl⟩
theorem flX6_222 : FL RX6 222 6 2 := ⟨RX6, TX6, 9, rfl, by decide, inX6, gw_257, rfl⟩
theorem flX6_226 : FL RX6 226 0 4 := ⟨RX0, TX0, 5, rfl, by decide, inX0, gw_222, rfl⟩
theorem flX6_233 : FL RX6 233 0 2 := ⟨RX0, TX0, 5, rfl, by decide, inX0, gw_218, rfl⟩
theorem flX6_245 : FL RX6 245 0 3 := ⟨RX0, TX0, 5, rfl, by decide, inX0, gw_220, rfl⟩
theorem flX0_9 : FL RX0 9 0 3 := ⟨RX0, TX0, 5, rfl, by decide, inX0, gw_219, rfl⟩
theorem flX0_15 : FL RX0 15 0 0 := ⟨RX0, TX0, 5, rfl, by decide, inX0, gw_215, rfl⟩
theorem flX0_19 : FL RX0 19 0 2 := ⟨RX0, TX0, 5, rfl, by decide, inX0, gw_217, rfl⟩
theorem flX0_22 : FL RX0 22 0 1 := ⟨RX0, TX0, 5, rfl, by decide, inX0, gw_216, rfl⟩
theorem flX0_39 : FL RX0 39 0 4 := ⟨RX0, TX0, 5, rfl, by decide, inX0, gw_221, rfl⟩
theorem flX1_9 : FL RX1 9 1 2 := ⟨RX1, TX1, 5, rfl, by decide, inX1, gw_315, rfl⟩
theorem flX1_18 : FL RX1 18 1 4 := ⟨RX1, TX1, 5, rfl, by decide, inX1, gw_318, rfl⟩
theorem flX1_22 : FL RX1 22 1 0 := ⟨RX1, TX1, 5, rfl, by decide, inX1, gw_313, rfl⟩
theorem flX1_32 : FL RX1 32 1 1 := ⟨RX1, TX1, 5, rfl, by decide, inX1, gw_314, rfl⟩
theorem flX1_43 : FL RX1 43 1 3 := ⟨RX1, TX1, 5, rfl, by decide, inX1, gw_316, rfl⟩
theorem flX2_9 : FL RX2 9 2 0 := ⟨RX2, TX2, 9, rfl, by decide, inX2, gw_121, rfl⟩
theorem flX2_15 : FL RX2 15 2 1 := ⟨RX2, TX2, 9, rfl, by decide, inX2, gw_124, rfl⟩
theorem flX2_19 : FL RX2 19 2 2 := ⟨RX2, TX2, 9, rfl, by decide, inX2, gw_127, rfl⟩
theorem flX2_24 : FL RX2 24 2 3 := ⟨RX2, TX2, 9, rfl, by decide, inX2, gw_129, rfl⟩
theorem flX2_27 : FL RX2 27 2 4 := ⟨RX2, TX2, 9, rfl, by decide, inX2, gw_132, rfl⟩
theorem flX2_30 : FL RX2 30 2 6 := ⟨RX2, TX2, 9, rfl, by decide, inX2, gw_137, rfl⟩
theorem flX2_33 : FL RX2 33 2 8 := ⟨RX2, TX2, 9, rfl, by decide, inX2, gw_142, rfl⟩
theorem flX2_45 : FL RX2 45 2 5 := ⟨RX2, TX2, 9, rfl, by decide, inX2, gw_135, rfl⟩
theorem flX2_48 : FL RX2 48 2 7 := ⟨RX2, TX2, 9, rfl, by decide, inX2, gw_139, rfl⟩
theorem flX2_61 : FL RX2 61 4 1 := ⟨RX4, TX4, 2, rfl, by decide, inX4, gw_109, rfl⟩
theorem flX3_9 : FL RX3 9 3 0 := ⟨RX3, TX3, 3, rfl, by decide, inX3, gw_241, rfl⟩
theorem flX3_15 : FL RX3 15 3 2 := ⟨RX3, TX3, 3, rfl, by decide, inX3, gw_245, rfl⟩
theorem flX3_25 : FL RX3 25 3 1 := ⟨RX3, TX3, 3, rfl, by decide, inX3, gw_243, rfl⟩
theorem flX4_11 : FL RX4 11 4 0 := ⟨RX4, TX4, 2, rfl, by decide, inX4, gw_105, rfl⟩
theorem flX4_16 : FL RX4 16 4 1 := ⟨RX4, TX4, 2, rfl, by decide, inX4, gw_108, rfl⟩
theorem flX5_9 : FL RX5 9 5 1 := ⟨RX5, TX5, 10, rfl, by decide, inX5, gw_171, rfl⟩
theorem flX5_17 : FL RX5 17 5 2 := ⟨RX5, TX5, 10, rfl, by decide, inX5, gw_173, rfl⟩
theorem flX5_20 : FL RX5 20 5 3 := ⟨RX5, TX5, 10, rfl, by decide, inX5, gw_175, rfl⟩
theorem flX5_23 : FL RX5 23 5 4 := ⟨RX5, TX5, 10, rfl, by decide, inX5, gw_177, rfl⟩
theorem flX5_26 : FL RX5 26 5 5 := ⟨RX5, TX5, 10, rfl, by decide, inX5, gw_179, rfl⟩
theorem flX5_29 : FL RX5 29 5 6 := ⟨RX5, TX5, 10, rfl, by decide, inX5, gw_181, rfl⟩
theorem flX5_32 : FL RX5 32 5 7 := ⟨RX5, TX5, 10, rfl, by decide, inX5, gw_183, rfl⟩
theorem flX5_35 : FL RX5 35 5 8 := ⟨RX5, TX5, 10, rfl, by decide, inX5, gw_184, rfl⟩
theorem flX5_38 : FL RX5 38 5 9 := ⟨RX5, TX5, 10, rfl, by decide, inX5, gw_186, rfl⟩
theorem flX5_41 : FL RX5 41 5 0 := ⟨RX5, TX5, 10, rfl, by decide, inX5, gw_170, rfl⟩
theorem flX5_45 : FL RX5 45 2 8 := ⟨RX2, TX2, 9, rfl, by decide, inX2, gw_143, rfl⟩
theorem flX5_51 : FL RX5 51 4 0 := ⟨RX4, TX4, 2, rfl, by decide, inX4, gw_106, rfl⟩
theorem flX5_58 : FL RX5 58 2 3 := ⟨RX2, TX2, 9, rfl, by decide, inX2, gw_130, rfl⟩
theorem flX5_66 : FL RX5 66 2 1 := ⟨RX2, TX2, 9, rfl, by decide, inX2, gw_126, rfl⟩
theorem flX5_121 : FL RX5 121 2 0 := ⟨RX2, TX2, 9, rfl, by decide, inX2, gw_123, rfl⟩
theorem flX5_128 : FL RX5 128 2 4 := ⟨RX2, TX2, 9, rfl, by decide, inX2, gw_133, rfl⟩
theorem flX7_7 : FL RX7 7 7 0 := ⟨RX7, TX7, 67, rfl, by decide, inX7, gw_750, rfl⟩
theorem flX7_13 : FL RX7 13 7 1 := ⟨RX7, TX7, 67, rfl, by decide, inX7, gw_751, rfl⟩
theorem flX7_16 : FL RX7 16 7 2 := ⟨RX7, TX7, 67, rfl, by decide, inX7, gw_752, rfl⟩
theorem flX7_19 : FL RX7 19 7 3 := ⟨RX7, TX7, 67, rfl, by decide, inX7, gw_753, rfl⟩
theorem flX7_23 : FL RX7 23 7 4 := ⟨RX7, TX7, 67, rfl, by decide, inX7, gw_754, rfl⟩
theorem flX7_26 : FL RX7 26 7 5 := ⟨RX7, TX7, 67, rfl, by decide, inX7, gw_755, rfl⟩
theorem flX7_29 : FL RX7 29 7 6 := ⟨RX7, TX7, 67, rfl, by decide, inX7, gw_756, rfl⟩
theorem flX7_32 : FL RX7 32 7 7 := ⟨RX7, TX7, 67, rfl, by decide, inX7, gw_757, rfl⟩
theorem flX7_35 : FL RX7 35 7 8 := ⟨RX7, TX7, 67, rfl, by decide, inX7, gw_758, rfl⟩
theorem flX7_38 : FL RX7 38 7 9 := ⟨RX7, TX7, 67, rfl, by decide, inX7, gw_759, rfl⟩
theorem flX7_41 : FL RX7 41 7 10 := ⟨RX7, TX7, 67, rfl, by decide, inX7, gw_760, rfl⟩
theorem flX7_44 : FL RX7 44 7 11 := ⟨RX7, TX7, 67, rfl, by decide, inX7, gw_761, rfl⟩
theorem flX7_47 : FL RX7 47 7 12 := ⟨RX7, TX7, 67, rfl, by decide, inX7, gw_762, rfl⟩
theorem flX7_50 : FL RX7 50 7 13 := ⟨RX7, TX7, 67, rfl, by decide, inX7, gw_763, rfl⟩
theorem flX7_53 : FL RX7 53 7 14 := ⟨RX7, TX7, 67, rfl, by decide, inX7, gw_764, rfl⟩
theorem flX7_56 : FL RX7 56 7 15 := ⟨RX7, TX7, 67, rfl, by decide, inX7, gw_765, rfl⟩
theorem flX7_59 : FL RX7 59 7 16 := ⟨RX7, TX7, 67, rfl, by decide, inX7, gw_766, rfl⟩
theorem flX7_62 : FL RX7 62 7 17 := ⟨RX7, TX7, 67, rfl, by decide, inX7, gw_767, rfl⟩
theorem flX7_65 : FL RX7 65 7 18 := ⟨RX7, TX7, 67, rfl, by decide, inX7, gw_768, rfl⟩
theorem flX7_68 : FL RX7 68 7 19 := ⟨RX7, TX7, 67, rfl, by decide, inX7, gw_769, rfl⟩
theorem flX7_71 : FL RX7 71 7 20 := ⟨RX7, TX7, 67, rfl, by decide, inX7, gw_770, rfl⟩
theorem flX7_74 : FL RX7 74 7 21 := ⟨RX7, TX7, 67, rfl, by decide, inX7, gw_771, rfl⟩
theorem flX7_77 : FL RX7 77 7 22 := ⟨RX7, TX7, 67, rfl, by decide, inX7, gw_772, rfl⟩
theorem flX7_80 : FL RX7 80 7 23 := ⟨RX7, TX7, 67, rfl, by decide, inX7, gw_773, rfl⟩
theorem flX7_83 : FL RX7 83 7 24 := ⟨RX7, TX7, 67, rfl, by decide, inX7, gw_774, rfl⟩
theorem flX7_87 : FL RX7 87 7 25 := ⟨RX7, TX7, 67, rfl, by decide, inX7, gw_775, rfl⟩
theorem flX7_90 : FL RX7 90 7 26 := ⟨RX7, TX7, 67, rfl, by decide, inX7, gw_776, rfl⟩
theorem flX7_93 : FL RX7 93 7 27 := ⟨RX7, TX7, 67, rfl, by decide, inX7, gw_777, rfl⟩
theorem flX7_96 : FL RX7 96 7 28 := ⟨RX7, TX7, 67, rfl, by decide, inX7, gw_778, rfl⟩
theorem flX7_99 : FL RX7 99 7 29 := ⟨RX7, TX7, 67, rfl, by decide, inX7, gw_779, rfl⟩
theorem flX7_102 : FL RX7 102 7 30 := ⟨RX7, TX7, 67, rfl, by decide, inX7, gw_780, rfl⟩
theorem flX7_105 : FL RX7 105 7 31 := ⟨RX7, TX7, 67, rfl, by decide, inX7, gw_781, rfl⟩
theorem flX7_108 : FL RX7 108 7 32 := ⟨RX7, TX7, 67, rfl, by decide, inX7, gw_782, rfl⟩
theorem flX7_111 : FL RX7 111 7 33 := ⟨RX7, TX7, 67, rfl, by decide, inX7, gw_783, rfl⟩
theorem flX7_114 : FL RX7 114 7 34 := ⟨RX7, TX7, 67, rfl, by decide, inX7, gw_784, rfl⟩
theorem flX7_117 : FL RX7 117 7 35 := ⟨RX7, TX7, 67, rfl, by decide, inX7, gw_785, rfl⟩
theorem flX7_120 : FL RX7 120 7 36 := ⟨RX7, TX7, 67, rfl, by decide, inX7, gw_786, rfl⟩
theorem flX7_123 : FL RX7 123 7 37 := ⟨RX7, TX7, 67, rfl, by decide, inX7, gw_787, rfl⟩
theorem flX7_126 : FL RX7 126 7 38 := ⟨RX7, TX7, 67, rfl, by decide, inX7, gw_788, rfl⟩
theorem flX7_129 : FL RX7 129 7 39 := ⟨RX7, TX7, 67, rfl, by decide, inX7, gw_789, rfl⟩
theorem flX7_132 : FL RX7 132 7 40 := ⟨RX7, TX7, 67, rfl, by decide, inX7, gw_790, rfl⟩
theorem flX7_135 : FL RX7 135 7 41 := ⟨RX7, TX7, 67, rfl, by decide, inX7, gw_791, rfl⟩
theorem flX7_138 : FL RX7 138 7 42 := ⟨RX7, TX7, 67, rfl, by decide, inX7, gw_792, rfl⟩
theorem flX7_141 : FL RX7 141 7 43 := ⟨RX7, TX7, 67, rfl, by decide, inX7, gw_793, rfl⟩
theorem flX7_144 : FL RX7 144 7 44 := ⟨RX7, TX7, 67, rfl, by decide, inX7, gw_794, rfl⟩
theorem flX7_147 : FL RX7 147 7 45 := ⟨RX7, TX7, 67, rfl, by decide, inX7, gw_795, rfl⟩
theorem flX7_151 : FL RX7 151 7 46 := ⟨RX7, TX7, 67, rfl, by decide, inX7, gw_796, rfl⟩
theorem flX7_154 : FL RX7 154 7 47 := ⟨RX7, TX7, 67, rfl, by decide, inX7, gw_797, rfl⟩
theorem flX7_157 : FL RX7 157 7 48 := ⟨RX7, TX7, 67, rfl, by decide, inX7, gw_798, rfl⟩
theorem flX7_160 : FL RX7 160 7 49 := ⟨RX7, TX7, 67, rfl, by decide, inX7, gw_799, rfl⟩
theorem flX7_163 : FL RX7 163 7 50 := ⟨RX7, TX7, 67, rfl, by decide, inX7, gw_800, rfl⟩
theorem flX7_166 : FL RX7 166 7 51 := ⟨RX7, TX7, 67, rfl, by decide, inX7, gw_801, rfl⟩
theorem flX7_169 : FL RX7 169 7 52 := ⟨RX7, TX7, 67, rfl, by decide, inX7, gw_802, rfl⟩
theorem flX7_172 : FL RX7 172 7 53 := ⟨RX7, TX7, 67, rfl, by decide, inX7, gw_803, rfl⟩
theorem flX7_175 : FL RX7 175 7 54 := ⟨RX7, TX7, 67, rfl, by decide, inX7, gw_804, rfl⟩
theorem flX7_178 : FL RX7 178 7 55 := ⟨RX7, TX7, 67, rfl, by decide, inX7, gw_805, rfl⟩
theorem flX7_181 : FL RX7 181 7 56 := ⟨RX7, TX7, 67, rfl, by decide, inX7, gw_806, rfl⟩
theorem flX7_184 : FL RX7 184 7 57 := ⟨RX7, TX7, 67, rfl, by decide, inX7, gw_807, rfl⟩
theorem flX7_187 : FL RX7 187 7 58 := ⟨RX7, TX7, 67, rfl, by decide, inX7, gw_808, rfl⟩
theorem flX7_190 : FL RX7 190 7 59 := ⟨RX7, TX7, 67, rfl, by decide, inX7, gw_809, rfl⟩
theorem flX7_193 : FL RX7 193 7 60 := ⟨RX7, TX7, 67, rfl, by decide, inX7, gw_810, rfl⟩
theorem flX7_196 : FL RX7 196 7 61 := ⟨RX7, TX7, 67, rfl, by decide, inX7, gw_811, rfl⟩
theorem flX7_199 : FL RX7 199 7 62 := ⟨RX7, TX7, 67, rfl, by decide, inX7, gw_812, rfl⟩
theorem flX7_202 : FL RX7 202 7 63 := ⟨RX7, TX7, 67, rfl, by decide, inX7, gw_813, rfl⟩
theorem flX7_205 : FL RX7 205 7 64 := ⟨RX7, TX7, 67, rfl, by decide, inX7, gw_814, rfl⟩
theorem flX7_208 : FL RX7 208 7 65 := ⟨RX7, TX7, 67, rfl, by decide, inX7, gw_815, rfl⟩
theorem flX7_212 : FL RX7 212 7 66 := ⟨RX7, TX7, 67, rfl, by decide, inX7, gw_816, rfl⟩
theorem fp0_0 : FP 0 0 false .int := ⟨RX0, TX0, 5, tyX0, rfl, tyX0_ok, nmX0, rfl, by decide +kernel⟩
theorem fp0_1 : FP 0 1 false .int := ⟨RX0, TX0, 5, tyX0, rfl, tyX0_ok, nmX0, rfl, by decide +kernel⟩
theorem fp0_2 : FP 0 2 false .int := ⟨RX0, TX0, 5, tyX0, rfl, tyX0_ok, nmX0, rfl, by decide +kernel⟩
theorem fp0_3 : FP 0 3 true (.array .int) := ⟨RX0, TX0, 5, tyX0, rfl, tyX0_ok, nmX0, rfl, by decide +kernel⟩
theorem fp0_4 : FP 0 4 false .int := ⟨RX0, TX0, 5, tyX0, rfl, tyX0_ok, nmX0, rfl, by decide +kernel⟩
theorem fp1_0 : FP 1 0 true (.array .int) := ⟨RX1, TX1, 5, tyX1, rfl, tyX1_ok, nmX1, rfl, by decide +kernel⟩
theorem fp1_1 : FP 1 1 true .int := ⟨RX1, TX1, 5, tyX1, rfl, tyX1_ok, nmX1, rfl, by decide +kernel⟩
theorem fp1_2 : FP 1 2 false .boolean := ⟨RX1, TX1, 5, tyX1, rfl, tyX1_ok, nmX1, rfl, by decide +kernel⟩
theorem fp1_3 : FP 1 3 false .int := ⟨RX1, TX1, 5, tyX1, rfl, tyX1_ok, nmX1, rfl, by decide +kernel⟩
theorem fp1_4 : FP 1 4 true (.object "MeltHours$Valley") := ⟨RX1, TX1, 5, tyX1, rfl, tyX1_ok, nmX1, rfl, by decide +kernel⟩
theorem fp2_0 : FP 2 0 false .int := ⟨RX2, TX2, 9, tyX2, rfl, tyX2_ok, nmX2, rfl, by decide +kernel⟩
theorem fp2_1 : FP 2 1 true (.array .int) := ⟨RX2, TX2, 9, tyX2, rfl, tyX2_ok, nmX2, rfl, by decide +kernel⟩
theorem fp2_2 : FP 2 2 true (.array .int) := ⟨RX2, TX2, 9, tyX2, rfl, tyX2_ok, nmX2, rfl, by decide +kernel⟩
theorem fp2_3 : FP 2 3 true (.array (.array .int)) := ⟨RX2, TX2, 9, tyX2, rfl, tyX2_ok, nmX2, rfl, by decide +kernel⟩
theorem fp2_4 : FP 2 4 true (.array (.array .int)) := ⟨RX2, TX2, 9, tyX2, rfl, tyX2_ok, nmX2, rfl, by decide +kernel⟩
theorem fp2_5 : FP 2 5 false .int := ⟨RX2, TX2, 9, tyX2, rfl, tyX2_ok, nmX2, rfl, by decide +kernel⟩
theorem fp2_6 : FP 2 6 true (.array .int) := ⟨RX2, TX2, 9, tyX2, rfl, tyX2_ok, nmX2, rfl, by decide +kernel⟩
theorem fp2_7 : FP 2 7 false .int := ⟨RX2, TX2, 9, tyX2, rfl, tyX2_ok, nmX2, rfl, by decide +kernel⟩
theorem fp2_8 : FP 2 8 false (.object "MeltHours$Valley") := ⟨RX2, TX2, 9, tyX2, rfl, tyX2_ok, nmX2, rfl, by decide +kernel⟩
theorem fp3_0 : FP 3 0 false .int := ⟨RX3, TX3, 3, tyX3, rfl, tyX3_ok, nmX3, rfl, by decide +kernel⟩
theorem fp3_1 : FP 3 1 false .int := ⟨RX3, TX3, 3, tyX3, rfl, tyX3_ok, nmX3, rfl, by decide +kernel⟩
theorem fp3_2 : FP 3 2 true (.array .long) := ⟨RX3, TX3, 3, tyX3, rfl, tyX3_ok, nmX3, rfl, by decide +kernel⟩
theorem fp4_0 : FP 4 0 true (.array (.array .int)) := ⟨RX4, TX4, 2, tyX4, rfl, tyX4_ok, nmX4, rfl, by decide +kernel⟩
theorem fp4_1 : FP 4 1 true (.array .int) := ⟨RX4, TX4, 2, tyX4, rfl, tyX4_ok, nmX4, rfl, by decide +kernel⟩
theorem fp5_0 : FP 5 0 true (.object "MeltHours$State") := ⟨RX5, TX5, 10, tyX5, rfl, tyX5_ok, nmX5, rfl, by decide +kernel⟩
theorem fp5_1 : FP 5 1 true (.array .int) := ⟨RX5, TX5, 10, tyX5, rfl, tyX5_ok, nmX5, rfl, by decide +kernel⟩
theorem fp5_2 : FP 5 2 true (.array (.array .int)) := ⟨RX5, TX5, 10, tyX5, rfl, tyX5_ok, nmX5, rfl, by decide +kernel⟩
theorem fp5_3 : FP 5 3 true (.array (.array .int)) := ⟨RX5, TX5, 10, tyX5, rfl, tyX5_ok, nmX5, rfl, by decide +kernel⟩
theorem fp5_4 : FP 5 4 true (.array (.array .int)) := ⟨RX5, TX5, 10, tyX5, rfl, tyX5_ok, nmX5, rfl, by decide +kernel⟩
theorem fp5_5 : FP 5 5 true (.array (.array .int)) := ⟨RX5, TX5, 10, tyX5, rfl, tyX5_ok, nmX5, rfl, by decide +kernel⟩
theorem fp5_6 : FP 5 6 true (.array (.array .int)) := ⟨RX5, TX5, 10, tyX5, rfl, tyX5_ok, nmX5, rfl, by decide +kernel⟩
theorem fp5_7 : FP 5 7 true (.array (.array .int)) := ⟨RX5, TX5, 10, tyX5, rfl, tyX5_ok, nmX5, rfl, by decide +kernel⟩
theorem fp5_8 : FP 5 8 true (.array (.array .int)) := ⟨RX5, TX5, 10, tyX5, rfl, tyX5_ok, nmX5, rfl, by decide +kernel⟩
theorem fp5_9 : FP 5 9 true (.array .int) := ⟨RX5, TX5, 10, tyX5, rfl, tyX5_ok, nmX5, rfl, by decide +kernel⟩
theorem fp6_0 : FP 6 0 true (.object "MeltHours$State") := ⟨RX6, TX6, 9, tyX6, rfl, tyX6_ok, nmX6, rfl, by decide +kernel⟩
theorem fp6_1 : FP 6 1 true (.object "MeltHours$State") := ⟨RX6, TX6, 9, tyX6, rfl, tyX6_ok, nmX6, rfl, by decide +kernel⟩
theorem fp6_2 : FP 6 2 false .boolean := ⟨RX6, TX6, 9, tyX6, rfl, tyX6_ok, nmX6, rfl, by decide +kernel⟩
theorem fp6_3 : FP 6 3 true (.object "MeltHours$Water") := ⟨RX6, TX6, 9, tyX6, rfl, tyX6_ok, nmX6, rfl, by decide +kernel⟩
theorem fp6_4 : FP 6 4 true (.object "MeltHours$Acts") := ⟨RX6, TX6, 9, tyX6, rfl, tyX6_ok, nmX6, rfl, by decide +kernel⟩
theorem fp6_5 : FP 6 5 true (.array .int) := ⟨RX6, TX6, 9, tyX6, rfl, tyX6_ok, nmX6, rfl, by decide +kernel⟩
theorem fp6_6 : FP 6 6 false .int := ⟨RX6, TX6, 9, tyX6, rfl, tyX6_ok, nmX6, rfl, by decide +kernel⟩
theorem fp6_7 : FP 6 7 false .int := ⟨RX6, TX6, 9, tyX6, rfl, tyX6_ok, nmX6, rfl, by decide +kernel⟩
theorem fp6_8 : FP 6 8 true (.array (.object "MeltHours$Tape")) := ⟨RX6, TX6, 9, tyX6, rfl, tyX6_ok, nmX6, rfl, by decide +kernel⟩
theorem fp7_0 : FP 7 0 false .int := ⟨RX7, TX7, 67, tyX7, rfl, tyX7_ok, nmX7, rfl, by decide +kernel⟩
theorem fp7_1 : FP 7 1 false .int := ⟨RX7, TX7, 67, tyX7, rfl, tyX7_ok, nmX7, rfl, by decide +kernel⟩
theorem fp7_2 : FP 7 2 false .int := ⟨RX7, TX7, 67, tyX7, rfl, tyX7_ok, nmX7, rfl, by decide +kernel⟩
theorem fp7_3 : FP 7 3 true (.array .int) := ⟨RX7, TX7, 67, tyX7, rfl, tyX7_ok, nmX7, rfl, by decide +kernel⟩
theorem fp7_4 : FP 7 4 true (.array .int) := ⟨RX7, TX7, 67, tyX7, rfl, tyX7_ok, nmX7, rfl, by decide +kernel⟩
theorem fp7_5 : FP 7 5 true (.array .int) := ⟨RX7, TX7, 67, tyX7, rfl, tyX7_ok, nmX7, rfl, by decide +kernel⟩
theorem fp7_6 : FP 7 6 true (.array .int) := ⟨RX7, TX7, 67, tyX7, rfl, tyX7_ok, nmX7, rfl, by decide +kernel⟩
theorem fp7_7 : FP 7 7 false .int := ⟨RX7, TX7, 67, tyX7, rfl, tyX7_ok, nmX7, rfl, by decide +kernel⟩
theorem fp7_8 : FP 7 8 false .int := ⟨RX7, TX7, 67, tyX7, rfl, tyX7_ok, nmX7, rfl, by decide +kernel⟩
theorem fp7_9 : FP 7 9 false .int := ⟨RX7, TX7, 67, tyX7, rfl, tyX7_ok, nmX7, rfl, by decide +kernel⟩
theorem fp7_10 : FP 7 10 false .int := ⟨RX7, TX7, 67, tyX7, rfl, tyX7_ok, nmX7, rfl, by decide +kernel⟩
theorem fp7_11 : FP 7 11 false .int := ⟨RX7, TX7, 67, tyX7, rfl, tyX7_ok, nmX7, rfl, by decide +kernel⟩
theorem fp7_12 : FP 7 12 true (.array .int) := ⟨RX7, TX7, 67, tyX7, rfl, tyX7_ok, nmX7, rfl, by decide +kernel⟩
theorem fp7_13 : FP 7 13 true (.array .int) := ⟨RX7, TX7, 67, tyX7, rfl, tyX7_ok, nmX7, rfl, by decide +kernel⟩
theorem fp7_14 : FP 7 14 true (.array .int) := ⟨RX7, TX7, 67, tyX7, rfl, tyX7_ok, nmX7, rfl, by decide +kernel⟩
theorem fp7_15 : FP 7 15 true (.array .int) := ⟨RX7, TX7, 67, tyX7, rfl, tyX7_ok, nmX7, rfl, by decide +kernel⟩
theorem fp7_16 : FP 7 16 true (.array .int) := ⟨RX7, TX7, 67, tyX7, rfl, tyX7_ok, nmX7, rfl, by decide +kernel⟩
theorem fp7_17 : FP 7 17 true (.array .int) := ⟨RX7, TX7, 67, tyX7, rfl, tyX7_ok, nmX7, rfl, by decide +kernel⟩
theorem fp7_18 : FP 7 18 true (.array .int) := ⟨RX7, TX7, 67, tyX7, rfl, tyX7_ok, nmX7, rfl, by decide +kernel⟩
theorem fp7_19 : FP 7 19 true (.array .int) := ⟨RX7, TX7, 67, tyX7, rfl, tyX7_ok, nmX7, rfl, by decide +kernel⟩
theorem fp7_20 : FP 7 20 true (.array .int) := ⟨RX7, TX7, 67, tyX7, rfl, tyX7_ok, nmX7, rfl, by decide +kernel⟩
theorem fp7_21 : FP 7 21 false .int := ⟨RX7, TX7, 67, tyX7, rfl, tyX7_ok, nmX7, rfl, by decide +kernel⟩
theorem fp7_22 : FP 7 22 false .int := ⟨RX7, TX7, 67, tyX7, rfl, tyX7_ok, nmX7, rfl, by decide +kernel⟩
theorem fp7_23 : FP 7 23 false .int := ⟨RX7, TX7, 67, tyX7, rfl, tyX7_ok, nmX7, rfl, by decide +kernel⟩
theorem fp7_24 : FP 7 24 true (.array .boolean) := ⟨RX7, TX7, 67, tyX7, rfl, tyX7_ok, nmX7, rfl, by decide +kernel⟩
theorem fp7_25 : FP 7 25 false .int := ⟨RX7, TX7, 67, tyX7, rfl, tyX7_ok, nmX7, rfl, by decide +kernel⟩
theorem fp7_26 : FP 7 26 true (.array .int) := ⟨RX7, TX7, 67, tyX7, rfl, tyX7_ok, nmX7, rfl, by decide +kernel⟩
theorem fp7_27 : FP 7 27 true (.array .int) := ⟨RX7, TX7, 67, tyX7, rfl, tyX7_ok, nmX7, rfl, by decide +kernel⟩
theorem fp7_28 : FP 7 28 true (.array .int) := ⟨RX7, TX7, 67, tyX7, rfl, tyX7_ok, nmX7, rfl, by decide +kernel⟩
theorem fp7_29 : FP 7 29 true (.array .int) := ⟨RX7, TX7, 67, tyX7, rfl, tyX7_ok, nmX7, rfl, by decide +kernel⟩
theorem fp7_30 : FP 7 30 true (.array .int) := ⟨RX7, TX7, 67, tyX7, rfl, tyX7_ok, nmX7, rfl, by decide +kernel⟩
theorem fp7_31 : FP 7 31 true (.array .int) := ⟨RX7, TX7, 67, tyX7, rfl, tyX7_ok, nmX7, rfl, by decide +kernel⟩
theorem fp7_32 : FP 7 32 true (.array .int) := ⟨RX7, TX7, 67, tyX7, rfl, tyX7_ok, nmX7, rfl, by decide +kernel⟩
theorem fp7_33 : FP 7 33 true (.array .int) := ⟨RX7, TX7, 67, tyX7, rfl, tyX7_ok, nmX7, rfl, by decide +kernel⟩
theorem fp7_34 : FP 7 34 true (.array .int) := ⟨RX7, TX7, 67, tyX7, rfl, tyX7_ok, nmX7, rfl, by decide +kernel⟩
theorem fp7_35 : FP 7 35 true (.array .int) := ⟨RX7, TX7, 67, tyX7, rfl, tyX7_ok, nmX7, rfl, by decide +kernel⟩
theorem fp7_36 : FP 7 36 true (.array .int) := ⟨RX7, TX7, 67, tyX7, rfl, tyX7_ok, nmX7, rfl, by decide +kernel⟩
theorem fp7_37 : FP 7 37 true (.array .int) := ⟨RX7, TX7, 67, tyX7, rfl, tyX7_ok, nmX7, rfl, by decide +kernel⟩
theorem fp7_38 : FP 7 38 true (.array .int) := ⟨RX7, TX7, 67, tyX7, rfl, tyX7_ok, nmX7, rfl, by decide +kernel⟩
theorem fp7_39 : FP 7 39 false .int := ⟨RX7, TX7, 67, tyX7, rfl, tyX7_ok, nmX7, rfl, by decide +kernel⟩
theorem fp7_40 : FP 7 40 true (.array .int) := ⟨RX7, TX7, 67, tyX7, rfl, tyX7_ok, nmX7, rfl, by decide +kernel⟩
theorem fp7_41 : FP 7 41 true (.array .int) := ⟨RX7, TX7, 67, tyX7, rfl, tyX7_ok, nmX7, rfl, by decide +kernel⟩
theorem fp7_42 : FP 7 42 true (.array .int) := ⟨RX7, TX7, 67, tyX7, rfl, tyX7_ok, nmX7, rfl, by decide +kernel⟩
theorem fp7_43 : FP 7 43 true (.array .int) := ⟨RX7, TX7, 67, tyX7, rfl, tyX7_ok, nmX7, rfl, by decide +kernel⟩
theorem fp7_44 : FP 7 44 true (.array .int) := ⟨RX7, TX7, 67, tyX7, rfl, tyX7_ok, nmX7, rfl, by decide +kernel⟩
theorem fp7_45 : FP 7 45 false .boolean := ⟨RX7, TX7, 67, tyX7, rfl, tyX7_ok, nmX7, rfl, by decide +kernel⟩
theorem fp7_46 : FP 7 46 false .int := ⟨RX7, TX7, 67, tyX7, rfl, tyX7_ok, nmX7, rfl, by decide +kernel⟩
theorem fp7_47 : FP 7 47 false .int := ⟨RX7, TX7, 67, tyX7, rfl, tyX7_ok, nmX7, rfl, by decide +kernel⟩
theorem fp7_48 : FP 7 48 false .int := ⟨RX7, TX7, 67, tyX7, rfl, tyX7_ok, nmX7, rfl, by decide +kernel⟩
theorem fp7_49 : FP 7 49 false .int := ⟨RX7, TX7, 67, tyX7, rfl, tyX7_ok, nmX7, rfl, by decide +kernel⟩
theorem fp7_50 : FP 7 50 false .int := ⟨RX7, TX7, 67, tyX7, rfl, tyX7_ok, nmX7, rfl, by decide +kernel⟩
theorem fp7_51 : FP 7 51 false .int := ⟨RX7, TX7, 67, tyX7, rfl, tyX7_ok, nmX7, rfl, by decide +kernel⟩
theorem fp7_52 : FP 7 52 true (.array .int) := ⟨RX7, TX7, 67, tyX7, rfl, tyX7_ok, nmX7, rfl, by decide +kernel⟩
theorem fp7_53 : FP 7 53 true (.array .int) := ⟨RX7, TX7, 67, tyX7, rfl, tyX7_ok, nmX7, rfl, by decide +kernel⟩
theorem fp7_54 : FP 7 54 true (.array .int) := ⟨RX7, TX7, 67, tyX7, rfl, tyX7_ok, nmX7, rfl, by decide +kernel⟩
theorem fp7_55 : FP 7 55 true (.array .int) := ⟨RX7, TX7, 67, tyX7, rfl, tyX7_ok, nmX7, rfl, by decide +kernel⟩
theorem fp7_56 : FP 7 56 true (.array .int) := ⟨RX7, TX7, 67, tyX7, rfl, tyX7_ok, nmX7, rfl, by decide +kernel⟩
theorem fp7_57 : FP 7 57 true (.array .int) := ⟨RX7, TX7, 67, tyX7, rfl, tyX7_ok, nmX7, rfl, by decide +kernel⟩
theorem fp7_58 : FP 7 58 true (.array .int) := ⟨RX7, TX7, 67, tyX7, rfl, tyX7_ok, nmX7, rfl, by decide +kernel⟩
theorem fp7_59 : FP 7 59 true (.array .int) := ⟨RX7, TX7, 67, tyX7, rfl, tyX7_ok, nmX7, rfl, by decide +kernel⟩
theorem fp7_60 : FP 7 60 true (.array .int) := ⟨RX7, TX7, 67, tyX7, rfl, tyX7_ok, nmX7, rfl, by decide +kernel⟩
theorem fp7_61 : FP 7 61 false .int := ⟨RX7, TX7, 67, tyX7, rfl, tyX7_ok, nmX7, rfl, by decide +kernel⟩
theorem fp7_62 : FP 7 62 true (.array .int) := ⟨RX7, TX7, 67, tyX7, rfl, tyX7_ok, nmX7, rfl, by decide +kernel⟩
theorem fp7_63 : FP 7 63 true (.array .int) := ⟨RX7, TX7, 67, tyX7, rfl, tyX7_ok, nmX7, rfl, by decide +kernel⟩
theorem fp7_64 : FP 7 64 true (.array .int) := ⟨RX7, TX7, 67, tyX7, rfl, tyX7_ok, nmX7, rfl, by decide +kernel⟩
theorem fp7_65 : FP 7 65 true (.array .long) := ⟨RX7, TX7, 67, tyX7, rfl, tyX7_ok, nmX7, rfl, by decide +kernel⟩
theorem fp7_66 : FP 7 66 true (.array .long) := ⟨RX7, TX7, 67, tyX7, rfl, tyX7_ok, nmX7, rfl, by decide +kernel⟩
theorem cnX6_11 : CN RX6 11 2 9 := ⟨RX2, TX2, tyX2, rfl, gw_92, gw_93, gw_69, inX2, tyX2_ok, fun j hj => match j, hj with
  | 0, _ => rfl
  | 1, _ => rfl
  | 2, _ => rfl
  | 3, _ => rfl
  | 4, _ => rfl
  | 5, _ => rfl
  | 6, _ => rfl
  | 7, _ => rfl
  | 8, _ => rfl
  | j + 9, h => absurd h (by omega)⟩
theorem cnX6_13 : CN RX6 13 4 2 := ⟨RX4, TX4, tyX4, rfl, gw_94, gw_95, gw_70, inX4, tyX4_ok, fun j hj => match j, hj with
  | 0, _ => rfl
  | 1, _ => rfl
  | j + 2, h => absurd h (by omega)⟩
theorem cnX6_30 : CN RX6 30 5 10 := ⟨RX5, TX5, tyX5, rfl, gw_163, gw_164, gw_72, inX5, tyX5_ok, fun j hj => match j, hj with
  | 0, _ => rfl
  | 1, _ => rfl
  | 2, _ => rfl
  | 3, _ => rfl
  | 4, _ => rfl
  | 5, _ => rfl
  | 6, _ => rfl
  | 7, _ => rfl
  | 8, _ => rfl
  | 9, _ => rfl
  | j + 10, h => absurd h (by omega)⟩
theorem cnX6_39 : CN RX6 39 0 5 := ⟨RX0, TX0, tyX0, rfl, gw_209, gw_210, gw_73, inX0, tyX0_ok, fun j hj => match j, hj with
  | 0, _ => rfl
  | 1, _ => rfl
  | 2, _ => rfl
  | 3, _ => rfl
  | 4, _ => rfl
  | j + 5, h => absurd h (by omega)⟩
theorem cnX6_50 : CN RX6 50 3 3 := ⟨RX3, TX3, tyX3, rfl, gw_234, gw_236, gw_74, inX3, tyX3_ok, fun j hj => match j, hj with
  | 0, _ => rfl
  | 1, _ => rfl
  | 2, _ => rfl
  | j + 3, h => absurd h (by omega)⟩
theorem cnX6_74 : CN RX6 74 1 5 := ⟨RX1, TX1, tyX1, rfl, gw_302, gw_303, gw_76, inX1, tyX1_ok, fun j hj => match j, hj with
  | 0, _ => rfl
  | 1, _ => rfl
  | 2, _ => rfl
  | 3, _ => rfl
  | 4, _ => rfl
  | j + 5, h => absurd h (by omega)⟩
theorem cnX1_15 : CN RX1 15 4 2 := ⟨RX4, TX4, tyX4, rfl, gw_308, gw_95, gw_70, inX4, tyX4_ok, fun j hj => match j, hj with
  | 0, _ => rfl
  | 1, _ => rfl
  | j + 2, h => absurd h (by omega)⟩
theorem cnL_7 : CN RL 7 6 9 := ⟨RX6, TX6, tyX6, rfl, gw_84, gw_85, gw_68, inX6, tyX6_ok, fun j hj => match j, hj with
  | 0, _ => rfl
  | 1, _ => rfl
  | 2, _ => rfl
  | 3, _ => rfl
  | 4, _ => rfl
  | 5, _ => rfl
  | 6, _ => rfl
  | 7, _ => rfl
  | 8, _ => rfl
  | j + 9, h => absurd h (by omega)⟩
theorem cnL_10 : CN RL 10 7 67 := ⟨RX7, TX7, tyX7, rfl, gw_744, gw_745, gw_75, inX7, tyX7_ok, fun j hj => match j, hj with
  | 0, _ => rfl
  | 1, _ => rfl
  | 2, _ => rfl
  | 3, _ => rfl
  | 4, _ => rfl
  | 5, _ => rfl
  | 6, _ => rfl
  | 7, _ => rfl
  | 8, _ => rfl
  | 9, _ => rfl
  | 10, _ => rfl
  | 11, _ => rfl
  | 12, _ => rfl
  | 13, _ => rfl
  | 14, _ => rfl
  | 15, _ => rfl
  | 16, _ => rfl
  | 17, _ => rfl
  | 18, _ => rfl
  | 19, _ => rfl
  | 20, _ => rfl
  | 21, _ => rfl
  | 22, _ => rfl
  | 23, _ => rfl
  | 24, _ => rfl
  | 25, _ => rfl
  | 26, _ => rfl
  | 27, _ => rfl
  | 28, _ => rfl
  | 29, _ => rfl
  | 30, _ => rfl
  | 31, _ => rfl
  | 32, _ => rfl
  | 33, _ => rfl
  | 34, _ => rfl
  | 35, _ => rfl
  | 36, _ => rfl
  | 37, _ => rfl
  | 38, _ => rfl
  | 39, _ => rfl
  | 40, _ => rfl
  | 41, _ => rfl
  | 42, _ => rfl
  | 43, _ => rfl
  | 44, _ => rfl
  | 45, _ => rfl
  | 46, _ => rfl
  | 47, _ => rfl
  | 48, _ => rfl
  | 49, _ => rfl
  | 50, _ => rfl
  | 51, _ => rfl
  | 52, _ => rfl
  | 53, _ => rfl
  | 54, _ => rfl
  | 55, _ => rfl
  | 56, _ => rfl
  | 57, _ => rfl
  | 58, _ => rfl
  | 59, _ => rfl
  | 60, _ => rfl
  | 61, _ => rfl
  | 62, _ => rfl
  | 63, _ => rfl
  | 64, _ => rfl
  | 65, _ => rfl
  | 66, _ => rfl
  | j + 67, h => absurd h (by omega)⟩
theorem cwX0_init : Cond.code yX0_init cX0_init 1 none ∈ lw_good := gw_213
theorem cwX0_began : Cond.code yX0_began cX0_began 2 none ∈ lw_good := gw_687
theorem cwX0_lets : Cond.code yX0_lets cX0_lets 3 (some .int) ∈ lw_good := gw_683
theorem cwX0_standAt : Cond.code yX0_standAt cX0_standAt 3 none ∈ lw_good := gw_679
theorem cwX0_takes : Cond.code yX0_takes cX0_takes 3 (some .int) ∈ lw_good := gw_692
theorem cwX0_tells : Cond.code yX0_tells cX0_tells 3 (some .int) ∈ lw_good := gw_697
theorem cwX1_init : Cond.code yX1_init cX1_init 3 none ∈ lw_good := gw_306
theorem cwX1_both : Cond.code yX1_both cX1_both 6 (some (.array .boolean)) ∈ lw_good := gw_424
theorem cwX1_clause : Cond.code yX1_clause cX1_clause 4 none ∈ lw_good := gw_338
theorem cwX1_either : Cond.code yX1_either cX1_either 6 (some (.array .boolean)) ∈ lw_good := gw_420
theorem cwX1_ending : Cond.code yX1_ending cX1_ending 4 (some .int) ∈ lw_good := gw_355
theorem cwX1_expect : Cond.code yX1_expect cX1_expect 2 none ∈ lw_good := gw_407
theorem cwX1_factor : Cond.code yX1_factor cX1_factor 4 (some (.array .boolean)) ∈ lw_good := gw_428
theorem cwX1_figure : Cond.code yX1_figure cX1_figure 3 (some .int) ∈ lw_good := gw_443
theorem cwX1_isValley : Cond.code yX1_isValley cX1_isValley 2 (some .boolean) ∈ lw_good := gw_334
theorem cwX1_next : Cond.code yX1_next cX1_next 1 (some .int) ∈ lw_good := gw_350
theorem cwX1_number : Cond.code yX1_number cX1_number 3 (some .int) ∈ lw_good := gw_415
theorem cwX1_oneOf : Cond.code yX1_oneOf cX1_oneOf 5 (some .int) ∈ lw_good := gw_432
theorem cwX1_passes : Cond.code yX1_passes cX1_passes 2 (some .boolean) ∈ lw_good := gw_346
theorem cwX1_whereHolds : Cond.code yX1_whereHolds cX1_whereHolds 6 (some (.array .boolean)) ∈ lw_good := gw_435
theorem cwX1_word : Cond.code yX1_word cX1_word 1 (some .int) ∈ lw_good := gw_342
theorem cwX2_init : Cond.code yX2_init cX2_init 2 none ∈ lw_good := gw_118
theorem cwX2_become : Cond.code yX2_become cX2_become 2 none ∈ lw_good := gw_665
theorem cwX2_isPlace : Cond.code yX2_isPlace cX2_isPlace 2 (some .boolean) ∈ lw_good := gw_482
theorem cwX2_isWant : Cond.code yX2_isWant cX2_isWant 2 (some .boolean) ∈ lw_good := gw_544
theorem cwX2_melting : Cond.code yX2_melting cX2_melting 4 (some .int) ∈ lw_good := gw_463
theorem cwX3_init : Cond.code yX3_init cX3_init 1 none ∈ lw_good := gw_239
theorem cwX3_asItem : Cond.code yX3_asItem cX3_asItem 3 (some .long) ∈ lw_good := gw_735
theorem cwX3_become : Cond.code yX3_become cX3_become 3 none ∈ lw_good := gw_723
theorem cwX4_init : Cond.code yX4_init cX4_init 1 none ∈ lw_good := gw_98
theorem cwX4_melt : Cond.code yX4_melt cX4_melt 4 none ∈ lw_good := gw_439
theorem cwX4_tell : Cond.code yX4_tell cX4_tell 4 none ∈ lw_good := gw_447
theorem cwX5_init : Cond.code yX5_init cX5_init 2 none ∈ lw_good := gw_167
theorem cwX5_again : Cond.code yX5_again cX5_again 3 (some .int) ∈ lw_good := gw_509
theorem cwX5_arriving : Cond.code yX5_arriving cX5_arriving 3 (some .int) ∈ lw_good := gw_525
theorem cwX5_come : Cond.code yX5_come cX5_come 7 none ∈ lw_good := gw_514
theorem cwX5_going : Cond.code yX5_going cX5_going 3 (some .int) ∈ lw_good := gw_519
theorem cwX5_inAllPlaces : Cond.code yX5_inAllPlaces cX5_inAllPlaces 4 (some .int) ∈ lw_good := gw_563
theorem cwX5_inPlace : Cond.code yX5_inPlace cX5_inPlace 3 (some .int) ∈ lw_good := gw_567
theorem cwX5_load : Cond.code yX5_load cX5_load 1 none ∈ lw_good := gw_490
theorem cwX5_meltUnder : Cond.code yX5_meltUnder cX5_meltUnder 4 none ∈ lw_good := gw_504
theorem cwX5_pass : Cond.code yX5_pass cX5_pass 8 none ∈ lw_good := gw_529
theorem cwX5_rows : Cond.code yX5_rows cX5_rows 2 (some (.array (.array .int))) ∈ lw_good := gw_552
theorem cwX5_serve : Cond.code yX5_serve cX5_serve 7 (some .int) ∈ lw_good := gw_540
theorem cwX5_servedBefore : Cond.code yX5_servedBefore cX5_servedBefore 4 (some .int) ∈ lw_good := gw_548
theorem cwX5_settle : Cond.code yX5_settle cX5_settle 1 (some .int) ∈ lw_good := gw_486
theorem cwX5_takes : Cond.code yX5_takes cX5_takes 8 (some .int) ∈ lw_good := gw_533
theorem cwX5_utmost : Cond.code yX5_utmost cX5_utmost 6 (some .int) ∈ lw_good := gw_590
theorem cwX5_worthWithout : Cond.code yX5_worthWithout cX5_worthWithout 3 (some .int) ∈ lw_good := gw_644
theorem cwX6_init : Cond.code yX6_init cX6_init 2 none ∈ lw_good := gw_88
theorem cwX6_act : Cond.code yX6_act cX6_act 4 (some .int) ∈ lw_good := gw_675
theorem cwX6_all : Cond.code yX6_all cX6_all 2 (some .int) ∈ lw_good := gw_556
theorem cwX6_best : Cond.code yX6_best cX6_best 11 (some .int) ∈ lw_good := gw_586
theorem cwX6_copy : Cond.code yX6_copy cX6_copy 2 none ∈ lw_good := gw_496
theorem cwX6_copyRows : Cond.code yX6_copyRows cX6_copyRows 3 none ∈ lw_good := gw_493
theorem cwX6_count : Cond.code yX6_count cX6_count 2 (some .int) ∈ lw_good := gw_715
theorem cwX6_day : Cond.code yX6_day cX6_day 2 (some .int) ∈ lw_good := gw_648
theorem cwX6_divisorWithHundred : Cond.code yX6_divisorWithHundred cX6_divisorWithHundred 2 (some .int) ∈ lw_good := gw_622
theorem cwX6_feed : Cond.code yX6_feed cX6_feed 4 (some .int) ∈ lw_good := gw_297
theorem cwX6_gate : Cond.code yX6_gate cX6_gate 7 (some .int) ∈ lw_good := gw_469
theorem cwX6_image : Cond.code yX6_image cX6_image 1 (some .int) ∈ lw_good := gw_661
theorem cwX6_isOrUnder : Cond.code yX6_isOrUnder cX6_isOrUnder 4 (some .boolean) ∈ lw_good := gw_709
theorem cwX6_isUnder : Cond.code yX6_isUnder cX6_isUnder 2 (some .boolean) ∈ lw_good := gw_293
theorem cwX6_item : Cond.code yX6_item cX6_item 6 (some .int) ∈ lw_good := gw_731
theorem cwX6_judge : Cond.code yX6_judge cX6_judge 8 (some .int) ∈ lw_good := gw_652
theorem cwX6_mean : Cond.code yX6_mean cX6_mean 7 (some .long) ∈ lw_good := gw_613
theorem cwX6_melts : Cond.code yX6_melts cX6_melts 2 (some .int) ∈ lw_good := gw_459
theorem cwX6_odds : Cond.code yX6_odds cX6_odds 3 (some .int) ∈ lw_good := gw_609
theorem cwX6_of : Cond.code yX6_of cX6_of 3 (some .int) ∈ lw_good := gw_474
theorem cwX6_part : Cond.code yX6_part cX6_part 8 (some .int) ∈ lw_good := gw_602
theorem cwX6_places : Cond.code yX6_places cX6_places 3 (some .int) ∈ lw_good := gw_286
theorem cwX6_pond : Cond.code yX6_pond cX6_pond 6 (some .int) ∈ lw_good := gw_626
theorem cwX6_price : Cond.code yX6_price cX6_price 3 (some .int) ∈ lw_good := gw_598
theorem cwX6_read : Cond.code yX6_read cX6_read 4 (some .long) ∈ lw_good := gw_739
theorem cwX6_shift : Cond.code yX6_shift cX6_shift 8 (some .int) ∈ lw_good := gw_743
theorem cwX6_sky : Cond.code yX6_sky cX6_sky 4 (some .int) ∈ lw_good := gw_290
theorem cwX6_span : Cond.code yX6_span cX6_span 4 (some .int) ∈ lw_good := gw_593
theorem cwX6_spare : Cond.code yX6_spare cX6_spare 4 (some .int) ∈ lw_good := gw_634
theorem cwX6_sum : Cond.code yX6_sum cX6_sum 6 (some .int) ∈ lw_good := gw_559
theorem cwX6_taken : Cond.code yX6_taken cX6_taken 4 (some .int) ∈ lw_good := gw_706
theorem cwX6_tape : Cond.code yX6_tape cX6_tape 5 (some .int) ∈ lw_good := gw_719
theorem cwX6_tapeAt : Cond.code yX6_tapeAt cX6_tapeAt 2 (some (.object "MeltHours$Tape")) ∈ lw_good := gw_656
theorem cwX6_told : Cond.code yX6_told cX6_told 3 (some .int) ∈ lw_good := gw_455
theorem cwX6_trace : Cond.code yX6_trace cX6_trace 2 (some .int) ∈ lw_good := gw_702
theorem cwX6_underSkies : Cond.code yX6_underSkies cX6_underSkies 5 (some .int) ∈ lw_good := gw_618
theorem cwX6_undo : Cond.code yX6_undo cX6_undo 1 (some .int) ∈ lw_good := gw_671
theorem cwX6_valley : Cond.code yX6_valley cX6_valley 2 (some .int) ∈ lw_good := gw_301
theorem cwX6_want : Cond.code yX6_want cX6_want 6 (some .int) ∈ lw_good := gw_573
theorem cwX6_wants : Cond.code yX6_wants cX6_wants 3 (some .int) ∈ lw_good := gw_577
theorem cwX6_water : Cond.code yX6_water cX6_water 4 (some .int) ∈ lw_good := gw_478
theorem cwX6_worth : Cond.code yX6_worth cX6_worth 1 (some .int) ∈ lw_good := gw_582
theorem cwX6_wrong : Cond.code yX6_wrong cX6_wrong 4 (some .int) ∈ lw_good := gw_630
theorem cwX7_init : Cond.code yX7_init cX7_init 1 none ∈ lw_good := gw_748
theorem cwX7_act : Cond.code yX7_act cX7_act 4 (some .int) ∈ lw_good := gw_1215
theorem cwX7_all : Cond.code yX7_all cX7_all 4 (some .int) ∈ lw_good := gw_1121
theorem cwX7_asIs : Cond.code yX7_asIs cX7_asIs 2 none ∈ lw_good := gw_1096
theorem cwX7_behind : Cond.code yX7_behind cX7_behind 1 (some .int) ∈ lw_good := gw_1060
theorem cwX7_best : Cond.code yX7_best cX7_best 10 (some .int) ∈ lw_good := gw_1149
theorem cwX7_body : Cond.code yX7_body cX7_body 2 none ∈ lw_good := gw_1223
theorem cwX7_clockTakes : Cond.code yX7_clockTakes cX7_clockTakes 3 (some .int) ∈ lw_good := gw_1235
theorem cwX7_copy : Cond.code yX7_copy cX7_copy 4 none ∈ lw_good := gw_1207
theorem cwX7_count : Cond.code yX7_count cX7_count 2 (some .int) ∈ lw_good := gw_1259
theorem cwX7_day : Cond.code yX7_day cX7_day 2 (some .int) ∈ lw_good := gw_1068
theorem cwX7_divisor : Cond.code yX7_divisor cX7_divisor 11 (some .long) ∈ lw_good := gw_1175
theorem cwX7_feed : Cond.code yX7_feed cX7_feed 4 (some .int) ∈ lw_good := gw_980
theorem cwX7_first : Cond.code yX7_first cX7_first 1 (some .int) ∈ lw_good := gw_1056
theorem cwX7_floods : Cond.code yX7_floods cX7_floods 3 (some .int) ∈ lw_good := gw_1125
theorem cwX7_gate : Cond.code yX7_gate cX7_gate 6 (some .int) ∈ lw_good := gw_967
theorem cwX7_go : Cond.code yX7_go cX7_go 8 none ∈ lw_good := gw_1101
theorem cwX7_goesText : Cond.code yX7_goesText cX7_goesText 3 (some .boolean) ∈ lw_good := gw_988
theorem cwX7_has : Cond.code yX7_has cX7_has 3 (some .boolean) ∈ lw_good := gw_1117
theorem cwX7_holds : Cond.code yX7_holds cX7_holds 9 (some .boolean) ∈ lw_good := gw_1084
theorem cwX7_image : Cond.code yX7_image cX7_image 1 (some .int) ∈ lw_good := gw_1203
theorem cwX7_in : Cond.code yX7_in cX7_in 4 (some .boolean) ∈ lw_good := gw_959
theorem cwX7_isDigit : Cond.code yX7_isDigit cX7_isDigit 1 (some .boolean) ∈ lw_good := gw_1024
theorem cwX7_isGate : Cond.code yX7_isGate cX7_isGate 2 (some .boolean) ∈ lw_good := gw_971
theorem cwX7_isHour : Cond.code yX7_isHour cX7_isHour 2 (some .boolean) ∈ lw_good := gw_1076
theorem cwX7_isPlace : Cond.code yX7_isPlace cX7_isPlace 2 (some .boolean) ∈ lw_good := gw_1092
theorem cwX7_isTape : Cond.code yX7_isTape cX7_isTape 2 (some .boolean) ∈ lw_good := gw_1199
theorem cwX7_item : Cond.code yX7_item cX7_item 5 (some .int) ∈ lw_good := gw_1267
theorem cwX7_judge : Cond.code yX7_judge cX7_judge 5 (some .int) ∈ lw_good := gw_1195
theorem cwX7_last : Cond.code yX7_last cX7_last 6 (some .int) ∈ lw_good := gw_1052
theorem cwX7_less : Cond.code yX7_less cX7_less 3 (some .int) ∈ lw_good := gw_1109
theorem cwX7_letsAct : Cond.code yX7_letsAct cX7_letsAct 3 (some .int) ∈ lw_good := gw_1219
theorem cwX7_mean : Cond.code yX7_mean cX7_mean 10 (some .long) ∈ lw_good := gw_1165
theorem cwX7_meltOf : Cond.code yX7_meltOf cX7_meltOf 5 (some .int) ∈ lw_good := gw_1080
theorem cwX7_melts : Cond.code yX7_melts cX7_melts 2 (some .int) ∈ lw_good := gw_1072
theorem cwX7_min : Cond.code yX7_min cX7_min 3 (some .int) ∈ lw_good := gw_1064
theorem cwX7_narrow : Cond.code yX7_narrow cX7_narrow 4 (some .long) ∈ lw_good := gw_1271
theorem cwX7_next : Cond.code yX7_next cX7_next 1 (some .int) ∈ lw_good := gw_1004
theorem cwX7_odds : Cond.code yX7_odds cX7_odds 3 (some .int) ∈ lw_good := gw_1161
theorem cwX7_oddsOf : Cond.code yX7_oddsOf cX7_oddsOf 2 (some .int) ∈ lw_good := gw_1170
theorem cwX7_of : Cond.code yX7_of cX7_of 3 (some .int) ∈ lw_good := gw_976
theorem cwX7_ones : Cond.code yX7_ones cX7_ones 4 (some .int) ∈ lw_good := gw_1191
theorem cwX7_part : Cond.code yX7_part cX7_part 8 (some .int) ∈ lw_good := gw_1157
theorem cwX7_places : Cond.code yX7_places cX7_places 3 (some .int) ∈ lw_good := gw_955
theorem cwX7_plainLets : Cond.code yX7_plainLets cX7_plainLets 3 (some .int) ∈ lw_good := gw_1227
theorem cwX7_plainTakes : Cond.code yX7_plainTakes cX7_plainTakes 3 (some .int) ∈ lw_good := gw_1239
theorem cwX7_plainTells : Cond.code yX7_plainTells cX7_plainTells 3 (some .int) ∈ lw_good := gw_1247
theorem cwX7_pond : Cond.code yX7_pond cX7_pond 6 (some .int) ∈ lw_good := gw_1179
theorem cwX7_price : Cond.code yX7_price cX7_price 3 (some .int) ∈ lw_good := gw_1153
theorem cwX7_put : Cond.code yX7_put cX7_put 2 none ∈ lw_good := gw_1036
theorem cwX7_read : Cond.code yX7_read cX7_read 3 (some .long) ∈ lw_good := gw_1275
theorem cwX7_second : Cond.code yX7_second cX7_second 1 (some .int) ∈ lw_good := gw_1000
theorem cwX7_serve : Cond.code yX7_serve cX7_serve 5 (some .int) ∈ lw_good := gw_1141
theorem cwX7_sets : Cond.code yX7_sets cX7_sets 5 none ∈ lw_good := gw_1105
theorem cwX7_settle : Cond.code yX7_settle cX7_settle 2 none ∈ lw_good := gw_1044
theorem cwX7_shift : Cond.code yX7_shift cX7_shift 7 (some .int) ∈ lw_good := gw_1279
theorem cwX7_sky : Cond.code yX7_sky cX7_sky 4 (some .int) ∈ lw_good := gw_963
theorem cwX7_spare : Cond.code yX7_spare cX7_spare 5 (some .int) ∈ lw_good := gw_1187
theorem cwX7_taken : Cond.code yX7_taken cX7_taken 4 (some .int) ∈ lw_good := gw_1255
theorem cwX7_takes : Cond.code yX7_takes cX7_takes 7 (some .int) ∈ lw_good := gw_1113
theorem cwX7_takesAct : Cond.code yX7_takesAct cX7_takesAct 4 (some .int) ∈ lw_good := gw_1231
theorem cwX7_takesClause : Cond.code yX7_takesClause cX7_takesClause 2 (some .boolean) ∈ lw_good := gw_992
theorem cwX7_takesE : Cond.code yX7_takesE cX7_takesE 4 (some .boolean) ∈ lw_good := gw_1028
theorem cwX7_takesHead : Cond.code yX7_takesHead cX7_takesHead 3 (some .boolean) ∈ lw_good := gw_996
theorem cwX7_takesNumber : Cond.code yX7_takesNumber cX7_takesNumber 2 (some .boolean) ∈ lw_good := gw_1020
theorem cwX7_takesSign : Cond.code yX7_takesSign cX7_takesSign 2 (some .boolean) ∈ lw_good := gw_1013
theorem cwX7_takesTest : Cond.code yX7_takesTest cX7_takesTest 3 (some .boolean) ∈ lw_good := gw_1032
theorem cwX7_takesWord : Cond.code yX7_takesWord cX7_takesWord 4 (some .boolean) ∈ lw_good := gw_1009
theorem cwX7_tape : Cond.code yX7_tape cX7_tape 5 (some .int) ∈ lw_good := gw_1263
theorem cwX7_tellsAct : Cond.code yX7_tellsAct cX7_tellsAct 4 (some .int) ∈ lw_good := gw_1243
theorem cwX7_told : Cond.code yX7_told cX7_told 3 (some .int) ∈ lw_good := gw_1048
theorem cwX7_trace : Cond.code yX7_trace cX7_trace 2 (some .int) ∈ lw_good := gw_1251
theorem cwX7_undo : Cond.code yX7_undo cX7_undo 1 (some .int) ∈ lw_good := gw_1211
theorem cwX7_valley : Cond.code yX7_valley cX7_valley 2 (some .int) ∈ lw_good := gw_984
theorem cwX7_want : Cond.code yX7_want cX7_want 5 (some .int) ∈ lw_good := gw_1129
theorem cwX7_wants : Cond.code yX7_wants cX7_wants 3 (some .int) ∈ lw_good := gw_1133
theorem cwX7_water : Cond.code yX7_water cX7_water 5 (some .int) ∈ lw_good := gw_1088
theorem cwX7_whole : Cond.code yX7_whole cX7_whole 1 none ∈ lw_good := gw_1040
theorem cwX7_worth : Cond.code yX7_worth cX7_worth 1 (some .int) ∈ lw_good := gw_1145
theorem cwX7_worthNow : Cond.code yX7_worthNow cX7_worthNow 1 (some .int) ∈ lw_good := gw_1137
theorem cwX7_wrong : Cond.code yX7_wrong cX7_wrong 3 (some .int) ∈ lw_good := gw_1183
theorem cwJ6_bitCount_0f7a4 : Cond.code yJ6_bitCount_0f7a4 cJ6_bitCount_0f7a4 1 (some .int) ∈ lw_good := gw_637
theorem cwJ9_max_7cf53 : Cond.code yJ9_max_7cf53 cJ9_max_7cf53 2 (some .int) ∈ lw_good := gw_536
theorem cwJ9_min_7cf53 : Cond.code yJ9_min_7cf53 cJ9_min_7cf53 2 (some .int) ∈ lw_good := gw_312
theorem cwJ7_fill_53178 : Cond.code yJ7_fill_53178 cJ7_fill_53178 4 none ∈ lw_good := gw_104
theorem cwJ7_fill_d0a16 : Cond.code yJ7_fill_d0a16 cJ7_fill_d0a16 5 none ∈ lw_good := gw_727
theorem cwd_of {y : MethodName} {cnt : Nat} (h1 : (y.cls ≠ "java/lang/invoke/MethodHandle" ∧ y.cls ≠ "java/lang/invoke/VarHandle")) (h2 : (parseMethodDescriptor y.desc).map (fun d => d.parameters.length) = some cnt) : cwd y cnt := ⟨h1, h2⟩
theorem clX6_15 : CLI RX6 15 yX4_init 0 := ⟨gw_96, gw_97, gw_70, ⟨by decide +kernel, by decide +kernel⟩, rfl⟩
theorem clX6_16 : CLI RX6 16 yX2_init 1 := ⟨gw_116, gw_117, gw_69, ⟨by decide +kernel, by decide +kernel⟩, rfl⟩
theorem clX6_32 : CLI RX6 32 yX5_init 1 := ⟨gw_165, gw_166, gw_72, ⟨by decide +kernel, by decide +kernel⟩, rfl⟩
theorem clX6_41 : CLIN RX6 41 yX0_init 0 := ⟨List.mem_of_getElem? (i := 0) rfl, gw_212, gw_73, ⟨by decide +kernel, by decide +kernel⟩, rfl⟩
theorem clX6_56 : CLIN RX6 56 yX3_init 0 := ⟨List.mem_of_getElem? (i := 1) rfl, gw_238, gw_74, ⟨by decide +kernel, by decide +kernel⟩, rfl⟩
theorem clX6_61 : CLS RX6 61 yX6_isUnder 2 := ⟨gw_291, gw_292, gw_68, ⟨by decide +kernel, by decide +kernel⟩⟩
theorem clX6_76 : CLI RX6 76 yX1_init 2 := ⟨gw_304, gw_305, gw_76, ⟨by decide +kernel, by decide +kernel⟩, rfl⟩
theorem clX6_79 : CLV RX6 79 yX1_isValley 0 := ⟨gw_331, gw_332, gw_333, gw_76, ⟨by decide +kernel, by decide +kernel⟩⟩
theorem clX6_91 : CLV RX6 91 yX2_melting 2 := ⟨gw_460, gw_461, gw_462, gw_69, ⟨by decide +kernel, by decide +kernel⟩⟩
theorem clX6_99 : CLV RX6 99 yX2_isPlace 1 := ⟨gw_479, gw_480, gw_481, gw_69, ⟨by decide +kernel, by decide +kernel⟩⟩
theorem clX6_103 : CLV RX6 103 yX5_settle 0 := ⟨gw_483, gw_484, gw_485, gw_72, ⟨by decide +kernel, by decide +kernel⟩⟩
theorem clX6_107 : CLV RX6 107 yX5_rows 1 := ⟨gw_549, gw_550, gw_551, gw_72, ⟨by decide +kernel, by decide +kernel⟩⟩
theorem clX6_114 : CLS RX6 114 yX6_sum 1 := ⟨gw_557, gw_558, gw_68, ⟨by decide +kernel, by decide +kernel⟩⟩
theorem clX6_121 : CLV RX6 121 yX5_inAllPlaces 1 := ⟨gw_560, gw_561, gw_562, gw_72, ⟨by decide +kernel, by decide +kernel⟩⟩
theorem clX6_131 : CLV RX6 131 yX5_inPlace 2 := ⟨gw_569, gw_565, gw_566, gw_72, ⟨by decide +kernel, by decide +kernel⟩⟩
theorem clX6_141 : CLV RX6 141 yX2_isWant 1 := ⟨gw_578, gw_542, gw_543, gw_69, ⟨by decide +kernel, by decide +kernel⟩⟩
theorem clX6_147 : CLV RX6 147 yX5_utmost 1 := ⟨gw_587, gw_588, gw_589, gw_72, ⟨by decide +kernel, by decide +kernel⟩⟩
theorem clX6_152 : CLS RX6 152 yX6_span 2 := ⟨gw_591, gw_592, gw_68, ⟨by decide +kernel, by decide +kernel⟩⟩
theorem clX6_155 : CLV RX6 155 yX5_again 1 := ⟨gw_594, gw_507, gw_508, gw_72, ⟨by decide +kernel, by decide +kernel⟩⟩
theorem clX6_158 : CLV RX6 158 yX5_load 0 := ⟨gw_603, gw_488, gw_489, gw_72, ⟨by decide +kernel, by decide +kernel⟩⟩
theorem clX6_161 : CLV RX6 161 yX5_going 2 := ⟨gw_604, gw_517, gw_518, gw_72, ⟨by decide +kernel, by decide +kernel⟩⟩
theorem clX6_164 : CLV RX6 164 yX5_arriving 2 := ⟨gw_605, gw_523, gw_524, gw_72, ⟨by decide +kernel, by decide +kernel⟩⟩
theorem clX6_173 : CLV RX6 173 yX6_underSkies 3 := ⟨gw_615, gw_617, gw_17, gw_68, ⟨by decide +kernel, by decide +kernel⟩⟩
theorem clX6_177 : CLS RX6 177 yX6_divisorWithHundred 1 := ⟨gw_620, gw_621, gw_68, ⟨by decide +kernel, by decide +kernel⟩⟩
theorem clX6_180 : CLS RX6 180 yJ6_bitCount_0f7a4 1 := ⟨gw_635, gw_636, gw_83, ⟨by decide +kernel, by decide +kernel⟩⟩
theorem clX6_185 : CLV RX6 185 yX5_worthWithout 1 := ⟨gw_641, gw_642, gw_643, gw_72, ⟨by decide +kernel, by decide +kernel⟩⟩
theorem clX6_194 : CLV RX6 194 yX6_tapeAt 1 := ⟨gw_653, gw_655, gw_18, gw_68, ⟨by decide +kernel, by decide +kernel⟩⟩
theorem clX6_207 : CLS RX6 207 yJ9_min_7cf53 2 := ⟨gw_497, gw_311, gw_77, ⟨by decide +kernel, by decide +kernel⟩⟩
theorem clX6_216 : CLS RX6 216 yJ9_max_7cf53 2 := ⟨gw_657, gw_535, gw_77, ⟨by decide +kernel, by decide +kernel⟩⟩
theorem clX6_219 : CLV RX6 219 yX2_become 1 := ⟨gw_662, gw_663, gw_664, gw_69, ⟨by decide +kernel, by decide +kernel⟩⟩
theorem clX6_229 : CLV RX6 229 yX0_standAt 2 := ⟨gw_676, gw_677, gw_678, gw_73, ⟨by decide +kernel, by decide +kernel⟩⟩
theorem clX6_236 : CLV RX6 236 yX0_lets 2 := ⟨gw_680, gw_681, gw_682, gw_73, ⟨by decide +kernel, by decide +kernel⟩⟩
theorem clX6_239 : CLV RX6 239 yX0_takes 2 := ⟨gw_689, gw_690, gw_691, gw_73, ⟨by decide +kernel, by decide +kernel⟩⟩
theorem clX6_242 : CLV RX6 242 yX0_tells 2 := ⟨gw_694, gw_695, gw_696, gw_73, ⟨by decide +kernel, by decide +kernel⟩⟩
theorem clX6_248 : CLS RX6 248 yX6_isOrUnder 2 := ⟨gw_707, gw_708, gw_68, ⟨by decide +kernel, by decide +kernel⟩⟩
theorem clX6_251 : CLV RX6 251 yX3_become 2 := ⟨gw_720, gw_721, gw_722, gw_74, ⟨by decide +kernel, by decide +kernel⟩⟩
theorem clX6_254 : CLV RX6 254 yX3_asItem 1 := ⟨gw_732, gw_733, gw_734, gw_74, ⟨by decide +kernel, by decide +kernel⟩⟩
theorem clX6_264 : CLV RX6 264 yX5_meltUnder 2 := ⟨gw_619, gw_502, gw_503, gw_72, ⟨by decide +kernel, by decide +kernel⟩⟩
theorem clX6_270 : CLS RX6 270 yX6_copy 2 := ⟨gw_494, gw_495, gw_68, ⟨by decide +kernel, by decide +kernel⟩⟩
theorem clX0_25 : CLV RX0 25 yX0_began 1 := ⟨gw_684, gw_686, gw_19, gw_73, ⟨by decide +kernel, by decide +kernel⟩⟩
theorem clX0_29 : CLV RX0 29 yX0_lets 2 := ⟨gw_688, gw_681, gw_682, gw_73, ⟨by decide +kernel, by decide +kernel⟩⟩
theorem clX0_33 : CLV RX0 33 yX0_takes 2 := ⟨gw_693, gw_690, gw_691, gw_73, ⟨by decide +kernel, by decide +kernel⟩⟩
theorem clX0_36 : CLV RX0 36 yX0_tells 2 := ⟨gw_698, gw_695, gw_696, gw_73, ⟨by decide +kernel, by decide +kernel⟩⟩
theorem clX1_17 : CLI RX1 17 yX4_init 0 := ⟨gw_309, gw_97, gw_70, ⟨by decide +kernel, by decide +kernel⟩, rfl⟩
theorem clX1_26 : CLS RX1 26 yJ9_min_7cf53 2 := ⟨gw_310, gw_311, gw_77, ⟨by decide +kernel, by decide +kernel⟩⟩
theorem clX1_36 : CLV RX1 36 yX1_clause 0 := ⟨gw_335, gw_337, gw_0, gw_76, ⟨by decide +kernel, by decide +kernel⟩⟩
theorem clX1_39 : CLV RX1 39 yX1_passes 1 := ⟨gw_343, gw_345, gw_2, gw_76, ⟨by decide +kernel, by decide +kernel⟩⟩
theorem clX1_46 : CLV RX1 46 yX1_word 0 := ⟨gw_339, gw_341, gw_1, gw_76, ⟨by decide +kernel, by decide +kernel⟩⟩
theorem clX1_50 : CLV RX1 50 yX1_expect 1 := ⟨gw_404, gw_406, gw_5, gw_76, ⟨by decide +kernel, by decide +kernel⟩⟩
theorem clX1_54 : CLV RX1 54 yX1_number 0 := ⟨gw_412, gw_414, gw_6, gw_76, ⟨by decide +kernel, by decide +kernel⟩⟩
theorem clX1_57 : CLV RX1 57 yX1_either 1 := ⟨gw_417, gw_419, gw_7, gw_76, ⟨by decide +kernel, by decide +kernel⟩⟩
theorem clX1_61 : CLV RX1 61 yX4_melt 2 := ⟨gw_436, gw_437, gw_438, gw_70, ⟨by decide +kernel, by decide +kernel⟩⟩
theorem clX1_65 : CLV RX1 65 yX1_figure 1 := ⟨gw_440, gw_442, gw_11, gw_76, ⟨by decide +kernel, by decide +kernel⟩⟩
theorem clX1_69 : CLV RX1 69 yX4_tell 3 := ⟨gw_444, gw_445, gw_446, gw_70, ⟨by decide +kernel, by decide +kernel⟩⟩
theorem clX1_75 : CLV RX1 75 yX1_ending 2 := ⟨gw_352, gw_354, gw_4, gw_76, ⟨by decide +kernel, by decide +kernel⟩⟩
theorem clX1_87 : CLV RX1 87 yJ0_length_8abf5 0 := ⟨gw_356, gw_357, gw_358, gw_78, ⟨by decide +kernel, by decide +kernel⟩⟩
theorem clX1_91 : CLV RX1 91 yJ0_charAt_5068e 1 := ⟨gw_366, gw_367, gw_368, gw_78, ⟨by decide +kernel, by decide +kernel⟩⟩
theorem clX1_95 : CLV RX1 95 yX1_both 1 := ⟨gw_421, gw_423, gw_8, gw_76, ⟨by decide +kernel, by decide +kernel⟩⟩
theorem clX1_98 : CLV RX1 98 yX1_factor 1 := ⟨gw_425, gw_427, gw_9, gw_76, ⟨by decide +kernel, by decide +kernel⟩⟩
theorem clX1_101 : CLV RX1 101 yX1_oneOf 3 := ⟨gw_429, gw_431, gw_10, gw_76, ⟨by decide +kernel, by decide +kernel⟩⟩
theorem clX1_105 : CLS RX1 105 yX1_whereHolds 3 := ⟨gw_433, gw_434, gw_76, ⟨by decide +kernel, by decide +kernel⟩⟩
theorem clX1_109 : CLV RX1 109 yX1_next 0 := ⟨gw_347, gw_349, gw_3, gw_76, ⟨by decide +kernel, by decide +kernel⟩⟩
theorem clX1_112 : CLSN RX1 112 yX6_isUnder 2 := ⟨List.mem_of_getElem? (i := 2) rfl, gw_292, gw_68, ⟨by decide +kernel, by decide +kernel⟩⟩
theorem clX2_37 : CLSN RX2 37 yX6_copy 2 := ⟨List.mem_of_getElem? (i := 8) rfl, gw_495, gw_68, ⟨by decide +kernel, by decide +kernel⟩⟩
theorem clX2_41 : CLSN RX2 41 yX6_copyRows 2 := ⟨List.mem_of_getElem? (i := 9) rfl, gw_492, gw_68, ⟨by decide +kernel, by decide +kernel⟩⟩
theorem clX2_51 : CLSN RX2 51 yX6_isUnder 2 := ⟨List.mem_of_getElem? (i := 4) rfl, gw_292, gw_68, ⟨by decide +kernel, by decide +kernel⟩⟩
theorem clX2_55 : CLS RX2 55 yJ9_min_7cf53 2 := ⟨gw_464, gw_311, gw_77, ⟨by decide +kernel, by decide +kernel⟩⟩
theorem clX3_19 : CLS RX3 19 yJ9_min_7cf53 2 := ⟨gw_724, gw_311, gw_77, ⟨by decide +kernel, by decide +kernel⟩⟩
theorem clX3_28 : CLS RX3 28 yJ7_fill_d0a16 2 := ⟨gw_725, gw_726, gw_71, ⟨by decide +kernel, by decide +kernel⟩⟩
theorem clX4_20 : CLS RX4 20 yJ7_fill_53178 2 := ⟨gw_102, gw_103, gw_71, ⟨by decide +kernel, by decide +kernel⟩⟩
theorem clX4_26 : CLSN RX4 26 yX6_isUnder 2 := ⟨List.mem_of_getElem? (i := 3) rfl, gw_292, gw_68, ⟨by decide +kernel, by decide +kernel⟩⟩
theorem clX4_30 : CLS RX4 30 yJ9_min_7cf53 2 := ⟨gw_449, gw_311, gw_77, ⟨by decide +kernel, by decide +kernel⟩⟩
theorem clX5_54 : CLSN RX5 54 yX6_copyRows 2 := ⟨List.mem_of_getElem? (i := 5) rfl, gw_492, gw_68, ⟨by decide +kernel, by decide +kernel⟩⟩
theorem clX5_59 : CLV RX5 59 yX2_melting 2 := ⟨gw_505, gw_461, gw_462, gw_69, ⟨by decide +kernel, by decide +kernel⟩⟩
theorem clX5_63 : CLV RX5 63 yX5_load 0 := ⟨gw_487, gw_488, gw_489, gw_72, ⟨by decide +kernel, by decide +kernel⟩⟩
theorem clX5_69 : CLV RX5 69 yX5_meltUnder 2 := ⟨gw_501, gw_502, gw_503, gw_72, ⟨by decide +kernel, by decide +kernel⟩⟩
theorem clX5_73 : CLV RX5 73 yX5_again 1 := ⟨gw_506, gw_507, gw_508, gw_72, ⟨by decide +kernel, by decide +kernel⟩⟩
theorem clX5_77 : CLV RX5 77 yX2_isPlace 1 := ⟨gw_510, gw_480, gw_481, gw_69, ⟨by decide +kernel, by decide +kernel⟩⟩
theorem clX5_81 : CLV RX5 81 yX5_come 2 := ⟨gw_511, gw_513, gw_12, gw_72, ⟨by decide +kernel, by decide +kernel⟩⟩
theorem clX5_85 : CLV RX5 85 yX5_pass 1 := ⟨gw_526, gw_528, gw_13, gw_72, ⟨by decide +kernel, by decide +kernel⟩⟩
theorem clX5_89 : CLV RX5 89 yX5_serve 0 := ⟨gw_537, gw_539, gw_15, gw_72, ⟨by decide +kernel, by decide +kernel⟩⟩
theorem clX5_93 : CLS RX5 93 yJ9_min_7cf53 2 := ⟨gw_520, gw_311, gw_77, ⟨by decide +kernel, by decide +kernel⟩⟩
theorem clX5_98 : CLS RX5 98 yJ7_fill_53178 2 := ⟨gw_515, gw_103, gw_71, ⟨by decide +kernel, by decide +kernel⟩⟩
theorem clX5_104 : CLV RX5 104 yX5_going 2 := ⟨gw_516, gw_517, gw_518, gw_72, ⟨by decide +kernel, by decide +kernel⟩⟩
theorem clX5_107 : CLSN RX5 107 yX6_isUnder 2 := ⟨List.mem_of_getElem? (i := 6) rfl, gw_292, gw_68, ⟨by decide +kernel, by decide +kernel⟩⟩
theorem clX5_111 : CLV RX5 111 yX5_arriving 2 := ⟨gw_522, gw_523, gw_524, gw_72, ⟨by decide +kernel, by decide +kernel⟩⟩
theorem clX5_114 : CLV RX5 114 yX5_takes 4 := ⟨gw_530, gw_532, gw_14, gw_72, ⟨by decide +kernel, by decide +kernel⟩⟩
theorem clX5_118 : CLS RX5 118 yJ9_max_7cf53 2 := ⟨gw_534, gw_535, gw_77, ⟨by decide +kernel, by decide +kernel⟩⟩
theorem clX5_125 : CLV RX5 125 yX2_isWant 1 := ⟨gw_541, gw_542, gw_543, gw_69, ⟨by decide +kernel, by decide +kernel⟩⟩
theorem clX5_131 : CLV RX5 131 yX5_servedBefore 1 := ⟨gw_545, gw_547, gw_16, gw_72, ⟨by decide +kernel, by decide +kernel⟩⟩
theorem clX5_134 : CLV RX5 134 yX5_inPlace 2 := ⟨gw_564, gw_565, gw_566, gw_72, ⟨by decide +kernel, by decide +kernel⟩⟩
theorem clX5_138 : CLSN RX5 138 yX6_sum 1 := ⟨List.mem_of_getElem? (i := 7) rfl, gw_558, gw_68, ⟨by decide +kernel, by decide +kernel⟩⟩
theorem clL_9 : CLI RL 9 yX6_init 0 := ⟨gw_86, gw_87, gw_68, ⟨by decide +kernel, by decide +kernel⟩, rfl⟩
theorem clL_12 : CLI RL 12 yX7_init 0 := ⟨gw_746, gw_747, gw_75, ⟨by decide +kernel, by decide +kernel⟩, rfl⟩
theorem clL_13 : CLV RL 13 yX6_places 1 := ⟨gw_283, gw_284, gw_285, gw_68, ⟨by decide +kernel, by decide +kernel⟩⟩
theorem clL_17 : CLV RL 17 yX7_places 1 := ⟨gw_952, gw_953, gw_954, gw_75, ⟨by decide +kernel, by decide +kernel⟩⟩
theorem clL_18 : CLV RL 18 yX6_sky 2 := ⟨gw_287, gw_288, gw_289, gw_68, ⟨by decide +kernel, by decide +kernel⟩⟩
theorem clL_22 : CLV RL 22 yX7_sky 2 := ⟨gw_960, gw_961, gw_962, gw_75, ⟨by decide +kernel, by decide +kernel⟩⟩
theorem clL_23 : CLV RL 23 yX6_feed 2 := ⟨gw_294, gw_295, gw_296, gw_68, ⟨by decide +kernel, by decide +kernel⟩⟩
theorem clL_26 : CLV RL 26 yX7_feed 2 := ⟨gw_977, gw_978, gw_979, gw_75, ⟨by decide +kernel, by decide +kernel⟩⟩
theorem clL_27 : CLV RL 27 yX6_valley 0 := ⟨gw_298, gw_299, gw_300, gw_68, ⟨by decide +kernel, by decide +kernel⟩⟩
theorem clL_31 : CLV RL 31 yX7_valley 0 := ⟨gw_981, gw_982, gw_983, gw_75, ⟨by decide +kernel, by decide +kernel⟩⟩
theorem clL_32 : CLV RL 32 yX6_told 2 := ⟨gw_452, gw_453, gw_454, gw_68, ⟨by decide +kernel, by decide +kernel⟩⟩
theorem clL_35 : CLV RL 35 yX7_told 2 := ⟨gw_1045, gw_1046, gw_1047, gw_75, ⟨by decide +kernel, by decide +kernel⟩⟩
theorem clL_36 : CLV RL 36 yX6_melts 1 := ⟨gw_456, gw_457, gw_458, gw_68, ⟨by decide +kernel, by decide +kernel⟩⟩
theorem clL_39 : CLV RL 39 yX7_melts 1 := ⟨gw_1069, gw_1070, gw_1071, gw_75, ⟨by decide +kernel, by decide +kernel⟩⟩
theorem clL_40 : CLV RL 40 yX6_gate 4 := ⟨gw_466, gw_467, gw_468, gw_68, ⟨by decide +kernel, by decide +kernel⟩⟩
theorem clL_44 : CLV RL 44 yX7_gate 4 := ⟨gw_964, gw_965, gw_966, gw_75, ⟨by decide +kernel, by decide +kernel⟩⟩
theorem clL_45 : CLV RL 45 yX6_of 2 := ⟨gw_471, gw_472, gw_473, gw_68, ⟨by decide +kernel, by decide +kernel⟩⟩
theorem clL_48 : CLV RL 48 yX7_of 2 := ⟨gw_973, gw_974, gw_975, gw_75, ⟨by decide +kernel, by decide +kernel⟩⟩
theorem clL_49 : CLV RL 49 yX6_water 3 := ⟨gw_475, gw_476, gw_477, gw_68, ⟨by decide +kernel, by decide +kernel⟩⟩
theorem clL_53 : CLV RL 53 yX7_water 3 := ⟨gw_1085, gw_1086, gw_1087, gw_75, ⟨by decide +kernel, by decide +kernel⟩⟩
theorem clL_54 : CLV RL 54 yX6_all 1 := ⟨gw_553, gw_554, gw_555, gw_68, ⟨by decide +kernel, by decide +kernel⟩⟩
theorem clL_57 : CLV RL 57 yX7_all 1 := ⟨gw_1118, gw_1119, gw_1120, gw_75, ⟨by decide +kernel, by decide +kernel⟩⟩
theorem clL_58 : CLV RL 58 yX6_want 4 := ⟨gw_570, gw_571, gw_572, gw_68, ⟨by decide +kernel, by decide +kernel⟩⟩
theorem clL_61 : CLV RL 61 yX7_want 4 := ⟨gw_1126, gw_1127, gw_1128, gw_75, ⟨by decide +kernel, by decide +kernel⟩⟩
theorem clL_62 : CLV RL 62 yX6_wants 2 := ⟨gw_574, gw_575, gw_576, gw_68, ⟨by decide +kernel, by decide +kernel⟩⟩
theorem clL_65 : CLV RL 65 yX7_wants 2 := ⟨gw_1130, gw_1131, gw_1132, gw_75, ⟨by decide +kernel, by decide +kernel⟩⟩
theorem clL_66 : CLV RL 66 yX6_worth 0 := ⟨gw_579, gw_580, gw_581, gw_68, ⟨by decide +kernel, by decide +kernel⟩⟩
theorem clL_69 : CLV RL 69 yX7_worth 0 := ⟨gw_1142, gw_1143, gw_1144, gw_75, ⟨by decide +kernel, by decide +kernel⟩⟩
theorem clL_70 : CLV RL 70 yX6_best 2 := ⟨gw_583, gw_584, gw_585, gw_68, ⟨by decide +kernel, by decide +kernel⟩⟩
theorem clL_73 : CLV RL 73 yX7_best 2 := ⟨gw_1146, gw_1147, gw_1148, gw_75, ⟨by decide +kernel, by decide +kernel⟩⟩
theorem clL_74 : CLV RL 74 yX6_price 1 := ⟨gw_595, gw_596, gw_597, gw_68, ⟨by decide +kernel, by decide +kernel⟩⟩
theorem clL_77 : CLV RL 77 yX7_price 1 := ⟨gw_1150, gw_1151, gw_1152, gw_75, ⟨by decide +kernel, by decide +kernel⟩⟩
theorem clL_78 : CLV RL 78 yX6_part 4 := ⟨gw_599, gw_600, gw_601, gw_68, ⟨by decide +kernel, by decide +kernel⟩⟩
theorem clL_81 : CLV RL 81 yX7_part 4 := ⟨gw_1154, gw_1155, gw_1156, gw_75, ⟨by decide +kernel, by decide +kernel⟩⟩
theorem clL_82 : CLV RL 82 yX6_odds 2 := ⟨gw_606, gw_607, gw_608, gw_68, ⟨by decide +kernel, by decide +kernel⟩⟩
theorem clL_85 : CLV RL 85 yX7_odds 2 := ⟨gw_1158, gw_1159, gw_1160, gw_75, ⟨by decide +kernel, by decide +kernel⟩⟩
theorem clL_86 : CLV RL 86 yX6_mean 2 := ⟨gw_610, gw_611, gw_612, gw_68, ⟨by decide +kernel, by decide +kernel⟩⟩
theorem clL_90 : CLV RL 90 yX7_mean 2 := ⟨gw_1162, gw_1163, gw_1164, gw_75, ⟨by decide +kernel, by decide +kernel⟩⟩
theorem clL_91 : CLV RL 91 yX6_pond 1 := ⟨gw_623, gw_624, gw_625, gw_68, ⟨by decide +kernel, by decide +kernel⟩⟩
theorem clL_94 : CLV RL 94 yX7_pond 1 := ⟨gw_1176, gw_1177, gw_1178, gw_75, ⟨by decide +kernel, by decide +kernel⟩⟩
theorem clL_95 : CLV RL 95 yX6_wrong 0 := ⟨gw_627, gw_628, gw_629, gw_68, ⟨by decide +kernel, by decide +kernel⟩⟩
theorem clL_98 : CLV RL 98 yX7_wrong 0 := ⟨gw_1180, gw_1181, gw_1182, gw_75, ⟨by decide +kernel, by decide +kernel⟩⟩
theorem clL_99 : CLV RL 99 yX6_spare 0 := ⟨gw_631, gw_632, gw_633, gw_68, ⟨by decide +kernel, by decide +kernel⟩⟩
theorem clL_102 : CLV RL 102 yX7_spare 0 := ⟨gw_1184, gw_1185, gw_1186, gw_75, ⟨by decide +kernel, by decide +kernel⟩⟩
theorem clL_103 : CLV RL 103 yX6_day 1 := ⟨gw_645, gw_646, gw_647, gw_68, ⟨by decide +kernel, by decide +kernel⟩⟩
theorem clL_106 : CLV RL 106 yX7_day 1 := ⟨gw_1065, gw_1066, gw_1067, gw_75, ⟨by decide +kernel, by decide +kernel⟩⟩
theorem clL_107 : CLV RL 107 yX6_judge 3 := ⟨gw_649, gw_650, gw_651, gw_68, ⟨by decide +kernel, by decide +kernel⟩⟩
theorem clL_110 : CLV RL 110 yX7_judge 3 := ⟨gw_1192, gw_1193, gw_1194, gw_75, ⟨by decide +kernel, by decide +kernel⟩⟩
theorem clL_111 : CLV RL 111 yX6_image 0 := ⟨gw_658, gw_659, gw_660, gw_68, ⟨by decide +kernel, by decide +kernel⟩⟩
theorem clL_114 : CLV RL 114 yX7_image 0 := ⟨gw_1200, gw_1201, gw_1202, gw_75, ⟨by decide +kernel, by decide +kernel⟩⟩
theorem clL_115 : CLV RL 115 yX6_undo 0 := ⟨gw_668, gw_669, gw_670, gw_68, ⟨by decide +kernel, by decide +kernel⟩⟩
theorem clL_118 : CLV RL 118 yX7_undo 0 := ⟨gw_1208, gw_1209, gw_1210, gw_75, ⟨by decide +kernel, by decide +kernel⟩⟩
theorem clL_119 : CLV RL 119 yX6_act 3 := ⟨gw_672, gw_673, gw_674, gw_68, ⟨by decide +kernel, by decide +kernel⟩⟩
theorem clL_122 : CLV RL 122 yX7_act 3 := ⟨gw_1212, gw_1213, gw_1214, gw_75, ⟨by decide +kernel, by decide +kernel⟩⟩
theorem clL_123 : CLV RL 123 yX6_trace 1 := ⟨gw_699, gw_700, gw_701, gw_68, ⟨by decide +kernel, by decide +kernel⟩⟩
theorem clL_126 : CLV RL 126 yX7_trace 1 := ⟨gw_1248, gw_1249, gw_1250, gw_75, ⟨by decide +kernel, by decide +kernel⟩⟩
theorem clL_127 : CLV RL 127 yX6_taken 2 := ⟨gw_703, gw_704, gw_705, gw_68, ⟨by decide +kernel, by decide +kernel⟩⟩
theorem clL_130 : CLV RL 130 yX7_taken 2 := ⟨gw_1252, gw_1253, gw_1254, gw_75, ⟨by decide +kernel, by decide +kernel⟩⟩
theorem clL_131 : CLV RL 131 yX6_count 1 := ⟨gw_712, gw_713, gw_714, gw_68, ⟨by decide +kernel, by decide +kernel⟩⟩
theorem clL_134 : CLV RL 134 yX7_count 1 := ⟨gw_1256, gw_1257, gw_1258, gw_75, ⟨by decide +kernel, by decide +kernel⟩⟩
theorem clL_135 : CLV RL 135 yX6_tape 3 := ⟨gw_716, gw_717, gw_718, gw_68, ⟨by decide +kernel, by decide +kernel⟩⟩
theorem clL_138 : CLV RL 138 yX7_tape 3 := ⟨gw_1260, gw_1261, gw_1262, gw_75, ⟨by decide +kernel, by decide +kernel⟩⟩
theorem clL_141 : CLV RL 141 yX6_item 3 := ⟨gw_728, gw_729, gw_730, gw_68, ⟨by decide +kernel, by decide +kernel⟩⟩
theorem clL_145 : CLV RL 145 yX7_item 3 := ⟨gw_1264, gw_1265, gw_1266, gw_75, ⟨by decide +kernel, by decide +kernel⟩⟩
theorem clL_146 : CLV RL 146 yX6_read 2 := ⟨gw_736, gw_737, gw_738, gw_68, ⟨by decide +kernel, by decide +kernel⟩⟩
theorem clL_149 : CLV RL 149 yX7_read 2 := ⟨gw_1272, gw_1273, gw_1274, gw_75, ⟨by decide +kernel, by decide +kernel⟩⟩
theorem clL_150 : CLV RL 150 yX6_shift 5 := ⟨gw_740, gw_741, gw_742, gw_68, ⟨by decide +kernel, by decide +kernel⟩⟩
theorem clL_154 : CLV RL 154 yX7_shift 5 := ⟨gw_1276, gw_1277, gw_1278, gw_75, ⟨by decide +kernel, by decide +kernel⟩⟩
theorem clX7_215 : CLV RX7 215 yX7_in 3 := ⟨gw_956, gw_958, gw_20, gw_75, ⟨by decide +kernel, by decide +kernel⟩⟩
theorem clX7_219 : CLV RX7 219 yX7_isGate 1 := ⟨gw_968, gw_970, gw_21, gw_75, ⟨by decide +kernel, by decide +kernel⟩⟩
theorem clX7_224 : CLV RX7 224 yX7_next 0 := ⟨gw_1001, gw_1003, gw_26, gw_75, ⟨by decide +kernel, by decide +kernel⟩⟩
theorem clX7_228 : CLV RX7 228 yX7_takesSign 1 := ⟨gw_1010, gw_1012, gw_28, gw_75, ⟨by decide +kernel, by decide +kernel⟩⟩
theorem clX7_231 : CLV RX7 231 yX7_isDigit 0 := ⟨gw_1021, gw_1023, gw_30, gw_75, ⟨by decide +kernel, by decide +kernel⟩⟩
theorem clX7_235 : CLV RX7 235 yX7_put 1 := ⟨gw_1033, gw_1035, gw_33, gw_75, ⟨by decide +kernel, by decide +kernel⟩⟩
theorem clX7_239 : CLV RX7 239 yX7_takesNumber 0 := ⟨gw_1017, gw_1019, gw_29, gw_75, ⟨by decide +kernel, by decide +kernel⟩⟩
theorem clX7_242 : CLV RX7 242 yX7_whole 0 := ⟨gw_1037, gw_1039, gw_34, gw_75, ⟨by decide +kernel, by decide +kernel⟩⟩
theorem clX7_245 : CLV RX7 245 yX7_takesTest 0 := ⟨gw_1029, gw_1031, gw_32, gw_75, ⟨by decide +kernel, by decide +kernel⟩⟩
theorem clX7_248 : CLV RX7 248 yX7_settle 1 := ⟨gw_1041, gw_1043, gw_35, gw_75, ⟨by decide +kernel, by decide +kernel⟩⟩
theorem clX7_251 : CLV RX7 251 yX7_second 0 := ⟨gw_997, gw_999, gw_25, gw_75, ⟨by decide +kernel, by decide +kernel⟩⟩
theorem clX7_255 : CLV RX7 255 yX7_takesWord 2 := ⟨gw_1006, gw_1008, gw_27, gw_75, ⟨by decide +kernel, by decide +kernel⟩⟩
theorem clX7_262 : CLV RX7 262 yX7_takesHead 1 := ⟨gw_993, gw_995, gw_24, gw_75, ⟨by decide +kernel, by decide +kernel⟩⟩
theorem clX7_265 : CLV RX7 265 yX7_takesE 1 := ⟨gw_1025, gw_1027, gw_31, gw_75, ⟨by decide +kernel, by decide +kernel⟩⟩
theorem clX7_268 : CLV RX7 268 yX7_takesClause 1 := ⟨gw_989, gw_991, gw_23, gw_75, ⟨by decide +kernel, by decide +kernel⟩⟩
theorem clX7_271 : CLV RX7 271 yX7_goesText 1 := ⟨gw_985, gw_987, gw_22, gw_75, ⟨by decide +kernel, by decide +kernel⟩⟩
theorem clX7_274 : CLV RX7 274 yX7_first 0 := ⟨gw_1053, gw_1055, gw_37, gw_75, ⟨by decide +kernel, by decide +kernel⟩⟩
theorem clX7_277 : CLV RX7 277 yX7_behind 0 := ⟨gw_1057, gw_1059, gw_38, gw_75, ⟨by decide +kernel, by decide +kernel⟩⟩
theorem clX7_280 : CLV RX7 280 yX7_last 3 := ⟨gw_1049, gw_1051, gw_36, gw_75, ⟨by decide +kernel, by decide +kernel⟩⟩
theorem clX7_284 : CLV RX7 284 yX7_min 2 := ⟨gw_1061, gw_1063, gw_39, gw_75, ⟨by decide +kernel, by decide +kernel⟩⟩
theorem clX7_288 : CLV RX7 288 yX7_holds 3 := ⟨gw_1081, gw_1083, gw_42, gw_75, ⟨by decide +kernel, by decide +kernel⟩⟩
theorem clX7_291 : CLV RX7 291 yX7_isHour 1 := ⟨gw_1073, gw_1075, gw_40, gw_75, ⟨by decide +kernel, by decide +kernel⟩⟩
theorem clX7_294 : CLV RX7 294 yX7_meltOf 2 := ⟨gw_1077, gw_1079, gw_41, gw_75, ⟨by decide +kernel, by decide +kernel⟩⟩
theorem clX7_297 : CLV RX7 297 yX7_told 2 := ⟨gw_1097, gw_1046, gw_1047, gw_75, ⟨by decide +kernel, by decide +kernel⟩⟩
theorem clX7_300 : CLV RX7 300 yX7_less 2 := ⟨gw_1106, gw_1108, gw_47, gw_75, ⟨by decide +kernel, by decide +kernel⟩⟩
theorem clX7_303 : CLV RX7 303 yX7_has 2 := ⟨gw_1114, gw_1116, gw_49, gw_75, ⟨by decide +kernel, by decide +kernel⟩⟩
theorem clX7_306 : CLV RX7 306 yX7_sets 3 := ⟨gw_1102, gw_1104, gw_46, gw_75, ⟨by decide +kernel, by decide +kernel⟩⟩
theorem clX7_310 : CLV RX7 310 yX7_takes 4 := ⟨gw_1110, gw_1112, gw_48, gw_75, ⟨by decide +kernel, by decide +kernel⟩⟩
theorem clX7_314 : CLV RX7 314 yX7_isPlace 1 := ⟨gw_1089, gw_1091, gw_43, gw_75, ⟨by decide +kernel, by decide +kernel⟩⟩
theorem clX7_317 : CLV RX7 317 yX7_asIs 0 := ⟨gw_1093, gw_1095, gw_44, gw_75, ⟨by decide +kernel, by decide +kernel⟩⟩
theorem clX7_320 : CLV RX7 320 yX7_go 0 := ⟨gw_1098, gw_1100, gw_45, gw_75, ⟨by decide +kernel, by decide +kernel⟩⟩
theorem clX7_323 : CLV RX7 323 yX7_floods 0 := ⟨gw_1122, gw_1124, gw_50, gw_75, ⟨by decide +kernel, by decide +kernel⟩⟩
theorem clX7_326 : CLV RX7 326 yX7_serve 0 := ⟨gw_1138, gw_1140, gw_52, gw_75, ⟨by decide +kernel, by decide +kernel⟩⟩
theorem clX7_329 : CLV RX7 329 yX7_worthNow 0 := ⟨gw_1134, gw_1136, gw_51, gw_75, ⟨by decide +kernel, by decide +kernel⟩⟩
theorem clX7_334 : CLV RX7 334 yX7_oddsOf 1 := ⟨gw_1167, gw_1169, gw_53, gw_75, ⟨by decide +kernel, by decide +kernel⟩⟩
theorem clX7_340 : CLV RX7 340 yX7_divisor 2 := ⟨gw_1172, gw_1174, gw_54, gw_75, ⟨by decide +kernel, by decide +kernel⟩⟩
theorem clX7_344 : CLV RX7 344 yX7_ones 1 := ⟨gw_1188, gw_1190, gw_55, gw_75, ⟨by decide +kernel, by decide +kernel⟩⟩
theorem clX7_347 : CLV RX7 347 yX7_isTape 1 := ⟨gw_1196, gw_1198, gw_56, gw_75, ⟨by decide +kernel, by decide +kernel⟩⟩
theorem clX7_350 : CLV RX7 350 yX7_copy 2 := ⟨gw_1204, gw_1206, gw_57, gw_75, ⟨by decide +kernel, by decide +kernel⟩⟩
theorem clX7_354 : CLV RX7 354 yX7_body 1 := ⟨gw_1220, gw_1222, gw_59, gw_75, ⟨by decide +kernel, by decide +kernel⟩⟩
theorem clX7_357 : CLV RX7 357 yX7_plainLets 2 := ⟨gw_1224, gw_1226, gw_60, gw_75, ⟨by decide +kernel, by decide +kernel⟩⟩
theorem clX7_360 : CLV RX7 360 yX7_letsAct 2 := ⟨gw_1216, gw_1218, gw_58, gw_75, ⟨by decide +kernel, by decide +kernel⟩⟩
theorem clX7_363 : CLV RX7 363 yX7_plainTakes 2 := ⟨gw_1236, gw_1238, gw_63, gw_75, ⟨by decide +kernel, by decide +kernel⟩⟩
theorem clX7_366 : CLV RX7 366 yX7_clockTakes 2 := ⟨gw_1232, gw_1234, gw_62, gw_75, ⟨by decide +kernel, by decide +kernel⟩⟩
theorem clX7_369 : CLV RX7 369 yX7_takesAct 2 := ⟨gw_1228, gw_1230, gw_61, gw_75, ⟨by decide +kernel, by decide +kernel⟩⟩
theorem clX7_372 : CLV RX7 372 yX7_plainTells 2 := ⟨gw_1244, gw_1246, gw_65, gw_75, ⟨by decide +kernel, by decide +kernel⟩⟩
theorem clX7_375 : CLV RX7 375 yX7_tellsAct 2 := ⟨gw_1240, gw_1242, gw_64, gw_75, ⟨by decide +kernel, by decide +kernel⟩⟩
theorem clX7_378 : CLV RX7 378 yX7_narrow 2 := ⟨gw_1268, gw_1270, gw_66, gw_75, ⟨by decide +kernel, by decide +kernel⟩⟩
