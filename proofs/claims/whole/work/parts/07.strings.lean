/-! the texts: length and charAt of the five String constants -/
theorem dJ0_coder_7d493_0 : decode cJ0_coder_7d493 0 = .ok (.getstatic 38, 3) := by decide +kernel
theorem dJ0_coder_7d493_3 : decode cJ0_coder_7d493 3 = .ok (.ifCond .eq 10, 3) := by decide +kernel
theorem dJ0_coder_7d493_6 : decode cJ0_coder_7d493 6 = .ok (.aload_n 0, 1) := by decide +kernel
theorem dJ0_coder_7d493_7 : decode cJ0_coder_7d493 7 = .ok (.getfield 15, 3) := by decide +kernel
theorem dJ0_coder_7d493_10 : decode cJ0_coder_7d493 10 = .ok (.goto 4, 3) := by decide +kernel
theorem dJ0_coder_7d493_13 : decode cJ0_coder_7d493 13 = .ok (.iconst 1, 1) := by decide +kernel
theorem dJ0_coder_7d493_14 : decode cJ0_coder_7d493 14 = .ok (.ireturn, 1) := by decide +kernel
theorem dJ0_length_8abf5_0 : decode cJ0_length_8abf5 0 = .ok (.aload_n 0, 1) := by decide +kernel
theorem dJ0_length_8abf5_1 : decode cJ0_length_8abf5 1 = .ok (.getfield 9, 3) := by decide +kernel
theorem dJ0_length_8abf5_4 : decode cJ0_length_8abf5 4 = .ok (.arraylength, 1) := by decide +kernel
theorem dJ0_length_8abf5_5 : decode cJ0_length_8abf5 5 = .ok (.aload_n 0, 1) := by decide +kernel
theorem dJ0_length_8abf5_6 : decode cJ0_length_8abf5 6 = .ok (.invokevirtual 335, 3) := by decide +kernel
theorem dJ0_length_8abf5_9 : decode cJ0_length_8abf5 9 = .ok (.ishr, 1) := by decide +kernel
theorem dJ0_length_8abf5_10 : decode cJ0_length_8abf5 10 = .ok (.ireturn, 1) := by decide +kernel
theorem dJ0_isLatin1_aae02_0 : decode cJ0_isLatin1_aae02 0 = .ok (.getstatic 38, 3) := by decide +kernel
theorem dJ0_isLatin1_aae02_3 : decode cJ0_isLatin1_aae02 3 = .ok (.ifCond .eq 14, 3) := by decide +kernel
theorem dJ0_isLatin1_aae02_6 : decode cJ0_isLatin1_aae02 6 = .ok (.aload_n 0, 1) := by decide +kernel
theorem dJ0_isLatin1_aae02_7 : decode cJ0_isLatin1_aae02 7 = .ok (.getfield 15, 3) := by decide +kernel
theorem dJ0_isLatin1_aae02_10 : decode cJ0_isLatin1_aae02 10 = .ok (.ifCond .ne 7, 3) := by decide +kernel
theorem dJ0_isLatin1_aae02_13 : decode cJ0_isLatin1_aae02 13 = .ok (.iconst 1, 1) := by decide +kernel
theorem dJ0_isLatin1_aae02_14 : decode cJ0_isLatin1_aae02 14 = .ok (.goto 4, 3) := by decide +kernel
theorem dJ0_isLatin1_aae02_17 : decode cJ0_isLatin1_aae02 17 = .ok (.iconst 0, 1) := by decide +kernel
theorem dJ0_isLatin1_aae02_18 : decode cJ0_isLatin1_aae02 18 = .ok (.ireturn, 1) := by decide +kernel
theorem dJ3_checkIndex_8e157_0 : decode cJ3_checkIndex_8e157 0 = .ok (.iload_n 0, 1) := by decide +kernel
theorem dJ3_checkIndex_8e157_1 : decode cJ3_checkIndex_8e157 1 = .ok (.ifCond .lt 8, 3) := by decide +kernel
theorem dJ3_checkIndex_8e157_4 : decode cJ3_checkIndex_8e157 4 = .ok (.iload_n 0, 1) := by decide +kernel
theorem dJ3_checkIndex_8e157_5 : decode cJ3_checkIndex_8e157 5 = .ok (.iload_n 1, 1) := by decide +kernel
theorem dJ3_checkIndex_8e157_6 : decode cJ3_checkIndex_8e157 6 = .ok (.if_icmp .lt 10, 3) := by decide +kernel
theorem dJ3_checkIndex_8e157_9 : decode cJ3_checkIndex_8e157 9 = .ok (.aload_n 2, 1) := by decide +kernel
theorem dJ3_checkIndex_8e157_10 : decode cJ3_checkIndex_8e157 10 = .ok (.iload_n 0, 1) := by decide +kernel
theorem dJ3_checkIndex_8e157_11 : decode cJ3_checkIndex_8e157 11 = .ok (.iload_n 1, 1) := by decide +kernel
theorem dJ3_checkIndex_8e157_12 : decode cJ3_checkIndex_8e157 12 = .ok (.invokestatic 95, 3) := by decide +kernel
theorem dJ3_checkIndex_8e157_15 : decode cJ3_checkIndex_8e157 15 = .ok (.athrow, 1) := by decide +kernel
theorem dJ3_checkIndex_8e157_16 : decode cJ3_checkIndex_8e157 16 = .ok (.iload_n 0, 1) := by decide +kernel
theorem dJ3_checkIndex_8e157_17 : decode cJ3_checkIndex_8e157 17 = .ok (.ireturn, 1) := by decide +kernel
theorem dJ0_checkIndex_df160_0 : decode cJ0_checkIndex_df160 0 = .ok (.iload_n 0, 1) := by decide +kernel
theorem dJ0_checkIndex_df160_1 : decode cJ0_checkIndex_df160 1 = .ok (.iload_n 1, 1) := by decide +kernel
theorem dJ0_checkIndex_df160_2 : decode cJ0_checkIndex_df160 2 = .ok (.getstatic 1053, 3) := by decide +kernel
theorem dJ0_checkIndex_df160_5 : decode cJ0_checkIndex_df160 5 = .ok (.invokestatic 1059, 3) := by decide +kernel
theorem dJ0_checkIndex_df160_8 : decode cJ0_checkIndex_df160 8 = .ok (.pop, 1) := by decide +kernel
theorem dJ0_checkIndex_df160_9 : decode cJ0_checkIndex_df160 9 = .ok (.return_, 1) := by decide +kernel
theorem dJ1_charAt_3b067_0 : decode cJ1_charAt_3b067 0 = .ok (.iload_n 1, 1) := by decide +kernel
theorem dJ1_charAt_3b067_1 : decode cJ1_charAt_3b067 1 = .ok (.aload_n 0, 1) := by decide +kernel
theorem dJ1_charAt_3b067_2 : decode cJ1_charAt_3b067 2 = .ok (.arraylength, 1) := by decide +kernel
theorem dJ1_charAt_3b067_3 : decode cJ1_charAt_3b067 3 = .ok (.invokestatic 9, 3) := by decide +kernel
theorem dJ1_charAt_3b067_6 : decode cJ1_charAt_3b067 6 = .ok (.aload_n 0, 1) := by decide +kernel
theorem dJ1_charAt_3b067_7 : decode cJ1_charAt_3b067 7 = .ok (.iload_n 1, 1) := by decide +kernel
theorem dJ1_charAt_3b067_8 : decode cJ1_charAt_3b067 8 = .ok (.baload, 1) := by decide +kernel
theorem dJ1_charAt_3b067_9 : decode cJ1_charAt_3b067 9 = .ok (.sipush 255, 3) := by decide +kernel
theorem dJ1_charAt_3b067_12 : decode cJ1_charAt_3b067 12 = .ok (.iand, 1) := by decide +kernel
theorem dJ1_charAt_3b067_13 : decode cJ1_charAt_3b067 13 = .ok (.i2c, 1) := by decide +kernel
theorem dJ1_charAt_3b067_14 : decode cJ1_charAt_3b067 14 = .ok (.ireturn, 1) := by decide +kernel
theorem dJ0_charAt_5068e_0 : decode cJ0_charAt_5068e 0 = .ok (.aload_n 0, 1) := by decide +kernel
theorem dJ0_charAt_5068e_1 : decode cJ0_charAt_5068e 1 = .ok (.invokevirtual 492, 3) := by decide +kernel
theorem dJ0_charAt_5068e_4 : decode cJ0_charAt_5068e 4 = .ok (.ifCond .eq 12, 3) := by decide +kernel
theorem dJ0_charAt_5068e_7 : decode cJ0_charAt_5068e 7 = .ok (.aload_n 0, 1) := by decide +kernel
theorem dJ0_charAt_5068e_8 : decode cJ0_charAt_5068e 8 = .ok (.getfield 9, 3) := by decide +kernel
theorem dJ0_charAt_5068e_11 : decode cJ0_charAt_5068e 11 = .ok (.iload_n 1, 1) := by decide +kernel
theorem dJ0_charAt_5068e_12 : decode cJ0_charAt_5068e 12 = .ok (.invokestatic 495, 3) := by decide +kernel
theorem dJ0_charAt_5068e_15 : decode cJ0_charAt_5068e 15 = .ok (.ireturn, 1) := by decide +kernel
theorem dJ0_charAt_5068e_16 : decode cJ0_charAt_5068e 16 = .ok (.aload_n 0, 1) := by decide +kernel
theorem dJ0_charAt_5068e_17 : decode cJ0_charAt_5068e 17 = .ok (.getfield 9, 3) := by decide +kernel
theorem dJ0_charAt_5068e_20 : decode cJ0_charAt_5068e 20 = .ok (.iload_n 1, 1) := by decide +kernel
theorem dJ0_charAt_5068e_21 : decode cJ0_charAt_5068e 21 = .ok (.invokestatic 498, 3) := by decide +kernel
theorem dJ0_charAt_5068e_24 : decode cJ0_charAt_5068e 24 = .ok (.ireturn, 1) := by decide +kernel
abbrev sA (G : GT) : Nat → Nat := G.2.2.2.2.1
abbrev sV (G : GT) : Nat → Nat := G.2.2.2.2.2.1
def stL (i : Nat) : Option Int32 := if i < 5 then some (Int32.ofNat (sLen.getD i 0)) else none
def stC (i : Nat) (k : Int32) : Option Int32 := if i < 5 ∧ ¬ (k < 0 ∨ sLen.getD i 0 ≤ k.toNatClampNeg) then some ((sByt.getD i []).getD k.toNatClampNeg 0) else none
theorem st_ok : ∀ i, i < 5 → ∀ k, k < 4 → ((((sByt.getD i []).getD k 0) &&& 255).toUInt32 % 65536).toInt32 = (sByt.getD i []).getD k 0 ∧ narrow .char (.int ((sByt.getD i []).getD k 0)) = .int ((sByt.getD i []).getD k 0) := by decide +kernel
theorem st_len : ∀ i, i < 5 → sLen.getD i 0 ≤ 4 := by decide
section JS
variable {G : GT} {X : XT} {Q : State → Prop} {nL : Nat} {sh : SH} {I : IH} {L : LH} {n e es pc : Nat} {ls : List (Nat × Value)} {st : List Value}
variable {own : String} {cc : ByteArray} {d : Nat} {ret : Option FieldType} {nm : String}
theorem j_ldcS (F : MF G X RX1 cc nL d ret nm) {ix : Nat} {tx : String} (i : Nat) (hi : sIx[i]? = some (ix, tx)) (hd : decode cc pc = .ok (.ldc ix, 2)) (kk : J G X Q nL sh I L n e es (pc + 2) ls (.ref (sA G i) :: st)) : J G X Q nL sh I L n e es pc ls st := by
  obtain ⟨p, l, e', R, s, m, args, below, meth, c⟩ := X
  obtain ⟨hx, hb, hml, hown, hts, hr, hlocks, hnm, hK, hq0, hq1, hRf, hRl⟩ := F
  intro H locs cells slots LS h1 h2 h3 h4 h5
  exact va_ldcS hx hb hown (hK.2.2.2.2.1 i _ hi) hd (kk H locs cells slots LS h1 h2 h3 h4 h5)
theorem j_getCS (F : MF G X own cc nL d ret nm) {ix : Nat} (hw : Cond.fieldLink own ix "java/lang/String" "COMPACT_STRINGS" "Z" ∈ lw_good) (hd : decode cc pc = .ok (.getstatic ix, 3)) (kk : J G X Q nL sh I L n e es (pc + 3) ls (.int 1 :: st)) : J G X Q nL sh I L n e es pc ls st := by
  obtain ⟨p, l, e', R, s, m, args, below, meth, c⟩ := X
  obtain ⟨hx, hb, hml, hown, hts, hr, hlocks, hnm, hK, hq0, hq1, hRf, hRl⟩ := F
  intro H locs cells slots LS h1 h2 h3 h4 h5
  obtain ⟨cf, kf, fi, f, a, cell, z1, z2, z3, z4, z5, z6, z7, z8⟩ := hK.2.2.2.2.2.2.2.2.1
  exact W.gets hx hb hown (hts _ hw) z1 z2 z3 z4 (by rw [h3.2.2.1 a (Array.getElem?_eq_some_iff.mp z5).1]; exact z5) (fun e => by rw [e] at z6; cases z6) z7 rfl hd (kk H locs cells slots LS h1 h2 h3 h4 h5)
theorem j_getSF (F : MF G X own cc nL d ret nm) {ix : Nat} (hw : Cond.fieldLink own ix "jdk/internal/util/Preconditions" "SIOOBE_FORMATTER" "Ljava/util/function/BiFunction;" ∈ lw_good) (hd : decode cc pc = .ok (.getstatic ix, 3)) (kk : ∀ v : Value, (v = .null ∨ ∃ a : Nat, v = .ref a) → J G X Q nL sh I L n e es (pc + 3) ls (v :: st)) : J G X Q nL sh I L n e es pc ls st := by
  obtain ⟨p, l, e', R, s, m, args, below, meth, c⟩ := X
  obtain ⟨hx, hb, hml, hown, hts, hr, hlocks, hnm, hK, hq0, hq1, hRf, hRl⟩ := F
  intro H locs cells slots LS h1 h2 h3 h4 h5
  obtain ⟨v9, hv9, cf, kf, fi, f, a, cell, z1, z2, z3, z4, z5, z6, z7, z8⟩ := hK.2.2.2.2.2.2.2.2.2
  exact W.gets hx hb hown (hts _ hw) z1 z2 z3 z4 (by rw [h3.2.2.1 a (Array.getElem?_eq_some_iff.mp z5).1]; exact z5) (fun e => by rw [e] at z6; cases z6) z7 rfl hd (kk v9 hv9 H locs cells slots LS h1 h2 h3 h4 h5)
theorem j_getSC (F : MF G X own cc nL d ret nm) {ix i : Nat} (hi : i < 5) (hw : Cond.fieldLink own ix "java/lang/String" "coder" "B" ∈ lw_good) (hd : decode cc pc = .ok (.getfield ix, 3)) (kk : J G X Q nL sh I L n e es (pc + 3) ls (.int 0 :: st)) : J G X Q nL sh I L n e es pc ls (.ref (sA G i) :: st) := by
  obtain ⟨p, l, e', R, s, m, args, below, meth, c⟩ := X
  obtain ⟨hx, hb, hml, hown, hts, hr, hlocks, hnm, hK, hq0, hq1, hRf, hRl⟩ := F
  intro H locs cells slots LS h1 h2 h3 h4 h5
  obtain ⟨cf, k, fi, f, cell, z1, z2, z3, z4, z5, z6⟩ := (hK.2.2.2.2.2.1.1 i hi).2.1
  exact W.getf hx hb hown (hts _ hw) z1 z2 (by rw [h3.2.2.1 _ (Array.getElem?_eq_some_iff.mp z3).1]; exact z3) z4 (v := .int 0) z5 rfl rfl hd (kk H locs cells slots LS h1 h2 h3 h4 h5)
theorem j_getSV (F : MF G X own cc nL d ret nm) {ix i : Nat} (hi : i < 5) (hw : Cond.fieldLink own ix "java/lang/String" "value" "[B" ∈ lw_good) (hd : decode cc pc = .ok (.getfield ix, 3)) (kk : J G X Q nL sh I L n e es (pc + 3) ls (.ref (sV G i) :: st)) : J G X Q nL sh I L n e es pc ls (.ref (sA G i) :: st) := by
  obtain ⟨p, l, e', R, s, m, args, below, meth, c⟩ := X
  obtain ⟨hx, hb, hml, hown, hts, hr, hlocks, hnm, hK, hq0, hq1, hRf, hRl⟩ := F
  intro H locs cells slots LS h1 h2 h3 h4 h5
  obtain ⟨cf, k, fi, f, cell, z1, z2, z3, z4, z5, z6⟩ := (hK.2.2.2.2.2.1.1 i hi).2.2.1
  exact W.getf hx hb hown (hts _ hw) z1 z2 (by rw [h3.2.2.1 _ (Array.getElem?_eq_some_iff.mp z3).1]; exact z3) z4 (v := .ref (sV G i)) z5 rfl rfl hd (kk H locs cells slots LS h1 h2 h3 h4 h5)
theorem j_lenSV (F : MF G X own cc nL d ret nm) {i : Nat} (hi : i < 5) (hd : decode cc pc = .ok (.arraylength, 1)) (kk : J G X Q nL sh I L n e es (pc + 1) ls (.int (Int32.ofNat (sLen.getD i 0)) :: st)) : J G X Q nL sh I L n e es pc ls (.ref (sV G i) :: st) := by
  obtain ⟨p, l, e', R, s, m, args, below, meth, c⟩ := X
  obtain ⟨hx, hb, hml, hown, hts, hr, hlocks, hnm, hK, hq0, hq1, hRf, hRl⟩ := F
  intro H locs cells slots LS h1 h2 h3 h4 h5
  obtain ⟨cell, z1, z2, z3, z4, z5, z6, z7⟩ := (hK.2.2.2.2.2.1.1 i hi).2.2.2
  exact W.alen (n := Int32.ofNat (sLen.getD i 0)) hx hb (by rw [h3.2.2.1 _ (Array.getElem?_eq_some_iff.mp z1).1]; exact z1) z2 z5 rfl rfl hd (kk H locs cells slots LS h1 h2 h3 h4 h5)
theorem j_bldSV (F : MF G X own cc nL d ret nm) {i : Nat} {k : Int32} (hi : i < 5) (hk : vp_in k (sLen.getD i 0)) (hd : decode cc pc = .ok (.baload, 1)) (kk : J G X Q nL sh I L n e es (pc + 1) ls (.int ((sByt.getD i []).getD k.toNatClampNeg 0) :: st)) : J G X Q nL sh I L n e es pc ls (.int k :: .ref (sV G i) :: st) := by
  obtain ⟨p, l, e', R, s, m, args, below, meth, c⟩ := X
  obtain ⟨hx, hb, hml, hown, hts, hr, hlocks, hnm, hK, hq0, hq1, hRf, hRl⟩ := F
  intro H locs cells slots LS h1 h2 h3 h4 h5
  obtain ⟨cell, z1, z2, z3, z4, z5, z6, z7⟩ := (hK.2.2.2.2.2.1.1 i hi).2.2.2
  have hlt : k.toNatClampNeg < sLen.getD i 0 := Nat.not_le.mp fun q => hk (Or.inr q)
  have hin' : ¬ (k < 0 ∨ cell.slots.size ≤ k.toNatClampNeg) := by
    intro q
    rcases q with q | q
    · exact hk (Or.inl q)
    · omega
  exact W.bald (v := .int ((sByt.getD i []).getD k.toNatClampNeg 0)) hx hb (by rw [h3.2.2.1 _ (Array.getElem?_eq_some_iff.mp z1).1]; exact z1) z2 z3 hin' (by rw [z6 _ hlt]) rfl rfl hd (kk H locs cells slots LS h1 h2 h3 h4 h5)
theorem j_callVS (F : MF G X own cc nL d ret nm) {ix cnt d' nL' i : Nat} {y : MethodName} {cc' : ByteArray} {ret' : Option FieldType} {As st0 : List Value} {v : Value} (hi : i < 5) (cl : CLV own ix y cnt) (hcode : Cond.code y cc' nL' ret' ∈ lw_good) (hC : y.cls = "java/lang/String") (hct : Ct G y cc' nL' ret' d' (.ref (sA G i) :: As) sh I L n (some v) sh I L n 0 0) (hdk : dok d' nL' d = true) (hn : As.length = cnt) (hs0 : st0 = As.reverse ++ .ref (sA G i) :: st) (hst : Nat.ble ((st.map fun v => v.category).sum) 8 = true) (hd : decode cc pc = .ok (.invokevirtual ix, 3)) (kk : J G X Q nL sh I L n e es (pc + 3) ls (v :: st)) : J G X Q nL sh I L n e es pc ls st0 := by
  obtain ⟨p, l, e', R, s, m, args, below, meth, c⟩ := X
  obtain ⟨hx, hb, hml, hown, hts, hr, hlocks, hnm, hK, hq0, hq1, hRf, hRl⟩ := F
  intro H locs cells slots LS h1 h2 h3 h4 h5
  obtain ⟨w1, w2, w3, w4, w5⟩ := cl
  have hf := dok_fr hdk
  obtain ⟨cell, z1, z2, z3, z4⟩ := (hK.2.2.2.2.2.1.1 i hi).1
  refine run_W (va_runV (C := y.cls) (As := As) (rest := st) ⟨hx, hb, hml, hown, hts⟩ (hct l) ⟨⟨rfl, rfl, Nat.le_trans hf.1 hRf, Nat.le_trans hf.2 hRl, pay_in hts (goodU hcode), List.mem_cons_self, hts _ hcode, hts _ w4, w5.1, cwd_len w5, hts _ w1⟩, hts _ w2, hts _ w3⟩ ⟨PcT.blind, ⟨cell, by rw [h3.2.2.1 _ (Array.getElem?_eq_some_iff.mp z1).1]; exact z1, z2, by rw [hC]; exact z3⟩, preT (As := .ref (sA G i) :: As) h3 hK⟩ rfl hn h5.1 hs0 (lv_room (Nat.le_of_ble_eq_true hst)) hd ⟨by omega, by omega⟩) h4 (fun H1 locs1 k3 k4 => ?_)
  exact kk H1 locs1 (cells + 0) (slots + 0) LS (by omega) (by omega) k3 k4 h5
end JS
theorem ctJ0_coder (G : GT) {sh : SH} {I : IH} {L : LH} {n i : Nat} (hi : i < 5) : Ct G yJ0_coder_7d493 cJ0_coder_7d493 1 (some .byte) 0 [.ref (sA G i)] sh I L n (some (.int 0)) sh I L n 0 0 := by
  refine ct_ofJ (y := yJ0_coder_7d493) (by decide +kernel) rfl (fun X F => ?_)
  have F : MF G X RJ0 cJ0_coder_7d493 1 0 (some .byte) "coder" := F
  refine j_getCS (pc := 0) F (good_of 366 (by decide +kernel) rfl) dJ0_coder_7d493_0 ?_
  refine j_if_eq (pc := 3) F 13 dJ0_coder_7d493_3 rfl (fun c => absurd c (by decide)) (fun c => ?_)
  refine j_aload_n (pc := 6) (k0 := 0) F 0 rfl dJ0_coder_7d493_6 ?_
  refine j_getSC (pc := 7) F hi (good_of 1285 (by decide +kernel) rfl) dJ0_coder_7d493_7 ?_
  refine j_goto (pc := 10) F 14 dJ0_coder_7d493_10 rfl ?_
  exact j_nret (pc := 14) F rfl rfl dJ0_coder_7d493_14
set_option maxRecDepth 100000 in
theorem ctJ0_length (G : GT) {sh : SH} {I : IH} {L : LH} {n i : Nat} (hi : i < 5) : Ct G yJ0_length_8abf5 cJ0_length_8abf5 1 (some .int) 1 [.ref (sA G i)] sh I L n (some (.int (Int32.ofNat (sLen.getD i 0)))) sh I L n 0 0 := by
  refine ct_ofJ (y := yJ0_length_8abf5) (by decide +kernel) rfl (fun X F => ?_)
  have F : MF G X RJ0 cJ0_length_8abf5 1 1 (some .int) "length" := F
  refine j_aload_n (pc := 0) (k0 := 0) F 0 rfl dJ0_length_8abf5_0 ?_
  refine j_getSV (pc := 1) F hi (good_of 1284 (by decide +kernel) rfl) dJ0_length_8abf5_1 ?_
  refine j_lenSV (pc := 4) F hi dJ0_length_8abf5_4 ?_
  refine j_aload_n (pc := 5) (k0 := 0) F 0 rfl dJ0_length_8abf5_5 ?_
  refine j_callVS (pc := 6) (As := []) (st := [.int (Int32.ofNat (sLen.getD i 0))]) F hi ⟨(good_of 362 (by decide +kernel) rfl), (good_of 363 (by decide +kernel) rfl), (good_of 364 (by decide +kernel) rfl), (good_of 81 (by decide +kernel) rfl), by decide +kernel, by decide +kernel⟩ (good_of 365 rfl rfl) rfl (ctJ0_coder G hi) rfl rfl rfl rfl dJ0_length_8abf5_6 ?_
  refine j_ishr (pc := 9) F dJ0_length_8abf5_9 ?_
  rw [sb_shr0]
  exact j_iret (pc := 10) F dJ0_length_8abf5_10
theorem ctJ0_isLatin1 (G : GT) {sh : SH} {I : IH} {L : LH} {n i : Nat} (hi : i < 5) : Ct G yJ0_isLatin1_aae02 cJ0_isLatin1_aae02 1 (some .boolean) 0 [.ref (sA G i)] sh I L n (some (.int 1)) sh I L n 0 0 := by
  refine ct_ofJ (y := yJ0_isLatin1_aae02) (by decide +kernel) rfl (fun X F => ?_)
  have F : MF G X RJ0 cJ0_isLatin1_aae02 1 0 (some .boolean) "isLatin1" := F
  refine j_getCS (pc := 0) F (good_of 366 (by decide +kernel) rfl) dJ0_isLatin1_aae02_0 ?_
  refine j_if_eq (pc := 3) F 17 dJ0_isLatin1_aae02_3 rfl (fun c => absurd c (by decide)) (fun c => ?_)
  refine j_aload_n (pc := 6) (k0 := 0) F 0 rfl dJ0_isLatin1_aae02_6 ?_
  refine j_getSC (pc := 7) F hi (good_of 1285 (by decide +kernel) rfl) dJ0_isLatin1_aae02_7 ?_
  refine j_if_ne (pc := 10) F 17 dJ0_isLatin1_aae02_10 rfl (fun c => absurd rfl c) (fun c => ?_)
  refine j_iconst (pc := 13) F 1 dJ0_isLatin1_aae02_13 (by decide) ?_
  refine j_goto (pc := 14) F 18 dJ0_isLatin1_aae02_14 rfl ?_
  exact j_zret (pc := 18) F (Or.inr rfl) dJ0_isLatin1_aae02_18
theorem ctJ3_checkIndex (G : GT) {sh : SH} {I : IH} {L : LH} {n a : Nat} {k z : Int32} (h1 : ¬ k < 0) (h2 : k < z) : Ct G yJ3_checkIndex_8e157 cJ3_checkIndex_8e157 3 (some .int) 0 [.int k, .int z, .ref a] sh I L n (some (.int k)) sh I L n 0 0 := by
  refine ct_ofJ (y := yJ3_checkIndex_8e157) (by decide +kernel) rfl (fun X F => ?_)
  have F : MF G X RJ3 cJ3_checkIndex_8e157 3 0 (some .int) "checkIndex" := F
  refine j_iload_n (pc := 0) (k0 := 0) F 0 rfl dJ3_checkIndex_8e157_0 ?_
  refine j_if_lt (pc := 1) F 9 dJ3_checkIndex_8e157_1 rfl (fun c => absurd c h1) (fun c => ?_)
  refine j_iload_n (pc := 4) (k0 := 0) F 0 rfl dJ3_checkIndex_8e157_4 ?_
  refine j_iload_n (pc := 5) (k0 := 1) F 1 rfl dJ3_checkIndex_8e157_5 ?_
  refine j_icmp_lt (pc := 6) F 16 dJ3_checkIndex_8e157_6 rfl (fun c => ?_) (fun c => absurd h2 c)
  refine j_iload_n (pc := 16) (k0 := 0) F 0 rfl dJ3_checkIndex_8e157_16 ?_
  exact j_iret (pc := 17) F dJ3_checkIndex_8e157_17
theorem ctJ3_checkIndexN (G : GT) {sh : SH} {I : IH} {L : LH} {n : Nat} {k z : Int32} (h1 : ¬ k < 0) (h2 : k < z) : Ct G yJ3_checkIndex_8e157 cJ3_checkIndex_8e157 3 (some .int) 0 [.int k, .int z, .null] sh I L n (some (.int k)) sh I L n 0 0 := by
  refine ct_ofJ (y := yJ3_checkIndex_8e157) (by decide +kernel) rfl (fun X F => ?_)
  have F : MF G X RJ3 cJ3_checkIndex_8e157 3 0 (some .int) "checkIndex" := F
  refine j_iload_n (pc := 0) (k0 := 0) F 0 rfl dJ3_checkIndex_8e157_0 ?_
  refine j_if_lt (pc := 1) F 9 dJ3_checkIndex_8e157_1 rfl (fun c => absurd c h1) (fun c => ?_)
  refine j_iload_n (pc := 4) (k0 := 0) F 0 rfl dJ3_checkIndex_8e157_4 ?_
  refine j_iload_n (pc := 5) (k0 := 1) F 1 rfl dJ3_checkIndex_8e157_5 ?_
  refine j_icmp_lt (pc := 6) F 16 dJ3_checkIndex_8e157_6 rfl (fun c => ?_) (fun c => absurd h2 c)
  refine j_iload_n (pc := 16) (k0 := 0) F 0 rfl dJ3_checkIndex_8e157_16 ?_
  exact j_iret (pc := 17) F dJ3_checkIndex_8e157_17
set_option maxRecDepth 100000 in
theorem ctJ0_checkIndex (G : GT) {sh : SH} {I : IH} {L : LH} {n : Nat} {k z : Int32} (h1 : ¬ k < 0) (h2 : k < z) : Ct G yJ0_checkIndex_df160 cJ0_checkIndex_df160 2 none 1 [.int k, .int z] sh I L n none sh I L n 0 0 := by
  refine ct_ofJ (y := yJ0_checkIndex_df160) (by decide +kernel) rfl (fun X F => ?_)
  have F : MF G X RJ0 cJ0_checkIndex_df160 2 1 none "checkIndex" := F
  refine j_iload_n (pc := 0) (k0 := 0) F 0 rfl dJ0_checkIndex_df160_0 ?_
  refine j_iload_n (pc := 1) (k0 := 1) F 1 rfl dJ0_checkIndex_df160_1 ?_
  refine j_getSF (pc := 2) F (good_of 382 (by decide +kernel) rfl) dJ0_checkIndex_df160_2 (fun v9 hv9 => ?_)
  obtain rfl | ⟨a9, rfl⟩ := hv9
  · refine j_callS1 (pc := 5) (cnt := 3) (As := [.int k, .int z, .null]) (st := []) (e1 := 0) (es1 := 0) F ⟨(good_of 384 (by decide +kernel) rfl), (good_of 385 (by decide +kernel) rfl), (good_of 83 (by decide +kernel) rfl), by decide +kernel, by decide +kernel⟩ (good_of 386 rfl rfl) (ctJ3_checkIndexN G h1 h2) rfl rfl rfl rfl rfl rfl dJ0_checkIndex_df160_5 ?_
    refine j_pop (pc := 8) F dJ0_checkIndex_df160_8 rfl ?_
    exact j_vret (pc := 9) F dJ0_checkIndex_df160_9
  · refine j_callS1 (pc := 5) (cnt := 3) (As := [.int k, .int z, .ref a9]) (st := []) (e1 := 0) (es1 := 0) F ⟨(good_of 384 (by decide +kernel) rfl), (good_of 385 (by decide +kernel) rfl), (good_of 83 (by decide +kernel) rfl), by decide +kernel, by decide +kernel⟩ (good_of 386 rfl rfl) (ctJ3_checkIndex G h1 h2) rfl rfl rfl rfl rfl rfl dJ0_checkIndex_df160_5 ?_
    refine j_pop (pc := 8) F dJ0_checkIndex_df160_8 rfl ?_
    exact j_vret (pc := 9) F dJ0_checkIndex_df160_9
theorem st_lt {i : Nat} {k : Int32} (hi : i < 5) (hk : vp_in k (sLen.getD i 0)) : ¬ k < 0 ∧ k < Int32.ofNat (sLen.getD i 0) ∧ k.toNatClampNeg < 4 := by
  have h4 := st_len i hi
  obtain ⟨j, hj, rfl⟩ := vp_in_of hk (by omega)
  refine ⟨nI_pos (by omega), nI_lt hj (by omega), ?_⟩
  rw [nI_clamp (by omega)]
  omega
set_option maxRecDepth 100000 in
theorem ctJ1_charAt (G : GT) {sh : SH} {I : IH} {L : LH} {n i : Nat} {k : Int32} (hi : i < 5) (hk : vp_in k (sLen.getD i 0)) : Ct G yJ1_charAt_3b067 cJ1_charAt_3b067 2 (some .char) 2 [.ref (sV G i), .int k] sh I L n (some (.int ((sByt.getD i []).getD k.toNatClampNeg 0))) sh I L n 0 0 := by
  refine ct_ofJ (y := yJ1_charAt_3b067) (by decide +kernel) rfl (fun X F => ?_)
  have F : MF G X RJ1 cJ1_charAt_3b067 2 2 (some .char) "charAt" := F
  obtain ⟨k1, k2, k3⟩ := st_lt hi hk
  refine j_iload_n (pc := 0) (k0 := 1) F 1 rfl dJ1_charAt_3b067_0 ?_
  refine j_aload_n (pc := 1) (k0 := 0) F 0 rfl dJ1_charAt_3b067_1 ?_
  refine j_lenSV (pc := 2) F hi dJ1_charAt_3b067_2 ?_
  refine j_callS0 (pc := 3) (cnt := 2) (As := [.int k, .int (Int32.ofNat (sLen.getD i 0))]) (st := []) (e1 := 0) (es1 := 0) F ⟨(good_of 379 (by decide +kernel) rfl), (good_of 380 (by decide +kernel) rfl), (good_of 81 (by decide +kernel) rfl), by decide +kernel, by decide +kernel⟩ (good_of 381 rfl rfl) (ctJ0_checkIndex G k1 k2) rfl rfl rfl rfl rfl rfl dJ1_charAt_3b067_3 ?_
  refine j_aload_n (pc := 6) (k0 := 0) F 0 rfl dJ1_charAt_3b067_6 ?_
  refine j_iload_n (pc := 7) (k0 := 1) F 1 rfl dJ1_charAt_3b067_7 ?_
  refine j_bldSV (pc := 8) F hi hk dJ1_charAt_3b067_8 ?_
  refine j_sipush (pc := 9) F 255 dJ1_charAt_3b067_9 (by decide) ?_
  refine j_iand (pc := 12) F dJ1_charAt_3b067_12 ?_
  refine j_i2c (pc := 13) F dJ1_charAt_3b067_13 ?_
  rw [(st_ok i hi _ k3).1]
  exact j_nret (pc := 14) F rfl (st_ok i hi _ k3).2 dJ1_charAt_3b067_14
set_option maxRecDepth 100000 in
theorem ctJ0_charAt (G : GT) {sh : SH} {I : IH} {L : LH} {n i : Nat} {k : Int32} (hi : i < 5) (hk : vp_in k (sLen.getD i 0)) : Ct G yJ0_charAt_5068e cJ0_charAt_5068e 2 (some .char) 3 [.ref (sA G i), .int k] sh I L n (some (.int ((sByt.getD i []).getD k.toNatClampNeg 0))) sh I L n 0 0 := by
  refine ct_ofJ (y := yJ0_charAt_5068e) (by decide +kernel) rfl (fun X F => ?_)
  have F : MF G X RJ0 cJ0_charAt_5068e 2 3 (some .char) "charAt" := F
  obtain ⟨k1, k2, k3⟩ := st_lt hi hk
  refine j_aload_n (pc := 0) (k0 := 0) F 0 rfl dJ0_charAt_5068e_0 ?_
  refine j_callVS (pc := 1) (As := []) (st := []) F hi ⟨(good_of 372 (by decide +kernel) rfl), (good_of 373 (by decide +kernel) rfl), (good_of 374 (by decide +kernel) rfl), (good_of 81 (by decide +kernel) rfl), by decide +kernel, by decide +kernel⟩ (good_of 375 rfl rfl) rfl (ctJ0_isLatin1 G hi) rfl rfl rfl rfl dJ0_charAt_5068e_1 ?_
  refine j_if_eq (pc := 4) F 16 dJ0_charAt_5068e_4 rfl (fun c => absurd c (by decide)) (fun c => ?_)
  refine j_aload_n (pc := 7) (k0 := 0) F 0 rfl dJ0_charAt_5068e_7 ?_
  refine j_getSV (pc := 8) F hi (good_of 1284 (by decide +kernel) rfl) dJ0_charAt_5068e_8 ?_
  refine j_iload_n (pc := 11) (k0 := 1) F 1 rfl dJ0_charAt_5068e_11 ?_
  refine j_callS1 (pc := 12) (cnt := 2) (As := [.ref (sV G i), .int k]) (st := []) (e1 := 0) (es1 := 0) F ⟨(good_of 376 (by decide +kernel) rfl), (good_of 377 (by decide +kernel) rfl), (good_of 82 (by decide +kernel) rfl), by decide +kernel, by decide +kernel⟩ (good_of 378 rfl rfl) (ctJ1_charAt G hi hk) rfl rfl rfl rfl rfl rfl dJ0_charAt_5068e_12 ?_
  exact j_nret (pc := 15) F rfl (st_ok i hi _ k3).2 dJ0_charAt_5068e_15
section JS2
variable {G : GT} {X : XT} {Q : State → Prop} {nL : Nat} {sh : SH} {I : IH} {L : LH} {n e es pc : Nat} {ls : List (Nat × Value)} {st : List Value}
variable {own : String} {cc : ByteArray} {d : Nat} {ret : Option FieldType} {nm : String}
set_option maxRecDepth 100000 in
theorem j_strL (F : MF G X own cc nL d ret nm) {ix i : Nat} {r : Int32} (cl : CLV own ix yJ0_length_8abf5 0) (hg : stL i = some r) (hdk : dok 1 1 d = true) (hst : Nat.ble ((st.map fun v => v.category).sum) 8 = true) (hd : decode cc pc = .ok (.invokevirtual ix, 3)) (kk : J G X Q nL sh I L n e es (pc + 3) ls (.int r :: st)) : J G X Q nL sh I L n e es pc ls (.ref (sA G i) :: st) := by
  obtain ⟨hi, rfl⟩ := ite_obt hg
  exact j_callVS (As := []) F hi cl (good_of 361 rfl rfl) rfl (ctJ0_length G hi) hdk rfl rfl hst hd kk
set_option maxRecDepth 100000 in
theorem j_strC (F : MF G X own cc nL d ret nm) {ix i : Nat} {k r : Int32} (cl : CLV own ix yJ0_charAt_5068e 1) (hg : stC i k = some r) (hdk : dok 3 2 d = true) (hst : Nat.ble ((st.map fun v => v.category).sum) 8 = true) (hd : decode cc pc = .ok (.invokevirtual ix, 3)) (kk : J G X Q nL sh I L n e es (pc + 3) ls (.int r :: st)) : J G X Q nL sh I L n e es pc ls (.int k :: .ref (sA G i) :: st) := by
  obtain ⟨⟨hi, hk⟩, rfl⟩ := ite_obt hg
  exact j_callVS (As := [.int k]) F hi cl (good_of 371 rfl rfl) rfl (ctJ0_charAt G hi hk) hdk rfl rfl hst hd kk
end JS2
