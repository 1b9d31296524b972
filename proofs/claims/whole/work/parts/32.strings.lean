/-! ===== the strings: their rows ===== -/
def sL (w : Nat) : Int32 := nI (sLn.getD w 0)
def sC (w : Nat) (i : Int32) : Option Int32 := if i < 0 ∨ sLn.getD w 0 ≤ i.toNatClampNeg then none else some ((sBy.getD w []).getD i.toNatClampNeg 0)
theorem a_ldcS {X : Cv} {cc : ByteArray} {rm : Room} {nL1 pc : Nat} {lv : List (Nat × Value)} {sk : List Value} {q : St} (C : Cx X cc RX5 rm nL1) (S : IsK X) (i : Nat) (hi : i < 8) (hd : decode cc pc = .ok (.ldc (sIx.getD i 0), 2)) (k : At X (pc + 2) lv (.ref (adOf X (1000 + i)) :: sk) q) : At X pc lv sk q := by
  have hz := S.2.2
  have hn168 := S.1
  obtain ⟨p, l, e, R, s, m, args, below, meth, c, Q, D, I, n, sh, ad, H0, nL, Z⟩ := X
  obtain ⟨⟨hx, hb, hml, hown, hts⟩, hK, hinj, hR, hnL, hH0, hZS, hZ⟩ := C
  have hz : Z = zK ad := hz
  have hn168 : n = 168 := hn168
  subst hz hn168 hH0
  exact fun H locs ls w hl => va_ldcS hx hb hown (hZ.2.1 i hi) hd (k H locs ls w hl)
theorem zK_ok {ad : Nat → Nat} : ZS (zK ad) (In ad 168) := by
  refine ⟨fun s U h hW hk => ?_, fun U g mk a h => ?_⟩
  · obtain ⟨h1, h2, h3, h4⟩ := h
    refine ⟨(vk_S.moved hW.alike h1).kept hk, fun i hi => vk_R.warm hW (h2 i hi), (va_Z.moved hW.alike h3).kept hk, (va_Zq.moved hW.alike h4).kept hk⟩
  · obtain ⟨h1, h2, h3, h4⟩ := h
    exact ⟨vk_S.moved (u := U) (U := U.calling g mk a) (Vm.Alike.refl U.vm) h1, fun i hi => vk_R.same rfl (h2 i hi), va_Z.moved (u := U) (U := U.calling g mk a) (Vm.Alike.refl U.vm) h3, va_Zq.moved (u := U) (U := U.calling g mk a) (Vm.Alike.refl U.vm) h4⟩
theorem a_sval {X : Cv} {cc : ByteArray} {rm : Room} {nL1 pc : Nat} {lv : List (Nat × Value)} {sk : List Value} {q : St} {w : Nat} (C : Cx X cc RJ0 rm nL1) (S : IsK X) (hw : w < 8) (hd : decode cc pc = .ok (.getfield 9, 3)) (k : At X (pc + 3) lv (.ref (adOf X (1100 + w)) :: sk) q) : At X pc lv (.ref (adOf X (1000 + w)) :: sk) q := by
  have hz := S.2.2
  have hn168 := S.1
  obtain ⟨p, l, e, R, s, m, args, below, meth, c, Q, D, I, n, sh, ad, H0, nL, Z⟩ := X
  obtain ⟨⟨hx, hb, hml, hown, hts⟩, hK, hinj, hR, hnL, hH0, hZS, hZ⟩ := C
  have hz : Z = zK ad := hz
  have hn168 : n = 168 := hn168
  subst hz hn168 hH0
  exact fun H locs ls ww hl => vk_getf hx hb (hZ.1.1 w hw).2.2.1 ww.2 hown (hts (Cond.fieldLink RJ0 9 "java/lang/String" "value" "[B") (tg 1801 (by decide +kernel) rfl)) (fun _ h => h) hd (k H locs ls ww hl)
theorem a_scod {X : Cv} {cc : ByteArray} {rm : Room} {nL1 pc : Nat} {lv : List (Nat × Value)} {sk : List Value} {q : St} {w : Nat} (C : Cx X cc RJ0 rm nL1) (S : IsK X) (hw : w < 8) (hd : decode cc pc = .ok (.getfield 15, 3)) (k : At X (pc + 3) lv (.int 0 :: sk) q) : At X pc lv (.ref (adOf X (1000 + w)) :: sk) q := by
  have hz := S.2.2
  have hn168 := S.1
  obtain ⟨p, l, e, R, s, m, args, below, meth, c, Q, D, I, n, sh, ad, H0, nL, Z⟩ := X
  obtain ⟨⟨hx, hb, hml, hown, hts⟩, hK, hinj, hR, hnL, hH0, hZS, hZ⟩ := C
  have hz : Z = zK ad := hz
  have hn168 : n = 168 := hn168
  subst hz hn168 hH0
  exact fun H locs ls ww hl => vk_getf hx hb (hZ.1.1 w hw).2.1 ww.2 hown (hts (Cond.fieldLink RJ0 15 "java/lang/String" "coder" "B") (tg 1802 (by decide +kernel) rfl)) (fun _ h => h) hd (k H locs ls ww hl)
theorem a_scom {X : Cv} {cc : ByteArray} {rm : Room} {nL1 pc : Nat} {lv : List (Nat × Value)} {sk : List Value} {q : St} (C : Cx X cc RJ0 rm nL1) (S : IsK X) (hd : decode cc pc = .ok (.getstatic 38, 3)) (k : At X (pc + 3) lv (.int 1 :: sk) q) : At X pc lv sk q := by
  have hz := S.2.2
  have hn168 := S.1
  obtain ⟨p, l, e, R, s, m, args, below, meth, c, Q, D, I, n, sh, ad, H0, nL, Z⟩ := X
  obtain ⟨⟨hx, hb, hml, hown, hts⟩, hK, hinj, hR, hnL, hH0, hZS, hZ⟩ := C
  have hz : Z = zK ad := hz
  have hn168 : n = 168 := hn168
  subst hz hn168 hH0
  exact fun H locs ls ww hl => va_gets hx hb hZ.2.2.1 ww.2 hown (hts (Cond.fieldLink RJ0 38 "java/lang/String" "COMPACT_STRINGS" "Z") (tg 607 (by decide +kernel) rfl)) (fun _ h => h) hd (k H locs ls ww hl)
theorem a_sfmt {X : Cv} {cc : ByteArray} {rm : Room} {nL1 pc : Nat} {lv : List (Nat × Value)} {sk : List Value} {q : St} (C : Cx X cc RJ0 rm nL1) (S : IsK X) (hd : decode cc pc = .ok (.getstatic 1053, 3)) (k : ∀ v : Value, v.category = 1 → (v = .null ∨ ∃ t, v = .ref t) → At X (pc + 3) lv (v :: sk) q) : At X pc lv sk q := by
  have hz := S.2.2
  have hn168 := S.1
  obtain ⟨p, l, e, R, s, m, args, below, meth, c, Q, D, I, n, sh, ad, H0, nL, Z⟩ := X
  obtain ⟨⟨hx, hb, hml, hown, hts⟩, hK, hinj, hR, hnL, hH0, hZS, hZ⟩ := C
  have hz : Z = zK ad := hz
  have hn168 : n = 168 := hn168
  subst hz hn168 hH0
  intro H locs ls ww hl
  rcases hZ.2.2.2 with h | ⟨t, h⟩
  · exact va_gets hx hb h ww.2 hown (hts (Cond.fieldLink RJ0 1053 "jdk/internal/util/Preconditions" "SIOOBE_FORMATTER" "Ljava/util/function/BiFunction;") (tg 623 (by decide +kernel) rfl)) (fun _ h => h) hd (k .null rfl (Or.inl rfl) H locs ls ww hl)
  · exact va_gets hx hb h ww.2 hown (hts (Cond.fieldLink RJ0 1053 "jdk/internal/util/Preconditions" "SIOOBE_FORMATTER" "Ljava/util/function/BiFunction;") (tg 623 (by decide +kernel) rfl)) (fun _ h => h) hd (k (.ref t) rfl (Or.inr ⟨t, rfl⟩) H locs ls ww hl)
theorem a_sln {X : Cv} {cc : ByteArray} {own : String} {rm : Room} {nL1 pc : Nat} {lv : List (Nat × Value)} {sk : List Value} {q : St} {w : Nat} (C : Cx X cc own rm nL1) (S : IsK X) (hw : w < 8) (hd : decode cc pc = .ok (.arraylength, 1)) (k : At X (pc + 1) lv (.int (sL w) :: sk) q) : At X pc lv (.ref (adOf X (1100 + w)) :: sk) q := by
  have hz := S.2.2
  have hn168 := S.1
  obtain ⟨p, l, e, R, s, m, args, below, meth, c, Q, D, I, n, sh, ad, H0, nL, Z⟩ := X
  obtain ⟨⟨hx, hb, hml, hown, hts⟩, hK, hinj, hR, hnL, hH0, hZS, hZ⟩ := C
  have hz : Z = zK ad := hz
  have hn168 : n = 168 := hn168
  subst hz hn168 hH0
  exact fun H locs ls ww hl => va_tlen hx hb (hZ.1.1 w hw).2.2.2 ww.2 rfl hd (k H locs ls ww hl)
theorem a_sbl {X : Cv} {cc : ByteArray} {own : String} {rm : Room} {nL1 pc : Nat} {lv : List (Nat × Value)} {sk : List Value} {q : St} {w : Nat} {i : Int32} (C : Cx X cc own rm nL1) (S : IsK X) (hw : w < 8) (hi : vp_in i (sLn.getD w 0)) (hd : decode cc pc = .ok (.baload, 1)) (k : At X (pc + 1) lv (.int ((sBy.getD w []).getD i.toNatClampNeg 0) :: sk) q) : At X pc lv (.int i :: .ref (adOf X (1100 + w)) :: sk) q := by
  have hz := S.2.2
  have hn168 := S.1
  obtain ⟨p, l, e, R, s, m, args, below, meth, c, Q, D, I, n, sh, ad, H0, nL, Z⟩ := X
  obtain ⟨⟨hx, hb, hml, hown, hts⟩, hK, hinj, hR, hnL, hH0, hZS, hZ⟩ := C
  have hz : Z = zK ad := hz
  have hn168 : n = 168 := hn168
  subst hz hn168 hH0
  exact fun H locs ls ww hl => va_tb hx hb (hZ.1.1 w hw).2.2.2 ww.2 hi rfl hd (k H locs ls ww hl)
theorem a_i2c {X : Cv} {cc : ByteArray} {own : String} {rm : Room} {nL1 pc : Nat} {lv : List (Nat × Value)} {sk : List Value} {q : St} {x : Int32} (C : Cx X cc own rm nL1) (hd : decode cc pc = .ok (.i2c, 1)) (k : At X (pc + 1) lv (.int (x.toUInt32 % 65536).toInt32 :: sk) q) : At X pc lv (.int x :: sk) q := by
  obtain ⟨p, l, e, R, s, m, args, below, meth, c, Q, D, I, n, sh, ad, H0, nL, Z⟩ := X
  obtain ⟨⟨hx, hb, hml, hown, hts⟩, hK, hinj, hR, hnL, hH0, hZS, hZ⟩ := C
  exact fun H locs ls ww hl => lv_i2c hx hb hd rfl (k H locs ls ww hl)
/-- a call on one of the strings -/
theorem a_callT {X : Cv} {cc : ByteArray} {own : String} {rm : Room} {nL1 pc : Nat} {lv : List (Nat × Value)} {sk : List Value} {q : St} (C : Cx X cc own rm nL1) (S : IsK X) {y : MethodName} {bytes : ByteArray} {maxL ix w : Nat} {ret : Option FieldType} {rm2 : Room} {as : List Value} {r : Int32} {sk0 : List Value} {q2 : St} (hw : w < 8) (hC : y.cls = "java/lang/String") (hM : Ctr X.2.1 (dOf X) (idOf X) (zOf X) (nOf X) (shOf X) (adOf X) y bytes maxL ret rm2 (.ref (adOf X (1000 + w)) :: as) q (some r) q2) (hG : GoodIn lw_tg (wsV own ix y.cls y (Cond.code y bytes maxL ret :: lw_tg))) (hz : rm2.cells = 0 ∧ rm2.slots = 0 ∧ rm2.frames + 1 ≤ rm.frames ∧ 8 + (maxL + 11) + rm2.locals ≤ rm.locals) (hy : (parseMethodDescriptor y.desc).map (fun d => d.parameters.length) = some as.length) (hr : (sk.map fun v => v.category).sum ≤ 8) (hsk : as.reverse ++ .ref (adOf X (1000 + w)) :: sk = sk0) (hd : decode cc pc = .ok (.invokevirtual ix, 3)) (k : At X (pc + 3) lv (.int r :: sk) q2) : At X pc lv sk0 q := by
  have hz := S.2.2
  have hn168 := S.1
  obtain ⟨p, l, e, R, s, m, args, below, meth, c, Q, D, I, n, sh, ad, H0, nL, Z⟩ := X
  obtain ⟨⟨hx, hb, hml, hown, hts⟩, hK, hinj, hR, hnL, hH0, hZS, hZ⟩ := C
  have hz : Z = zK ad := hz
  have hn168 : n = 168 := hn168
  subst hz hn168 hH0
  subst hR; subst hsk
  intro H locs ls ww hl
  refine va_calli (va_runV (C := y.cls) (b := ad (1000 + w)) (As := as) (rest := sk) ⟨hx, hb, hml, hown, hts⟩ (show Met l y _ rm2 _ _ 0 0 _ from hM) (cwV as.length hts hG rfl hz.1 hz.2.1 ⟨rfl, by rw [hC]; decide, by rw [hC]; decide, hy⟩ hz.2.2) ⟨fun a U g mk z => by obtain ⟨z0, ⟨z1, z2, z3⟩, zP, zK⟩ := z; exact ⟨z0, ⟨z1, z2, z2.2 U g mk a z3⟩, zP, va_K.moved (u := U) (U := U.calling g mk a) (Vm.Alike.refl U.vm) zK⟩, (by rw [hC]; exact vk_recv (adK := fun i => ad (1000 + i)) hZ.1 hw ww.2), fun U hU hW => ⟨rfl, ⟨hinj, hZS, hZS.1 s U hZ hW (by rw [hU]; exact ww.2.2.1)⟩, by rw [hU]; exact ww.1, va_K.moved hW.alike hK⟩⟩ rfl rfl hl.1 rfl (lv_room hr) hd ⟨Nat.zero_le _, Nat.zero_le _⟩) ww.2 (fun _ _ h => h) (fun _ h => h) ?_
  intro r1 u t H1 locs1 ht hvm hw1 hB hz1 hk1 hS1
  have hw1 : r1 = r := hw1
  have hB : va_P D vwCl (pic 168 sh ad q2) t.heap := hB
  subst hw1
  exact k H1 locs1 ls ⟨by rw [← ht]; exact hB, hS1⟩ hl
theorem c_sCoder {l : Launch} {D : va_G} {I : ClassId × ClassId × ClassId × ClassId} {ad : Nat → Nat} {q : St} {w : Nat} (hw : w < 8) : Ctr l D I (zK ad) 168 (shK I) ad yJ0_coder_7d493 cJ0_coder_7d493 1 (some .byte) ({ frames := 0, cells := 0, slots := 0, locals := 0 } : Room) [.ref (ad (1000 + w))] q (some 0) q := by
  refine ctr_ofI (by decide) (Nat.le_of_ble_eq_true rfl) (fun p e s m args below meth c Q H0 X hX C hret => ?_)
  have S : IsK X := by subst hX; exact ⟨rfl, rfl, rfl⟩
  have ead : ad = adOf X := by subst hX; rfl
  try rw [ead]
  show At X 0 [(0, .ref (adOf X (1000 + w)))] [] q
  refine a_scom C S dJ0_coder_7d493_0 ?_
  refine a_if_eq C 13 (by decide) dJ0_coder_7d493_3 (fun h => absurd h (by decide)) (fun _ => ?_)
  refine a_aload_n C 0 rfl rfl dJ0_coder_7d493_6 ?_
  refine a_scod C S hw dJ0_coder_7d493_7 ?_
  refine a_goto C 14 (by decide) dJ0_coder_7d493_10 ?_
  exact hret _ _ rfl dJ0_coder_7d493_14
theorem c_sLat {l : Launch} {D : va_G} {I : ClassId × ClassId × ClassId × ClassId} {ad : Nat → Nat} {q : St} {w : Nat} (hw : w < 8) : Ctr l D I (zK ad) 168 (shK I) ad yJ0_isLatin1_aae02 cJ0_isLatin1_aae02 1 (some .boolean) ({ frames := 0, cells := 0, slots := 0, locals := 0 } : Room) [.ref (ad (1000 + w))] q (some 1) q := by
  refine ctr_ofI (by decide) (Nat.le_of_ble_eq_true rfl) (fun p e s m args below meth c Q H0 X hX C hret => ?_)
  have S : IsK X := by subst hX; exact ⟨rfl, rfl, rfl⟩
  have ead : ad = adOf X := by subst hX; rfl
  try rw [ead]
  show At X 0 [(0, .ref (adOf X (1000 + w)))] [] q
  refine a_scom C S dJ0_isLatin1_aae02_0 ?_
  refine a_if_eq C 17 (by decide) dJ0_isLatin1_aae02_3 (fun h => absurd h (by decide)) (fun _ => ?_)
  refine a_aload_n C 0 rfl rfl dJ0_isLatin1_aae02_6 ?_
  refine a_scod C S hw dJ0_isLatin1_aae02_7 ?_
  refine a_if_ne C 17 (by decide) dJ0_isLatin1_aae02_10 (fun h => absurd rfl h) (fun _ => ?_)
  refine a_iconst (v := 1) C (by decide) dJ0_isLatin1_aae02_13 ?_
  refine a_goto C 18 (by decide) dJ0_isLatin1_aae02_14 ?_
  exact hret _ _ rfl dJ0_isLatin1_aae02_18
theorem sL_shr : ∀ w, w < 8 → sL w >>> ((0 : Int32) &&& 31) = sL w := by decide +kernel
theorem c_sLen {l : Launch} {D : va_G} {I : ClassId × ClassId × ClassId × ClassId} {ad : Nat → Nat} {q : St} {w : Nat} (hw : w < 8) : Ctr l D I (zK ad) 168 (shK I) ad yJ0_length_8abf5 cJ0_length_8abf5 1 (some .int) ({ frames := 1, cells := 0, slots := 0, locals := 20 } : Room) [.ref (ad (1000 + w))] q (some (sL w)) q := by
  refine ctr_ofI (by decide) (Nat.le_of_ble_eq_true rfl) (fun p e s m args below meth c Q H0 X hX C hret => ?_)
  have S : IsK X := by subst hX; exact ⟨rfl, rfl, rfl⟩
  have ead : ad = adOf X := by subst hX; rfl
  try rw [ead]
  show At X 0 [(0, .ref (adOf X (1000 + w)))] [] q
  refine a_aload_n C 0 rfl rfl dJ0_length_8abf5_0 ?_
  refine a_sval C S hw dJ0_length_8abf5_1 ?_
  refine a_sln C S hw dJ0_length_8abf5_4 ?_
  refine a_aload_n C 0 rfl rfl dJ0_length_8abf5_5 ?_
  refine a_callT (as := []) (rm2 := ({ frames := 0, cells := 0, slots := 0, locals := 0 } : Room)) C S hw rfl (by have hh := c_sCoder (l := X.2.1) (D := dOf X) (I := idOf X) (ad := adOf X) (q := q) hw; rw [← S.2.1, ← S.2.2] at hh; rw [show nOf X = 168 from S.1]; exact hh) (gd_V (tg 603 (by decide +kernel) rfl) (tg 604 (by decide +kernel) rfl) (tg 605 (by decide +kernel) rfl) (tg 129 (by decide +kernel) rfl) (tg 606 (by decide +kernel) rfl)) ⟨rfl, rfl, Nat.le_of_ble_eq_true rfl, Nat.le_of_ble_eq_true rfl⟩ (by show Option.map _ (parseMethodDescriptor yJ0_coder_7d493.desc) = some 0; decide) (Nat.le_of_ble_eq_true rfl) rfl dJ0_length_8abf5_6 ?_
  refine a_ishr C dJ0_length_8abf5_9 ?_
  rw [sL_shr w hw]
  exact hret _ _ rfl dJ0_length_8abf5_10
theorem c_ckI {l : Launch} {D : va_G} {I : ClassId × ClassId × ClassId × ClassId} {ad : Nat → Nat} {q : St} {i n : Int32} {v : Value} (hv : v.category = 1) (h0 : ¬ i < 0) (h1 : i < n) : Ctr l D I (zK ad) 168 (shK I) ad yJ3_checkIndex_8e157 cJ3_checkIndex_8e157 3 (some .int) ({ frames := 0, cells := 0, slots := 0, locals := 0 } : Room) [.int i, .int n, v] q (some i) q := by
  have hla : (lg_sl [.int i, .int n, v]).length ≤ 3 := by cases v <;> first | exact Nat.le_of_ble_eq_true rfl | cases hv
  refine ctr_ofI (by decide) hla (fun p e s m args below meth c Q H0 X hX C hret => ?_)
  have S : IsK X := by subst hX; exact ⟨rfl, rfl, rfl⟩
  have ead : ad = adOf X := by subst hX; rfl
  try rw [ead]
  show At X 0 (lv_args 0 [.int i, .int n, v]) [] q
  refine At.sub [0, 1] (lv2 := [(0, .int i), (1, .int n)]) rfl ?_
  refine a_iload_n C 0 rfl rfl dJ3_checkIndex_8e157_0 ?_
  refine a_if_lt C 9 (by decide) dJ3_checkIndex_8e157_1 (fun h => absurd h h0) (fun _ => ?_)
  refine a_iload_n C 0 rfl rfl dJ3_checkIndex_8e157_4 ?_
  refine a_iload_n C 1 rfl rfl dJ3_checkIndex_8e157_5 ?_
  refine a_icmp_lt C 16 (by decide) dJ3_checkIndex_8e157_6 (fun _ => ?_) (fun h => absurd h1 h)
  refine a_iload_n C 0 rfl rfl dJ3_checkIndex_8e157_16 ?_
  exact hret _ _ rfl dJ3_checkIndex_8e157_17
theorem c_ckS {l : Launch} {D : va_G} {I : ClassId × ClassId × ClassId × ClassId} {ad : Nat → Nat} {q : St} {i n : Int32} (h0 : ¬ i < 0) (h1 : i < n) : Ctr l D I (zK ad) 168 (shK I) ad yJ0_checkIndex_df160 cJ0_checkIndex_df160 2 none ({ frames := 1, cells := 0, slots := 0, locals := 22 } : Room) [.int i, .int n] q none q := by
  refine ctr_ofV (by decide) (Nat.le_of_ble_eq_true rfl) (fun p e s m args below meth c Q H0 X hX C hret => ?_)
  have S : IsK X := by subst hX; exact ⟨rfl, rfl, rfl⟩
  have ead : ad = adOf X := by subst hX; rfl
  try rw [ead]
  show At X 0 [(0, .int i), (1, .int n)] [] q
  refine a_iload_n C 0 rfl rfl dJ0_checkIndex_df160_0 ?_
  refine a_iload_n C 1 rfl rfl dJ0_checkIndex_df160_1 ?_
  refine a_sfmt C S dJ0_checkIndex_df160_2 (fun v hv hv2 => ?_)
  refine a_callXi (as := [.int i, .int n, v]) (rm2 := ({ frames := 0, cells := 0, slots := 0, locals := 0 } : Room)) C (by have hh := c_ckI (l := X.2.1) (D := dOf X) (I := idOf X) (ad := adOf X) (q := q) hv h0 h1; rw [← S.2.1, ← S.2.2] at hh; rw [show nOf X = 168 from S.1]; exact hh) (tg 627 (by decide +kernel) rfl) (tg 626 (by decide +kernel) rfl) (tg 131 (by decide +kernel) rfl) (tg 625 (by decide +kernel) rfl) ⟨rfl, rfl, Nat.le_of_ble_eq_true rfl, Nat.le_of_ble_eq_true rfl⟩ ⟨by decide, by decide, by show Option.map _ (parseMethodDescriptor yJ3_checkIndex_8e157.desc) = some 3; decide⟩ (Nat.le_of_ble_eq_true rfl) rfl dJ0_checkIndex_df160_5 ?_
  refine a_pop C rfl dJ0_checkIndex_df160_8 ?_
  exact hret _ _ dJ0_checkIndex_df160_9
theorem sB_ok : ∀ w, w < 8 → ∀ j, j < sLn.getD w 0 → ((((sBy.getD w []).getD j 0) &&& 255).toUInt32 % 65536).toInt32 = (sBy.getD w []).getD j 0 ∧ narrow .char (.int ((sBy.getD w []).getD j 0)) = .int ((sBy.getD w []).getD j 0) := by decide +kernel
theorem sC_in {w : Nat} {i x : Int32} (hw : w < 8) (h : sC w i = some x) : vp_in i (sLn.getD w 0) ∧ x = (sBy.getD w []).getD i.toNatClampNeg 0 ∧ ¬ i < 0 ∧ i < sL w := by
  unfold sC at h
  split at h
  · cases h
  · rename_i hn
    have hi : vp_in i (sLn.getD w 0) := hn
    have hs : ∀ w, w < 8 → sLn.getD w 0 < 2 ^ 31 := by decide
    obtain ⟨j, hj, rfl⟩ := vp_in_of hi (hs w hw)
    refine ⟨hi, (Option.some.inj h).symm, nI_pos (by have := hs w hw; omega), nI_lt hj (hs w hw)⟩
theorem c_sLc {l : Launch} {D : va_G} {I : ClassId × ClassId × ClassId × ClassId} {ad : Nat → Nat} {q : St} {w : Nat} {i x : Int32} (hw : w < 8) (h : sC w i = some x) : Ctr l D I (zK ad) 168 (shK I) ad yJ1_charAt_3b067 cJ1_charAt_3b067 2 (some .char) ({ frames := 2, cells := 0, slots := 0, locals := 43 } : Room) [.ref (ad (1100 + w)), .int i] q (some x) q := by
  refine ctr_ofI (by decide) (Nat.le_of_ble_eq_true rfl) (fun p e s m args below meth c Q H0 X hX C hret => ?_)
  have S : IsK X := by subst hX; exact ⟨rfl, rfl, rfl⟩
  have ead : ad = adOf X := by subst hX; rfl
  try rw [ead]
  show At X 0 [(0, .ref (adOf X (1100 + w))), (1, .int i)] [] q
  obtain ⟨hi, ex, h0, h1⟩ := sC_in hw h
  refine a_iload_n C 1 rfl rfl dJ1_charAt_3b067_0 ?_
  refine a_aload_n C 0 rfl rfl dJ1_charAt_3b067_1 ?_
  refine a_sln C S hw dJ1_charAt_3b067_2 ?_
  refine a_callXv (as := [.int i, .int (sL w)]) (rm2 := ({ frames := 1, cells := 0, slots := 0, locals := 22 } : Room)) C (by have hh := c_ckS (l := X.2.1) (D := dOf X) (I := idOf X) (ad := adOf X) (q := q) h0 h1; rw [← S.2.1, ← S.2.2] at hh; rw [show nOf X = 168 from S.1]; exact hh) (tg 622 (by decide +kernel) rfl) (tg 621 (by decide +kernel) rfl) (tg 129 (by decide +kernel) rfl) (tg 620 (by decide +kernel) rfl) ⟨rfl, rfl, Nat.le_of_ble_eq_true rfl, Nat.le_of_ble_eq_true rfl⟩ ⟨by decide, by decide, by show Option.map _ (parseMethodDescriptor yJ0_checkIndex_df160.desc) = some 2; decide⟩ (Nat.le_of_ble_eq_true rfl) rfl dJ1_charAt_3b067_3 ?_
  refine a_aload_n C 0 rfl rfl dJ1_charAt_3b067_6 ?_
  refine a_iload_n C 1 rfl rfl dJ1_charAt_3b067_7 ?_
  refine a_sbl C S hw hi dJ1_charAt_3b067_8 ?_
  refine a_sipush (v := 255) C (by decide) dJ1_charAt_3b067_9 ?_
  refine a_iand C dJ1_charAt_3b067_12 ?_
  refine a_i2c C dJ1_charAt_3b067_13 ?_
  have hb := sB_ok w hw i.toNatClampNeg (Nat.not_le.mp fun e => hi (Or.inr e))
  rw [hb.1, ← ex]
  rw [← ex] at hb
  exact hret _ _ hb.2 dJ1_charAt_3b067_14
theorem c_sCh {l : Launch} {D : va_G} {I : ClassId × ClassId × ClassId × ClassId} {ad : Nat → Nat} {q : St} {w : Nat} {i x : Int32} (hw : w < 8) (h : sC w i = some x) : Ctr l D I (zK ad) 168 (shK I) ad yJ0_charAt_5068e cJ0_charAt_5068e 2 (some .char) ({ frames := 3, cells := 0, slots := 0, locals := 64 } : Room) [.ref (ad (1000 + w)), .int i] q (some x) q := by
  refine ctr_ofI (by decide) (Nat.le_of_ble_eq_true rfl) (fun p e s m args below meth c Q H0 X hX C hret => ?_)
  have S : IsK X := by subst hX; exact ⟨rfl, rfl, rfl⟩
  have ead : ad = adOf X := by subst hX; rfl
  try rw [ead]
  show At X 0 [(0, .ref (adOf X (1000 + w))), (1, .int i)] [] q
  obtain ⟨hi, ex, h0, h1⟩ := sC_in hw h
  refine a_aload_n C 0 rfl rfl dJ0_charAt_5068e_0 ?_
  refine a_callT (as := []) (rm2 := ({ frames := 0, cells := 0, slots := 0, locals := 0 } : Room)) C S hw rfl (by have hh := c_sLat (l := X.2.1) (D := dOf X) (I := idOf X) (ad := adOf X) (q := q) hw; rw [← S.2.1, ← S.2.2] at hh; rw [show nOf X = 168 from S.1]; exact hh) (gd_V (tg 613 (by decide +kernel) rfl) (tg 614 (by decide +kernel) rfl) (tg 615 (by decide +kernel) rfl) (tg 129 (by decide +kernel) rfl) (tg 616 (by decide +kernel) rfl)) ⟨rfl, rfl, Nat.le_of_ble_eq_true rfl, Nat.le_of_ble_eq_true rfl⟩ (by show Option.map _ (parseMethodDescriptor yJ0_isLatin1_aae02.desc) = some 0; decide) (Nat.le_of_ble_eq_true rfl) rfl dJ0_charAt_5068e_1 ?_
  refine a_if_eq C 16 (by decide) dJ0_charAt_5068e_4 (fun h => absurd h (by decide)) (fun _ => ?_)
  refine a_aload_n C 0 rfl rfl dJ0_charAt_5068e_7 ?_
  refine a_sval C S hw dJ0_charAt_5068e_8 ?_
  refine a_iload_n C 1 rfl rfl dJ0_charAt_5068e_11 ?_
  refine a_callXi (as := [.ref (adOf X (1100 + w)), .int i]) (rm2 := ({ frames := 2, cells := 0, slots := 0, locals := 43 } : Room)) C (by have hh := c_sLc (l := X.2.1) (D := dOf X) (I := idOf X) (ad := adOf X) (q := q) hw h; rw [← S.2.1, ← S.2.2] at hh; rw [show nOf X = 168 from S.1]; exact hh) (tg 619 (by decide +kernel) rfl) (tg 618 (by decide +kernel) rfl) (tg 130 (by decide +kernel) rfl) (tg 617 (by decide +kernel) rfl) ⟨rfl, rfl, Nat.le_of_ble_eq_true rfl, Nat.le_of_ble_eq_true rfl⟩ ⟨by decide, by decide, by show Option.map _ (parseMethodDescriptor yJ1_charAt_3b067.desc) = some 2; decide⟩ (Nat.le_of_ble_eq_true rfl) rfl dJ0_charAt_5068e_12 ?_
  have hb := sB_ok w hw i.toNatClampNeg (Nat.not_le.mp fun e => hi (Or.inr e))
  rw [← ex] at hb
  exact hret _ _ hb.2 dJ0_charAt_5068e_15
theorem k_sLen {X : Cv} {cc : ByteArray} {own : String} {rm : Room} {nL1 pc ix w : Nat} {lv : List (Nat × Value)} {sk : List Value} {q : St} (C : Cx X cc own rm nL1) (S : IsK X) (hw : w < 8) (hlk : Cond.methodLink own ix yJ0_length_8abf5 ∈ lw_tg) (hz : 1 + 1 ≤ rm.frames ∧ 100 ≤ rm.locals) (hr : (sk.map fun v => v.category).sum ≤ 8) (hd : decode cc pc = .ok (.invokevirtual ix, 3)) (k : At X (pc + 3) lv (.int (sL w) :: sk) q) : At X pc lv (.ref (adOf X (1000 + w)) :: sk) q := a_callT (as := []) (rm2 := ({ frames := 1, cells := 0, slots := 0, locals := 20 } : Room)) C S hw rfl (by have hh := c_sLen (l := X.2.1) (D := dOf X) (I := idOf X) (ad := adOf X) (q := q) hw; rw [← S.2.1, ← S.2.2] at hh; rw [show nOf X = 168 from S.1]; exact hh) (gd_V hlk (tg 600 (by decide +kernel) rfl) (tg 601 (by decide +kernel) rfl) (tg 129 (by decide +kernel) rfl) (tg 602 (by decide +kernel) rfl)) ⟨rfl, rfl, hz.1, Nat.le_trans (Nat.le_of_ble_eq_true rfl) hz.2⟩ (by show Option.map _ (parseMethodDescriptor yJ0_length_8abf5.desc) = some 0; decide) hr rfl hd k
theorem k_sCh {X : Cv} {cc : ByteArray} {own : String} {rm : Room} {nL1 pc ix w : Nat} {lv : List (Nat × Value)} {sk : List Value} {q : St} {i x : Int32} (C : Cx X cc own rm nL1) (S : IsK X) (hw : w < 8) (h : sC w i = some x) (hlk : Cond.methodLink own ix yJ0_charAt_5068e ∈ lw_tg) (hz : 3 + 1 ≤ rm.frames ∧ 150 ≤ rm.locals) (hr : (sk.map fun v => v.category).sum ≤ 8) (hd : decode cc pc = .ok (.invokevirtual ix, 3)) (k : At X (pc + 3) lv (.int x :: sk) q) : At X pc lv (.int i :: .ref (adOf X (1000 + w)) :: sk) q := a_callT (as := [.int i]) (rm2 := ({ frames := 3, cells := 0, slots := 0, locals := 64 } : Room)) C S hw rfl (by have hh := c_sCh (l := X.2.1) (D := dOf X) (I := idOf X) (ad := adOf X) (q := q) hw h; rw [← S.2.1, ← S.2.2] at hh; rw [show nOf X = 168 from S.1]; exact hh) (gd_V hlk (tg 610 (by decide +kernel) rfl) (tg 611 (by decide +kernel) rfl) (tg 129 (by decide +kernel) rfl) (tg 612 (by decide +kernel) rfl)) ⟨rfl, rfl, hz.1, Nat.le_trans (Nat.le_of_ble_eq_true rfl) hz.2⟩ (by show Option.map _ (parseMethodDescriptor yJ0_charAt_5068e.desc) = some 1; decide) hr rfl hd k
