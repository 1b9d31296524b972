/-! ===== Of the JDK: bitCount, fill ===== -/
theorem a_ldcw {X : Cv} {cc : ByteArray} {own : String} {rm : Room} {nL1 : Nat} {pc : Nat} {lv : List (Nat × Value)} {sk : List Value} {q : St} (C : Cx X cc own rm nL1) {ix : Nat} {v : Int32} (hm : Cond.constant own ix v ∈ lw_tg) (hd : decode cc pc = .ok (.ldc_w ix, 3)) (k : At X (pc + 3) lv (.int v :: sk) q) : At X pc lv sk q := by
  obtain ⟨p, l, e, R, s, m, args, below, meth, c, Q, D, I, n, sh, ad, H0, nL, Z⟩ := X
  obtain ⟨⟨hx, hb, hml, hown, hts⟩, hK, hinj, hR, hnL, hH0, hZS, hZ⟩ := C
  exact fun H locs ls w hl => lv_ldcw hx hb hown (hts _ hm) hd (k H locs ls w hl)
abbrev rmJ_bitCount : Room := { frames := 0, cells := 0, slots := 0, locals := 0 }
def J_bitCount (q : St) (v0 : Int32) : Option (Int32) :=
  lt_ (v0 - (((v0).toUInt32 >>> (((1 : Int32)).toUInt32 &&& Int32.toUInt32 31)).toInt32 &&& (1431655765 : Int32))) fun w1 =>
  lt_ ((w1 &&& (858993459 : Int32)) + (((w1).toUInt32 >>> (((2 : Int32)).toUInt32 &&& Int32.toUInt32 31)).toInt32 &&& (858993459 : Int32))) fun w2 =>
  lt_ ((w2 + ((w2).toUInt32 >>> (((4 : Int32)).toUInt32 &&& Int32.toUInt32 31)).toInt32) &&& (252645135 : Int32)) fun w3 =>
  lt_ (w3 + ((w3).toUInt32 >>> (((8 : Int32)).toUInt32 &&& Int32.toUInt32 31)).toInt32) fun w4 =>
  lt_ (w4 + ((w4).toUInt32 >>> (((16 : Int32)).toUInt32 &&& Int32.toUInt32 31)).toInt32) fun w5 =>
  some (w5 &&& (63 : Int32))
theorem w_J_bitCount {X : Cv} (C : Cx X cJ6_bitCount_0f7a4 RJ6 rmJ_bitCount 1) (S : True) {q : St} {z : Int32} (hret : RokI X cJ6_bitCount_0f7a4 .int z q) (v0 : Int32) (h : J_bitCount q v0 = some z) : At X 0 [(0, .int v0)] [] q := by
  unfold J_bitCount at h
  refine a_iload_n C 0 rfl rfl dJ6_bitCount_0f7a4_0 ?_
  refine a_iload_n C 0 rfl rfl dJ6_bitCount_0f7a4_1 ?_
  refine a_iconst (v := 1) C (by decide) dJ6_bitCount_0f7a4_2 ?_
  refine a_iushr C dJ6_bitCount_0f7a4_3 ?_
  refine a_ldcw (v := 1431655765) C (tg 1067 (by decide +kernel) rfl) dJ6_bitCount_0f7a4_4 ?_
  refine a_iand C dJ6_bitCount_0f7a4_7 ?_
  refine a_isub C dJ6_bitCount_0f7a4_8 ?_
  obtain ⟨w1, e_w1, h⟩ := lts h
  refine a_top e_w1 ?_
  refine a_istore_n C [(0, .int w1)] rfl (by decide) rfl dJ6_bitCount_0f7a4_9 ?_
  refine a_iload_n C 0 rfl rfl dJ6_bitCount_0f7a4_10 ?_
  refine a_ldcw (v := 858993459) C (tg 1068 (by decide +kernel) rfl) dJ6_bitCount_0f7a4_11 ?_
  refine a_iand C dJ6_bitCount_0f7a4_14 ?_
  refine a_iload_n C 0 rfl rfl dJ6_bitCount_0f7a4_15 ?_
  refine a_iconst (v := 2) C (by decide) dJ6_bitCount_0f7a4_16 ?_
  refine a_iushr C dJ6_bitCount_0f7a4_17 ?_
  refine a_ldcw (v := 858993459) C (tg 1068 (by decide +kernel) rfl) dJ6_bitCount_0f7a4_18 ?_
  refine a_iand C dJ6_bitCount_0f7a4_21 ?_
  refine a_iadd C dJ6_bitCount_0f7a4_22 ?_
  obtain ⟨w2, e_w2, h⟩ := lts h
  refine a_top e_w2 ?_
  refine a_istore_n C [(0, .int w2)] rfl (by decide) rfl dJ6_bitCount_0f7a4_23 ?_
  refine a_iload_n C 0 rfl rfl dJ6_bitCount_0f7a4_24 ?_
  refine a_iload_n C 0 rfl rfl dJ6_bitCount_0f7a4_25 ?_
  refine a_iconst (v := 4) C (by decide) dJ6_bitCount_0f7a4_26 ?_
  refine a_iushr C dJ6_bitCount_0f7a4_27 ?_
  refine a_iadd C dJ6_bitCount_0f7a4_28 ?_
  refine a_ldcw (v := 252645135) C (tg 1069 (by decide +kernel) rfl) dJ6_bitCount_0f7a4_29 ?_
  refine a_iand C dJ6_bitCount_0f7a4_32 ?_
  obtain ⟨w3, e_w3, h⟩ := lts h
  refine a_top e_w3 ?_
  refine a_istore_n C [(0, .int w3)] rfl (by decide) rfl dJ6_bitCount_0f7a4_33 ?_
  refine a_iload_n C 0 rfl rfl dJ6_bitCount_0f7a4_34 ?_
  refine a_iload_n C 0 rfl rfl dJ6_bitCount_0f7a4_35 ?_
  refine a_bipush (v := 8) C (by decide) dJ6_bitCount_0f7a4_36 ?_
  refine a_iushr C dJ6_bitCount_0f7a4_38 ?_
  refine a_iadd C dJ6_bitCount_0f7a4_39 ?_
  obtain ⟨w4, e_w4, h⟩ := lts h
  refine a_top e_w4 ?_
  refine a_istore_n C [(0, .int w4)] rfl (by decide) rfl dJ6_bitCount_0f7a4_40 ?_
  refine a_iload_n C 0 rfl rfl dJ6_bitCount_0f7a4_41 ?_
  refine a_iload_n C 0 rfl rfl dJ6_bitCount_0f7a4_42 ?_
  refine a_bipush (v := 16) C (by decide) dJ6_bitCount_0f7a4_43 ?_
  refine a_iushr C dJ6_bitCount_0f7a4_45 ?_
  refine a_iadd C dJ6_bitCount_0f7a4_46 ?_
  obtain ⟨w5, e_w5, h⟩ := lts h
  refine a_top e_w5 ?_
  refine a_istore_n C [(0, .int w5)] rfl (by decide) rfl dJ6_bitCount_0f7a4_47 ?_
  refine a_iload_n C 0 rfl rfl dJ6_bitCount_0f7a4_48 ?_
  refine a_bipush (v := 63) C (by decide) dJ6_bitCount_0f7a4_49 ?_
  refine a_iand C dJ6_bitCount_0f7a4_51 ?_
  exact a_iretR hret h rfl dJ6_bitCount_0f7a4_52
theorem c_J_bitCount {l : Launch} {D : va_G} {I : ClassId × ClassId × ClassId × ClassId} {ad : Nat → Nat} {Z : State → Prop} {n : Nat} {sh : Sh} {q : St} {v0 : Int32} {z : Int32} (h : J_bitCount q v0 = some z) : Ctr l D I Z n sh ad yJ6_bitCount_0f7a4 cJ6_bitCount_0f7a4 1 (some .int) rmJ_bitCount [.int v0] q (some z) q :=
  ctr_ofI (by decide) (Nat.le_of_ble_eq_true rfl) (fun p e s m args below meth c Q H0 X hX C hret => by subst hX; exact w_J_bitCount C trivial hret _ h)
theorem k_J_bitCount {X : Cv} {cc : ByteArray} {own : String} {rm : Room} {nL1 pc ix : Nat} {lv : List (Nat × Value)} {sk : List Value} {q : St} {v0 z : Int32} (C : Cx X cc own rm nL1) (h : J_bitCount q v0 = some z) (hlk : Cond.methodLink own ix yJ6_bitCount_0f7a4 ∈ lw_tg) (hz : rmJ_bitCount.frames + 1 ≤ rm.frames ∧ 8 + (1 + 11) + rmJ_bitCount.locals ≤ rm.locals) (hr : (sk.map fun v => v.category).sum ≤ 8) (hd : decode cc pc = .ok (.invokestatic ix, 3)) (k : At X (pc + 3) lv (.int z :: sk) q) : At X pc lv (.int v0 :: sk) q := a_callXi (as := [.int v0]) C (c_J_bitCount h) (tg 1066 (by decide +kernel) rfl) (tg 1065 (by decide +kernel) rfl) (tg 134 (by decide +kernel) rfl) hlk ⟨rfl, rfl, hz.1, hz.2⟩ ⟨by decide, by decide, by show Option.map _ (parseMethodDescriptor yJ6_bitCount_0f7a4.desc) = some 1; decide⟩ hr rfl hd k
abbrev rmJ_fill : Room := { frames := 0, cells := 0, slots := 0, locals := 0 }
def J_fill_B5 (len : Nat) (p : Nat) (rec : Int32 → Int32 → Int32 → St → Option (St)) (v1 : Int32) (v2 : Int32) (v3 : Int32) (q : St) : Option (St) :=
  if v3 ≤ v2 then
    some q
  else
    b1 (wr len q p v2 v1) fun q3 =>
    rec v1 (v2 + 1) v3 q3
theorem w_J_fill_B5 {X : Cv} {len p : Nat} (C : Cx X cJ7_fill_53178 RJ7 rmJ_fill 4) (S : (p < nOf X ∧ ∀ f w, shOf X (adOf X) p f w = .inl ((idOf X).1, len, .inl f))) {z : St} (hret : RokV X cJ7_fill_53178 z) (rec : Int32 → Int32 → Int32 → St → Option (St)) (hrec : ∀ (v1 : Int32) (v2 : Int32) (v3 : Int32) (q : St), rec v1 v2 v3 q = some z → At X 5 [(0, .ref (adOf X p)), (1, .int v1), (2, .int v2), (3, .int v3)] [] q) (v1 : Int32) (v2 : Int32) (v3 : Int32) (q : St) (h : J_fill_B5 len p rec v1 v2 v3 q = some z) : At X 5 [(0, .ref (adOf X p)), (1, .int v1), (2, .int v2), (3, .int v3)] [] q := by
  unfold J_fill_B5 at h
  refine a_iload_n C 2 rfl rfl dJ7_fill_53178_5 ?_
  refine a_iload_n C 3 rfl rfl dJ7_fill_53178_6 ?_
  refine a_icmp_ge C 20 (by decide) dJ7_fill_53178_7 (fun c2 => ?_) (fun c2 => ?_)
  · replace h := ifp c2 h
    exact a_vret hret h dJ7_fill_53178_20
  · replace h := ifn c2 h
    refine a_aload_n C 0 rfl rfl dJ7_fill_53178_10 ?_
    refine a_iload_n C 2 rfl rfl dJ7_fill_53178_11 ?_
    refine a_iload_n C 1 rfl rfl dJ7_fill_53178_12 ?_
    obtain ⟨q3, e_q3, h⟩ := b1s h
    refine a_iast C S.1 S.2 e_q3 dJ7_fill_53178_13 ?_
    refine a_iinc (v := (v2 + 1)) C [(2, .int (v2 + 1)), (0, .ref (adOf X p)), (1, .int v1), (3, .int v3)] 2 rfl (congrArg (HAdd.hAdd v2) (by decide : Int32.ofInt (1) = (1 : Int32))) (by decide) rfl dJ7_fill_53178_14 ?_
    refine a_goto C 5 (by decide) dJ7_fill_53178_17 ?_
    exact At.sub [1, 2, 0, 3] rfl (hrec _ _ _ _ h)
def J_fill_L5 (len : Nat) (p : Nat) : Nat → Int32 → Int32 → Int32 → St → Option (St)
  | 0, _, _, _, _ => none
  | n + 1, v1, v2, v3, q => J_fill_B5 len p (J_fill_L5 len p n) v1 v2 v3 q
theorem w_J_fill_L5 {X : Cv} {len p : Nat} (C : Cx X cJ7_fill_53178 RJ7 rmJ_fill 4) (S : (p < nOf X ∧ ∀ f w, shOf X (adOf X) p f w = .inl ((idOf X).1, len, .inl f))) {z : St} (hret : RokV X cJ7_fill_53178 z) (n : Nat) : ∀ (v1 : Int32) (v2 : Int32) (v3 : Int32) (q : St), J_fill_L5 len p n v1 v2 v3 q = some z → At X 5 [(0, .ref (adOf X p)), (1, .int v1), (2, .int v2), (3, .int v3)] [] q := by
  induction n with
  | zero => intro v1 v2 v3 q h; cases h
  | succ n ih => intro v1 v2 v3 q h; exact w_J_fill_B5 C S hret _ ih v1 v2 v3 q h
def J_fill (len : Nat) (p : Nat) (q : St) (v1 : Int32) : Option (St) :=
  lt_ (Int32.ofNat len) fun w1 =>
  J_fill_L5 len p FU v1 (0 : Int32) w1 q
theorem w_J_fill {X : Cv} {len p : Nat} (C : Cx X cJ7_fill_53178 RJ7 rmJ_fill 4) (S : (p < nOf X ∧ ∀ f w, shOf X (adOf X) p f w = .inl ((idOf X).1, len, .inl f))) {z : St} (hret : RokV X cJ7_fill_53178 z) (v1 : Int32) (q : St) (h : J_fill len p q v1 = some z) : At X 0 [(0, .ref (adOf X p)), (1, .int v1)] [] q := by
  unfold J_fill at h
  refine a_iconst (v := 0) C (by decide) dJ7_fill_53178_0 ?_
  refine a_istore_n C [(2, .int (0 : Int32)), (0, .ref (adOf X p)), (1, .int v1)] rfl (by decide) rfl dJ7_fill_53178_1 ?_
  refine a_aload_n C 1 rfl rfl dJ7_fill_53178_2 ?_
  refine a_alen (kp := p) (f := q.1 p) (ty := .int) C 0 S.1 (S.2 _ _) rfl rfl dJ7_fill_53178_3 ?_
  obtain ⟨w1, e_w1, h⟩ := lts h
  refine a_top e_w1 ?_
  refine a_istore_n C [(3, .int w1), (2, .int (0 : Int32)), (0, .ref (adOf X p)), (1, .int v1)] rfl (by decide) rfl dJ7_fill_53178_4 ?_
  exact At.sub [2, 3, 1, 0] rfl (w_J_fill_L5 C S hret _ _ _ _ _ h)
theorem c_J_fill {l : Launch} {D : va_G} {I : ClassId × ClassId × ClassId × ClassId} {ad : Nat → Nat} {Z : State → Prop} {n : Nat} {sh : Sh} {len p : Nat} (hS : p < n ∧ ∀ f w, sh ad p f w = .inl (I.1, len, .inl f)) {q : St} {v1 : Int32} {z : St} (h : J_fill len p q v1 = some z) : Ctr l D I Z n sh ad yJ7_fill_53178 cJ7_fill_53178 4 none rmJ_fill [.ref (ad p), .int v1] q none z :=
  ctr_ofV (by decide) (Nat.le_of_ble_eq_true rfl) (fun p e s m args below meth c Q H0 X hX C hret => by subst hX; exact w_J_fill C hS hret _ _ h)
theorem k_J_fill {X : Cv} {cc : ByteArray} {own : String} {rm : Room} {nL1 pc ix : Nat} {lv : List (Nat × Value)} {sk : List Value} {q : St} {v1 : Int32} {q2 : St} {len p : Nat} (C : Cx X cc own rm nL1) (hp : p < nOf X) (he : ∀ f w, shOf X (adOf X) p f w = .inl ((idOf X).1, len, .inl f)) (h : J_fill len p q v1 = some q2) (hlk : Cond.methodLink own ix yJ7_fill_53178 ∈ lw_tg) (hz : rmJ_fill.frames + 1 ≤ rm.frames ∧ 8 + (4 + 11) + rmJ_fill.locals ≤ rm.locals) (hr : (sk.map fun v => v.category).sum ≤ 8) (hd : decode cc pc = .ok (.invokestatic ix, 3)) (k : At X (pc + 3) lv sk q2) : At X pc lv (.int v1 :: .ref (adOf X p) :: sk) q := a_callXv (as := [.ref (adOf X p), .int v1]) C (c_J_fill ⟨hp, he⟩ h) (tg 484 (by decide +kernel) rfl) (tg 483 (by decide +kernel) rfl) (tg 126 (by decide +kernel) rfl) hlk ⟨rfl, rfl, hz.1, hz.2⟩ ⟨by decide, by decide, by show Option.map _ (parseMethodDescriptor yJ7_fill_53178.desc) = some 2; decide⟩ hr rfl hd k
