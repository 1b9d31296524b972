abbrev rm_Tp_putWord : Room := { frames := 0, cells := 0, slots := 0, locals := 0 }
def Tp_putWord_B3 (rec : Int32 → Int32 → St → Option (St)) (v1 : Int32) (v2 : Int32) (q : St) : Option (St) :=
  if v2 < (0 : Int32) then
    some q
  else
    if (1400 : Int32) ≤ (gt q 153 1) then
      rec v1 (v2 + -8) q
    else
      b1 (wr 1400 q 154 (gt q 153 1) (((v1).toUInt32 >>> ((v2).toUInt32 &&& Int32.toUInt32 31)).toInt32 &&& (255 : Int32))) fun q3 =>
      lt_ (st q3 153 1 ((gt q3 153 1) + (1 : Int32))) fun q4 =>
      rec v1 (v2 + -8) q4
theorem w_Tp_putWord_B3 {X : Cv} (C : Cx X cX8_putWord RX8 rm_Tp_putWord 3) (S : IsK X) {z : St} (hret : RokV X cX8_putWord z) (rec : Int32 → Int32 → St → Option (St)) (hrec : ∀ (v1 : Int32) (v2 : Int32) (q : St), rec v1 v2 q = some z → At X 3 [(0, .ref (adOf X 153)), (1, .int v1), (2, .int v2)] [] q) (v1 : Int32) (v2 : Int32) (q : St) (h : Tp_putWord_B3 rec v1 v2 q = some z) : At X 3 [(0, .ref (adOf X 153)), (1, .int v1), (2, .int v2)] [] q := by
  unfold Tp_putWord_B3 at h
  refine a_iload_n C 2 rfl rfl dX8_putWord_3 ?_
  refine a_if_lt C 49 (by decide) dX8_putWord_4 (fun c1 => ?_) (fun c1 => ?_)
  · replace h := ifp c1 h
    exact a_vret hret h dX8_putWord_49
  · replace h := ifn c1 h
    refine a_aload_n C 0 rfl rfl dX8_putWord_7 ?_
    refine gK_8_15 C S dX8_putWord_8 ?_
    refine a_sipush (v := 1400) C (by decide) dX8_putWord_11 ?_
    refine a_icmp_ge C 43 (by decide) dX8_putWord_14 (fun c2 => ?_) (fun c2 => ?_)
    · replace h := ifp c2 h
      refine a_iinc (v := (v2 + -8)) C [(2, .int (v2 + -8)), (0, .ref (adOf X 153)), (1, .int v1)] 2 rfl (congrArg (HAdd.hAdd v2) (by decide : Int32.ofInt (-8) = (-8 : Int32))) (by decide) rfl dX8_putWord_43 ?_
      refine a_goto C 3 (by decide) dX8_putWord_46 ?_
      exact At.sub [1, 2, 0] rfl (hrec _ _ _ h)
    · replace h := ifn c2 h
      refine a_aload_n C 0 rfl rfl dX8_putWord_17 ?_
      refine gK_8_9 C S dX8_putWord_18 ?_
      refine a_aload_n C 0 rfl rfl dX8_putWord_21 ?_
      refine gK_8_15 C S dX8_putWord_22 ?_
      refine a_iload_n C 1 rfl rfl dX8_putWord_25 ?_
      refine a_iload_n C 2 rfl rfl dX8_putWord_26 ?_
      refine a_iushr C dX8_putWord_27 ?_
      refine a_sipush (v := 255) C (by decide) dX8_putWord_28 ?_
      refine a_iand C dX8_putWord_31 ?_
      obtain ⟨q3, e_q3, h⟩ := b1s h
      refine sK_154 C S e_q3 dX8_putWord_32 ?_
      refine a_aload_n C 0 rfl rfl dX8_putWord_33 ?_
      refine a_dup C rfl dX8_putWord_34 ?_
      refine gK_8_15 C S dX8_putWord_35 ?_
      refine a_iconst (v := 1) C (by decide) dX8_putWord_38 ?_
      refine a_iadd C dX8_putWord_39 ?_
      obtain ⟨q4, e_q4, h⟩ := lts h
      refine pK_8_15 C S e_q4 dX8_putWord_40 ?_
      refine a_iinc (v := (v2 + -8)) C [(2, .int (v2 + -8)), (0, .ref (adOf X 153)), (1, .int v1)] 2 rfl (congrArg (HAdd.hAdd v2) (by decide : Int32.ofInt (-8) = (-8 : Int32))) (by decide) rfl dX8_putWord_43 ?_
      refine a_goto C 3 (by decide) dX8_putWord_46 ?_
      exact At.sub [1, 2, 0] rfl (hrec _ _ _ h)
def Tp_putWord_L3 : Nat → Int32 → Int32 → St → Option (St)
  | 0, _, _, _ => none
  | n + 1, v1, v2, q => Tp_putWord_B3 (Tp_putWord_L3 n) v1 v2 q
theorem w_Tp_putWord_L3 {X : Cv} (C : Cx X cX8_putWord RX8 rm_Tp_putWord 3) (S : IsK X) {z : St} (hret : RokV X cX8_putWord z) (n : Nat) : ∀ (v1 : Int32) (v2 : Int32) (q : St), Tp_putWord_L3 n v1 v2 q = some z → At X 3 [(0, .ref (adOf X 153)), (1, .int v1), (2, .int v2)] [] q := by
  induction n with
  | zero => intro v1 v2 q h; cases h
  | succ n ih => intro v1 v2 q h; exact w_Tp_putWord_B3 C S hret _ ih v1 v2 q h
def Tp_putWord (q : St) (v1 : Int32) : Option (St) :=
  Tp_putWord_L3 FU v1 (24 : Int32) q
theorem w_Tp_putWord {X : Cv} (C : Cx X cX8_putWord RX8 rm_Tp_putWord 3) (S : IsK X) {z : St} (hret : RokV X cX8_putWord z) (v1 : Int32) (q : St) (h : Tp_putWord q v1 = some z) : At X 0 [(0, .ref (adOf X 153)), (1, .int v1)] [] q := by
  unfold Tp_putWord at h
  refine a_bipush (v := 24) C (by decide) dX8_putWord_0 ?_
  refine a_istore_n C [(2, .int (24 : Int32)), (0, .ref (adOf X 153)), (1, .int v1)] rfl (by decide) rfl dX8_putWord_2 ?_
  exact At.sub [1, 2, 0] rfl (w_Tp_putWord_L3 C S hret _ _ _ _ h)
theorem c_Tp_putWord {l : Launch} {D : va_G} {I : ClassId × ClassId × ClassId × ClassId} {ad : Nat → Nat} {q : St} {v1 : Int32} {z : St} (h : Tp_putWord q v1 = some z) : Ctr l D I (zK ad) 168 (shK I) ad yX8_putWord cX8_putWord 3 none rm_Tp_putWord [.ref (ad 153), .int v1] q none z :=
  ctr_ofV (by decide) (Nat.le_of_ble_eq_true rfl) (fun p e s m args below meth c Q H0 X hX C hret => by subst hX; exact w_Tp_putWord C ⟨rfl, rfl, rfl⟩ hret _ _ h)
theorem kK_10_109 {X : Cv} {cc : ByteArray} {rm : Room} {nL1 pc : Nat} {lv : List (Nat × Value)} {sk : List Value} {q : St} {v1 : Int32} {q2 : St} (C : Cx X cc RX10 rm nL1) (S : IsK X) (h : Tp_putWord q v1 = some q2) (hz : rm_Tp_putWord.frames + 1 ≤ rm.frames ∧ 8 + (3 + 11) + rm_Tp_putWord.locals ≤ rm.locals) (hr : (sk.map fun v => v.category).sum ≤ 8) (hd : decode cc pc = .ok (.invokevirtual 109, 3)) (k : At X (pc + 3) lv sk q2) : At X pc lv (.int v1 :: .ref (adOf X 153) :: sk) q := a_callVv (as := [.int v1]) C (kp := 153) (kLt S (by decide)) (by rw [S.2.1]; rfl) rfl (by have hh := c_Tp_putWord (l := X.2.1) (D := dOf X) (I := idOf X) (ad := adOf X) h; rw [← S.1, ← S.2.1, ← S.2.2] at hh; exact hh) (gd_V (tg 544 (by decide +kernel) rfl) (tg 545 (by decide +kernel) rfl) (tg 546 (by decide +kernel) rfl) (tg 119 (by decide +kernel) rfl) (tg 547 (by decide +kernel) rfl)) ⟨rfl, rfl, hz.1, hz.2⟩ ⟨by decide, by decide, by show Option.map _ (parseMethodDescriptor yX8_putWord.desc) = some 1; decide⟩ hr rfl hd k
abbrev rm_K_append : Room := { frames := 1, cells := 0, slots := 0, locals := 22 }
def K_append (q : St) (v1 : Int32) (v2 : Int32) (v3 : Int32) (v4 : Int32) (v5 : Int32) : Option (Int32 × St) :=
  if ((gt q 153 1) + (20 : Int32)) ≤ (1400 : Int32) then
    b1 (Tp_putWord q v1) fun q2 =>
    b1 (Tp_putWord q2 v2) fun q3 =>
    b1 (Tp_putWord q3 v3) fun q4 =>
    b1 (Tp_putWord q4 v4) fun q5 =>
    b1 (Tp_putWord q5 v5) fun q6 =>
    some ((gt q6 153 1), q6)
  else
    some ((-1 : Int32), q)
theorem w_K_append {X : Cv} (C : Cx X cX10_append RX10 rm_K_append 6) (S : IsK X) {z : Int32 × St} (hret : RokI X cX10_append .int z.1 z.2) (v1 : Int32) (v2 : Int32) (v3 : Int32) (v4 : Int32) (v5 : Int32) (q : St) (h : K_append q v1 v2 v3 v4 v5 = some z) : At X 0 [(0, .ref (adOf X 0)), (1, .int v1), (2, .int v2), (3, .int v3), (4, .int v4), (5, .int v5)] [] q := by
  unfold K_append at h
  refine a_aload_n C 0 rfl rfl dX10_append_0 ?_
  refine gK_10_39 C S dX10_append_1 ?_
  refine gK_10_106 C S dX10_append_4 ?_
  refine a_bipush (v := 20) C (by decide) dX10_append_7 ?_
  refine a_iadd C dX10_append_9 ?_
  refine a_sipush (v := 1400) C (by decide) dX10_append_10 ?_
  refine a_icmp_le C 18 (by decide) dX10_append_13 (fun c1 => ?_) (fun c1 => ?_)
  · replace h := ifp c1 h
    refine a_aload_n C 0 rfl rfl dX10_append_18 ?_
    refine gK_10_39 C S dX10_append_19 ?_
    refine a_iload_n C 1 rfl rfl dX10_append_22 ?_
    obtain ⟨q2, e_q2, h⟩ := b1s h
    refine kK_10_109 C S e_q2 ⟨(Nat.le_of_ble_eq_true rfl), (Nat.le_of_ble_eq_true rfl)⟩ (Nat.le_of_ble_eq_true rfl) dX10_append_23 ?_
    refine a_aload_n C 0 rfl rfl dX10_append_26 ?_
    refine gK_10_39 C S dX10_append_27 ?_
    refine a_iload_n C 2 rfl rfl dX10_append_30 ?_
    obtain ⟨q3, e_q3, h⟩ := b1s h
    refine kK_10_109 C S e_q3 ⟨(Nat.le_of_ble_eq_true rfl), (Nat.le_of_ble_eq_true rfl)⟩ (Nat.le_of_ble_eq_true rfl) dX10_append_31 ?_
    refine a_aload_n C 0 rfl rfl dX10_append_34 ?_
    refine gK_10_39 C S dX10_append_35 ?_
    refine a_iload_n C 3 rfl rfl dX10_append_38 ?_
    obtain ⟨q4, e_q4, h⟩ := b1s h
    refine kK_10_109 C S e_q4 ⟨(Nat.le_of_ble_eq_true rfl), (Nat.le_of_ble_eq_true rfl)⟩ (Nat.le_of_ble_eq_true rfl) dX10_append_39 ?_
    refine a_aload_n C 0 rfl rfl dX10_append_42 ?_
    refine gK_10_39 C S dX10_append_43 ?_
    refine a_iload C 4 rfl dX10_append_46 ?_
    obtain ⟨q5, e_q5, h⟩ := b1s h
    refine kK_10_109 C S e_q5 ⟨(Nat.le_of_ble_eq_true rfl), (Nat.le_of_ble_eq_true rfl)⟩ (Nat.le_of_ble_eq_true rfl) dX10_append_48 ?_
    refine a_aload_n C 0 rfl rfl dX10_append_51 ?_
    refine gK_10_39 C S dX10_append_52 ?_
    refine a_iload C 5 rfl dX10_append_55 ?_
    obtain ⟨q6, e_q6, h⟩ := b1s h
    refine kK_10_109 C S e_q6 ⟨(Nat.le_of_ble_eq_true rfl), (Nat.le_of_ble_eq_true rfl)⟩ (Nat.le_of_ble_eq_true rfl) dX10_append_57 ?_
    refine a_aload_n C 0 rfl rfl dX10_append_60 ?_
    refine gK_10_39 C S dX10_append_61 ?_
    refine gK_10_106 C S dX10_append_64 ?_
    exact a_iret hret h rfl dX10_append_67
  · replace h := ifn c1 h
    refine a_iconst (v := -1) C (by decide) dX10_append_16 ?_
    exact a_iret hret h rfl dX10_append_17
theorem c_K_append {l : Launch} {D : va_G} {I : ClassId × ClassId × ClassId × ClassId} {ad : Nat → Nat} {q : St} {v1 : Int32} {v2 : Int32} {v3 : Int32} {v4 : Int32} {v5 : Int32} {z : Int32 × St} (h : K_append q v1 v2 v3 v4 v5 = some z) : Ctr l D I (zK ad) 168 (shK I) ad yX10_append cX10_append 6 (some .int) rm_K_append [.ref (ad 0), .int v1, .int v2, .int v3, .int v4, .int v5] q (some z.1) z.2 :=
  ctr_ofI (by decide) (Nat.le_of_ble_eq_true rfl) (fun p e s m args below meth c Q H0 X hX C hret => by subst hX; exact w_K_append C ⟨rfl, rfl, rfl⟩ hret _ _ _ _ _ _ h)
abbrev rm_K_truncate : Room := { frames := 0, cells := 0, slots := 0, locals := 0 }
def K_truncate (q : St) (v1 : Int32) : Option (Int32 × St) :=
  if v1 < (0 : Int32) then
    some ((-1 : Int32), q)
  else
    if v1 ≤ (gt q 153 1) then
      lt_ (st q 153 1 ((gt q 153 1) - v1)) fun q3 =>
      some ((gt q3 153 1), q3)
    else
      some ((-1 : Int32), q)
theorem w_K_truncate {X : Cv} (C : Cx X cX10_truncate RX10 rm_K_truncate 2) (S : IsK X) {z : Int32 × St} (hret : RokI X cX10_truncate .int z.1 z.2) (v1 : Int32) (q : St) (h : K_truncate q v1 = some z) : At X 0 [(0, .ref (adOf X 0)), (1, .int v1)] [] q := by
  unfold K_truncate at h
  refine a_iload_n C 1 rfl rfl dX10_truncate_0 ?_
  refine a_if_lt C 15 (by decide) dX10_truncate_1 (fun c1 => ?_) (fun c1 => ?_)
  · replace h := ifp c1 h
    refine a_iconst (v := -1) C (by decide) dX10_truncate_15 ?_
    exact a_iret hret h rfl dX10_truncate_16
  · replace h := ifn c1 h
    refine a_iload_n C 1 rfl rfl dX10_truncate_4 ?_
    refine a_aload_n C 0 rfl rfl dX10_truncate_5 ?_
    refine gK_10_39 C S dX10_truncate_6 ?_
    refine gK_10_106 C S dX10_truncate_9 ?_
    refine a_icmp_le C 17 (by decide) dX10_truncate_12 (fun c2 => ?_) (fun c2 => ?_)
    · replace h := ifp c2 h
      refine a_aload_n C 0 rfl rfl dX10_truncate_17 ?_
      refine gK_10_39 C S dX10_truncate_18 ?_
      refine a_dup C rfl dX10_truncate_21 ?_
      refine gK_10_106 C S dX10_truncate_22 ?_
      refine a_iload_n C 1 rfl rfl dX10_truncate_25 ?_
      refine a_isub C dX10_truncate_26 ?_
      obtain ⟨q3, e_q3, h⟩ := lts h
      refine pK_10_106 C S e_q3 dX10_truncate_27 ?_
      refine a_aload_n C 0 rfl rfl dX10_truncate_30 ?_
      refine gK_10_39 C S dX10_truncate_31 ?_
      refine gK_10_106 C S dX10_truncate_34 ?_
      exact a_iret hret h rfl dX10_truncate_37
    · replace h := ifn c2 h
      refine a_iconst (v := -1) C (by decide) dX10_truncate_15 ?_
      exact a_iret hret h rfl dX10_truncate_16
theorem c_K_truncate {l : Launch} {D : va_G} {I : ClassId × ClassId × ClassId × ClassId} {ad : Nat → Nat} {q : St} {v1 : Int32} {z : Int32 × St} (h : K_truncate q v1 = some z) : Ctr l D I (zK ad) 168 (shK I) ad yX10_truncate cX10_truncate 2 (some .int) rm_K_truncate [.ref (ad 0), .int v1] q (some z.1) z.2 :=
  ctr_ofI (by decide) (Nat.le_of_ble_eq_true rfl) (fun p e s m args below meth c Q H0 X hX C hret => by subst hX; exact w_K_truncate C ⟨rfl, rfl, rfl⟩ hret _ _ h)
abbrev rm_Su_clear : Room := { frames := 1, cells := 0, slots := 0, locals := 50 }
def Su_clear (o : Nat) (q : St) : Option (St) :=
  lt_ (st q o 0 (0 : Int32)) fun q1 =>
  lt_ (st q1 o 1 (0 : Int32)) fun q2 =>
  lt_ (st q2 o 2 (0 : Int32)) fun q3 =>
  lt_ (st q3 o 3 (0 : Int32)) fun q4 =>
  b1 (J_fill 256 (o + 5) q4 (-1 : Int32)) fun q5 =>
  b1 (J_fill 16 (o + 6) q5 (0 : Int32)) fun q6 =>
  some q6
theorem w_Su_clear {X : Cv} (C : Cx X cX4_clear RX4 rm_Su_clear 1) (S : IsK X) {o : Nat} (hO : IsSu o) {z : St} (hret : RokV X cX4_clear z) (q : St) (h : Su_clear o q = some z) : At X 0 [(0, .ref (adOf X o))] [] q := by
  unfold Su_clear at h
  refine a_aload_n C 0 rfl rfl dX4_clear_0 ?_
  refine a_iconst (v := 0) C (by decide) dX4_clear_1 ?_
  obtain ⟨q1, e_q1, h⟩ := lts h
  refine pK_4_36 C S hO e_q1 dX4_clear_2 ?_
  refine a_aload_n C 0 rfl rfl dX4_clear_5 ?_
  refine a_iconst (v := 0) C (by decide) dX4_clear_6 ?_
  obtain ⟨q2, e_q2, h⟩ := lts h
  refine pK_4_40 C S hO e_q2 dX4_clear_7 ?_
  refine a_aload_n C 0 rfl rfl dX4_clear_10 ?_
  refine a_iconst (v := 0) C (by decide) dX4_clear_11 ?_
  obtain ⟨q3, e_q3, h⟩ := lts h
  refine pK_4_43 C S hO e_q3 dX4_clear_12 ?_
  refine a_aload_n C 0 rfl rfl dX4_clear_15 ?_
  refine a_iconst (v := 0) C (by decide) dX4_clear_16 ?_
  obtain ⟨q4, e_q4, h⟩ := lts h
  refine pK_4_46 C S hO e_q4 dX4_clear_17 ?_
  refine a_aload_n C 0 rfl rfl dX4_clear_20 ?_
  refine gK_4_24 C S hO dX4_clear_21 ?_
  refine a_iconst (v := -1) C (by decide) dX4_clear_24 ?_
  obtain ⟨q5, e_q5, h⟩ := b1s h
  refine k_J_fill C (p := (o + 5)) (kLt S (by have hS2 : IsSu o := hO; unfold IsSu at hS2; omega)) (by rw [S.2.1]; intro f w; exact shK_su (o := o) (j := 5) hO (by decide)) e_q5 (tg 482 (by decide +kernel) rfl) ⟨(Nat.le_of_ble_eq_true rfl), (Nat.le_of_ble_eq_true rfl)⟩ (Nat.le_of_ble_eq_true rfl) dX4_clear_25 ?_
  refine a_aload_n C 0 rfl rfl dX4_clear_28 ?_
  refine gK_4_27 C S hO dX4_clear_29 ?_
  refine a_iconst (v := 0) C (by decide) dX4_clear_32 ?_
  obtain ⟨q6, e_q6, h⟩ := b1s h
  refine k_J_fill C (p := (o + 6)) (kLt S (by have hS2 : IsSu o := hO; unfold IsSu at hS2; omega)) (by rw [S.2.1]; intro f w; exact shK_su (o := o) (j := 6) hO (by decide)) e_q6 (tg 482 (by decide +kernel) rfl) ⟨(Nat.le_of_ble_eq_true rfl), (Nat.le_of_ble_eq_true rfl)⟩ (Nat.le_of_ble_eq_true rfl) dX4_clear_33 ?_
  exact a_vret hret h dX4_clear_36
theorem c_Su_clear {l : Launch} {D : va_G} {I : ClassId × ClassId × ClassId × ClassId} {ad : Nat → Nat} {o : Nat} (hO : IsSu o) {q : St} {z : St} (h : Su_clear o q = some z) : Ctr l D I (zK ad) 168 (shK I) ad yX4_clear cX4_clear 1 none rm_Su_clear [.ref (ad o)] q none z :=
  ctr_ofV (by decide) (Nat.le_of_ble_eq_true rfl) (fun p e s m args below meth c Q H0 X hX C hret => by subst hX; exact w_Su_clear C ⟨rfl, rfl, rfl⟩ hO hret _ h)
theorem kK_4_55 {X : Cv} {cc : ByteArray} {rm : Room} {nL1 pc : Nat} {lv : List (Nat × Value)} {sk : List Value} {q : St} {q2 : St} (C : Cx X cc RX4 rm nL1) (S : IsK X) {o : Nat} (hO : IsSu o) (h : Su_clear o q = some q2) (hz : rm_Su_clear.frames + 1 ≤ rm.frames ∧ 8 + (1 + 11) + rm_Su_clear.locals ≤ rm.locals) (hr : (sk.map fun v => v.category).sum ≤ 8) (hd : decode cc pc = .ok (.invokevirtual 55, 3)) (k : At X (pc + 3) lv sk q2) : At X pc lv (.ref (adOf X o) :: sk) q := a_callVv (as := []) C (kp := o) (kLt S (by have hS2 : IsSu o := hO; unfold IsSu at hS2; omega)) (by rw [S.2.1]; exact shK_su (o := o) (j := 0) hO (by decide)) rfl (by have hh := c_Su_clear (l := X.2.1) (D := dOf X) (I := idOf X) (ad := adOf X) hO h; rw [← S.1, ← S.2.1, ← S.2.2] at hh; exact hh) (gd_V (tg 478 (by decide +kernel) rfl) (tg 479 (by decide +kernel) rfl) (tg 480 (by decide +kernel) rfl) (tg 116 (by decide +kernel) rfl) (tg 481 (by decide +kernel) rfl)) ⟨rfl, rfl, hz.1, hz.2⟩ ⟨by decide, by decide, by show Option.map _ (parseMethodDescriptor yX4_clear.desc) = some 0; decide⟩ hr rfl hd k
theorem kK_5_19 {X : Cv} {cc : ByteArray} {rm : Room} {nL1 pc : Nat} {lv : List (Nat × Value)} {sk : List Value} {q : St} {q2 : St} (C : Cx X cc RX5 rm nL1) (S : IsK X) {o : Nat} (hO : IsSu o) (h : Su_clear o q = some q2) (hz : rm_Su_clear.frames + 1 ≤ rm.frames ∧ 8 + (1 + 11) + rm_Su_clear.locals ≤ rm.locals) (hr : (sk.map fun v => v.category).sum ≤ 8) (hd : decode cc pc = .ok (.invokevirtual 19, 3)) (k : At X (pc + 3) lv sk q2) : At X pc lv (.ref (adOf X o) :: sk) q := a_callVv (as := []) C (kp := o) (kLt S (by have hS2 : IsSu o := hO; unfold IsSu at hS2; omega)) (by rw [S.2.1]; exact shK_su (o := o) (j := 0) hO (by decide)) rfl (by have hh := c_Su_clear (l := X.2.1) (D := dOf X) (I := idOf X) (ad := adOf X) hO h; rw [← S.1, ← S.2.1, ← S.2.2] at hh; exact hh) (gd_V (tg 560 (by decide +kernel) rfl) (tg 479 (by decide +kernel) rfl) (tg 480 (by decide +kernel) rfl) (tg 116 (by decide +kernel) rfl) (tg 481 (by decide +kernel) rfl)) ⟨rfl, rfl, hz.1, hz.2⟩ ⟨by decide, by decide, by show Option.map _ (parseMethodDescriptor yX4_clear.desc) = some 0; decide⟩ hr rfl hd k
abbrev rm_Tp_byteAt : Room := { frames := 0, cells := 0, slots := 0, locals := 0 }
def Tp_byteAt (q : St) (v1 : Int32) : Option (Int32) :=
  if v1 < (0 : Int32) then
    some (-1 : Int32)
  else
    if (gt q 153 1) ≤ v1 then
      some (-1 : Int32)
    else
      b1 (rd 1400 q 154 v1) fun x3 =>
      some x3
theorem w_Tp_byteAt {X : Cv} (C : Cx X cX8_byteAt RX8 rm_Tp_byteAt 2) (S : IsK X) {q : St} {z : Int32} (hret : RokI X cX8_byteAt .int z q) (v1 : Int32) (h : Tp_byteAt q v1 = some z) : At X 0 [(0, .ref (adOf X 153)), (1, .int v1)] [] q := by
  unfold Tp_byteAt at h
  refine a_iload_n C 1 rfl rfl dX8_byteAt_0 ?_
  refine a_if_lt C 21 (by decide) dX8_byteAt_1 (fun c1 => ?_) (fun c1 => ?_)
  · replace h := ifp c1 h
    refine a_iconst (v := -1) C (by decide) dX8_byteAt_21 ?_
    exact a_iretR hret h rfl dX8_byteAt_22
  · replace h := ifn c1 h
    refine a_iload_n C 1 rfl rfl dX8_byteAt_4 ?_
    refine a_aload_n C 0 rfl rfl dX8_byteAt_5 ?_
    refine gK_8_15 C S dX8_byteAt_6 ?_
    refine a_icmp_ge C 21 (by decide) dX8_byteAt_9 (fun c2 => ?_) (fun c2 => ?_)
    · replace h := ifp c2 h
      refine a_iconst (v := -1) C (by decide) dX8_byteAt_21 ?_
      exact a_iretR hret h rfl dX8_byteAt_22
    · replace h := ifn c2 h
      refine a_aload_n C 0 rfl rfl dX8_byteAt_12 ?_
      refine gK_8_9 C S dX8_byteAt_13 ?_
      refine a_iload_n C 1 rfl rfl dX8_byteAt_16 ?_
      obtain ⟨x3, e_x3, h⟩ := b1s h
      refine lK_154 C S e_x3 dX8_byteAt_17 ?_
      refine a_goto C 22 (by decide) dX8_byteAt_18 ?_
      exact a_iretR hret h rfl dX8_byteAt_22
theorem c_Tp_byteAt {l : Launch} {D : va_G} {I : ClassId × ClassId × ClassId × ClassId} {ad : Nat → Nat} {q : St} {v1 : Int32} {z : Int32} (h : Tp_byteAt q v1 = some z) : Ctr l D I (zK ad) 168 (shK I) ad yX8_byteAt cX8_byteAt 2 (some .int) rm_Tp_byteAt [.ref (ad 153), .int v1] q (some z) q :=
  ctr_ofI (by decide) (Nat.le_of_ble_eq_true rfl) (fun p e s m args below meth c Q H0 X hX C hret => by subst hX; exact w_Tp_byteAt C ⟨rfl, rfl, rfl⟩ hret _ h)
theorem kK_5_134 {X : Cv} {cc : ByteArray} {rm : Room} {nL1 pc : Nat} {lv : List (Nat × Value)} {sk : List Value} {q : St} {v1 : Int32} {z : Int32} (C : Cx X cc RX5 rm nL1) (S : IsK X) (h : Tp_byteAt q v1 = some z) (hz : rm_Tp_byteAt.frames + 1 ≤ rm.frames ∧ 8 + (2 + 11) + rm_Tp_byteAt.locals ≤ rm.locals) (hr : (sk.map fun v => v.category).sum ≤ 8) (hd : decode cc pc = .ok (.invokevirtual 134, 3)) (k : At X (pc + 3) lv (.int z :: sk) q) : At X pc lv (.int v1 :: .ref (adOf X 153) :: sk) q := a_callVi (as := [.int v1]) C (kp := 153) (kLt S (by decide)) (by rw [S.2.1]; rfl) rfl (by have hh := c_Tp_byteAt (l := X.2.1) (D := dOf X) (I := idOf X) (ad := adOf X) h; rw [← S.1, ← S.2.1, ← S.2.2] at hh; exact hh) (gd_V (tg 565 (by decide +kernel) rfl) (tg 566 (by decide +kernel) rfl) (tg 567 (by decide +kernel) rfl) (tg 119 (by decide +kernel) rfl) (tg 568 (by decide +kernel) rfl)) ⟨rfl, rfl, hz.1, hz.2⟩ ⟨by decide, by decide, by show Option.map _ (parseMethodDescriptor yX8_byteAt.desc) = some 1; decide⟩ hr rfl hd k
abbrev rm_Rd_isSpace : Room := { frames := 0, cells := 0, slots := 0, locals := 0 }
def Rd_isSpace (q : St) (v0 : Int32) : Option (Int32) :=
  if v0 = (32 : Int32) then
    some (1 : Int32)
  else
    if v0 = (10 : Int32) then
      some (1 : Int32)
    else
      some (0 : Int32)
theorem w_Rd_isSpace {X : Cv} (C : Cx X cX5_isSpace RX5 rm_Rd_isSpace 1) (S : IsK X) {q : St} {z : Int32} (hret : RokI X cX5_isSpace .boolean z q) (v0 : Int32) (h : Rd_isSpace q v0 = some z) : At X 0 [(0, .int v0)] [] q := by
  unfold Rd_isSpace at h
  refine a_iload_n C 0 rfl rfl dX5_isSpace_0 ?_
  refine a_bipush (v := 32) C (by decide) dX5_isSpace_1 ?_
  refine a_icmp_eq C 12 (by decide) dX5_isSpace_3 (fun c1 => ?_) (fun c1 => ?_)
  · replace h := ifp c1 h
    refine a_iconst (v := 1) C (by decide) dX5_isSpace_12 ?_
    refine a_goto C 17 (by decide) dX5_isSpace_13 ?_
    exact a_iretR hret h rfl dX5_isSpace_17
  · replace h := ifn c1 h
    refine a_iload_n C 0 rfl rfl dX5_isSpace_6 ?_
    refine a_bipush (v := 10) C (by decide) dX5_isSpace_7 ?_
    refine a_icmp_ne C 16 (by decide) dX5_isSpace_9 (fun c2 => ?_) (fun c2 => ?_)
    · replace h := ifn c2 h
      refine a_iconst (v := 0) C (by decide) dX5_isSpace_16 ?_
      exact a_iretR hret h rfl dX5_isSpace_17
    · replace h := ifp c2 h
      refine a_iconst (v := 1) C (by decide) dX5_isSpace_12 ?_
      refine a_goto C 17 (by decide) dX5_isSpace_13 ?_
      exact a_iretR hret h rfl dX5_isSpace_17
theorem c_Rd_isSpace {l : Launch} {D : va_G} {I : ClassId × ClassId × ClassId × ClassId} {ad : Nat → Nat} {q : St} {v0 : Int32} {z : Int32} (h : Rd_isSpace q v0 = some z) : Ctr l D I (zK ad) 168 (shK I) ad yX5_isSpace cX5_isSpace 1 (some .boolean) rm_Rd_isSpace [.int v0] q (some z) q :=
  ctr_ofI (by decide) (Nat.le_of_ble_eq_true rfl) (fun p e s m args below meth c Q H0 X hX C hret => by subst hX; exact w_Rd_isSpace C ⟨rfl, rfl, rfl⟩ hret _ h)
theorem kK_5_146 {X : Cv} {cc : ByteArray} {rm : Room} {nL1 pc : Nat} {lv : List (Nat × Value)} {sk : List Value} {q : St} {v0 : Int32} {z : Int32} (C : Cx X cc RX5 rm nL1) (S : IsK X) (h : Rd_isSpace q v0 = some z) (hz : rm_Rd_isSpace.frames + 1 ≤ rm.frames ∧ 8 + (1 + 11) + rm_Rd_isSpace.locals ≤ rm.locals) (hr : (sk.map fun v => v.category).sum ≤ 8) (hd : decode cc pc = .ok (.invokestatic 146, 3)) (k : At X (pc + 3) lv (.int z :: sk) q) : At X pc lv (.int v0 :: sk) q := a_callXi (as := [.int v0]) C (by have hh := c_Rd_isSpace (l := X.2.1) (D := dOf X) (I := idOf X) (ad := adOf X) h; rw [← S.1, ← S.2.1, ← S.2.2] at hh; exact hh) (tg 571 (by decide +kernel) rfl) (tg 570 (by decide +kernel) rfl) (tg 120 (by decide +kernel) rfl) (tg 569 (by decide +kernel) rfl) ⟨rfl, rfl, hz.1, hz.2⟩ ⟨by decide, by decide, by show Option.map _ (parseMethodDescriptor yX5_isSpace.desc) = some 1; decide⟩ hr rfl hd k
abbrev rm_Rd_isLetter : Room := { frames := 0, cells := 0, slots := 0, locals := 0 }
def Rd_isLetter (q : St) (v0 : Int32) : Option (Int32) :=
  if v0 < (97 : Int32) then
    some (0 : Int32)
  else
    if (122 : Int32) < v0 then
      some (0 : Int32)
    else
      some (1 : Int32)
theorem w_Rd_isLetter {X : Cv} (C : Cx X cX5_isLetter RX5 rm_Rd_isLetter 1) (S : IsK X) {q : St} {z : Int32} (hret : RokI X cX5_isLetter .boolean z q) (v0 : Int32) (h : Rd_isLetter q v0 = some z) : At X 0 [(0, .int v0)] [] q := by
  unfold Rd_isLetter at h
  refine a_iload_n C 0 rfl rfl dX5_isLetter_0 ?_
  refine a_bipush (v := 97) C (by decide) dX5_isLetter_1 ?_
  refine a_icmp_lt C 16 (by decide) dX5_isLetter_3 (fun c1 => ?_) (fun c1 => ?_)
  · replace h := ifp c1 h
    refine a_iconst (v := 0) C (by decide) dX5_isLetter_16 ?_
    exact a_iretR hret h rfl dX5_isLetter_17
  · replace h := ifn c1 h
    refine a_iload_n C 0 rfl rfl dX5_isLetter_6 ?_
    refine a_bipush (v := 122) C (by decide) dX5_isLetter_7 ?_
    refine a_icmp_gt C 16 (by decide) dX5_isLetter_9 (fun c2 => ?_) (fun c2 => ?_)
    · replace h := ifp c2 h
      refine a_iconst (v := 0) C (by decide) dX5_isLetter_16 ?_
      exact a_iretR hret h rfl dX5_isLetter_17
    · replace h := ifn c2 h
      refine a_iconst (v := 1) C (by decide) dX5_isLetter_12 ?_
      refine a_goto C 17 (by decide) dX5_isLetter_13 ?_
      exact a_iretR hret h rfl dX5_isLetter_17
theorem c_Rd_isLetter {l : Launch} {D : va_G} {I : ClassId × ClassId × ClassId × ClassId} {ad : Nat → Nat} {q : St} {v0 : Int32} {z : Int32} (h : Rd_isLetter q v0 = some z) : Ctr l D I (zK ad) 168 (shK I) ad yX5_isLetter cX5_isLetter 1 (some .boolean) rm_Rd_isLetter [.int v0] q (some z) q :=
  ctr_ofI (by decide) (Nat.le_of_ble_eq_true rfl) (fun p e s m args below meth c Q H0 X hX C hret => by subst hX; exact w_Rd_isLetter C ⟨rfl, rfl, rfl⟩ hret _ h)
theorem kK_5_149 {X : Cv} {cc : ByteArray} {rm : Room} {nL1 pc : Nat} {lv : List (Nat × Value)} {sk : List Value} {q : St} {v0 : Int32} {z : Int32} (C : Cx X cc RX5 rm nL1) (S : IsK X) (h : Rd_isLetter q v0 = some z) (hz : rm_Rd_isLetter.frames + 1 ≤ rm.frames ∧ 8 + (1 + 11) + rm_Rd_isLetter.locals ≤ rm.locals) (hr : (sk.map fun v => v.category).sum ≤ 8) (hd : decode cc pc = .ok (.invokestatic 149, 3)) (k : At X (pc + 3) lv (.int z :: sk) q) : At X pc lv (.int v0 :: sk) q := a_callXi (as := [.int v0]) C (by have hh := c_Rd_isLetter (l := X.2.1) (D := dOf X) (I := idOf X) (ad := adOf X) h; rw [← S.1, ← S.2.1, ← S.2.2] at hh; exact hh) (tg 574 (by decide +kernel) rfl) (tg 573 (by decide +kernel) rfl) (tg 120 (by decide +kernel) rfl) (tg 572 (by decide +kernel) rfl) ⟨rfl, rfl, hz.1, hz.2⟩ ⟨by decide, by decide, by show Option.map _ (parseMethodDescriptor yX5_isLetter.desc) = some 1; decide⟩ hr rfl hd k
abbrev rm_Rd_endWord : Room := { frames := 1, cells := 0, slots := 0, locals := 21 }
def Rd_endWord_B5 (rec : Int32 → St → Option (St)) (v1 : Int32) (q : St) : Option (St) :=
  if (gt q 153 1) ≤ v1 then
    some q
  else
    b1 (Tp_byteAt q v1) fun x3 =>
    b1 (Rd_isLetter q x3) fun x4 =>
    if x4 = (0 : Int32) then
      some q
    else
      lt_ (st q 155 4 (v1 + (1 : Int32))) fun q6 =>
      rec (v1 + 1) q6
theorem w_Rd_endWord_B5 {X : Cv} (C : Cx X cX5_endWord RX5 rm_Rd_endWord 2) (S : IsK X) {z : St} (hret : RokV X cX5_endWord z) (rec : Int32 → St → Option (St)) (hrec : ∀ (v1 : Int32) (q : St), rec v1 q = some z → At X 5 [(0, .ref (adOf X 155)), (1, .int v1)] [] q) (v1 : Int32) (q : St) (h : Rd_endWord_B5 rec v1 q = some z) : At X 5 [(0, .ref (adOf X 155)), (1, .int v1)] [] q := by
  unfold Rd_endWord_B5 at h
  refine a_iload_n C 1 rfl rfl dX5_endWord_5 ?_
  refine a_aload_n C 0 rfl rfl dX5_endWord_6 ?_
  refine gK_5_9 C S dX5_endWord_7 ?_
  refine gK_5_144 C S dX5_endWord_10 ?_
  refine a_icmp_ge C 43 (by decide) dX5_endWord_13 (fun c2 => ?_) (fun c2 => ?_)
  · replace h := ifp c2 h
    exact a_vret hret h dX5_endWord_43
  · replace h := ifn c2 h
    refine a_aload_n C 0 rfl rfl dX5_endWord_16 ?_
    refine gK_5_9 C S dX5_endWord_17 ?_
    refine a_iload_n C 1 rfl rfl dX5_endWord_20 ?_
    obtain ⟨x3, e_x3, h⟩ := b1s h
    refine kK_5_134 C S e_x3 ⟨(Nat.le_of_ble_eq_true rfl), (Nat.le_of_ble_eq_true rfl)⟩ (Nat.le_of_ble_eq_true rfl) dX5_endWord_21 ?_
    obtain ⟨x4, e_x4, h⟩ := b1s h
    refine kK_5_149 C S e_x4 ⟨(Nat.le_of_ble_eq_true rfl), (Nat.le_of_ble_eq_true rfl)⟩ (Nat.le_of_ble_eq_true rfl) dX5_endWord_24 ?_
    refine a_if_eq C 43 (by decide) dX5_endWord_27 (fun c5 => ?_) (fun c5 => ?_)
    · replace h := ifp c5 h
      exact a_vret hret h dX5_endWord_43
    · replace h := ifn c5 h
      refine a_aload_n C 0 rfl rfl dX5_endWord_30 ?_
      refine a_iload_n C 1 rfl rfl dX5_endWord_31 ?_
      refine a_iconst (v := 1) C (by decide) dX5_endWord_32 ?_
      refine a_iadd C dX5_endWord_33 ?_
      obtain ⟨q6, e_q6, h⟩ := lts h
      refine pK_5_24 C S e_q6 dX5_endWord_34 ?_
      refine a_iinc (v := (v1 + 1)) C [(1, .int (v1 + 1)), (0, .ref (adOf X 155))] 1 rfl (congrArg (HAdd.hAdd v1) (by decide : Int32.ofInt (1) = (1 : Int32))) (by decide) rfl dX5_endWord_37 ?_
      refine a_goto C 5 (by decide) dX5_endWord_40 ?_
      exact At.sub [1, 0] rfl (hrec _ _ h)
def Rd_endWord_L5 : Nat → Int32 → St → Option (St)
  | 0, _, _ => none
  | n + 1, v1, q => Rd_endWord_B5 (Rd_endWord_L5 n) v1 q
theorem w_Rd_endWord_L5 {X : Cv} (C : Cx X cX5_endWord RX5 rm_Rd_endWord 2) (S : IsK X) {z : St} (hret : RokV X cX5_endWord z) (n : Nat) : ∀ (v1 : Int32) (q : St), Rd_endWord_L5 n v1 q = some z → At X 5 [(0, .ref (adOf X 155)), (1, .int v1)] [] q := by
  induction n with
  | zero => intro v1 q h; cases h
  | succ n ih => intro v1 q h; exact w_Rd_endWord_B5 C S hret _ ih v1 q h
def Rd_endWord (q : St) : Option (St) :=
  lt_ (gt q 155 5) fun w1 =>
  Rd_endWord_L5 FU w1 q
theorem w_Rd_endWord {X : Cv} (C : Cx X cX5_endWord RX5 rm_Rd_endWord 2) (S : IsK X) {z : St} (hret : RokV X cX5_endWord z) (q : St) (h : Rd_endWord q = some z) : At X 0 [(0, .ref (adOf X 155))] [] q := by
  unfold Rd_endWord at h
  refine a_aload_n C 0 rfl rfl dX5_endWord_0 ?_
  refine gK_5_125 C S dX5_endWord_1 ?_
  obtain ⟨w1, e_w1, h⟩ := lts h
  refine a_top e_w1 ?_
  refine a_istore_n C [(1, .int w1), (0, .ref (adOf X 155))] rfl (by decide) rfl dX5_endWord_4 ?_
  exact At.sub [1, 0] rfl (w_Rd_endWord_L5 C S hret _ _ _ h)
theorem c_Rd_endWord {l : Launch} {D : va_G} {I : ClassId × ClassId × ClassId × ClassId} {ad : Nat → Nat} {q : St} {z : St} (h : Rd_endWord q = some z) : Ctr l D I (zK ad) 168 (shK I) ad yX5_endWord cX5_endWord 2 none rm_Rd_endWord [.ref (ad 155)] q none z :=
  ctr_ofV (by decide) (Nat.le_of_ble_eq_true rfl) (fun p e s m args below meth c Q H0 X hX C hret => by subst hX; exact w_Rd_endWord C ⟨rfl, rfl, rfl⟩ hret _ h)
theorem kK_5_152 {X : Cv} {cc : ByteArray} {rm : Room} {nL1 pc : Nat} {lv : List (Nat × Value)} {sk : List Value} {q : St} {q2 : St} (C : Cx X cc RX5 rm nL1) (S : IsK X) (h : Rd_endWord q = some q2) (hz : rm_Rd_endWord.frames + 1 ≤ rm.frames ∧ 8 + (2 + 11) + rm_Rd_endWord.locals ≤ rm.locals) (hr : (sk.map fun v => v.category).sum ≤ 8) (hd : decode cc pc = .ok (.invokevirtual 152, 3)) (k : At X (pc + 3) lv sk q2) : At X pc lv (.ref (adOf X 155) :: sk) q := a_callVv (as := []) C (kp := 155) (kLt S (by decide)) (by rw [S.2.1]; rfl) rfl (by have hh := c_Rd_endWord (l := X.2.1) (D := dOf X) (I := idOf X) (ad := adOf X) h; rw [← S.1, ← S.2.1, ← S.2.2] at hh; exact hh) (gd_V (tg 575 (by decide +kernel) rfl) (tg 577 (by decide +kernel) rfl) (tg 1 (by decide +kernel) rfl) (tg 120 (by decide +kernel) rfl) (tg 578 (by decide +kernel) rfl)) ⟨rfl, rfl, hz.1, hz.2⟩ ⟨by decide, by decide, by show Option.map _ (parseMethodDescriptor yX5_endWord.desc) = some 0; decide⟩ hr rfl hd k
abbrev rm_Rd_isDigit : Room := { frames := 0, cells := 0, slots := 0, locals := 0 }
def Rd_isDigit (q : St) (v0 : Int32) : Option (Int32) :=
  if v0 < (48 : Int32) then
    some (0 : Int32)
  else
    if (57 : Int32) < v0 then
      some (0 : Int32)
    else
      some (1 : Int32)
theorem w_Rd_isDigit {X : Cv} (C : Cx X cX5_isDigit RX5 rm_Rd_isDigit 1) (S : IsK X) {q : St} {z : Int32} (hret : RokI X cX5_isDigit .boolean z q) (v0 : Int32) (h : Rd_isDigit q v0 = some z) : At X 0 [(0, .int v0)] [] q := by
  unfold Rd_isDigit at h
  refine a_iload_n C 0 rfl rfl dX5_isDigit_0 ?_
  refine a_bipush (v := 48) C (by decide) dX5_isDigit_1 ?_
  refine a_icmp_lt C 16 (by decide) dX5_isDigit_3 (fun c1 => ?_) (fun c1 => ?_)
  · replace h := ifp c1 h
    refine a_iconst (v := 0) C (by decide) dX5_isDigit_16 ?_
    exact a_iretR hret h rfl dX5_isDigit_17
  · replace h := ifn c1 h
    refine a_iload_n C 0 rfl rfl dX5_isDigit_6 ?_
    refine a_bipush (v := 57) C (by decide) dX5_isDigit_7 ?_
    refine a_icmp_gt C 16 (by decide) dX5_isDigit_9 (fun c2 => ?_) (fun c2 => ?_)
    · replace h := ifp c2 h
      refine a_iconst (v := 0) C (by decide) dX5_isDigit_16 ?_
      exact a_iretR hret h rfl dX5_isDigit_17
    · replace h := ifn c2 h
      refine a_iconst (v := 1) C (by decide) dX5_isDigit_12 ?_
      refine a_goto C 17 (by decide) dX5_isDigit_13 ?_
      exact a_iretR hret h rfl dX5_isDigit_17
theorem c_Rd_isDigit {l : Launch} {D : va_G} {I : ClassId × ClassId × ClassId × ClassId} {ad : Nat → Nat} {q : St} {v0 : Int32} {z : Int32} (h : Rd_isDigit q v0 = some z) : Ctr l D I (zK ad) 168 (shK I) ad yX5_isDigit cX5_isDigit 1 (some .boolean) rm_Rd_isDigit [.int v0] q (some z) q :=
  ctr_ofI (by decide) (Nat.le_of_ble_eq_true rfl) (fun p e s m args below meth c Q H0 X hX C hret => by subst hX; exact w_Rd_isDigit C ⟨rfl, rfl, rfl⟩ hret _ h)
theorem kK_5_155 {X : Cv} {cc : ByteArray} {rm : Room} {nL1 pc : Nat} {lv : List (Nat × Value)} {sk : List Value} {q : St} {v0 : Int32} {z : Int32} (C : Cx X cc RX5 rm nL1) (S : IsK X) (h : Rd_isDigit q v0 = some z) (hz : rm_Rd_isDigit.frames + 1 ≤ rm.frames ∧ 8 + (1 + 11) + rm_Rd_isDigit.locals ≤ rm.locals) (hr : (sk.map fun v => v.category).sum ≤ 8) (hd : decode cc pc = .ok (.invokestatic 155, 3)) (k : At X (pc + 3) lv (.int z :: sk) q) : At X pc lv (.int v0 :: sk) q := a_callXi (as := [.int v0]) C (by have hh := c_Rd_isDigit (l := X.2.1) (D := dOf X) (I := idOf X) (ad := adOf X) h; rw [← S.1, ← S.2.1, ← S.2.2] at hh; exact hh) (tg 581 (by decide +kernel) rfl) (tg 580 (by decide +kernel) rfl) (tg 120 (by decide +kernel) rfl) (tg 579 (by decide +kernel) rfl) ⟨rfl, rfl, hz.1, hz.2⟩ ⟨by decide, by decide, by show Option.map _ (parseMethodDescriptor yX5_isDigit.desc) = some 1; decide⟩ hr rfl hd k
abbrev rm_Rd_endNumber : Room := { frames := 1, cells := 0, slots := 0, locals := 21 }
def Rd_endNumber_B7 (k : Int32 → St → Option (St)) (rec : Int32 → Int32 → St → Option (St)) (v1 : Int32) (v2 : Int32) (q : St) : Option (St) :=
  if (gt q 153 1) ≤ v2 then
    k v1 q
  else
    b1 (Tp_byteAt q v2) fun x3 =>
    b1 (Rd_isDigit q x3) fun x4 =>
    if x4 = (0 : Int32) then
      k v1 q
    else
      lt_ (st q 155 4 (v2 + (1 : Int32))) fun q6 =>
      b1 (Tp_byteAt q6 v2) fun x7 =>
      lt_ ((((v1 * (10 : Int32)) + x7) - (48 : Int32)) - (((v1 * (10 : Int32)) + x7) - (48 : Int32)) / (10000 : Int32) * (10000 : Int32)) fun w8 =>
      rec w8 (v2 + 1) q6
theorem w_Rd_endNumber_B7 {X : Cv} (C : Cx X cX5_endNumber RX5 rm_Rd_endNumber 3) (S : IsK X) {z : St} (hret : RokV X cX5_endNumber z) (k : Int32 → St → Option (St)) (hk : ∀ (v1 : Int32) (q : St), k v1 q = some z → At X 66 [(0, .ref (adOf X 155)), (1, .int v1)] [] q) (rec : Int32 → Int32 → St → Option (St)) (hrec : ∀ (v1 : Int32) (v2 : Int32) (q : St), rec v1 v2 q = some z → At X 7 [(0, .ref (adOf X 155)), (1, .int v1), (2, .int v2)] [] q) (v1 : Int32) (v2 : Int32) (q : St) (h : Rd_endNumber_B7 k rec v1 v2 q = some z) : At X 7 [(0, .ref (adOf X 155)), (1, .int v1), (2, .int v2)] [] q := by
  unfold Rd_endNumber_B7 at h
  refine a_iload_n C 2 rfl rfl dX5_endNumber_7 ?_
  refine a_aload_n C 0 rfl rfl dX5_endNumber_8 ?_
  refine gK_5_9 C S dX5_endNumber_9 ?_
  refine gK_5_144 C S dX5_endNumber_12 ?_
  refine a_icmp_ge C 66 (by decide) dX5_endNumber_15 (fun c2 => ?_) (fun c2 => ?_)
  · replace h := ifp c2 h
    exact At.sub [0, 1] rfl (hk _ _ h)
  · replace h := ifn c2 h
    refine a_aload_n C 0 rfl rfl dX5_endNumber_18 ?_
    refine gK_5_9 C S dX5_endNumber_19 ?_
    refine a_iload_n C 2 rfl rfl dX5_endNumber_22 ?_
    obtain ⟨x3, e_x3, h⟩ := b1s h
    refine kK_5_134 C S e_x3 ⟨(Nat.le_of_ble_eq_true rfl), (Nat.le_of_ble_eq_true rfl)⟩ (Nat.le_of_ble_eq_true rfl) dX5_endNumber_23 ?_
    obtain ⟨x4, e_x4, h⟩ := b1s h
    refine kK_5_155 C S e_x4 ⟨(Nat.le_of_ble_eq_true rfl), (Nat.le_of_ble_eq_true rfl)⟩ (Nat.le_of_ble_eq_true rfl) dX5_endNumber_26 ?_
    refine a_if_eq C 66 (by decide) dX5_endNumber_29 (fun c5 => ?_) (fun c5 => ?_)
    · replace h := ifp c5 h
      exact At.sub [0, 1] rfl (hk _ _ h)
    · replace h := ifn c5 h
      refine a_aload_n C 0 rfl rfl dX5_endNumber_32 ?_
      refine a_iload_n C 2 rfl rfl dX5_endNumber_33 ?_
      refine a_iconst (v := 1) C (by decide) dX5_endNumber_34 ?_
      refine a_iadd C dX5_endNumber_35 ?_
      obtain ⟨q6, e_q6, h⟩ := lts h
      refine pK_5_24 C S e_q6 dX5_endNumber_36 ?_
      refine a_iload_n C 1 rfl rfl dX5_endNumber_39 ?_
      refine a_bipush (v := 10) C (by decide) dX5_endNumber_40 ?_
      refine a_imul C dX5_endNumber_42 ?_
      refine a_aload_n C 0 rfl rfl dX5_endNumber_43 ?_
      refine gK_5_9 C S dX5_endNumber_44 ?_
      refine a_iload_n C 2 rfl rfl dX5_endNumber_47 ?_
      obtain ⟨x7, e_x7, h⟩ := b1s h
      refine kK_5_134 C S e_x7 ⟨(Nat.le_of_ble_eq_true rfl), (Nat.le_of_ble_eq_true rfl)⟩ (Nat.le_of_ble_eq_true rfl) dX5_endNumber_48 ?_
      refine a_iadd C dX5_endNumber_51 ?_
      refine a_bipush (v := 48) C (by decide) dX5_endNumber_52 ?_
      refine a_isub C dX5_endNumber_54 ?_
      refine a_sipush (v := 10000) C (by decide) dX5_endNumber_55 ?_
      refine a_irem C (by decide) dX5_endNumber_58 ?_
      obtain ⟨w8, e_w8, h⟩ := lts h
      refine a_top e_w8 ?_
      refine a_istore_n C [(1, .int w8), (0, .ref (adOf X 155)), (2, .int v2)] rfl (by decide) rfl dX5_endNumber_59 ?_
      refine a_iinc (v := (v2 + 1)) C [(2, .int (v2 + 1)), (1, .int w8), (0, .ref (adOf X 155))] 2 rfl (congrArg (HAdd.hAdd v2) (by decide : Int32.ofInt (1) = (1 : Int32))) (by decide) rfl dX5_endNumber_60 ?_
      refine a_goto C 7 (by decide) dX5_endNumber_63 ?_
      exact At.sub [2, 1, 0] rfl (hrec _ _ _ h)
def Rd_endNumber_L7 (k : Int32 → St → Option (St)) : Nat → Int32 → Int32 → St → Option (St)
  | 0, _, _, _ => none
  | n + 1, v1, v2, q => Rd_endNumber_B7 k (Rd_endNumber_L7 k n) v1 v2 q
theorem w_Rd_endNumber_L7 {X : Cv} (C : Cx X cX5_endNumber RX5 rm_Rd_endNumber 3) (S : IsK X) {z : St} (hret : RokV X cX5_endNumber z) (k : Int32 → St → Option (St)) (hk : ∀ (v1 : Int32) (q : St), k v1 q = some z → At X 66 [(0, .ref (adOf X 155)), (1, .int v1)] [] q) (n : Nat) : ∀ (v1 : Int32) (v2 : Int32) (q : St), Rd_endNumber_L7 k n v1 v2 q = some z → At X 7 [(0, .ref (adOf X 155)), (1, .int v1), (2, .int v2)] [] q := by
  induction n with
  | zero => intro v1 v2 q h; cases h
  | succ n ih => intro v1 v2 q h; exact w_Rd_endNumber_B7 C S hret k hk _ ih v1 v2 q h
def Rd_endNumber_J95 (v1 : Int32) (v2 : Int32) (z0 : Int32) (q : St) : Option (St) :=
  lt_ (st q 155 2 z0) fun q13 =>
  if v2 = (0 : Int32) then
    lt_ (st q13 155 3 (-1 : Int32)) fun q15 =>
    some q15
  else
    lt_ (st q13 155 3 v1) fun q16 =>
    some q16
theorem w_Rd_endNumber_J95 {X : Cv} (C : Cx X cX5_endNumber RX5 rm_Rd_endNumber 3) (S : IsK X) {z : St} (hret : RokV X cX5_endNumber z) (v1 : Int32) (v2 : Int32) (z0 : Int32) (q : St) (h : Rd_endNumber_J95 v1 v2 z0 q = some z) : At X 95 [(0, .ref (adOf X 155)), (1, .int v1), (2, .int v2)] [.int z0, .ref (adOf X 155)] q := by
  unfold Rd_endNumber_J95 at h
  obtain ⟨q13, e_q13, h⟩ := lts h
  refine pK_5_47 C S e_q13 dX5_endNumber_95 ?_
  refine a_aload_n C 0 rfl rfl dX5_endNumber_98 ?_
  refine a_iload_n C 2 rfl rfl dX5_endNumber_99 ?_
  refine a_if_eq C 107 (by decide) dX5_endNumber_100 (fun c14 => ?_) (fun c14 => ?_)
  · replace h := ifp c14 h
    refine a_iconst (v := -1) C (by decide) dX5_endNumber_107 ?_
    obtain ⟨q15, e_q15, h⟩ := lts h
    refine pK_5_76 C S e_q15 dX5_endNumber_108 ?_
    exact a_vret hret h dX5_endNumber_111
  · replace h := ifn c14 h
    refine a_iload_n C 1 rfl rfl dX5_endNumber_103 ?_
    refine a_goto C 108 (by decide) dX5_endNumber_104 ?_
    obtain ⟨q16, e_q16, h⟩ := lts h
    refine pK_5_76 C S e_q16 dX5_endNumber_108 ?_
    exact a_vret hret h dX5_endNumber_111
def Rd_endNumber_J84 (v1 : Int32) (z0 : Int32) (q : St) : Option (St) :=
  if z0 = (0 : Int32) then
    Rd_endNumber_J95 v1 z0 (4 : Int32) q
  else
    Rd_endNumber_J95 v1 z0 (2 : Int32) q
theorem w_Rd_endNumber_J84 {X : Cv} (C : Cx X cX5_endNumber RX5 rm_Rd_endNumber 3) (S : IsK X) {z : St} (hret : RokV X cX5_endNumber z) (v1 : Int32) (z0 : Int32) (q : St) (h : Rd_endNumber_J84 v1 z0 q = some z) : At X 84 [(0, .ref (adOf X 155)), (1, .int v1)] [.int z0] q := by
  unfold Rd_endNumber_J84 at h
  refine a_istore_n C [(2, .int z0), (0, .ref (adOf X 155)), (1, .int v1)] rfl (by decide) rfl dX5_endNumber_84 ?_
  refine a_aload_n C 1 rfl rfl dX5_endNumber_85 ?_
  refine a_iload_n C 0 rfl rfl dX5_endNumber_86 ?_
  refine a_if_eq C 94 (by decide) dX5_endNumber_87 (fun c12 => ?_) (fun c12 => ?_)
  · replace h := ifp c12 h
    refine a_iconst (v := 4) C (by decide) dX5_endNumber_94 ?_
    exact At.sub [1, 2, 0] rfl (w_Rd_endNumber_J95 C S hret _ _ _ _ h)
  · replace h := ifn c12 h
    refine a_iconst (v := 2) C (by decide) dX5_endNumber_90 ?_
    refine a_goto C 95 (by decide) dX5_endNumber_91 ?_
    exact At.sub [1, 2, 0] rfl (w_Rd_endNumber_J95 C S hret _ _ _ _ h)
def Rd_endNumber_J66 (v1 : Int32) (q : St) : Option (St) :=
  if (4 : Int32) < ((gt q 155 4) - (gt q 155 5)) then
    Rd_endNumber_J84 v1 (0 : Int32) q
  else
    Rd_endNumber_J84 v1 (1 : Int32) q
theorem w_Rd_endNumber_J66 {X : Cv} (C : Cx X cX5_endNumber RX5 rm_Rd_endNumber 3) (S : IsK X) {z : St} (hret : RokV X cX5_endNumber z) (v1 : Int32) (q : St) (h : Rd_endNumber_J66 v1 q = some z) : At X 66 [(0, .ref (adOf X 155)), (1, .int v1)] [] q := by
  unfold Rd_endNumber_J66 at h
  refine a_aload_n C 0 rfl rfl dX5_endNumber_66 ?_
  refine gK_5_24 C S dX5_endNumber_67 ?_
  refine a_aload_n C 0 rfl rfl dX5_endNumber_70 ?_
  refine gK_5_125 C S dX5_endNumber_71 ?_
  refine a_isub C dX5_endNumber_74 ?_
  refine a_iconst (v := 4) C (by decide) dX5_endNumber_75 ?_
  refine a_icmp_gt C 83 (by decide) dX5_endNumber_76 (fun c11 => ?_) (fun c11 => ?_)
  · replace h := ifp c11 h
    refine a_iconst (v := 0) C (by decide) dX5_endNumber_83 ?_
    exact At.sub [0, 1] rfl (w_Rd_endNumber_J84 C S hret _ _ _ h)
  · replace h := ifn c11 h
    refine a_iconst (v := 1) C (by decide) dX5_endNumber_79 ?_
    refine a_goto C 84 (by decide) dX5_endNumber_80 ?_
    exact At.sub [0, 1] rfl (w_Rd_endNumber_J84 C S hret _ _ _ h)
def Rd_endNumber (q : St) : Option (St) :=
  lt_ (gt q 155 5) fun w1 =>
  Rd_endNumber_L7 (fun y9 q10 =>
    Rd_endNumber_J66 y9 q10
    ) FU (0 : Int32) w1 q
theorem w_Rd_endNumber {X : Cv} (C : Cx X cX5_endNumber RX5 rm_Rd_endNumber 3) (S : IsK X) {z : St} (hret : RokV X cX5_endNumber z) (q : St) (h : Rd_endNumber q = some z) : At X 0 [(0, .ref (adOf X 155))] [] q := by
  unfold Rd_endNumber at h
  refine a_iconst (v := 0) C (by decide) dX5_endNumber_0 ?_
  refine a_istore_n C [(1, .int (0 : Int32)), (0, .ref (adOf X 155))] rfl (by decide) rfl dX5_endNumber_1 ?_
  refine a_aload_n C 1 rfl rfl dX5_endNumber_2 ?_
  refine gK_5_125 C S dX5_endNumber_3 ?_
  obtain ⟨w1, e_w1, h⟩ := lts h
  refine a_top e_w1 ?_
  refine a_istore_n C [(2, .int w1), (1, .int (0 : Int32)), (0, .ref (adOf X 155))] rfl (by decide) rfl dX5_endNumber_6 ?_
  refine At.sub [2, 1, 0] rfl (w_Rd_endNumber_L7 C S hret _ ?_ _ _ _ _ h)
  intro y9 q10 h
  exact At.sub [0, 1] rfl (w_Rd_endNumber_J66 C S hret _ _ h)
theorem c_Rd_endNumber {l : Launch} {D : va_G} {I : ClassId × ClassId × ClassId × ClassId} {ad : Nat → Nat} {q : St} {z : St} (h : Rd_endNumber q = some z) : Ctr l D I (zK ad) 168 (shK I) ad yX5_endNumber cX5_endNumber 3 none rm_Rd_endNumber [.ref (ad 155)] q none z :=
  ctr_ofV (by decide) (Nat.le_of_ble_eq_true rfl) (fun p e s m args below meth c Q H0 X hX C hret => by subst hX; exact w_Rd_endNumber C ⟨rfl, rfl, rfl⟩ hret _ h)
theorem kK_5_158 {X : Cv} {cc : ByteArray} {rm : Room} {nL1 pc : Nat} {lv : List (Nat × Value)} {sk : List Value} {q : St} {q2 : St} (C : Cx X cc RX5 rm nL1) (S : IsK X) (h : Rd_endNumber q = some q2) (hz : rm_Rd_endNumber.frames + 1 ≤ rm.frames ∧ 8 + (3 + 11) + rm_Rd_endNumber.locals ≤ rm.locals) (hr : (sk.map fun v => v.category).sum ≤ 8) (hd : decode cc pc = .ok (.invokevirtual 158, 3)) (k : At X (pc + 3) lv sk q2) : At X pc lv (.ref (adOf X 155) :: sk) q := a_callVv (as := []) C (kp := 155) (kLt S (by decide)) (by rw [S.2.1]; rfl) rfl (by have hh := c_Rd_endNumber (l := X.2.1) (D := dOf X) (I := idOf X) (ad := adOf X) h; rw [← S.1, ← S.2.1, ← S.2.2] at hh; exact hh) (gd_V (tg 582 (by decide +kernel) rfl) (tg 584 (by decide +kernel) rfl) (tg 2 (by decide +kernel) rfl) (tg 120 (by decide +kernel) rfl) (tg 585 (by decide +kernel) rfl)) ⟨rfl, rfl, hz.1, hz.2⟩ ⟨by decide, by decide, by show Option.map _ (parseMethodDescriptor yX5_endNumber.desc) = some 0; decide⟩ hr rfl hd k
abbrev rm_Rd_nextToken : Room := { frames := 2, cells := 0, slots := 0, locals := 43 }
def Rd_nextToken_B13 (k : St → Option (St)) (rec : Int32 → St → Option (St)) (v1 : Int32) (q : St) : Option (St) :=
  if (gt q 153 1) ≤ v1 then
    k  q
  else
    b1 (Tp_byteAt q v1) fun x4 =>
    b1 (Rd_isSpace q x4) fun x5 =>
    if x5 = (0 : Int32) then
      k  q
    else
      lt_ (st q 155 5 (v1 + (1 : Int32))) fun q7 =>
      rec (v1 + 1) q7
theorem w_Rd_nextToken_B13 {X : Cv} (C : Cx X cX5_nextToken RX5 rm_Rd_nextToken 2) (S : IsK X) {z : St} (hret : RokV X cX5_nextToken z) (k : St → Option (St)) (hk : ∀ (q : St), k q = some z → At X 51 [(0, .ref (adOf X 155))] [] q) (rec : Int32 → St → Option (St)) (hrec : ∀ (v1 : Int32) (q : St), rec v1 q = some z → At X 13 [(0, .ref (adOf X 155)), (1, .int v1)] [] q) (v1 : Int32) (q : St) (h : Rd_nextToken_B13 k rec v1 q = some z) : At X 13 [(0, .ref (adOf X 155)), (1, .int v1)] [] q := by
  unfold Rd_nextToken_B13 at h
  refine a_iload_n C 1 rfl rfl dX5_nextToken_13 ?_
  refine a_aload_n C 0 rfl rfl dX5_nextToken_14 ?_
  refine gK_5_9 C S dX5_nextToken_15 ?_
  refine gK_5_144 C S dX5_nextToken_18 ?_
  refine a_icmp_ge C 51 (by decide) dX5_nextToken_21 (fun c3 => ?_) (fun c3 => ?_)
  · replace h := ifp c3 h
    exact At.sub [0] rfl (hk  _ h)
  · replace h := ifn c3 h
    refine a_aload_n C 0 rfl rfl dX5_nextToken_24 ?_
    refine gK_5_9 C S dX5_nextToken_25 ?_
    refine a_iload_n C 1 rfl rfl dX5_nextToken_28 ?_
    obtain ⟨x4, e_x4, h⟩ := b1s h
    refine kK_5_134 C S e_x4 ⟨(Nat.le_of_ble_eq_true rfl), (Nat.le_of_ble_eq_true rfl)⟩ (Nat.le_of_ble_eq_true rfl) dX5_nextToken_29 ?_
    obtain ⟨x5, e_x5, h⟩ := b1s h
    refine kK_5_146 C S e_x5 ⟨(Nat.le_of_ble_eq_true rfl), (Nat.le_of_ble_eq_true rfl)⟩ (Nat.le_of_ble_eq_true rfl) dX5_nextToken_32 ?_
    refine a_if_eq C 51 (by decide) dX5_nextToken_35 (fun c6 => ?_) (fun c6 => ?_)
    · replace h := ifp c6 h
      exact At.sub [0] rfl (hk  _ h)
    · replace h := ifn c6 h
      refine a_aload_n C 0 rfl rfl dX5_nextToken_38 ?_
      refine a_iload_n C 1 rfl rfl dX5_nextToken_39 ?_
      refine a_iconst (v := 1) C (by decide) dX5_nextToken_40 ?_
      refine a_iadd C dX5_nextToken_41 ?_
      obtain ⟨q7, e_q7, h⟩ := lts h
      refine pK_5_125 C S e_q7 dX5_nextToken_42 ?_
      refine a_iinc (v := (v1 + 1)) C [(1, .int (v1 + 1)), (0, .ref (adOf X 155))] 1 rfl (congrArg (HAdd.hAdd v1) (by decide : Int32.ofInt (1) = (1 : Int32))) (by decide) rfl dX5_nextToken_45 ?_
      refine a_goto C 13 (by decide) dX5_nextToken_48 ?_
      exact At.sub [1, 0] rfl (hrec _ _ h)
def Rd_nextToken_L13 (k : St → Option (St)) : Nat → Int32 → St → Option (St)
  | 0, _, _ => none
  | n + 1, v1, q => Rd_nextToken_B13 k (Rd_nextToken_L13 k n) v1 q
theorem w_Rd_nextToken_L13 {X : Cv} (C : Cx X cX5_nextToken RX5 rm_Rd_nextToken 2) (S : IsK X) {z : St} (hret : RokV X cX5_nextToken z) (k : St → Option (St)) (hk : ∀ (q : St), k q = some z → At X 51 [(0, .ref (adOf X 155))] [] q) (n : Nat) : ∀ (v1 : Int32) (q : St), Rd_nextToken_L13 k n v1 q = some z → At X 13 [(0, .ref (adOf X 155)), (1, .int v1)] [] q := by
  induction n with
  | zero => intro v1 q h; cases h
  | succ n ih => intro v1 q h; exact w_Rd_nextToken_B13 C S hret k hk _ ih v1 q h
def Rd_nextToken_J134 (z0 : Int32) (q : St) : Option (St) :=
  lt_ (st q 155 2 z0) fun q18 =>
  lt_ (st q18 155 4 ((gt q18 155 5) + (1 : Int32))) fun q19 =>
  some q19
theorem w_Rd_nextToken_J134 {X : Cv} (C : Cx X cX5_nextToken RX5 rm_Rd_nextToken 2) (S : IsK X) {z : St} (hret : RokV X cX5_nextToken z) (z0 : Int32) (q : St) (h : Rd_nextToken_J134 z0 q = some z) : At X 134 [(0, .ref (adOf X 155))] [.int z0, .ref (adOf X 155)] q := by
  unfold Rd_nextToken_J134 at h
  obtain ⟨q18, e_q18, h⟩ := lts h
  refine pK_5_47 C S e_q18 dX5_nextToken_134 ?_
  refine a_aload_n C 0 rfl rfl dX5_nextToken_137 ?_
  refine a_aload_n C 0 rfl rfl dX5_nextToken_138 ?_
  refine gK_5_125 C S dX5_nextToken_139 ?_
  refine a_iconst (v := 1) C (by decide) dX5_nextToken_142 ?_
  refine a_iadd C dX5_nextToken_143 ?_
  obtain ⟨q19, e_q19, h⟩ := lts h
  refine pK_5_24 C S e_q19 dX5_nextToken_144 ?_
  exact a_vret hret h dX5_nextToken_147
def Rd_nextToken_J51 (q : St) : Option (St) :=
  lt_ (st q 155 4 (gt q 155 5)) fun q9 =>
  lt_ (st q9 155 3 (-1 : Int32)) fun q10 =>
  b1 (Tp_byteAt q10 (gt q10 155 5)) fun x11 =>
  if x11 = (-1 : Int32) then
    lt_ (st q10 155 2 (0 : Int32)) fun q23 =>
    some q23
  else
    b1 (Rd_isLetter q10 x11) fun x13 =>
    if x13 = (0 : Int32) then
      b1 (Rd_isDigit q10 x11) fun x15 =>
      if x15 = (0 : Int32) then
        if x11 = (59 : Int32) then
          Rd_nextToken_J134 (3 : Int32) q10
        else
          Rd_nextToken_J134 (4 : Int32) q10
      else
        b1 (Rd_endNumber q10) fun q20 =>
        some q20
    else
      lt_ (st q10 155 2 (1 : Int32)) fun q21 =>
      b1 (Rd_endWord q21) fun q22 =>
      some q22
theorem w_Rd_nextToken_J51 {X : Cv} (C : Cx X cX5_nextToken RX5 rm_Rd_nextToken 2) (S : IsK X) {z : St} (hret : RokV X cX5_nextToken z) (q : St) (h : Rd_nextToken_J51 q = some z) : At X 51 [(0, .ref (adOf X 155))] [] q := by
  unfold Rd_nextToken_J51 at h
  refine a_aload_n C 0 rfl rfl dX5_nextToken_51 ?_
  refine a_aload_n C 0 rfl rfl dX5_nextToken_52 ?_
  refine gK_5_125 C S dX5_nextToken_53 ?_
  obtain ⟨q9, e_q9, h⟩ := lts h
  refine pK_5_24 C S e_q9 dX5_nextToken_56 ?_
  refine a_aload_n C 0 rfl rfl dX5_nextToken_59 ?_
  refine a_iconst (v := -1) C (by decide) dX5_nextToken_60 ?_
  obtain ⟨q10, e_q10, h⟩ := lts h
  refine pK_5_76 C S e_q10 dX5_nextToken_61 ?_
  refine a_aload_n C 0 rfl rfl dX5_nextToken_64 ?_
  refine gK_5_9 C S dX5_nextToken_65 ?_
  refine a_aload_n C 0 rfl rfl dX5_nextToken_68 ?_
  refine gK_5_125 C S dX5_nextToken_69 ?_
  obtain ⟨x11, e_x11, h⟩ := b1s h
  refine kK_5_134 C S e_x11 ⟨(Nat.le_of_ble_eq_true rfl), (Nat.le_of_ble_eq_true rfl)⟩ (Nat.le_of_ble_eq_true rfl) dX5_nextToken_72 ?_
  refine a_istore_n C [(1, .int x11), (0, .ref (adOf X 155))] rfl (by decide) rfl dX5_nextToken_75 ?_
  refine a_iload_n C 0 rfl rfl dX5_nextToken_76 ?_
  refine a_iconst (v := -1) C (by decide) dX5_nextToken_77 ?_
  refine a_icmp_ne C 89 (by decide) dX5_nextToken_78 (fun c12 => ?_) (fun c12 => ?_)
  · replace h := ifn c12 h
    refine a_iload_n C 0 rfl rfl dX5_nextToken_89 ?_
    obtain ⟨x13, e_x13, h⟩ := b1s h
    refine kK_5_149 C S e_x13 ⟨(Nat.le_of_ble_eq_true rfl), (Nat.le_of_ble_eq_true rfl)⟩ (Nat.le_of_ble_eq_true rfl) dX5_nextToken_90 ?_
    refine a_if_eq C 108 (by decide) dX5_nextToken_93 (fun c14 => ?_) (fun c14 => ?_)
    · replace h := ifp c14 h
      refine a_iload_n C 0 rfl rfl dX5_nextToken_108 ?_
      obtain ⟨x15, e_x15, h⟩ := b1s h
      refine kK_5_155 C S e_x15 ⟨(Nat.le_of_ble_eq_true rfl), (Nat.le_of_ble_eq_true rfl)⟩ (Nat.le_of_ble_eq_true rfl) dX5_nextToken_109 ?_
      refine a_if_eq C 122 (by decide) dX5_nextToken_112 (fun c16 => ?_) (fun c16 => ?_)
      · replace h := ifp c16 h
        refine a_aload_n C 1 rfl rfl dX5_nextToken_122 ?_
        refine a_iload_n C 0 rfl rfl dX5_nextToken_123 ?_
        refine a_bipush (v := 59) C (by decide) dX5_nextToken_124 ?_
        refine a_icmp_ne C 133 (by decide) dX5_nextToken_126 (fun c17 => ?_) (fun c17 => ?_)
        · replace h := ifn c17 h
          refine a_iconst (v := 4) C (by decide) dX5_nextToken_133 ?_
          exact At.sub [1] rfl (w_Rd_nextToken_J134 C S hret _ _ h)
        · replace h := ifp c17 h
          refine a_iconst (v := 3) C (by decide) dX5_nextToken_129 ?_
          refine a_goto C 134 (by decide) dX5_nextToken_130 ?_
          exact At.sub [1] rfl (w_Rd_nextToken_J134 C S hret _ _ h)
      · replace h := ifn c16 h
        refine a_aload_n C 1 rfl rfl dX5_nextToken_115 ?_
        obtain ⟨q20, e_q20, h⟩ := b1s h
        refine kK_5_158 C S e_q20 ⟨(Nat.le_of_ble_eq_true rfl), (Nat.le_of_ble_eq_true rfl)⟩ (Nat.le_of_ble_eq_true rfl) dX5_nextToken_116 ?_
        refine a_goto C 147 (by decide) dX5_nextToken_119 ?_
        exact a_vret hret h dX5_nextToken_147
    · replace h := ifn c14 h
      refine a_aload_n C 1 rfl rfl dX5_nextToken_96 ?_
      refine a_iconst (v := 1) C (by decide) dX5_nextToken_97 ?_
      obtain ⟨q21, e_q21, h⟩ := lts h
      refine pK_5_47 C S e_q21 dX5_nextToken_98 ?_
      refine a_aload_n C 1 rfl rfl dX5_nextToken_101 ?_
      obtain ⟨q22, e_q22, h⟩ := b1s h
      refine kK_5_152 C S e_q22 ⟨(Nat.le_of_ble_eq_true rfl), (Nat.le_of_ble_eq_true rfl)⟩ (Nat.le_of_ble_eq_true rfl) dX5_nextToken_102 ?_
      refine a_goto C 147 (by decide) dX5_nextToken_105 ?_
      exact a_vret hret h dX5_nextToken_147
  · replace h := ifp c12 h
    refine a_aload_n C 1 rfl rfl dX5_nextToken_81 ?_
    refine a_iconst (v := 0) C (by decide) dX5_nextToken_82 ?_
    obtain ⟨q23, e_q23, h⟩ := lts h
    refine pK_5_47 C S e_q23 dX5_nextToken_83 ?_
    refine a_goto C 147 (by decide) dX5_nextToken_86 ?_
    exact a_vret hret h dX5_nextToken_147
def Rd_nextToken (q : St) : Option (St) :=
  lt_ (st q 155 5 (gt q 155 4)) fun q1 =>
  lt_ (gt q1 155 4) fun w2 =>
  Rd_nextToken_L13 (fun q8 =>
    Rd_nextToken_J51  q8
    ) FU w2 q1
theorem w_Rd_nextToken {X : Cv} (C : Cx X cX5_nextToken RX5 rm_Rd_nextToken 2) (S : IsK X) {z : St} (hret : RokV X cX5_nextToken z) (q : St) (h : Rd_nextToken q = some z) : At X 0 [(0, .ref (adOf X 155))] [] q := by
  unfold Rd_nextToken at h
  refine a_aload_n C 0 rfl rfl dX5_nextToken_0 ?_
  refine a_aload_n C 0 rfl rfl dX5_nextToken_1 ?_
  refine gK_5_24 C S dX5_nextToken_2 ?_
  obtain ⟨q1, e_q1, h⟩ := lts h
  refine pK_5_125 C S e_q1 dX5_nextToken_5 ?_
  refine a_aload_n C 0 rfl rfl dX5_nextToken_8 ?_
  refine gK_5_24 C S dX5_nextToken_9 ?_
  obtain ⟨w2, e_w2, h⟩ := lts h
  refine a_top e_w2 ?_
  refine a_istore_n C [(1, .int w2), (0, .ref (adOf X 155))] rfl (by decide) rfl dX5_nextToken_12 ?_
  refine At.sub [1, 0] rfl (w_Rd_nextToken_L13 C S hret _ ?_ _ _ _ h)
  intro q8 h
  exact At.sub [0] rfl (w_Rd_nextToken_J51 C S hret  _ h)
theorem c_Rd_nextToken {l : Launch} {D : va_G} {I : ClassId × ClassId × ClassId × ClassId} {ad : Nat → Nat} {q : St} {z : St} (h : Rd_nextToken q = some z) : Ctr l D I (zK ad) 168 (shK I) ad yX5_nextToken cX5_nextToken 2 none rm_Rd_nextToken [.ref (ad 155)] q none z :=
  ctr_ofV (by decide) (Nat.le_of_ble_eq_true rfl) (fun p e s m args below meth c Q H0 X hX C hret => by subst hX; exact w_Rd_nextToken C ⟨rfl, rfl, rfl⟩ hret _ h)
theorem kK_5_28 {X : Cv} {cc : ByteArray} {rm : Room} {nL1 pc : Nat} {lv : List (Nat × Value)} {sk : List Value} {q : St} {q2 : St} (C : Cx X cc RX5 rm nL1) (S : IsK X) (h : Rd_nextToken q = some q2) (hz : rm_Rd_nextToken.frames + 1 ≤ rm.frames ∧ 8 + (2 + 11) + rm_Rd_nextToken.locals ≤ rm.locals) (hr : (sk.map fun v => v.category).sum ≤ 8) (hd : decode cc pc = .ok (.invokevirtual 28, 3)) (k : At X (pc + 3) lv sk q2) : At X pc lv (.ref (adOf X 155) :: sk) q := a_callVv (as := []) C (kp := 155) (kLt S (by decide)) (by rw [S.2.1]; rfl) rfl (by have hh := c_Rd_nextToken (l := X.2.1) (D := dOf X) (I := idOf X) (ad := adOf X) h; rw [← S.1, ← S.2.1, ← S.2.2] at hh; exact hh) (gd_V (tg 561 (by decide +kernel) rfl) (tg 563 (by decide +kernel) rfl) (tg 0 (by decide +kernel) rfl) (tg 120 (by decide +kernel) rfl) (tg 564 (by decide +kernel) rfl)) ⟨rfl, rfl, hz.1, hz.2⟩ ⟨by decide, by decide, by show Option.map _ (parseMethodDescriptor yX5_nextToken.desc) = some 0; decide⟩ hr rfl hd k
abbrev rm_Rd_isWord : Room := { frames := 5, cells := 0, slots := 0, locals := 150 }
def Rd_isWord_B28 (w : Nat) (q : St) (rec : Int32 → Option (Int32)) (v2 : Int32) : Option (Int32) :=
  if (sL w) ≤ v2 then
    some (1 : Int32)
  else
    b1 (Tp_byteAt q ((gt q 155 5) + v2)) fun x4 =>
    b1 (sC w v2) fun x5 =>
    if x4 = x5 then
      rec (v2 + 1)
    else
      some (0 : Int32)
theorem w_Rd_isWord_B28 {X : Cv} (C : Cx X cX5_isWord RX5 rm_Rd_isWord 3) (S : IsK X) {w : Nat} (hw : w < 8) (q : St) {z : Int32} (hret : RokI X cX5_isWord .boolean z q) (rec : Int32 → Option (Int32)) (hrec : ∀ (v2 : Int32), rec v2 = some z → At X 28 [(0, .ref (adOf X 155)), (1, .ref (adOf X (1000 + w))), (2, .int v2)] [] q) (v2 : Int32) (h : Rd_isWord_B28 w q rec v2 = some z) : At X 28 [(0, .ref (adOf X 155)), (1, .ref (adOf X (1000 + w))), (2, .int v2)] [] q := by
  unfold Rd_isWord_B28 at h
  refine a_iload_n C 2 rfl rfl dX5_isWord_28 ?_
  refine a_aload_n C 1 rfl rfl dX5_isWord_29 ?_
  refine k_sLen C S hw (tg 599 (by decide +kernel) rfl) ⟨(Nat.le_of_ble_eq_true rfl), (Nat.le_of_ble_eq_true rfl)⟩ (Nat.le_of_ble_eq_true rfl) dX5_isWord_30 ?_
  refine a_icmp_ge C 65 (by decide) dX5_isWord_33 (fun c3 => ?_) (fun c3 => ?_)
  · replace h := ifp c3 h
    refine a_iconst (v := 1) C (by decide) dX5_isWord_65 ?_
    exact a_iretR hret h rfl dX5_isWord_66
  · replace h := ifn c3 h
    refine a_aload_n C 0 rfl rfl dX5_isWord_36 ?_
    refine gK_5_9 C S dX5_isWord_37 ?_
    refine a_aload_n C 0 rfl rfl dX5_isWord_40 ?_
    refine gK_5_125 C S dX5_isWord_41 ?_
    refine a_iload_n C 2 rfl rfl dX5_isWord_44 ?_
    refine a_iadd C dX5_isWord_45 ?_
    obtain ⟨x4, e_x4, h⟩ := b1s h
    refine kK_5_134 C S e_x4 ⟨(Nat.le_of_ble_eq_true rfl), (Nat.le_of_ble_eq_true rfl)⟩ (Nat.le_of_ble_eq_true rfl) dX5_isWord_46 ?_
    refine a_aload_n C 1 rfl rfl dX5_isWord_49 ?_
    refine a_iload_n C 2 rfl rfl dX5_isWord_50 ?_
    obtain ⟨x5, e_x5, h⟩ := b1s h
    refine k_sCh C S hw e_x5 (tg 609 (by decide +kernel) rfl) ⟨(Nat.le_of_ble_eq_true rfl), (Nat.le_of_ble_eq_true rfl)⟩ (Nat.le_of_ble_eq_true rfl) dX5_isWord_51 ?_
    refine a_icmp_eq C 59 (by decide) dX5_isWord_54 (fun c6 => ?_) (fun c6 => ?_)
    · replace h := ifp c6 h
      refine a_iinc (v := (v2 + 1)) C [(2, .int (v2 + 1)), (0, .ref (adOf X 155)), (1, .ref (adOf X (1000 + w)))] 2 rfl (congrArg (HAdd.hAdd v2) (by decide : Int32.ofInt (1) = (1 : Int32))) (by decide) rfl dX5_isWord_59 ?_
      refine a_goto C 28 (by decide) dX5_isWord_62 ?_
      exact At.sub [1, 2, 0] rfl (hrec _ h)
    · replace h := ifn c6 h
      refine a_iconst (v := 0) C (by decide) dX5_isWord_57 ?_
      exact a_iretR hret h rfl dX5_isWord_58
def Rd_isWord_L28 (w : Nat) (q : St) : Nat → Int32 → Option (Int32)
  | 0, _ => none
  | n + 1, v2 => Rd_isWord_B28 w q (Rd_isWord_L28 w q n) v2
theorem w_Rd_isWord_L28 {X : Cv} (C : Cx X cX5_isWord RX5 rm_Rd_isWord 3) (S : IsK X) {w : Nat} (hw : w < 8) (q : St) {z : Int32} (hret : RokI X cX5_isWord .boolean z q) (n : Nat) : ∀ (v2 : Int32), Rd_isWord_L28 w q n v2 = some z → At X 28 [(0, .ref (adOf X 155)), (1, .ref (adOf X (1000 + w))), (2, .int v2)] [] q := by
  induction n with
  | zero => intro v2 h; cases h
  | succ n ih => intro v2 h; exact w_Rd_isWord_B28 C S hw _ hret _ ih v2 h
def Rd_isWord (w : Nat) (q : St) : Option (Int32) :=
  if (gt q 155 2) = (1 : Int32) then
    if ((gt q 155 4) - (gt q 155 5)) = (sL w) then
      Rd_isWord_L28 w q FU (0 : Int32)
    else
      some (0 : Int32)
  else
    some (0 : Int32)
theorem w_Rd_isWord {X : Cv} (C : Cx X cX5_isWord RX5 rm_Rd_isWord 3) (S : IsK X) {w : Nat} (hw : w < 8) {q : St} {z : Int32} (hret : RokI X cX5_isWord .boolean z q) (h : Rd_isWord w q = some z) : At X 0 [(0, .ref (adOf X 155)), (1, .ref (adOf X (1000 + w)))] [] q := by
  unfold Rd_isWord at h
  refine a_aload_n C 0 rfl rfl dX5_isWord_0 ?_
  refine gK_5_47 C S dX5_isWord_1 ?_
  refine a_iconst (v := 1) C (by decide) dX5_isWord_4 ?_
  refine a_icmp_ne C 24 (by decide) dX5_isWord_5 (fun c1 => ?_) (fun c1 => ?_)
  · replace h := ifn c1 h
    refine a_iconst (v := 0) C (by decide) dX5_isWord_24 ?_
    exact a_iretR hret h rfl dX5_isWord_25
  · replace h := ifp c1 h
    refine a_aload_n C 0 rfl rfl dX5_isWord_8 ?_
    refine gK_5_24 C S dX5_isWord_9 ?_
    refine a_aload_n C 0 rfl rfl dX5_isWord_12 ?_
    refine gK_5_125 C S dX5_isWord_13 ?_
    refine a_isub C dX5_isWord_16 ?_
    refine a_aload_n C 1 rfl rfl dX5_isWord_17 ?_
    refine k_sLen C S hw (tg 599 (by decide +kernel) rfl) ⟨(Nat.le_of_ble_eq_true rfl), (Nat.le_of_ble_eq_true rfl)⟩ (Nat.le_of_ble_eq_true rfl) dX5_isWord_18 ?_
    refine a_icmp_eq C 26 (by decide) dX5_isWord_21 (fun c2 => ?_) (fun c2 => ?_)
    · replace h := ifp c2 h
      refine a_iconst (v := 0) C (by decide) dX5_isWord_26 ?_
      refine a_istore_n C [(2, .int (0 : Int32)), (0, .ref (adOf X 155)), (1, .ref (adOf X (1000 + w)))] rfl (by decide) rfl dX5_isWord_27 ?_
      exact At.sub [1, 2, 0] rfl (w_Rd_isWord_L28 C S hw _ hret _ _ h)
    · replace h := ifn c2 h
      refine a_iconst (v := 0) C (by decide) dX5_isWord_24 ?_
      exact a_iretR hret h rfl dX5_isWord_25
theorem c_Rd_isWord {l : Launch} {D : va_G} {I : ClassId × ClassId × ClassId × ClassId} {ad : Nat → Nat} {w : Nat} (hw : w < 8) {q : St} {z : Int32} (h : Rd_isWord w q = some z) : Ctr l D I (zK ad) 168 (shK I) ad yX5_isWord cX5_isWord 3 (some .boolean) rm_Rd_isWord [.ref (ad 155), .ref (ad (1000 + w))] q (some z) q :=
  ctr_ofI (by decide) (Nat.le_of_ble_eq_true rfl) (fun p e s m args below meth c Q H0 X hX C hret => by subst hX; exact w_Rd_isWord C ⟨rfl, rfl, rfl⟩ hw hret h)
theorem kK_5_67 {X : Cv} {cc : ByteArray} {rm : Room} {nL1 pc : Nat} {lv : List (Nat × Value)} {sk : List Value} {q : St} {z : Int32} (C : Cx X cc RX5 rm nL1) (S : IsK X) {w : Nat} (hw : w < 8) (h : Rd_isWord w q = some z) (hz : rm_Rd_isWord.frames + 1 ≤ rm.frames ∧ 8 + (3 + 11) + rm_Rd_isWord.locals ≤ rm.locals) (hr : (sk.map fun v => v.category).sum ≤ 8) (hd : decode cc pc = .ok (.invokevirtual 67, 3)) (k : At X (pc + 3) lv (.int z :: sk) q) : At X pc lv (.ref (adOf X (1000 + w)) :: .ref (adOf X 155) :: sk) q := a_callVi (as := [.ref (adOf X (1000 + w))]) C (kp := 155) (kLt S (by decide)) (by rw [S.2.1]; rfl) rfl (by have hh := c_Rd_isWord (l := X.2.1) (D := dOf X) (I := idOf X) (ad := adOf X) hw h; rw [← S.1, ← S.2.1, ← S.2.2] at hh; exact hh) (gd_V (tg 595 (by decide +kernel) rfl) (tg 597 (by decide +kernel) rfl) (tg 5 (by decide +kernel) rfl) (tg 120 (by decide +kernel) rfl) (tg 598 (by decide +kernel) rfl)) ⟨rfl, rfl, hz.1, hz.2⟩ ⟨by decide, by decide, by show Option.map _ (parseMethodDescriptor yX5_isWord.desc) = some 1; decide⟩ hr rfl hd k
abbrev rm_Rd_takeWord : Room := { frames := 6, cells := 0, slots := 0, locals := 172 }
def Rd_takeWord (w : Nat) (q : St) : Option (Int32 × St) :=
  b1 (Rd_isWord w q) fun x1 =>
  if x1 = (0 : Int32) then
    some ((0 : Int32), q)
  else
    b1 (Rd_nextToken q) fun q3 =>
    some ((1 : Int32), q3)
theorem w_Rd_takeWord {X : Cv} (C : Cx X cX5_takeWord RX5 rm_Rd_takeWord 2) (S : IsK X) {w : Nat} (hw : w < 8) {z : Int32 × St} (hret : RokI X cX5_takeWord .boolean z.1 z.2) (q : St) (h : Rd_takeWord w q = some z) : At X 0 [(0, .ref (adOf X 155)), (1, .ref (adOf X (1000 + w)))] [] q := by
  unfold Rd_takeWord at h
  refine a_aload_n C 0 rfl rfl dX5_takeWord_0 ?_
  refine a_aload_n C 1 rfl rfl dX5_takeWord_1 ?_
  obtain ⟨x1, e_x1, h⟩ := b1s h
  refine kK_5_67 C S hw e_x1 ⟨(Nat.le_of_ble_eq_true rfl), (Nat.le_of_ble_eq_true rfl)⟩ (Nat.le_of_ble_eq_true rfl) dX5_takeWord_2 ?_
  refine a_if_ne C 10 (by decide) dX5_takeWord_5 (fun c2 => ?_) (fun c2 => ?_)
  · replace h := ifn c2 h
    refine a_aload_n C 0 rfl rfl dX5_takeWord_10 ?_
    obtain ⟨q3, e_q3, h⟩ := b1s h
    refine kK_5_28 C S e_q3 ⟨(Nat.le_of_ble_eq_true rfl), (Nat.le_of_ble_eq_true rfl)⟩ (Nat.le_of_ble_eq_true rfl) dX5_takeWord_11 ?_
    refine a_iconst (v := 1) C (by decide) dX5_takeWord_14 ?_
    exact a_iret hret h rfl dX5_takeWord_15
  · replace h := ifp c2 h
    refine a_iconst (v := 0) C (by decide) dX5_takeWord_8 ?_
    exact a_iret hret h rfl dX5_takeWord_9
theorem c_Rd_takeWord {l : Launch} {D : va_G} {I : ClassId × ClassId × ClassId × ClassId} {ad : Nat → Nat} {w : Nat} (hw : w < 8) {q : St} {z : Int32 × St} (h : Rd_takeWord w q = some z) : Ctr l D I (zK ad) 168 (shK I) ad yX5_takeWord cX5_takeWord 2 (some .boolean) rm_Rd_takeWord [.ref (ad 155), .ref (ad (1000 + w))] q (some z.1) z.2 :=
  ctr_ofI (by decide) (Nat.le_of_ble_eq_true rfl) (fun p e s m args below meth c Q H0 X hX C hret => by subst hX; exact w_Rd_takeWord C ⟨rfl, rfl, rfl⟩ hw hret _ h)
theorem kK_5_52 {X : Cv} {cc : ByteArray} {rm : Room} {nL1 pc : Nat} {lv : List (Nat × Value)} {sk : List Value} {q : St} {z : Int32} {q2 : St} (C : Cx X cc RX5 rm nL1) (S : IsK X) {w : Nat} (hw : w < 8) (h : Rd_takeWord w q = some (z, q2)) (hz : rm_Rd_takeWord.frames + 1 ≤ rm.frames ∧ 8 + (2 + 11) + rm_Rd_takeWord.locals ≤ rm.locals) (hr : (sk.map fun v => v.category).sum ≤ 8) (hd : decode cc pc = .ok (.invokevirtual 52, 3)) (k : At X (pc + 3) lv (.int z :: sk) q2) : At X pc lv (.ref (adOf X (1000 + w)) :: .ref (adOf X 155) :: sk) q := a_callVi (as := [.ref (adOf X (1000 + w))]) C (kp := 155) (kLt S (by decide)) (by rw [S.2.1]; rfl) rfl (by have hh := c_Rd_takeWord (l := X.2.1) (D := dOf X) (I := idOf X) (ad := adOf X) hw h; rw [← S.1, ← S.2.1, ← S.2.2] at hh; exact hh) (gd_V (tg 591 (by decide +kernel) rfl) (tg 593 (by decide +kernel) rfl) (tg 4 (by decide +kernel) rfl) (tg 120 (by decide +kernel) rfl) (tg 594 (by decide +kernel) rfl)) ⟨rfl, rfl, hz.1, hz.2⟩ ⟨by decide, by decide, by show Option.map _ (parseMethodDescriptor yX5_takeWord.desc) = some 1; decide⟩ hr rfl hd k
abbrev rm_Rd_takeNumber : Room := { frames := 3, cells := 0, slots := 0, locals := 64 }
def Rd_takeNumber (q : St) (v1 : Int32) (v2 : Int32) : Option (Int32 × St) :=
  if (gt q 155 2) = (2 : Int32) then
    if (gt q 155 3) < v1 then
      some ((-1 : Int32), q)
    else
      if (gt q 155 3) ≤ v2 then
        lt_ (gt q 155 3) fun w4 =>
        b1 (Rd_nextToken q) fun q5 =>
        some (w4, q5)
      else
        some ((-1 : Int32), q)
  else
    some ((-1 : Int32), q)
theorem w_Rd_takeNumber {X : Cv} (C : Cx X cX5_takeNumber RX5 rm_Rd_takeNumber 4) (S : IsK X) {z : Int32 × St} (hret : RokI X cX5_takeNumber .int z.1 z.2) (v1 : Int32) (v2 : Int32) (q : St) (h : Rd_takeNumber q v1 v2 = some z) : At X 0 [(0, .ref (adOf X 155)), (1, .int v1), (2, .int v2)] [] q := by
  unfold Rd_takeNumber at h
  refine a_aload_n C 0 rfl rfl dX5_takeNumber_0 ?_
  refine gK_5_47 C S dX5_takeNumber_1 ?_
  refine a_iconst (v := 2) C (by decide) dX5_takeNumber_4 ?_
  refine a_icmp_ne C 24 (by decide) dX5_takeNumber_5 (fun c1 => ?_) (fun c1 => ?_)
  · replace h := ifn c1 h
    refine a_iconst (v := -1) C (by decide) dX5_takeNumber_24 ?_
    exact a_iret hret h rfl dX5_takeNumber_25
  · replace h := ifp c1 h
    refine a_aload_n C 0 rfl rfl dX5_takeNumber_8 ?_
    refine gK_5_76 C S dX5_takeNumber_9 ?_
    refine a_iload_n C 1 rfl rfl dX5_takeNumber_12 ?_
    refine a_icmp_lt C 24 (by decide) dX5_takeNumber_13 (fun c2 => ?_) (fun c2 => ?_)
    · replace h := ifp c2 h
      refine a_iconst (v := -1) C (by decide) dX5_takeNumber_24 ?_
      exact a_iret hret h rfl dX5_takeNumber_25
    · replace h := ifn c2 h
      refine a_aload_n C 0 rfl rfl dX5_takeNumber_16 ?_
      refine gK_5_76 C S dX5_takeNumber_17 ?_
      refine a_iload_n C 2 rfl rfl dX5_takeNumber_20 ?_
      refine a_icmp_le C 26 (by decide) dX5_takeNumber_21 (fun c3 => ?_) (fun c3 => ?_)
      · replace h := ifp c3 h
        refine a_aload_n C 0 rfl rfl dX5_takeNumber_26 ?_
        refine gK_5_76 C S dX5_takeNumber_27 ?_
        obtain ⟨w4, e_w4, h⟩ := lts h
        refine a_top e_w4 ?_
        refine a_istore_n C [(3, .int w4), (0, .ref (adOf X 155)), (1, .int v1), (2, .int v2)] rfl (by decide) rfl dX5_takeNumber_30 ?_
        refine a_aload_n C 1 rfl rfl dX5_takeNumber_31 ?_
        obtain ⟨q5, e_q5, h⟩ := b1s h
        refine kK_5_28 C S e_q5 ⟨(Nat.le_of_ble_eq_true rfl), (Nat.le_of_ble_eq_true rfl)⟩ (Nat.le_of_ble_eq_true rfl) dX5_takeNumber_32 ?_
        refine a_iload_n C 0 rfl rfl dX5_takeNumber_35 ?_
        exact a_iret hret h rfl dX5_takeNumber_36
      · replace h := ifn c3 h
        refine a_iconst (v := -1) C (by decide) dX5_takeNumber_24 ?_
        exact a_iret hret h rfl dX5_takeNumber_25
theorem c_Rd_takeNumber {l : Launch} {D : va_G} {I : ClassId × ClassId × ClassId × ClassId} {ad : Nat → Nat} {q : St} {v1 : Int32} {v2 : Int32} {z : Int32 × St} (h : Rd_takeNumber q v1 v2 = some z) : Ctr l D I (zK ad) 168 (shK I) ad yX5_takeNumber cX5_takeNumber 4 (some .int) rm_Rd_takeNumber [.ref (ad 155), .int v1, .int v2] q (some z.1) z.2 :=
  ctr_ofI (by decide) (Nat.le_of_ble_eq_true rfl) (fun p e s m args below meth c Q H0 X hX C hret => by subst hX; exact w_Rd_takeNumber C ⟨rfl, rfl, rfl⟩ hret _ _ _ h)
theorem kK_5_56 {X : Cv} {cc : ByteArray} {rm : Room} {nL1 pc : Nat} {lv : List (Nat × Value)} {sk : List Value} {q : St} {v1 : Int32} {v2 : Int32} {z : Int32} {q2 : St} (C : Cx X cc RX5 rm nL1) (S : IsK X) (h : Rd_takeNumber q v1 v2 = some (z, q2)) (hz : rm_Rd_takeNumber.frames + 1 ≤ rm.frames ∧ 8 + (4 + 11) + rm_Rd_takeNumber.locals ≤ rm.locals) (hr : (sk.map fun v => v.category).sum ≤ 8) (hd : decode cc pc = .ok (.invokevirtual 56, 3)) (k : At X (pc + 3) lv (.int z :: sk) q2) : At X pc lv (.int v2 :: .int v1 :: .ref (adOf X 155) :: sk) q := a_callVi (as := [.int v1, .int v2]) C (kp := 155) (kLt S (by decide)) (by rw [S.2.1]; rfl) rfl (by have hh := c_Rd_takeNumber (l := X.2.1) (D := dOf X) (I := idOf X) (ad := adOf X) h; rw [← S.1, ← S.2.1, ← S.2.2] at hh; exact hh) (gd_V (tg 647 (by decide +kernel) rfl) (tg 649 (by decide +kernel) rfl) (tg 6 (by decide +kernel) rfl) (tg 120 (by decide +kernel) rfl) (tg 650 (by decide +kernel) rfl)) ⟨rfl, rfl, hz.1, hz.2⟩ ⟨by decide, by decide, by show Option.map _ (parseMethodDescriptor yX5_takeNumber.desc) = some 2; decide⟩ hr rfl hd k
abbrev rm_Rd_takeSemicolon : Room := { frames := 3, cells := 0, slots := 0, locals := 64 }
def Rd_takeSemicolon (q : St) : Option (Int32 × St) :=
  if (gt q 155 2) = (3 : Int32) then
    b1 (Rd_nextToken q) fun q2 =>
    some ((1 : Int32), q2)
  else
    some ((0 : Int32), q)
theorem w_Rd_takeSemicolon {X : Cv} (C : Cx X cX5_takeSemicolon RX5 rm_Rd_takeSemicolon 1) (S : IsK X) {z : Int32 × St} (hret : RokI X cX5_takeSemicolon .boolean z.1 z.2) (q : St) (h : Rd_takeSemicolon q = some z) : At X 0 [(0, .ref (adOf X 155))] [] q := by
  unfold Rd_takeSemicolon at h
  refine a_aload_n C 0 rfl rfl dX5_takeSemicolon_0 ?_
  refine gK_5_47 C S dX5_takeSemicolon_1 ?_
  refine a_iconst (v := 3) C (by decide) dX5_takeSemicolon_4 ?_
  refine a_icmp_eq C 10 (by decide) dX5_takeSemicolon_5 (fun c1 => ?_) (fun c1 => ?_)
  · replace h := ifp c1 h
    refine a_aload_n C 0 rfl rfl dX5_takeSemicolon_10 ?_
    obtain ⟨q2, e_q2, h⟩ := b1s h
    refine kK_5_28 C S e_q2 ⟨(Nat.le_of_ble_eq_true rfl), (Nat.le_of_ble_eq_true rfl)⟩ (Nat.le_of_ble_eq_true rfl) dX5_takeSemicolon_11 ?_
    refine a_iconst (v := 1) C (by decide) dX5_takeSemicolon_14 ?_
    exact a_iret hret h rfl dX5_takeSemicolon_15
  · replace h := ifn c1 h
    refine a_iconst (v := 0) C (by decide) dX5_takeSemicolon_8 ?_
    exact a_iret hret h rfl dX5_takeSemicolon_9
theorem c_Rd_takeSemicolon {l : Launch} {D : va_G} {I : ClassId × ClassId × ClassId × ClassId} {ad : Nat → Nat} {q : St} {z : Int32 × St} (h : Rd_takeSemicolon q = some z) : Ctr l D I (zK ad) 168 (shK I) ad yX5_takeSemicolon cX5_takeSemicolon 1 (some .boolean) rm_Rd_takeSemicolon [.ref (ad 155)] q (some z.1) z.2 :=
  ctr_ofI (by decide) (Nat.le_of_ble_eq_true rfl) (fun p e s m args below meth c Q H0 X hX C hret => by subst hX; exact w_Rd_takeSemicolon C ⟨rfl, rfl, rfl⟩ hret _ h)
theorem kK_5_62 {X : Cv} {cc : ByteArray} {rm : Room} {nL1 pc : Nat} {lv : List (Nat × Value)} {sk : List Value} {q : St} {z : Int32} {q2 : St} (C : Cx X cc RX5 rm nL1) (S : IsK X) (h : Rd_takeSemicolon q = some (z, q2)) (hz : rm_Rd_takeSemicolon.frames + 1 ≤ rm.frames ∧ 8 + (1 + 11) + rm_Rd_takeSemicolon.locals ≤ rm.locals) (hr : (sk.map fun v => v.category).sum ≤ 8) (hd : decode cc pc = .ok (.invokevirtual 62, 3)) (k : At X (pc + 3) lv (.int z :: sk) q2) : At X pc lv (.ref (adOf X 155) :: sk) q := a_callVi (as := []) C (kp := 155) (kLt S (by decide)) (by rw [S.2.1]; rfl) rfl (by have hh := c_Rd_takeSemicolon (l := X.2.1) (D := dOf X) (I := idOf X) (ad := adOf X) h; rw [← S.1, ← S.2.1, ← S.2.2] at hh; exact hh) (gd_V (tg 651 (by decide +kernel) rfl) (tg 653 (by decide +kernel) rfl) (tg 7 (by decide +kernel) rfl) (tg 120 (by decide +kernel) rfl) (tg 654 (by decide +kernel) rfl)) ⟨rfl, rfl, hz.1, hz.2⟩ ⟨by decide, by decide, by show Option.map _ (parseMethodDescriptor yX5_takeSemicolon.desc) = some 0; decide⟩ hr rfl hd k
abbrev rm_Rd_readNodes : Room := { frames := 7, cells := 0, slots := 0, locals := 193 }
def Rd_readNodes (q : St) : Option (Int32 × St) :=
  b2 (Rd_takeWord 0 q) fun x1 q2 =>
  if x1 = (0 : Int32) then
    some ((0 : Int32), q2)
  else
    b2 (Rd_takeNumber q2 (2 : Int32) (16 : Int32)) fun x4 q5 =>
    lt_ (st q5 10 0 x4) fun q6 =>
    if (gt q6 10 0) = (-1 : Int32) then
      some ((0 : Int32), q6)
    else
      b2 (Rd_takeSemicolon q6) fun x8 q9 =>
      if x8 = (0 : Int32) then
        some ((0 : Int32), q9)
      else
        some ((1 : Int32), q9)
theorem w_Rd_readNodes {X : Cv} (C : Cx X cX5_readNodes RX5 rm_Rd_readNodes 1) (S : IsK X) {z : Int32 × St} (hret : RokI X cX5_readNodes .boolean z.1 z.2) (q : St) (h : Rd_readNodes q = some z) : At X 0 [(0, .ref (adOf X 155))] [] q := by
  unfold Rd_readNodes at h
  refine a_aload_n C 0 rfl rfl dX5_readNodes_0 ?_
  refine a_ldcS C S 0 (by decide) dX5_readNodes_1 ?_
  obtain ⟨x1, q2, e_q2, h⟩ := b2s h
  refine kK_5_52 C S (by decide) e_q2 ⟨(Nat.le_of_ble_eq_true rfl), (Nat.le_of_ble_eq_true rfl)⟩ (Nat.le_of_ble_eq_true rfl) dX5_readNodes_3 ?_
  refine a_if_ne C 11 (by decide) dX5_readNodes_6 (fun c3 => ?_) (fun c3 => ?_)
  · replace h := ifn c3 h
    refine a_aload_n C 0 rfl rfl dX5_readNodes_11 ?_
    refine gK_5_15 C S dX5_readNodes_12 ?_
    refine a_aload_n C 0 rfl rfl dX5_readNodes_15 ?_
    refine a_iconst (v := 2) C (by decide) dX5_readNodes_16 ?_
    refine a_bipush (v := 16) C (by decide) dX5_readNodes_17 ?_
    obtain ⟨x4, q5, e_q5, h⟩ := b2s h
    refine kK_5_56 C S e_q5 ⟨(Nat.le_of_ble_eq_true rfl), (Nat.le_of_ble_eq_true rfl)⟩ (Nat.le_of_ble_eq_true rfl) dX5_readNodes_19 ?_
    obtain ⟨q6, e_q6, h⟩ := lts h
    refine pK_5_60 C S (Or.inr rfl) e_q6 dX5_readNodes_22 ?_
    refine a_aload_n C 0 rfl rfl dX5_readNodes_25 ?_
    refine gK_5_15 C S dX5_readNodes_26 ?_
    refine gK_5_60 C S (Or.inr rfl) dX5_readNodes_29 ?_
    refine a_iconst (v := -1) C (by decide) dX5_readNodes_32 ?_
    refine a_icmp_eq C 47 (by decide) dX5_readNodes_33 (fun c7 => ?_) (fun c7 => ?_)
    · replace h := ifp c7 h
      refine a_iconst (v := 0) C (by decide) dX5_readNodes_47 ?_
      exact a_iret hret h rfl dX5_readNodes_48
    · replace h := ifn c7 h
      refine a_aload_n C 0 rfl rfl dX5_readNodes_36 ?_
      obtain ⟨x8, q9, e_q9, h⟩ := b2s h
      refine kK_5_62 C S e_q9 ⟨(Nat.le_of_ble_eq_true rfl), (Nat.le_of_ble_eq_true rfl)⟩ (Nat.le_of_ble_eq_true rfl) dX5_readNodes_37 ?_
      refine a_if_eq C 47 (by decide) dX5_readNodes_40 (fun c10 => ?_) (fun c10 => ?_)
      · replace h := ifp c10 h
        refine a_iconst (v := 0) C (by decide) dX5_readNodes_47 ?_
        exact a_iret hret h rfl dX5_readNodes_48
      · replace h := ifn c10 h
        refine a_iconst (v := 1) C (by decide) dX5_readNodes_43 ?_
        refine a_goto C 48 (by decide) dX5_readNodes_44 ?_
        exact a_iret hret h rfl dX5_readNodes_48
  · replace h := ifp c3 h
    refine a_iconst (v := 0) C (by decide) dX5_readNodes_9 ?_
    exact a_iret hret h rfl dX5_readNodes_10
theorem c_Rd_readNodes {l : Launch} {D : va_G} {I : ClassId × ClassId × ClassId × ClassId} {ad : Nat → Nat} {q : St} {z : Int32 × St} (h : Rd_readNodes q = some z) : Ctr l D I (zK ad) 168 (shK I) ad yX5_readNodes cX5_readNodes 1 (some .boolean) rm_Rd_readNodes [.ref (ad 155)] q (some z.1) z.2 :=
  ctr_ofI (by decide) (Nat.le_of_ble_eq_true rfl) (fun p e s m args below meth c Q H0 X hX C hret => by subst hX; exact w_Rd_readNodes C ⟨rfl, rfl, rfl⟩ hret _ h)
theorem kK_5_31 {X : Cv} {cc : ByteArray} {rm : Room} {nL1 pc : Nat} {lv : List (Nat × Value)} {sk : List Value} {q : St} {z : Int32} {q2 : St} (C : Cx X cc RX5 rm nL1) (S : IsK X) (h : Rd_readNodes q = some (z, q2)) (hz : rm_Rd_readNodes.frames + 1 ≤ rm.frames ∧ 8 + (1 + 11) + rm_Rd_readNodes.locals ≤ rm.locals) (hr : (sk.map fun v => v.category).sum ≤ 8) (hd : decode cc pc = .ok (.invokevirtual 31, 3)) (k : At X (pc + 3) lv (.int z :: sk) q2) : At X pc lv (.ref (adOf X 155) :: sk) q := a_callVi (as := []) C (kp := 155) (kLt S (by decide)) (by rw [S.2.1]; rfl) rfl (by have hh := c_Rd_readNodes (l := X.2.1) (D := dOf X) (I := idOf X) (ad := adOf X) h; rw [← S.1, ← S.2.1, ← S.2.2] at hh; exact hh) (gd_V (tg 586 (by decide +kernel) rfl) (tg 588 (by decide +kernel) rfl) (tg 3 (by decide +kernel) rfl) (tg 120 (by decide +kernel) rfl) (tg 589 (by decide +kernel) rfl)) ⟨rfl, rfl, hz.1, hz.2⟩ ⟨by decide, by decide, by show Option.map _ (parseMethodDescriptor yX5_readNodes.desc) = some 0; decide⟩ hr rfl hd k
abbrev rm_Rd_isLinked : Room := { frames := 0, cells := 0, slots := 0, locals := 0 }
def Rd_isLinked (q : St) (v1 : Int32) (v2 : Int32) : Option (Int32) :=
  if v2 < (0 : Int32) then
    some (0 : Int32)
  else
    if (gt q 10 0) ≤ v2 then
      some (0 : Int32)
    else
      b1 (rd 256 q 15 ((v1 * (16 : Int32)) + v2)) fun x3 =>
      if x3 = (-1 : Int32) then
        some (0 : Int32)
      else
        some (1 : Int32)
theorem w_Rd_isLinked {X : Cv} (C : Cx X cX5_isLinked RX5 rm_Rd_isLinked 3) (S : IsK X) {q : St} {z : Int32} (hret : RokI X cX5_isLinked .boolean z q) (v1 : Int32) (v2 : Int32) (h : Rd_isLinked q v1 v2 = some z) : At X 0 [(0, .ref (adOf X 155)), (1, .int v1), (2, .int v2)] [] q := by
  unfold Rd_isLinked at h
  refine a_iload_n C 2 rfl rfl dX5_isLinked_0 ?_
  refine a_if_lt C 37 (by decide) dX5_isLinked_1 (fun c1 => ?_) (fun c1 => ?_)
  · replace h := ifp c1 h
    refine a_iconst (v := 0) C (by decide) dX5_isLinked_37 ?_
    exact a_iretR hret h rfl dX5_isLinked_38
  · replace h := ifn c1 h
    refine a_iload_n C 2 rfl rfl dX5_isLinked_4 ?_
    refine a_aload_n C 0 rfl rfl dX5_isLinked_5 ?_
    refine gK_5_15 C S dX5_isLinked_6 ?_
    refine gK_5_60 C S (Or.inr rfl) dX5_isLinked_9 ?_
    refine a_icmp_ge C 37 (by decide) dX5_isLinked_12 (fun c2 => ?_) (fun c2 => ?_)
    · replace h := ifp c2 h
      refine a_iconst (v := 0) C (by decide) dX5_isLinked_37 ?_
      exact a_iretR hret h rfl dX5_isLinked_38
    · replace h := ifn c2 h
      refine a_aload_n C 0 rfl rfl dX5_isLinked_15 ?_
      refine gK_5_15 C S dX5_isLinked_16 ?_
      refine gK_5_91 C S (Or.inr rfl) dX5_isLinked_19 ?_
      refine a_iload_n C 1 rfl rfl dX5_isLinked_22 ?_
      refine a_bipush (v := 16) C (by decide) dX5_isLinked_23 ?_
      refine a_imul C dX5_isLinked_25 ?_
      refine a_iload_n C 2 rfl rfl dX5_isLinked_26 ?_
      refine a_iadd C dX5_isLinked_27 ?_
      obtain ⟨x3, e_x3, h⟩ := b1s h
      refine lK_u5 (o := 10) C S (Or.inr rfl) e_x3 dX5_isLinked_28 ?_
      refine a_iconst (v := -1) C (by decide) dX5_isLinked_29 ?_
      refine a_icmp_eq C 37 (by decide) dX5_isLinked_30 (fun c4 => ?_) (fun c4 => ?_)
      · replace h := ifp c4 h
        refine a_iconst (v := 0) C (by decide) dX5_isLinked_37 ?_
        exact a_iretR hret h rfl dX5_isLinked_38
      · replace h := ifn c4 h
        refine a_iconst (v := 1) C (by decide) dX5_isLinked_33 ?_
        refine a_goto C 38 (by decide) dX5_isLinked_34 ?_
        exact a_iretR hret h rfl dX5_isLinked_38
theorem c_Rd_isLinked {l : Launch} {D : va_G} {I : ClassId × ClassId × ClassId × ClassId} {ad : Nat → Nat} {q : St} {v1 : Int32} {v2 : Int32} {z : Int32} (h : Rd_isLinked q v1 v2 = some z) : Ctr l D I (zK ad) 168 (shK I) ad yX5_isLinked cX5_isLinked 3 (some .boolean) rm_Rd_isLinked [.ref (ad 155), .int v1, .int v2] q (some z) q :=
  ctr_ofI (by decide) (Nat.le_of_ble_eq_true rfl) (fun p e s m args below meth c Q H0 X hX C hret => by subst hX; exact w_Rd_isLinked C ⟨rfl, rfl, rfl⟩ hret _ _ h)
theorem kK_5_79 {X : Cv} {cc : ByteArray} {rm : Room} {nL1 pc : Nat} {lv : List (Nat × Value)} {sk : List Value} {q : St} {v1 : Int32} {v2 : Int32} {z : Int32} (C : Cx X cc RX5 rm nL1) (S : IsK X) (h : Rd_isLinked q v1 v2 = some z) (hz : rm_Rd_isLinked.frames + 1 ≤ rm.frames ∧ 8 + (3 + 11) + rm_Rd_isLinked.locals ≤ rm.locals) (hr : (sk.map fun v => v.category).sum ≤ 8) (hd : decode cc pc = .ok (.invokevirtual 79, 3)) (k : At X (pc + 3) lv (.int z :: sk) q) : At X pc lv (.int v2 :: .int v1 :: .ref (adOf X 155) :: sk) q := a_callVi (as := [.int v1, .int v2]) C (kp := 155) (kLt S (by decide)) (by rw [S.2.1]; rfl) rfl (by have hh := c_Rd_isLinked (l := X.2.1) (D := dOf X) (I := idOf X) (ad := adOf X) h; rw [← S.1, ← S.2.1, ← S.2.2] at hh; exact hh) (gd_V (tg 664 (by decide +kernel) rfl) (tg 666 (by decide +kernel) rfl) (tg 10 (by decide +kernel) rfl) (tg 120 (by decide +kernel) rfl) (tg 667 (by decide +kernel) rfl)) ⟨rfl, rfl, hz.1, hz.2⟩ ⟨by decide, by decide, by show Option.map _ (parseMethodDescriptor yX5_isLinked.desc) = some 2; decide⟩ hr rfl hd k
abbrev rm_Su_putLink : Room := { frames := 0, cells := 0, slots := 0, locals := 0 }
def Su_putLink (q : St) (v1 : Int32) (v2 : Int32) (v3 : Int32) (v4 : Int32) : Option (St) :=
  b1 (wr 32 q 11 (gt q 10 1) v1) fun q1 =>
  b1 (wr 32 q1 12 (gt q1 10 1) v2) fun q2 =>
  b1 (wr 32 q2 13 (gt q2 10 1) v3) fun q3 =>
  b1 (wr 32 q3 14 (gt q3 10 1) v4) fun q4 =>
  b1 (wr 256 q4 15 ((v1 * (16 : Int32)) + v2) (gt q4 10 1)) fun q5 =>
  b1 (wr 256 q5 15 ((v2 * (16 : Int32)) + v1) (gt q5 10 1)) fun q6 =>
  lt_ (st q6 10 1 ((gt q6 10 1) + (1 : Int32))) fun q7 =>
  some q7
theorem w_Su_putLink {X : Cv} (C : Cx X cX4_putLink RX4 rm_Su_putLink 5) (S : IsK X) {z : St} (hret : RokV X cX4_putLink z) (v1 : Int32) (v2 : Int32) (v3 : Int32) (v4 : Int32) (q : St) (h : Su_putLink q v1 v2 v3 v4 = some z) : At X 0 [(0, .ref (adOf X 10)), (1, .int v1), (2, .int v2), (3, .int v3), (4, .int v4)] [] q := by
  unfold Su_putLink at h
  refine a_aload_n C 0 rfl rfl dX4_putLink_0 ?_
  refine gK_4_9 C S (Or.inr rfl) dX4_putLink_1 ?_
  refine a_aload_n C 0 rfl rfl dX4_putLink_4 ?_
  refine gK_4_40 C S (Or.inr rfl) dX4_putLink_5 ?_
  refine a_iload_n C 1 rfl rfl dX4_putLink_8 ?_
  obtain ⟨q1, e_q1, h⟩ := b1s h
  refine sK_u1 (o := 10) C S (Or.inr rfl) e_q1 dX4_putLink_9 ?_
  refine a_aload_n C 0 rfl rfl dX4_putLink_10 ?_
  refine gK_4_15 C S (Or.inr rfl) dX4_putLink_11 ?_
  refine a_aload_n C 0 rfl rfl dX4_putLink_14 ?_
  refine gK_4_40 C S (Or.inr rfl) dX4_putLink_15 ?_
  refine a_iload_n C 2 rfl rfl dX4_putLink_18 ?_
  obtain ⟨q2, e_q2, h⟩ := b1s h
  refine sK_u2 (o := 10) C S (Or.inr rfl) e_q2 dX4_putLink_19 ?_
  refine a_aload_n C 0 rfl rfl dX4_putLink_20 ?_
  refine gK_4_18 C S (Or.inr rfl) dX4_putLink_21 ?_
  refine a_aload_n C 0 rfl rfl dX4_putLink_24 ?_
  refine gK_4_40 C S (Or.inr rfl) dX4_putLink_25 ?_
  refine a_iload_n C 3 rfl rfl dX4_putLink_28 ?_
  obtain ⟨q3, e_q3, h⟩ := b1s h
  refine sK_u3 (o := 10) C S (Or.inr rfl) e_q3 dX4_putLink_29 ?_
  refine a_aload_n C 0 rfl rfl dX4_putLink_30 ?_
  refine gK_4_21 C S (Or.inr rfl) dX4_putLink_31 ?_
  refine a_aload_n C 0 rfl rfl dX4_putLink_34 ?_
  refine gK_4_40 C S (Or.inr rfl) dX4_putLink_35 ?_
  refine a_iload C 4 rfl dX4_putLink_38 ?_
  obtain ⟨q4, e_q4, h⟩ := b1s h
  refine sK_u4 (o := 10) C S (Or.inr rfl) e_q4 dX4_putLink_40 ?_
  refine a_aload_n C 0 rfl rfl dX4_putLink_41 ?_
  refine gK_4_24 C S (Or.inr rfl) dX4_putLink_42 ?_
  refine a_iload_n C 1 rfl rfl dX4_putLink_45 ?_
  refine a_bipush (v := 16) C (by decide) dX4_putLink_46 ?_
  refine a_imul C dX4_putLink_48 ?_
  refine a_iload_n C 2 rfl rfl dX4_putLink_49 ?_
  refine a_iadd C dX4_putLink_50 ?_
  refine a_aload_n C 0 rfl rfl dX4_putLink_51 ?_
  refine gK_4_40 C S (Or.inr rfl) dX4_putLink_52 ?_
  obtain ⟨q5, e_q5, h⟩ := b1s h
  refine sK_u5 (o := 10) C S (Or.inr rfl) e_q5 dX4_putLink_55 ?_
  refine a_aload_n C 0 rfl rfl dX4_putLink_56 ?_
  refine gK_4_24 C S (Or.inr rfl) dX4_putLink_57 ?_
  refine a_iload_n C 2 rfl rfl dX4_putLink_60 ?_
  refine a_bipush (v := 16) C (by decide) dX4_putLink_61 ?_
  refine a_imul C dX4_putLink_63 ?_
  refine a_iload_n C 1 rfl rfl dX4_putLink_64 ?_
  refine a_iadd C dX4_putLink_65 ?_
  refine a_aload_n C 0 rfl rfl dX4_putLink_66 ?_
  refine gK_4_40 C S (Or.inr rfl) dX4_putLink_67 ?_
  obtain ⟨q6, e_q6, h⟩ := b1s h
  refine sK_u5 (o := 10) C S (Or.inr rfl) e_q6 dX4_putLink_70 ?_
  refine a_aload_n C 0 rfl rfl dX4_putLink_71 ?_
  refine a_dup C rfl dX4_putLink_72 ?_
  refine gK_4_40 C S (Or.inr rfl) dX4_putLink_73 ?_
  refine a_iconst (v := 1) C (by decide) dX4_putLink_76 ?_
  refine a_iadd C dX4_putLink_77 ?_
  obtain ⟨q7, e_q7, h⟩ := lts h
  refine pK_4_40 C S (Or.inr rfl) e_q7 dX4_putLink_78 ?_
  exact a_vret hret h dX4_putLink_81
theorem c_Su_putLink {l : Launch} {D : va_G} {I : ClassId × ClassId × ClassId × ClassId} {ad : Nat → Nat} {q : St} {v1 : Int32} {v2 : Int32} {v3 : Int32} {v4 : Int32} {z : St} (h : Su_putLink q v1 v2 v3 v4 = some z) : Ctr l D I (zK ad) 168 (shK I) ad yX4_putLink cX4_putLink 5 none rm_Su_putLink [.ref (ad 10), .int v1, .int v2, .int v3, .int v4] q none z :=
  ctr_ofV (by decide) (Nat.le_of_ble_eq_true rfl) (fun p e s m args below meth c Q H0 X hX C hret => by subst hX; exact w_Su_putLink C ⟨rfl, rfl, rfl⟩ hret _ _ _ _ _ h)
theorem kK_5_87 {X : Cv} {cc : ByteArray} {rm : Room} {nL1 pc : Nat} {lv : List (Nat × Value)} {sk : List Value} {q : St} {v1 : Int32} {v2 : Int32} {v3 : Int32} {v4 : Int32} {q2 : St} (C : Cx X cc RX5 rm nL1) (S : IsK X) (h : Su_putLink q v1 v2 v3 v4 = some q2) (hz : rm_Su_putLink.frames + 1 ≤ rm.frames ∧ 8 + (5 + 11) + rm_Su_putLink.locals ≤ rm.locals) (hr : (sk.map fun v => v.category).sum ≤ 8) (hd : decode cc pc = .ok (.invokevirtual 87, 3)) (k : At X (pc + 3) lv sk q2) : At X pc lv (.int v4 :: .int v3 :: .int v2 :: .int v1 :: .ref (adOf X 10) :: sk) q := a_callVv (as := [.int v1, .int v2, .int v3, .int v4]) C (kp := 10) (kLt S (by have hS2 : IsSu 10 := (Or.inr rfl); unfold IsSu at hS2; omega)) (by rw [S.2.1]; exact shK_su (o := 10) (j := 0) (Or.inr rfl) (by decide)) rfl (by have hh := c_Su_putLink (l := X.2.1) (D := dOf X) (I := idOf X) (ad := adOf X) h; rw [← S.1, ← S.2.1, ← S.2.2] at hh; exact hh) (gd_V (tg 670 (by decide +kernel) rfl) (tg 671 (by decide +kernel) rfl) (tg 672 (by decide +kernel) rfl) (tg 116 (by decide +kernel) rfl) (tg 673 (by decide +kernel) rfl)) ⟨rfl, rfl, hz.1, hz.2⟩ ⟨by decide, by decide, by show Option.map _ (parseMethodDescriptor yX4_putLink.desc) = some 4; decide⟩ hr rfl hd k
