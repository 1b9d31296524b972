abbrev rm_Fl_measure : Room := { frames := 2, cells := 0, slots := 0, locals := 50 }
def Fl_measure_B26 (k : St → Option (St)) (rec : Int32 → St → Option (St)) (v1 : Int32) (q : St) : Option (St) :=
  if (gt q 19 0) ≤ v1 then
    k  q
  else
    b1 (Fl_carryUp q v1) fun q5 =>
    rec (v1 + 1) q5
theorem w_Fl_measure_B26 {X : Cv} (C : Cx X cX0_measure RX0 rm_Fl_measure 2) (S : IsK X) {z : St} (hret : RokV X cX0_measure z) (k : St → Option (St)) (hk : ∀ (q : St), k q = some z → At X 48 [(0, .ref (adOf X 157))] [] q) (rec : Int32 → St → Option (St)) (hrec : ∀ (v1 : Int32) (q : St), rec v1 q = some z → At X 26 [(0, .ref (adOf X 157)), (1, .int v1)] [] q) (v1 : Int32) (q : St) (h : Fl_measure_B26 k rec v1 q = some z) : At X 26 [(0, .ref (adOf X 157)), (1, .int v1)] [] q := by
  unfold Fl_measure_B26 at h
  refine a_iload_n C 1 rfl rfl dX0_measure_26 ?_
  refine a_aload_n C 0 rfl rfl dX0_measure_27 ?_
  refine gK_0_25 C S dX0_measure_28 ?_
  refine gK_0_39 C S (Or.inl rfl) dX0_measure_31 ?_
  refine a_icmp_ge C 48 (by decide) dX0_measure_34 (fun c4 => ?_) (fun c4 => ?_)
  · replace h := ifp c4 h
    exact At.sub [0] rfl (hk  _ h)
  · replace h := ifn c4 h
    refine a_aload_n C 0 rfl rfl dX0_measure_37 ?_
    refine a_iload_n C 1 rfl rfl dX0_measure_38 ?_
    obtain ⟨q5, e_q5, h⟩ := b1s h
    refine kK_0_45 C S e_q5 ⟨(Nat.le_of_ble_eq_true rfl), (Nat.le_of_ble_eq_true rfl)⟩ (Nat.le_of_ble_eq_true rfl) dX0_measure_39 ?_
    refine a_iinc (v := (v1 + 1)) C [(1, .int (v1 + 1)), (0, .ref (adOf X 157))] 1 rfl (congrArg (HAdd.hAdd v1) (by decide : Int32.ofInt (1) = (1 : Int32))) (by decide) rfl dX0_measure_42 ?_
    refine a_goto C 26 (by decide) dX0_measure_45 ?_
    exact At.sub [1, 0] rfl (hrec _ _ h)
def Fl_measure_L26 (k : St → Option (St)) : Nat → Int32 → St → Option (St)
  | 0, _, _ => none
  | n + 1, v1, q => Fl_measure_B26 k (Fl_measure_L26 k n) v1 q
theorem w_Fl_measure_L26 {X : Cv} (C : Cx X cX0_measure RX0 rm_Fl_measure 2) (S : IsK X) {z : St} (hret : RokV X cX0_measure z) (k : St → Option (St)) (hk : ∀ (q : St), k q = some z → At X 48 [(0, .ref (adOf X 157))] [] q) (n : Nat) : ∀ (v1 : Int32) (q : St), Fl_measure_L26 k n v1 q = some z → At X 26 [(0, .ref (adOf X 157)), (1, .int v1)] [] q := by
  induction n with
  | zero => intro v1 q h; cases h
  | succ n ih => intro v1 q h; exact w_Fl_measure_B26 C S hret k hk _ ih v1 q h
def Fl_measure_B50 (rec : Int32 → St → Option (St)) (v1 : Int32) (q : St) : Option (St) :=
  if (gt q 1 0) ≤ v1 then
    some q
  else
    b1 (Fl_addLoads q v1) fun q8 =>
    rec (v1 + 1) q8
theorem w_Fl_measure_B50 {X : Cv} (C : Cx X cX0_measure RX0 rm_Fl_measure 2) (S : IsK X) {z : St} (hret : RokV X cX0_measure z) (rec : Int32 → St → Option (St)) (hrec : ∀ (v1 : Int32) (q : St), rec v1 q = some z → At X 50 [(0, .ref (adOf X 157)), (1, .int v1)] [] q) (v1 : Int32) (q : St) (h : Fl_measure_B50 rec v1 q = some z) : At X 50 [(0, .ref (adOf X 157)), (1, .int v1)] [] q := by
  unfold Fl_measure_B50 at h
  refine a_iload_n C 1 rfl rfl dX0_measure_50 ?_
  refine a_aload_n C 0 rfl rfl dX0_measure_51 ?_
  refine gK_0_21 C S dX0_measure_52 ?_
  refine gK_0_49 C S (Or.inl rfl) dX0_measure_55 ?_
  refine a_icmp_ge C 72 (by decide) dX0_measure_58 (fun c7 => ?_) (fun c7 => ?_)
  · replace h := ifp c7 h
    exact a_vret hret h dX0_measure_72
  · replace h := ifn c7 h
    refine a_aload_n C 0 rfl rfl dX0_measure_61 ?_
    refine a_iload_n C 1 rfl rfl dX0_measure_62 ?_
    obtain ⟨q8, e_q8, h⟩ := b1s h
    refine kK_0_54 C S e_q8 ⟨(Nat.le_of_ble_eq_true rfl), (Nat.le_of_ble_eq_true rfl)⟩ (Nat.le_of_ble_eq_true rfl) dX0_measure_63 ?_
    refine a_iinc (v := (v1 + 1)) C [(1, .int (v1 + 1)), (0, .ref (adOf X 157))] 1 rfl (congrArg (HAdd.hAdd v1) (by decide : Int32.ofInt (1) = (1 : Int32))) (by decide) rfl dX0_measure_66 ?_
    refine a_goto C 50 (by decide) dX0_measure_69 ?_
    exact At.sub [1, 0] rfl (hrec _ _ h)
def Fl_measure_L50 : Nat → Int32 → St → Option (St)
  | 0, _, _ => none
  | n + 1, v1, q => Fl_measure_B50 (Fl_measure_L50 n) v1 q
theorem w_Fl_measure_L50 {X : Cv} (C : Cx X cX0_measure RX0 rm_Fl_measure 2) (S : IsK X) {z : St} (hret : RokV X cX0_measure z) (n : Nat) : ∀ (v1 : Int32) (q : St), Fl_measure_L50 n v1 q = some z → At X 50 [(0, .ref (adOf X 157)), (1, .int v1)] [] q := by
  induction n with
  | zero => intro v1 q h; cases h
  | succ n ih => intro v1 q h; exact w_Fl_measure_B50 C S hret _ ih v1 q h
def Fl_measure (q : St) : Option (St) :=
  b1 (J_fill 64 158 q (0 : Int32)) fun q1 =>
  b1 (J_fill 32 159 q1 (0 : Int32)) fun q2 =>
  b1 (J_fill 16 160 q2 (0 : Int32)) fun q3 =>
  Fl_measure_L26 (fun q6 =>
    Fl_measure_L50 FU (0 : Int32) q6
    ) FU (0 : Int32) q3
theorem w_Fl_measure {X : Cv} (C : Cx X cX0_measure RX0 rm_Fl_measure 2) (S : IsK X) {z : St} (hret : RokV X cX0_measure z) (q : St) (h : Fl_measure q = some z) : At X 0 [(0, .ref (adOf X 157))] [] q := by
  unfold Fl_measure at h
  refine a_aload_n C 0 rfl rfl dX0_measure_0 ?_
  refine gK_0_9 C S dX0_measure_1 ?_
  refine a_iconst (v := 0) C (by decide) dX0_measure_4 ?_
  obtain ⟨q1, e_q1, h⟩ := b1s h
  refine k_J_fill C (p := 158) (kLt S (by decide)) (by rw [S.2.1]; intro f w; rfl) e_q1 (tg 836 (by decide +kernel) rfl) ⟨(Nat.le_of_ble_eq_true rfl), (Nat.le_of_ble_eq_true rfl)⟩ (Nat.le_of_ble_eq_true rfl) dX0_measure_5 ?_
  refine a_aload_n C 0 rfl rfl dX0_measure_8 ?_
  refine gK_0_15 C S dX0_measure_9 ?_
  refine a_iconst (v := 0) C (by decide) dX0_measure_12 ?_
  obtain ⟨q2, e_q2, h⟩ := b1s h
  refine k_J_fill C (p := 159) (kLt S (by decide)) (by rw [S.2.1]; intro f w; rfl) e_q2 (tg 836 (by decide +kernel) rfl) ⟨(Nat.le_of_ble_eq_true rfl), (Nat.le_of_ble_eq_true rfl)⟩ (Nat.le_of_ble_eq_true rfl) dX0_measure_13 ?_
  refine a_aload_n C 0 rfl rfl dX0_measure_16 ?_
  refine gK_0_18 C S dX0_measure_17 ?_
  refine a_iconst (v := 0) C (by decide) dX0_measure_20 ?_
  obtain ⟨q3, e_q3, h⟩ := b1s h
  refine k_J_fill C (p := 160) (kLt S (by decide)) (by rw [S.2.1]; intro f w; rfl) e_q3 (tg 836 (by decide +kernel) rfl) ⟨(Nat.le_of_ble_eq_true rfl), (Nat.le_of_ble_eq_true rfl)⟩ (Nat.le_of_ble_eq_true rfl) dX0_measure_21 ?_
  refine a_iconst (v := 0) C (by decide) dX0_measure_24 ?_
  refine a_istore_n C [(1, .int (0 : Int32)), (0, .ref (adOf X 157))] rfl (by decide) rfl dX0_measure_25 ?_
  refine At.sub [1, 0] rfl (w_Fl_measure_L26 C S hret _ ?_ _ _ _ h)
  intro q6 h
  refine a_iconst (v := 0) C (by decide) dX0_measure_48 ?_
  refine a_istore_n C [(1, .int (0 : Int32)), (0, .ref (adOf X 157))] rfl (by decide) rfl dX0_measure_49 ?_
  exact At.sub [1, 0] rfl (w_Fl_measure_L50 C S hret _ _ _ h)
theorem c_Fl_measure {l : Launch} {D : va_G} {I : ClassId × ClassId × ClassId × ClassId} {ad : Nat → Nat} {q : St} {z : St} (h : Fl_measure q = some z) : Ctr l D I (zK ad) 168 (shK I) ad yX0_measure cX0_measure 2 none rm_Fl_measure [.ref (ad 157)] q none z :=
  ctr_ofV (by decide) (Nat.le_of_ble_eq_true rfl) (fun p e s m args below meth c Q H0 X hX C hret => by subst hX; exact w_Fl_measure C ⟨rfl, rfl, rfl⟩ hret _ h)
theorem kK_9_68 {X : Cv} {cc : ByteArray} {rm : Room} {nL1 pc : Nat} {lv : List (Nat × Value)} {sk : List Value} {q : St} {q2 : St} (C : Cx X cc RX9 rm nL1) (S : IsK X) (h : Fl_measure q = some q2) (hz : rm_Fl_measure.frames + 1 ≤ rm.frames ∧ 8 + (2 + 11) + rm_Fl_measure.locals ≤ rm.locals) (hr : (sk.map fun v => v.category).sum ≤ 8) (hd : decode cc pc = .ok (.invokevirtual 68, 3)) (k : At X (pc + 3) lv sk q2) : At X pc lv (.ref (adOf X 157) :: sk) q := a_callVv (as := []) C (kp := 157) (kLt S (by decide)) (by rw [S.2.1]; rfl) rfl (by have hh := c_Fl_measure (l := X.2.1) (D := dOf X) (I := idOf X) (ad := adOf X) h; rw [← S.1, ← S.2.1, ← S.2.2] at hh; exact hh) (gd_V (tg 832 (by decide +kernel) rfl) (tg 833 (by decide +kernel) rfl) (tg 834 (by decide +kernel) rfl) (tg 122 (by decide +kernel) rfl) (tg 835 (by decide +kernel) rfl)) ⟨rfl, rfl, hz.1, hz.2⟩ ⟨by decide, by decide, by show Option.map _ (parseMethodDescriptor yX0_measure.desc) = some 0; decide⟩ hr rfl hd k
theorem kK_10_247 {X : Cv} {cc : ByteArray} {rm : Room} {nL1 pc : Nat} {lv : List (Nat × Value)} {sk : List Value} {q : St} {q2 : St} (C : Cx X cc RX10 rm nL1) (S : IsK X) (h : Fl_measure q = some q2) (hz : rm_Fl_measure.frames + 1 ≤ rm.frames ∧ 8 + (2 + 11) + rm_Fl_measure.locals ≤ rm.locals) (hr : (sk.map fun v => v.category).sum ≤ 8) (hd : decode cc pc = .ok (.invokevirtual 247, 3)) (k : At X (pc + 3) lv sk q2) : At X pc lv (.ref (adOf X 157) :: sk) q := a_callVv (as := []) C (kp := 157) (kLt S (by decide)) (by rw [S.2.1]; rfl) rfl (by have hh := c_Fl_measure (l := X.2.1) (D := dOf X) (I := idOf X) (ad := adOf X) h; rw [← S.1, ← S.2.1, ← S.2.2] at hh; exact hh) (gd_V (tg 1057 (by decide +kernel) rfl) (tg 833 (by decide +kernel) rfl) (tg 834 (by decide +kernel) rfl) (tg 122 (by decide +kernel) rfl) (tg 835 (by decide +kernel) rfl)) ⟨rfl, rfl, hz.1, hz.2⟩ ⟨by decide, by decide, by show Option.map _ (parseMethodDescriptor yX0_measure.desc) = some 0; decide⟩ hr rfl hd k
theorem kK_0_93 {X : Cv} {cc : ByteArray} {rm : Room} {nL1 pc : Nat} {lv : List (Nat × Value)} {sk : List Value} {q : St} {q2 : St} (C : Cx X cc RX0 rm nL1) (S : IsK X) (h : Fl_measure q = some q2) (hz : rm_Fl_measure.frames + 1 ≤ rm.frames ∧ 8 + (2 + 11) + rm_Fl_measure.locals ≤ rm.locals) (hr : (sk.map fun v => v.category).sum ≤ 8) (hd : decode cc pc = .ok (.invokevirtual 93, 3)) (k : At X (pc + 3) lv sk q2) : At X pc lv (.ref (adOf X 157) :: sk) q := a_callVv (as := []) C (kp := 157) (kLt S (by decide)) (by rw [S.2.1]; rfl) rfl (by have hh := c_Fl_measure (l := X.2.1) (D := dOf X) (I := idOf X) (ad := adOf X) h; rw [← S.1, ← S.2.1, ← S.2.2] at hh; exact hh) (gd_V (tg 1121 (by decide +kernel) rfl) (tg 833 (by decide +kernel) rfl) (tg 834 (by decide +kernel) rfl) (tg 122 (by decide +kernel) rfl) (tg 835 (by decide +kernel) rfl)) ⟨rfl, rfl, hz.1, hz.2⟩ ⟨by decide, by decide, by show Option.map _ (parseMethodDescriptor yX0_measure.desc) = some 0; decide⟩ hr rfl hd k
theorem kK_3_27 {X : Cv} {cc : ByteArray} {rm : Room} {nL1 pc : Nat} {lv : List (Nat × Value)} {sk : List Value} {q : St} {q2 : St} (C : Cx X cc RX3 rm nL1) (S : IsK X) (h : Fl_measure q = some q2) (hz : rm_Fl_measure.frames + 1 ≤ rm.frames ∧ 8 + (2 + 11) + rm_Fl_measure.locals ≤ rm.locals) (hr : (sk.map fun v => v.category).sum ≤ 8) (hd : decode cc pc = .ok (.invokevirtual 27, 3)) (k : At X (pc + 3) lv sk q2) : At X pc lv (.ref (adOf X 157) :: sk) q := a_callVv (as := []) C (kp := 157) (kLt S (by decide)) (by rw [S.2.1]; rfl) rfl (by have hh := c_Fl_measure (l := X.2.1) (D := dOf X) (I := idOf X) (ad := adOf X) h; rw [← S.1, ← S.2.1, ← S.2.2] at hh; exact hh) (gd_V (tg 1188 (by decide +kernel) rfl) (tg 833 (by decide +kernel) rfl) (tg 834 (by decide +kernel) rfl) (tg 122 (by decide +kernel) rfl) (tg 835 (by decide +kernel) rfl)) ⟨rfl, rfl, hz.1, hz.2⟩ ⟨by decide, by decide, by show Option.map _ (parseMethodDescriptor yX0_measure.desc) = some 0; decide⟩ hr rfl hd k
abbrev rm_Fl_overloadedLink : Room := { frames := 0, cells := 0, slots := 0, locals := 0 }
def Fl_overloadedLink_B2 (q : St) (rec : Int32 → Option (Int32)) (v1 : Int32) : Option (Int32) :=
  if (gt q 1 1) ≤ v1 then
    some (-1 : Int32)
  else
    b1 (rd 32 q 159 v1) fun x2 =>
    b1 (rd 32 q 25 v1) fun x3 =>
    if x2 ≤ x3 then
      rec (v1 + 1)
    else
      some v1
theorem w_Fl_overloadedLink_B2 {X : Cv} (C : Cx X cX0_overloadedLink RX0 rm_Fl_overloadedLink 2) (S : IsK X) (q : St) {z : Int32} (hret : RokI X cX0_overloadedLink .int z q) (rec : Int32 → Option (Int32)) (hrec : ∀ (v1 : Int32), rec v1 = some z → At X 2 [(0, .ref (adOf X 157)), (1, .int v1)] [] q) (v1 : Int32) (h : Fl_overloadedLink_B2 q rec v1 = some z) : At X 2 [(0, .ref (adOf X 157)), (1, .int v1)] [] q := by
  unfold Fl_overloadedLink_B2 at h
  refine a_iload_n C 1 rfl rfl dX0_overloadedLink_2 ?_
  refine a_aload_n C 0 rfl rfl dX0_overloadedLink_3 ?_
  refine gK_0_21 C S dX0_overloadedLink_4 ?_
  refine gK_0_96 C S (Or.inl rfl) dX0_overloadedLink_7 ?_
  refine a_icmp_ge C 39 (by decide) dX0_overloadedLink_10 (fun c1 => ?_) (fun c1 => ?_)
  · replace h := ifp c1 h
    refine a_iconst (v := -1) C (by decide) dX0_overloadedLink_39 ?_
    exact a_iretR hret h rfl dX0_overloadedLink_40
  · replace h := ifn c1 h
    refine a_aload_n C 0 rfl rfl dX0_overloadedLink_13 ?_
    refine gK_0_15 C S dX0_overloadedLink_14 ?_
    refine a_iload_n C 1 rfl rfl dX0_overloadedLink_17 ?_
    obtain ⟨x2, e_x2, h⟩ := b1s h
    refine lK_159 C S e_x2 dX0_overloadedLink_18 ?_
    refine a_aload_n C 0 rfl rfl dX0_overloadedLink_19 ?_
    refine gK_0_25 C S dX0_overloadedLink_20 ?_
    refine gK_0_109 C S (Or.inl rfl) dX0_overloadedLink_23 ?_
    refine a_iload_n C 1 rfl rfl dX0_overloadedLink_26 ?_
    obtain ⟨x3, e_x3, h⟩ := b1s h
    refine lK_s6 (o := 19) C S (Or.inl rfl) e_x3 dX0_overloadedLink_27 ?_
    refine a_icmp_le C 33 (by decide) dX0_overloadedLink_28 (fun c4 => ?_) (fun c4 => ?_)
    · replace h := ifp c4 h
      refine a_iinc (v := (v1 + 1)) C [(1, .int (v1 + 1)), (0, .ref (adOf X 157))] 1 rfl (congrArg (HAdd.hAdd v1) (by decide : Int32.ofInt (1) = (1 : Int32))) (by decide) rfl dX0_overloadedLink_33 ?_
      refine a_goto C 2 (by decide) dX0_overloadedLink_36 ?_
      exact At.sub [1, 0] rfl (hrec _ h)
    · replace h := ifn c4 h
      refine a_iload_n C 1 rfl rfl dX0_overloadedLink_31 ?_
      exact a_iretR hret h rfl dX0_overloadedLink_32
def Fl_overloadedLink_L2 (q : St) : Nat → Int32 → Option (Int32)
  | 0, _ => none
  | n + 1, v1 => Fl_overloadedLink_B2 q (Fl_overloadedLink_L2 q n) v1
theorem w_Fl_overloadedLink_L2 {X : Cv} (C : Cx X cX0_overloadedLink RX0 rm_Fl_overloadedLink 2) (S : IsK X) (q : St) {z : Int32} (hret : RokI X cX0_overloadedLink .int z q) (n : Nat) : ∀ (v1 : Int32), Fl_overloadedLink_L2 q n v1 = some z → At X 2 [(0, .ref (adOf X 157)), (1, .int v1)] [] q := by
  induction n with
  | zero => intro v1 h; cases h
  | succ n ih => intro v1 h; exact w_Fl_overloadedLink_B2 C S _ hret _ ih v1 h
def Fl_overloadedLink (q : St) : Option (Int32) :=
  Fl_overloadedLink_L2 q FU (0 : Int32)
theorem w_Fl_overloadedLink {X : Cv} (C : Cx X cX0_overloadedLink RX0 rm_Fl_overloadedLink 2) (S : IsK X) {q : St} {z : Int32} (hret : RokI X cX0_overloadedLink .int z q) (h : Fl_overloadedLink q = some z) : At X 0 [(0, .ref (adOf X 157))] [] q := by
  unfold Fl_overloadedLink at h
  refine a_iconst (v := 0) C (by decide) dX0_overloadedLink_0 ?_
  refine a_istore_n C [(1, .int (0 : Int32)), (0, .ref (adOf X 157))] rfl (by decide) rfl dX0_overloadedLink_1 ?_
  exact At.sub [1, 0] rfl (w_Fl_overloadedLink_L2 C S _ hret _ _ h)
theorem c_Fl_overloadedLink {l : Launch} {D : va_G} {I : ClassId × ClassId × ClassId × ClassId} {ad : Nat → Nat} {q : St} {z : Int32} (h : Fl_overloadedLink q = some z) : Ctr l D I (zK ad) 168 (shK I) ad yX0_overloadedLink cX0_overloadedLink 2 (some .int) rm_Fl_overloadedLink [.ref (ad 157)] q (some z) q :=
  ctr_ofI (by decide) (Nat.le_of_ble_eq_true rfl) (fun p e s m args below meth c Q H0 X hX C hret => by subst hX; exact w_Fl_overloadedLink C ⟨rfl, rfl, rfl⟩ hret h)
theorem kK_0_99 {X : Cv} {cc : ByteArray} {rm : Room} {nL1 pc : Nat} {lv : List (Nat × Value)} {sk : List Value} {q : St} {z : Int32} (C : Cx X cc RX0 rm nL1) (S : IsK X) (h : Fl_overloadedLink q = some z) (hz : rm_Fl_overloadedLink.frames + 1 ≤ rm.frames ∧ 8 + (2 + 11) + rm_Fl_overloadedLink.locals ≤ rm.locals) (hr : (sk.map fun v => v.category).sum ≤ 8) (hd : decode cc pc = .ok (.invokevirtual 99, 3)) (k : At X (pc + 3) lv (.int z :: sk) q) : At X pc lv (.ref (adOf X 157) :: sk) q := a_callVi (as := []) C (kp := 157) (kLt S (by decide)) (by rw [S.2.1]; rfl) rfl (by have hh := c_Fl_overloadedLink (l := X.2.1) (D := dOf X) (I := idOf X) (ad := adOf X) h; rw [← S.1, ← S.2.1, ← S.2.2] at hh; exact hh) (gd_V (tg 862 (by decide +kernel) rfl) (tg 863 (by decide +kernel) rfl) (tg 864 (by decide +kernel) rfl) (tg 122 (by decide +kernel) rfl) (tg 865 (by decide +kernel) rfl)) ⟨rfl, rfl, hz.1, hz.2⟩ ⟨by decide, by decide, by show Option.map _ (parseMethodDescriptor yX0_overloadedLink.desc) = some 0; decide⟩ hr rfl hd k
theorem kK_9_136 {X : Cv} {cc : ByteArray} {rm : Room} {nL1 pc : Nat} {lv : List (Nat × Value)} {sk : List Value} {q : St} {z : Int32} (C : Cx X cc RX9 rm nL1) (S : IsK X) (h : Fl_overloadedLink q = some z) (hz : rm_Fl_overloadedLink.frames + 1 ≤ rm.frames ∧ 8 + (2 + 11) + rm_Fl_overloadedLink.locals ≤ rm.locals) (hr : (sk.map fun v => v.category).sum ≤ 8) (hd : decode cc pc = .ok (.invokevirtual 136, 3)) (k : At X (pc + 3) lv (.int z :: sk) q) : At X pc lv (.ref (adOf X 157) :: sk) q := a_callVi (as := []) C (kp := 157) (kLt S (by decide)) (by rw [S.2.1]; rfl) rfl (by have hh := c_Fl_overloadedLink (l := X.2.1) (D := dOf X) (I := idOf X) (ad := adOf X) h; rw [← S.1, ← S.2.1, ← S.2.2] at hh; exact hh) (gd_V (tg 947 (by decide +kernel) rfl) (tg 863 (by decide +kernel) rfl) (tg 864 (by decide +kernel) rfl) (tg 122 (by decide +kernel) rfl) (tg 865 (by decide +kernel) rfl)) ⟨rfl, rfl, hz.1, hz.2⟩ ⟨by decide, by decide, by show Option.map _ (parseMethodDescriptor yX0_overloadedLink.desc) = some 0; decide⟩ hr rfl hd k
abbrev rm_Fl_overloadedNode : Room := { frames := 0, cells := 0, slots := 0, locals := 0 }
def Fl_overloadedNode_B2 (q : St) (rec : Int32 → Option (Int32)) (v1 : Int32) : Option (Int32) :=
  if (gt q 1 0) ≤ v1 then
    some (-1 : Int32)
  else
    b1 (rd 16 q 160 v1) fun x2 =>
    b1 (rd 16 q 7 v1) fun x3 =>
    if x2 ≤ x3 then
      rec (v1 + 1)
    else
      some v1
theorem w_Fl_overloadedNode_B2 {X : Cv} (C : Cx X cX0_overloadedNode RX0 rm_Fl_overloadedNode 2) (S : IsK X) (q : St) {z : Int32} (hret : RokI X cX0_overloadedNode .int z q) (rec : Int32 → Option (Int32)) (hrec : ∀ (v1 : Int32), rec v1 = some z → At X 2 [(0, .ref (adOf X 157)), (1, .int v1)] [] q) (v1 : Int32) (h : Fl_overloadedNode_B2 q rec v1 = some z) : At X 2 [(0, .ref (adOf X 157)), (1, .int v1)] [] q := by
  unfold Fl_overloadedNode_B2 at h
  refine a_iload_n C 1 rfl rfl dX0_overloadedNode_2 ?_
  refine a_aload_n C 0 rfl rfl dX0_overloadedNode_3 ?_
  refine gK_0_21 C S dX0_overloadedNode_4 ?_
  refine gK_0_49 C S (Or.inl rfl) dX0_overloadedNode_7 ?_
  refine a_icmp_ge C 39 (by decide) dX0_overloadedNode_10 (fun c1 => ?_) (fun c1 => ?_)
  · replace h := ifp c1 h
    refine a_iconst (v := -1) C (by decide) dX0_overloadedNode_39 ?_
    exact a_iretR hret h rfl dX0_overloadedNode_40
  · replace h := ifn c1 h
    refine a_aload_n C 0 rfl rfl dX0_overloadedNode_13 ?_
    refine gK_0_18 C S dX0_overloadedNode_14 ?_
    refine a_iload_n C 1 rfl rfl dX0_overloadedNode_17 ?_
    obtain ⟨x2, e_x2, h⟩ := b1s h
    refine lK_160 C S e_x2 dX0_overloadedNode_18 ?_
    refine a_aload_n C 0 rfl rfl dX0_overloadedNode_19 ?_
    refine gK_0_21 C S dX0_overloadedNode_20 ?_
    refine gK_0_112 C S (Or.inl rfl) dX0_overloadedNode_23 ?_
    refine a_iload_n C 1 rfl rfl dX0_overloadedNode_26 ?_
    obtain ⟨x3, e_x3, h⟩ := b1s h
    refine lK_u6 (o := 1) C S (Or.inl rfl) e_x3 dX0_overloadedNode_27 ?_
    refine a_icmp_le C 33 (by decide) dX0_overloadedNode_28 (fun c4 => ?_) (fun c4 => ?_)
    · replace h := ifp c4 h
      refine a_iinc (v := (v1 + 1)) C [(1, .int (v1 + 1)), (0, .ref (adOf X 157))] 1 rfl (congrArg (HAdd.hAdd v1) (by decide : Int32.ofInt (1) = (1 : Int32))) (by decide) rfl dX0_overloadedNode_33 ?_
      refine a_goto C 2 (by decide) dX0_overloadedNode_36 ?_
      exact At.sub [1, 0] rfl (hrec _ h)
    · replace h := ifn c4 h
      refine a_iload_n C 1 rfl rfl dX0_overloadedNode_31 ?_
      exact a_iretR hret h rfl dX0_overloadedNode_32
def Fl_overloadedNode_L2 (q : St) : Nat → Int32 → Option (Int32)
  | 0, _ => none
  | n + 1, v1 => Fl_overloadedNode_B2 q (Fl_overloadedNode_L2 q n) v1
theorem w_Fl_overloadedNode_L2 {X : Cv} (C : Cx X cX0_overloadedNode RX0 rm_Fl_overloadedNode 2) (S : IsK X) (q : St) {z : Int32} (hret : RokI X cX0_overloadedNode .int z q) (n : Nat) : ∀ (v1 : Int32), Fl_overloadedNode_L2 q n v1 = some z → At X 2 [(0, .ref (adOf X 157)), (1, .int v1)] [] q := by
  induction n with
  | zero => intro v1 h; cases h
  | succ n ih => intro v1 h; exact w_Fl_overloadedNode_B2 C S _ hret _ ih v1 h
def Fl_overloadedNode (q : St) : Option (Int32) :=
  Fl_overloadedNode_L2 q FU (0 : Int32)
theorem w_Fl_overloadedNode {X : Cv} (C : Cx X cX0_overloadedNode RX0 rm_Fl_overloadedNode 2) (S : IsK X) {q : St} {z : Int32} (hret : RokI X cX0_overloadedNode .int z q) (h : Fl_overloadedNode q = some z) : At X 0 [(0, .ref (adOf X 157))] [] q := by
  unfold Fl_overloadedNode at h
  refine a_iconst (v := 0) C (by decide) dX0_overloadedNode_0 ?_
  refine a_istore_n C [(1, .int (0 : Int32)), (0, .ref (adOf X 157))] rfl (by decide) rfl dX0_overloadedNode_1 ?_
  exact At.sub [1, 0] rfl (w_Fl_overloadedNode_L2 C S _ hret _ _ h)
theorem c_Fl_overloadedNode {l : Launch} {D : va_G} {I : ClassId × ClassId × ClassId × ClassId} {ad : Nat → Nat} {q : St} {z : Int32} (h : Fl_overloadedNode q = some z) : Ctr l D I (zK ad) 168 (shK I) ad yX0_overloadedNode cX0_overloadedNode 2 (some .int) rm_Fl_overloadedNode [.ref (ad 157)] q (some z) q :=
  ctr_ofI (by decide) (Nat.le_of_ble_eq_true rfl) (fun p e s m args below meth c Q H0 X hX C hret => by subst hX; exact w_Fl_overloadedNode C ⟨rfl, rfl, rfl⟩ hret h)
theorem kK_0_103 {X : Cv} {cc : ByteArray} {rm : Room} {nL1 pc : Nat} {lv : List (Nat × Value)} {sk : List Value} {q : St} {z : Int32} (C : Cx X cc RX0 rm nL1) (S : IsK X) (h : Fl_overloadedNode q = some z) (hz : rm_Fl_overloadedNode.frames + 1 ≤ rm.frames ∧ 8 + (2 + 11) + rm_Fl_overloadedNode.locals ≤ rm.locals) (hr : (sk.map fun v => v.category).sum ≤ 8) (hd : decode cc pc = .ok (.invokevirtual 103, 3)) (k : At X (pc + 3) lv (.int z :: sk) q) : At X pc lv (.ref (adOf X 157) :: sk) q := a_callVi (as := []) C (kp := 157) (kLt S (by decide)) (by rw [S.2.1]; rfl) rfl (by have hh := c_Fl_overloadedNode (l := X.2.1) (D := dOf X) (I := idOf X) (ad := adOf X) h; rw [← S.1, ← S.2.1, ← S.2.2] at hh; exact hh) (gd_V (tg 866 (by decide +kernel) rfl) (tg 867 (by decide +kernel) rfl) (tg 868 (by decide +kernel) rfl) (tg 122 (by decide +kernel) rfl) (tg 869 (by decide +kernel) rfl)) ⟨rfl, rfl, hz.1, hz.2⟩ ⟨by decide, by decide, by show Option.map _ (parseMethodDescriptor yX0_overloadedNode.desc) = some 0; decide⟩ hr rfl hd k
theorem kK_9_142 {X : Cv} {cc : ByteArray} {rm : Room} {nL1 pc : Nat} {lv : List (Nat × Value)} {sk : List Value} {q : St} {z : Int32} (C : Cx X cc RX9 rm nL1) (S : IsK X) (h : Fl_overloadedNode q = some z) (hz : rm_Fl_overloadedNode.frames + 1 ≤ rm.frames ∧ 8 + (2 + 11) + rm_Fl_overloadedNode.locals ≤ rm.locals) (hr : (sk.map fun v => v.category).sum ≤ 8) (hd : decode cc pc = .ok (.invokevirtual 142, 3)) (k : At X (pc + 3) lv (.int z :: sk) q) : At X pc lv (.ref (adOf X 157) :: sk) q := a_callVi (as := []) C (kp := 157) (kLt S (by decide)) (by rw [S.2.1]; rfl) rfl (by have hh := c_Fl_overloadedNode (l := X.2.1) (D := dOf X) (I := idOf X) (ad := adOf X) h; rw [← S.1, ← S.2.1, ← S.2.2] at hh; exact hh) (gd_V (tg 961 (by decide +kernel) rfl) (tg 867 (by decide +kernel) rfl) (tg 868 (by decide +kernel) rfl) (tg 122 (by decide +kernel) rfl) (tg 869 (by decide +kernel) rfl)) ⟨rfl, rfl, hz.1, hz.2⟩ ⟨by decide, by decide, by show Option.map _ (parseMethodDescriptor yX0_overloadedNode.desc) = some 0; decide⟩ hr rfl hd k
abbrev rm_Fl_asked : Room := { frames := 0, cells := 0, slots := 0, locals := 0 }
def Fl_asked (q : St) (v1 : Int32) (v2 : Int32) : Option (Int32) :=
  lt_ ((v1 * (4 : Int32)) + v2) fun w1 =>
  b1 (rd 64 q 27 w1) fun x2 =>
  if x2 = (0 : Int32) then
    b1 (rd 64 q 158 w1) fun x4 =>
    some x4
  else
    some (0 : Int32)
theorem w_Fl_asked {X : Cv} (C : Cx X cX0_asked RX0 rm_Fl_asked 4) (S : IsK X) {q : St} {z : Int32} (hret : RokI X cX0_asked .int z q) (v1 : Int32) (v2 : Int32) (h : Fl_asked q v1 v2 = some z) : At X 0 [(0, .ref (adOf X 157)), (1, .int v1), (2, .int v2)] [] q := by
  unfold Fl_asked at h
  refine a_iload_n C 1 rfl rfl dX0_asked_0 ?_
  refine a_iconst (v := 4) C (by decide) dX0_asked_1 ?_
  refine a_imul C dX0_asked_2 ?_
  refine a_iload_n C 2 rfl rfl dX0_asked_3 ?_
  refine a_iadd C dX0_asked_4 ?_
  obtain ⟨w1, e_w1, h⟩ := lts h
  refine a_top e_w1 ?_
  refine a_istore_n C [(3, .int w1), (0, .ref (adOf X 157)), (1, .int v1), (2, .int v2)] rfl (by decide) rfl dX0_asked_5 ?_
  refine a_aload_n C 1 rfl rfl dX0_asked_6 ?_
  refine gK_0_25 C S dX0_asked_7 ?_
  refine gK_0_73 C S (Or.inl rfl) dX0_asked_10 ?_
  refine a_iload_n C 0 rfl rfl dX0_asked_13 ?_
  obtain ⟨x2, e_x2, h⟩ := b1s h
  refine lK_s8 (o := 19) C S (Or.inl rfl) e_x2 dX0_asked_14 ?_
  refine a_if_eq C 22 (by decide) dX0_asked_15 (fun c3 => ?_) (fun c3 => ?_)
  · replace h := ifp c3 h
    refine a_aload_n C 1 rfl rfl dX0_asked_22 ?_
    refine gK_0_9 C S dX0_asked_23 ?_
    refine a_iload_n C 0 rfl rfl dX0_asked_26 ?_
    obtain ⟨x4, e_x4, h⟩ := b1s h
    refine lK_158 C S e_x4 dX0_asked_27 ?_
    exact a_iretR hret h rfl dX0_asked_28
  · replace h := ifn c3 h
    refine a_iconst (v := 0) C (by decide) dX0_asked_18 ?_
    refine a_goto C 28 (by decide) dX0_asked_19 ?_
    exact a_iretR hret h rfl dX0_asked_28
theorem c_Fl_asked {l : Launch} {D : va_G} {I : ClassId × ClassId × ClassId × ClassId} {ad : Nat → Nat} {q : St} {v1 : Int32} {v2 : Int32} {z : Int32} (h : Fl_asked q v1 v2 = some z) : Ctr l D I (zK ad) 168 (shK I) ad yX0_asked cX0_asked 4 (some .int) rm_Fl_asked [.ref (ad 157), .int v1, .int v2] q (some z) q :=
  ctr_ofI (by decide) (Nat.le_of_ble_eq_true rfl) (fun p e s m args below meth c Q H0 X hX C hret => by subst hX; exact w_Fl_asked C ⟨rfl, rfl, rfl⟩ hret _ _ h)
theorem kK_0_115 {X : Cv} {cc : ByteArray} {rm : Room} {nL1 pc : Nat} {lv : List (Nat × Value)} {sk : List Value} {q : St} {v1 : Int32} {v2 : Int32} {z : Int32} (C : Cx X cc RX0 rm nL1) (S : IsK X) (h : Fl_asked q v1 v2 = some z) (hz : rm_Fl_asked.frames + 1 ≤ rm.frames ∧ 8 + (4 + 11) + rm_Fl_asked.locals ≤ rm.locals) (hr : (sk.map fun v => v.category).sum ≤ 8) (hd : decode cc pc = .ok (.invokevirtual 115, 3)) (k : At X (pc + 3) lv (.int z :: sk) q) : At X pc lv (.int v2 :: .int v1 :: .ref (adOf X 157) :: sk) q := a_callVi (as := [.int v1, .int v2]) C (kp := 157) (kLt S (by decide)) (by rw [S.2.1]; rfl) rfl (by have hh := c_Fl_asked (l := X.2.1) (D := dOf X) (I := idOf X) (ad := adOf X) h; rw [← S.1, ← S.2.1, ← S.2.2] at hh; exact hh) (gd_V (tg 874 (by decide +kernel) rfl) (tg 875 (by decide +kernel) rfl) (tg 876 (by decide +kernel) rfl) (tg 122 (by decide +kernel) rfl) (tg 877 (by decide +kernel) rfl)) ⟨rfl, rfl, hz.1, hz.2⟩ ⟨by decide, by decide, by show Option.map _ (parseMethodDescriptor yX0_asked.desc) = some 2; decide⟩ hr rfl hd k
theorem kK_3_63 {X : Cv} {cc : ByteArray} {rm : Room} {nL1 pc : Nat} {lv : List (Nat × Value)} {sk : List Value} {q : St} {v1 : Int32} {v2 : Int32} {z : Int32} (C : Cx X cc RX3 rm nL1) (S : IsK X) (h : Fl_asked q v1 v2 = some z) (hz : rm_Fl_asked.frames + 1 ≤ rm.frames ∧ 8 + (4 + 11) + rm_Fl_asked.locals ≤ rm.locals) (hr : (sk.map fun v => v.category).sum ≤ 8) (hd : decode cc pc = .ok (.invokevirtual 63, 3)) (k : At X (pc + 3) lv (.int z :: sk) q) : At X pc lv (.int v2 :: .int v1 :: .ref (adOf X 157) :: sk) q := a_callVi (as := [.int v1, .int v2]) C (kp := 157) (kLt S (by decide)) (by rw [S.2.1]; rfl) rfl (by have hh := c_Fl_asked (l := X.2.1) (D := dOf X) (I := idOf X) (ad := adOf X) h; rw [← S.1, ← S.2.1, ← S.2.2] at hh; exact hh) (gd_V (tg 1201 (by decide +kernel) rfl) (tg 875 (by decide +kernel) rfl) (tg 876 (by decide +kernel) rfl) (tg 122 (by decide +kernel) rfl) (tg 877 (by decide +kernel) rfl)) ⟨rfl, rfl, hz.1, hz.2⟩ ⟨by decide, by decide, by show Option.map _ (parseMethodDescriptor yX0_asked.desc) = some 2; decide⟩ hr rfl hd k
abbrev rm_Fl_unmadeFormat : Room := { frames := 1, cells := 0, slots := 0, locals := 23 }
def Fl_unmadeFormat_B2 (q : St) (rec : Int32 → Option (Int32)) (v1 : Int32) : Option (Int32) :=
  if (gt q 1 2) ≤ v1 then
    some (-1 : Int32)
  else
    b1 (Fl_asked q (0 : Int32) v1) fun x2 =>
    if x2 ≤ (0 : Int32) then
      rec (v1 + 1)
    else
      some v1
theorem w_Fl_unmadeFormat_B2 {X : Cv} (C : Cx X cX0_unmadeFormat RX0 rm_Fl_unmadeFormat 2) (S : IsK X) (q : St) {z : Int32} (hret : RokI X cX0_unmadeFormat .int z q) (rec : Int32 → Option (Int32)) (hrec : ∀ (v1 : Int32), rec v1 = some z → At X 2 [(0, .ref (adOf X 157)), (1, .int v1)] [] q) (v1 : Int32) (h : Fl_unmadeFormat_B2 q rec v1 = some z) : At X 2 [(0, .ref (adOf X 157)), (1, .int v1)] [] q := by
  unfold Fl_unmadeFormat_B2 at h
  refine a_iload_n C 1 rfl rfl dX0_unmadeFormat_2 ?_
  refine a_aload_n C 0 rfl rfl dX0_unmadeFormat_3 ?_
  refine gK_0_21 C S dX0_unmadeFormat_4 ?_
  refine gK_0_83 C S (Or.inl rfl) dX0_unmadeFormat_7 ?_
  refine a_icmp_ge C 30 (by decide) dX0_unmadeFormat_10 (fun c1 => ?_) (fun c1 => ?_)
  · replace h := ifp c1 h
    refine a_iconst (v := -1) C (by decide) dX0_unmadeFormat_30 ?_
    exact a_iretR hret h rfl dX0_unmadeFormat_31
  · replace h := ifn c1 h
    refine a_aload_n C 0 rfl rfl dX0_unmadeFormat_13 ?_
    refine a_iconst (v := 0) C (by decide) dX0_unmadeFormat_14 ?_
    refine a_iload_n C 1 rfl rfl dX0_unmadeFormat_15 ?_
    obtain ⟨x2, e_x2, h⟩ := b1s h
    refine kK_0_115 C S e_x2 ⟨(Nat.le_of_ble_eq_true rfl), (Nat.le_of_ble_eq_true rfl)⟩ (Nat.le_of_ble_eq_true rfl) dX0_unmadeFormat_16 ?_
    refine a_if_le C 24 (by decide) dX0_unmadeFormat_19 (fun c3 => ?_) (fun c3 => ?_)
    · replace h := ifp c3 h
      refine a_iinc (v := (v1 + 1)) C [(1, .int (v1 + 1)), (0, .ref (adOf X 157))] 1 rfl (congrArg (HAdd.hAdd v1) (by decide : Int32.ofInt (1) = (1 : Int32))) (by decide) rfl dX0_unmadeFormat_24 ?_
      refine a_goto C 2 (by decide) dX0_unmadeFormat_27 ?_
      exact At.sub [1, 0] rfl (hrec _ h)
    · replace h := ifn c3 h
      refine a_iload_n C 1 rfl rfl dX0_unmadeFormat_22 ?_
      exact a_iretR hret h rfl dX0_unmadeFormat_23
def Fl_unmadeFormat_L2 (q : St) : Nat → Int32 → Option (Int32)
  | 0, _ => none
  | n + 1, v1 => Fl_unmadeFormat_B2 q (Fl_unmadeFormat_L2 q n) v1
theorem w_Fl_unmadeFormat_L2 {X : Cv} (C : Cx X cX0_unmadeFormat RX0 rm_Fl_unmadeFormat 2) (S : IsK X) (q : St) {z : Int32} (hret : RokI X cX0_unmadeFormat .int z q) (n : Nat) : ∀ (v1 : Int32), Fl_unmadeFormat_L2 q n v1 = some z → At X 2 [(0, .ref (adOf X 157)), (1, .int v1)] [] q := by
  induction n with
  | zero => intro v1 h; cases h
  | succ n ih => intro v1 h; exact w_Fl_unmadeFormat_B2 C S _ hret _ ih v1 h
def Fl_unmadeFormat (q : St) : Option (Int32) :=
  Fl_unmadeFormat_L2 q FU (1 : Int32)
theorem w_Fl_unmadeFormat {X : Cv} (C : Cx X cX0_unmadeFormat RX0 rm_Fl_unmadeFormat 2) (S : IsK X) {q : St} {z : Int32} (hret : RokI X cX0_unmadeFormat .int z q) (h : Fl_unmadeFormat q = some z) : At X 0 [(0, .ref (adOf X 157))] [] q := by
  unfold Fl_unmadeFormat at h
  refine a_iconst (v := 1) C (by decide) dX0_unmadeFormat_0 ?_
  refine a_istore_n C [(1, .int (1 : Int32)), (0, .ref (adOf X 157))] rfl (by decide) rfl dX0_unmadeFormat_1 ?_
  exact At.sub [1, 0] rfl (w_Fl_unmadeFormat_L2 C S _ hret _ _ h)
theorem c_Fl_unmadeFormat {l : Launch} {D : va_G} {I : ClassId × ClassId × ClassId × ClassId} {ad : Nat → Nat} {q : St} {z : Int32} (h : Fl_unmadeFormat q = some z) : Ctr l D I (zK ad) 168 (shK I) ad yX0_unmadeFormat cX0_unmadeFormat 2 (some .int) rm_Fl_unmadeFormat [.ref (ad 157)] q (some z) q :=
  ctr_ofI (by decide) (Nat.le_of_ble_eq_true rfl) (fun p e s m args below meth c Q H0 X hX C hret => by subst hX; exact w_Fl_unmadeFormat C ⟨rfl, rfl, rfl⟩ hret h)
theorem kK_0_106 {X : Cv} {cc : ByteArray} {rm : Room} {nL1 pc : Nat} {lv : List (Nat × Value)} {sk : List Value} {q : St} {z : Int32} (C : Cx X cc RX0 rm nL1) (S : IsK X) (h : Fl_unmadeFormat q = some z) (hz : rm_Fl_unmadeFormat.frames + 1 ≤ rm.frames ∧ 8 + (2 + 11) + rm_Fl_unmadeFormat.locals ≤ rm.locals) (hr : (sk.map fun v => v.category).sum ≤ 8) (hd : decode cc pc = .ok (.invokevirtual 106, 3)) (k : At X (pc + 3) lv (.int z :: sk) q) : At X pc lv (.ref (adOf X 157) :: sk) q := a_callVi (as := []) C (kp := 157) (kLt S (by decide)) (by rw [S.2.1]; rfl) rfl (by have hh := c_Fl_unmadeFormat (l := X.2.1) (D := dOf X) (I := idOf X) (ad := adOf X) h; rw [← S.1, ← S.2.1, ← S.2.2] at hh; exact hh) (gd_V (tg 870 (by decide +kernel) rfl) (tg 871 (by decide +kernel) rfl) (tg 872 (by decide +kernel) rfl) (tg 122 (by decide +kernel) rfl) (tg 873 (by decide +kernel) rfl)) ⟨rfl, rfl, hz.1, hz.2⟩ ⟨by decide, by decide, by show Option.map _ (parseMethodDescriptor yX0_unmadeFormat.desc) = some 0; decide⟩ hr rfl hd k
theorem kK_9_148 {X : Cv} {cc : ByteArray} {rm : Room} {nL1 pc : Nat} {lv : List (Nat × Value)} {sk : List Value} {q : St} {z : Int32} (C : Cx X cc RX9 rm nL1) (S : IsK X) (h : Fl_unmadeFormat q = some z) (hz : rm_Fl_unmadeFormat.frames + 1 ≤ rm.frames ∧ 8 + (2 + 11) + rm_Fl_unmadeFormat.locals ≤ rm.locals) (hr : (sk.map fun v => v.category).sum ≤ 8) (hd : decode cc pc = .ok (.invokevirtual 148, 3)) (k : At X (pc + 3) lv (.int z :: sk) q) : At X pc lv (.ref (adOf X 157) :: sk) q := a_callVi (as := []) C (kp := 157) (kLt S (by decide)) (by rw [S.2.1]; rfl) rfl (by have hh := c_Fl_unmadeFormat (l := X.2.1) (D := dOf X) (I := idOf X) (ad := adOf X) h; rw [← S.1, ← S.2.1, ← S.2.2] at hh; exact hh) (gd_V (tg 970 (by decide +kernel) rfl) (tg 871 (by decide +kernel) rfl) (tg 872 (by decide +kernel) rfl) (tg 122 (by decide +kernel) rfl) (tg 873 (by decide +kernel) rfl)) ⟨rfl, rfl, hz.1, hz.2⟩ ⟨by decide, by decide, by show Option.map _ (parseMethodDescriptor yX0_unmadeFormat.desc) = some 0; decide⟩ hr rfl hd k
abbrev rm_Fl_fits : Room := { frames := 2, cells := 0, slots := 0, locals := 44 }
def Fl_fits (q : St) : Option (Int32) :=
  b1 (Fl_overloadedLink q) fun x1 =>
  if x1 = (-1 : Int32) then
    b1 (Fl_overloadedNode q) fun x3 =>
    if x3 = (-1 : Int32) then
      b1 (Fl_unmadeFormat q) fun x5 =>
      if x5 = (-1 : Int32) then
        some (1 : Int32)
      else
        some (0 : Int32)
    else
      some (0 : Int32)
  else
    some (0 : Int32)
theorem w_Fl_fits {X : Cv} (C : Cx X cX0_fits RX0 rm_Fl_fits 1) (S : IsK X) {q : St} {z : Int32} (hret : RokI X cX0_fits .boolean z q) (h : Fl_fits q = some z) : At X 0 [(0, .ref (adOf X 157))] [] q := by
  unfold Fl_fits at h
  refine a_aload_n C 0 rfl rfl dX0_fits_0 ?_
  obtain ⟨x1, e_x1, h⟩ := b1s h
  refine kK_0_99 C S e_x1 ⟨(Nat.le_of_ble_eq_true rfl), (Nat.le_of_ble_eq_true rfl)⟩ (Nat.le_of_ble_eq_true rfl) dX0_fits_1 ?_
  refine a_iconst (v := -1) C (by decide) dX0_fits_4 ?_
  refine a_icmp_ne C 28 (by decide) dX0_fits_5 (fun c2 => ?_) (fun c2 => ?_)
  · replace h := ifn c2 h
    refine a_iconst (v := 0) C (by decide) dX0_fits_28 ?_
    exact a_iretR hret h rfl dX0_fits_29
  · replace h := ifp c2 h
    refine a_aload_n C 0 rfl rfl dX0_fits_8 ?_
    obtain ⟨x3, e_x3, h⟩ := b1s h
    refine kK_0_103 C S e_x3 ⟨(Nat.le_of_ble_eq_true rfl), (Nat.le_of_ble_eq_true rfl)⟩ (Nat.le_of_ble_eq_true rfl) dX0_fits_9 ?_
    refine a_iconst (v := -1) C (by decide) dX0_fits_12 ?_
    refine a_icmp_ne C 28 (by decide) dX0_fits_13 (fun c4 => ?_) (fun c4 => ?_)
    · replace h := ifn c4 h
      refine a_iconst (v := 0) C (by decide) dX0_fits_28 ?_
      exact a_iretR hret h rfl dX0_fits_29
    · replace h := ifp c4 h
      refine a_aload_n C 0 rfl rfl dX0_fits_16 ?_
      obtain ⟨x5, e_x5, h⟩ := b1s h
      refine kK_0_106 C S e_x5 ⟨(Nat.le_of_ble_eq_true rfl), (Nat.le_of_ble_eq_true rfl)⟩ (Nat.le_of_ble_eq_true rfl) dX0_fits_17 ?_
      refine a_iconst (v := -1) C (by decide) dX0_fits_20 ?_
      refine a_icmp_ne C 28 (by decide) dX0_fits_21 (fun c6 => ?_) (fun c6 => ?_)
      · replace h := ifn c6 h
        refine a_iconst (v := 0) C (by decide) dX0_fits_28 ?_
        exact a_iretR hret h rfl dX0_fits_29
      · replace h := ifp c6 h
        refine a_iconst (v := 1) C (by decide) dX0_fits_24 ?_
        refine a_goto C 29 (by decide) dX0_fits_25 ?_
        exact a_iretR hret h rfl dX0_fits_29
theorem c_Fl_fits {l : Launch} {D : va_G} {I : ClassId × ClassId × ClassId × ClassId} {ad : Nat → Nat} {q : St} {z : Int32} (h : Fl_fits q = some z) : Ctr l D I (zK ad) 168 (shK I) ad yX0_fits cX0_fits 1 (some .boolean) rm_Fl_fits [.ref (ad 157)] q (some z) q :=
  ctr_ofI (by decide) (Nat.le_of_ble_eq_true rfl) (fun p e s m args below meth c Q H0 X hX C hret => by subst hX; exact w_Fl_fits C ⟨rfl, rfl, rfl⟩ hret h)
theorem kK_9_73 {X : Cv} {cc : ByteArray} {rm : Room} {nL1 pc : Nat} {lv : List (Nat × Value)} {sk : List Value} {q : St} {z : Int32} (C : Cx X cc RX9 rm nL1) (S : IsK X) (h : Fl_fits q = some z) (hz : rm_Fl_fits.frames + 1 ≤ rm.frames ∧ 8 + (1 + 11) + rm_Fl_fits.locals ≤ rm.locals) (hr : (sk.map fun v => v.category).sum ≤ 8) (hd : decode cc pc = .ok (.invokevirtual 73, 3)) (k : At X (pc + 3) lv (.int z :: sk) q) : At X pc lv (.ref (adOf X 157) :: sk) q := a_callVi (as := []) C (kp := 157) (kLt S (by decide)) (by rw [S.2.1]; rfl) rfl (by have hh := c_Fl_fits (l := X.2.1) (D := dOf X) (I := idOf X) (ad := adOf X) h; rw [← S.1, ← S.2.1, ← S.2.2] at hh; exact hh) (gd_V (tg 858 (by decide +kernel) rfl) (tg 859 (by decide +kernel) rfl) (tg 860 (by decide +kernel) rfl) (tg 122 (by decide +kernel) rfl) (tg 861 (by decide +kernel) rfl)) ⟨rfl, rfl, hz.1, hz.2⟩ ⟨by decide, by decide, by show Option.map _ (parseMethodDescriptor yX0_fits.desc) = some 0; decide⟩ hr rfl hd k
abbrev rm_Sp_detach : Room := { frames := 0, cells := 0, slots := 0, locals := 0 }
def Sp_detach (q : St) (v1 : Int32) : Option (St) :=
  b1 (wr 16 q 28 v1 (vp_nar .boolean (0 : Int32))) fun q1 =>
  b1 (wr 16 q1 29 v1 (-1 : Int32)) fun q2 =>
  some q2
theorem w_Sp_detach {X : Cv} (C : Cx X cX6_detach RX6 rm_Sp_detach 2) (S : IsK X) {z : St} (hret : RokV X cX6_detach z) (v1 : Int32) (q : St) (h : Sp_detach q v1 = some z) : At X 0 [(0, .ref (adOf X 156)), (1, .int v1)] [] q := by
  unfold Sp_detach at h
  refine a_aload_n C 0 rfl rfl dX6_detach_0 ?_
  refine gK_6_15 C S dX6_detach_1 ?_
  refine gK_6_59 C S (Or.inl rfl) dX6_detach_4 ?_
  refine a_iload_n C 1 rfl rfl dX6_detach_7 ?_
  refine a_iconst (v := 0) C (by decide) dX6_detach_8 ?_
  obtain ⟨q1, e_q1, h⟩ := b1s h
  refine sK_s9 (o := 19) C S (Or.inl rfl) e_q1 dX6_detach_9 ?_
  refine a_aload_n C 0 rfl rfl dX6_detach_10 ?_
  refine gK_6_15 C S dX6_detach_11 ?_
  refine gK_6_19 C S (Or.inl rfl) dX6_detach_14 ?_
  refine a_iload_n C 1 rfl rfl dX6_detach_17 ?_
  refine a_iconst (v := -1) C (by decide) dX6_detach_18 ?_
  obtain ⟨q2, e_q2, h⟩ := b1s h
  refine sK_s10 (o := 19) C S (Or.inl rfl) e_q2 dX6_detach_19 ?_
  exact a_vret hret h dX6_detach_20
theorem c_Sp_detach {l : Launch} {D : va_G} {I : ClassId × ClassId × ClassId × ClassId} {ad : Nat → Nat} {q : St} {v1 : Int32} {z : St} (h : Sp_detach q v1 = some z) : Ctr l D I (zK ad) 168 (shK I) ad yX6_detach cX6_detach 2 none rm_Sp_detach [.ref (ad 156), .int v1] q none z :=
  ctr_ofV (by decide) (Nat.le_of_ble_eq_true rfl) (fun p e s m args below meth c Q H0 X hX C hret => by subst hX; exact w_Sp_detach C ⟨rfl, rfl, rfl⟩ hret _ _ h)
theorem kK_1_105 {X : Cv} {cc : ByteArray} {rm : Room} {nL1 pc : Nat} {lv : List (Nat × Value)} {sk : List Value} {q : St} {v1 : Int32} {q2 : St} (C : Cx X cc RX1 rm nL1) (S : IsK X) (h : Sp_detach q v1 = some q2) (hz : rm_Sp_detach.frames + 1 ≤ rm.frames ∧ 8 + (2 + 11) + rm_Sp_detach.locals ≤ rm.locals) (hr : (sk.map fun v => v.category).sum ≤ 8) (hd : decode cc pc = .ok (.invokevirtual 105, 3)) (k : At X (pc + 3) lv sk q2) : At X pc lv (.int v1 :: .ref (adOf X 156) :: sk) q := a_callVv (as := [.int v1]) C (kp := 156) (kLt S (by decide)) (by rw [S.2.1]; rfl) rfl (by have hh := c_Sp_detach (l := X.2.1) (D := dOf X) (I := idOf X) (ad := adOf X) h; rw [← S.1, ← S.2.1, ← S.2.2] at hh; exact hh) (gd_V (tg 882 (by decide +kernel) rfl) (tg 883 (by decide +kernel) rfl) (tg 884 (by decide +kernel) rfl) (tg 121 (by decide +kernel) rfl) (tg 885 (by decide +kernel) rfl)) ⟨rfl, rfl, hz.1, hz.2⟩ ⟨by decide, by decide, by show Option.map _ (parseMethodDescriptor yX6_detach.desc) = some 1; decide⟩ hr rfl hd k
theorem kK_6_75 {X : Cv} {cc : ByteArray} {rm : Room} {nL1 pc : Nat} {lv : List (Nat × Value)} {sk : List Value} {q : St} {v1 : Int32} {q2 : St} (C : Cx X cc RX6 rm nL1) (S : IsK X) (h : Sp_detach q v1 = some q2) (hz : rm_Sp_detach.frames + 1 ≤ rm.frames ∧ 8 + (2 + 11) + rm_Sp_detach.locals ≤ rm.locals) (hr : (sk.map fun v => v.category).sum ≤ 8) (hd : decode cc pc = .ok (.invokevirtual 75, 3)) (k : At X (pc + 3) lv sk q2) : At X pc lv (.int v1 :: .ref (adOf X 156) :: sk) q := a_callVv (as := [.int v1]) C (kp := 156) (kLt S (by decide)) (by rw [S.2.1]; rfl) rfl (by have hh := c_Sp_detach (l := X.2.1) (D := dOf X) (I := idOf X) (ad := adOf X) h; rw [← S.1, ← S.2.1, ← S.2.2] at hh; exact hh) (gd_V (tg 911 (by decide +kernel) rfl) (tg 883 (by decide +kernel) rfl) (tg 884 (by decide +kernel) rfl) (tg 121 (by decide +kernel) rfl) (tg 885 (by decide +kernel) rfl)) ⟨rfl, rfl, hz.1, hz.2⟩ ⟨by decide, by decide, by show Option.map _ (parseMethodDescriptor yX6_detach.desc) = some 1; decide⟩ hr rfl hd k
abbrev rm_Gr_detachPath : Room := { frames := 1, cells := 0, slots := 0, locals := 21 }
def Gr_detachPath_B2 (rec : Int32 → St → Option (St)) (v1 : Int32) (q : St) : Option (St) :=
  if (gt q 161 6) ≤ v1 then
    some q
  else
    b1 (rd 16 q 164 v1) fun x2 =>
    b1 (Sp_detach q x2) fun q3 =>
    rec (v1 + 1) q3
theorem w_Gr_detachPath_B2 {X : Cv} (C : Cx X cX1_detachPath RX1 rm_Gr_detachPath 2) (S : IsK X) {z : St} (hret : RokV X cX1_detachPath z) (rec : Int32 → St → Option (St)) (hrec : ∀ (v1 : Int32) (q : St), rec v1 q = some z → At X 2 [(0, .ref (adOf X 161)), (1, .int v1)] [] q) (v1 : Int32) (q : St) (h : Gr_detachPath_B2 rec v1 q = some z) : At X 2 [(0, .ref (adOf X 161)), (1, .int v1)] [] q := by
  unfold Gr_detachPath_B2 at h
  refine a_iload_n C 1 rfl rfl dX1_detachPath_2 ?_
  refine a_aload_n C 0 rfl rfl dX1_detachPath_3 ?_
  refine gK_1_48 C S dX1_detachPath_4 ?_
  refine a_icmp_ge C 29 (by decide) dX1_detachPath_7 (fun c1 => ?_) (fun c1 => ?_)
  · replace h := ifp c1 h
    exact a_vret hret h dX1_detachPath_29
  · replace h := ifn c1 h
    refine a_aload_n C 0 rfl rfl dX1_detachPath_10 ?_
    refine gK_1_29 C S dX1_detachPath_11 ?_
    refine a_aload_n C 0 rfl rfl dX1_detachPath_14 ?_
    refine gK_1_18 C S dX1_detachPath_15 ?_
    refine a_iload_n C 1 rfl rfl dX1_detachPath_18 ?_
    obtain ⟨x2, e_x2, h⟩ := b1s h
    refine lK_164 C S e_x2 dX1_detachPath_19 ?_
    obtain ⟨q3, e_q3, h⟩ := b1s h
    refine kK_1_105 C S e_q3 ⟨(Nat.le_of_ble_eq_true rfl), (Nat.le_of_ble_eq_true rfl)⟩ (Nat.le_of_ble_eq_true rfl) dX1_detachPath_20 ?_
    refine a_iinc (v := (v1 + 1)) C [(1, .int (v1 + 1)), (0, .ref (adOf X 161))] 1 rfl (congrArg (HAdd.hAdd v1) (by decide : Int32.ofInt (1) = (1 : Int32))) (by decide) rfl dX1_detachPath_23 ?_
    refine a_goto C 2 (by decide) dX1_detachPath_26 ?_
    exact At.sub [1, 0] rfl (hrec _ _ h)
def Gr_detachPath_L2 : Nat → Int32 → St → Option (St)
  | 0, _, _ => none
  | n + 1, v1, q => Gr_detachPath_B2 (Gr_detachPath_L2 n) v1 q
theorem w_Gr_detachPath_L2 {X : Cv} (C : Cx X cX1_detachPath RX1 rm_Gr_detachPath 2) (S : IsK X) {z : St} (hret : RokV X cX1_detachPath z) (n : Nat) : ∀ (v1 : Int32) (q : St), Gr_detachPath_L2 n v1 q = some z → At X 2 [(0, .ref (adOf X 161)), (1, .int v1)] [] q := by
  induction n with
  | zero => intro v1 q h; cases h
  | succ n ih => intro v1 q h; exact w_Gr_detachPath_B2 C S hret _ ih v1 q h
def Gr_detachPath (q : St) : Option (St) :=
  Gr_detachPath_L2 FU (1 : Int32) q
theorem w_Gr_detachPath {X : Cv} (C : Cx X cX1_detachPath RX1 rm_Gr_detachPath 2) (S : IsK X) {z : St} (hret : RokV X cX1_detachPath z) (q : St) (h : Gr_detachPath q = some z) : At X 0 [(0, .ref (adOf X 161))] [] q := by
  unfold Gr_detachPath at h
  refine a_iconst (v := 1) C (by decide) dX1_detachPath_0 ?_
  refine a_istore_n C [(1, .int (1 : Int32)), (0, .ref (adOf X 161))] rfl (by decide) rfl dX1_detachPath_1 ?_
  exact At.sub [1, 0] rfl (w_Gr_detachPath_L2 C S hret _ _ _ h)
theorem c_Gr_detachPath {l : Launch} {D : va_G} {I : ClassId × ClassId × ClassId × ClassId} {ad : Nat → Nat} {q : St} {z : St} (h : Gr_detachPath q = some z) : Ctr l D I (zK ad) 168 (shK I) ad yX1_detachPath cX1_detachPath 2 none rm_Gr_detachPath [.ref (ad 161)] q none z :=
  ctr_ofV (by decide) (Nat.le_of_ble_eq_true rfl) (fun p e s m args below meth c Q H0 X hX C hret => by subst hX; exact w_Gr_detachPath C ⟨rfl, rfl, rfl⟩ hret _ h)
theorem kK_9_77 {X : Cv} {cc : ByteArray} {rm : Room} {nL1 pc : Nat} {lv : List (Nat × Value)} {sk : List Value} {q : St} {q2 : St} (C : Cx X cc RX9 rm nL1) (S : IsK X) (h : Gr_detachPath q = some q2) (hz : rm_Gr_detachPath.frames + 1 ≤ rm.frames ∧ 8 + (2 + 11) + rm_Gr_detachPath.locals ≤ rm.locals) (hr : (sk.map fun v => v.category).sum ≤ 8) (hd : decode cc pc = .ok (.invokevirtual 77, 3)) (k : At X (pc + 3) lv sk q2) : At X pc lv (.ref (adOf X 161) :: sk) q := a_callVv (as := []) C (kp := 161) (kLt S (by decide)) (by rw [S.2.1]; rfl) rfl (by have hh := c_Gr_detachPath (l := X.2.1) (D := dOf X) (I := idOf X) (ad := adOf X) h; rw [← S.1, ← S.2.1, ← S.2.2] at hh; exact hh) (gd_V (tg 878 (by decide +kernel) rfl) (tg 879 (by decide +kernel) rfl) (tg 880 (by decide +kernel) rfl) (tg 123 (by decide +kernel) rfl) (tg 881 (by decide +kernel) rfl)) ⟨rfl, rfl, hz.1, hz.2⟩ ⟨by decide, by decide, by show Option.map _ (parseMethodDescriptor yX1_detachPath.desc) = some 0; decide⟩ hr rfl hd k
abbrev rm_Tr_tryLevel : Room := { frames := 3, cells := 0, slots := 0, locals := 75 }
def Tr_tryLevel_J82 (v1 : Int32) (v2 : Int32) (v4 : Int32) (v5 : Int32) (q : St) : Option (Int32 × St) :=
  b1 (wr 21 q 23 v1 v2) fun q6 =>
  b1 (Fl_measure q6) fun q7 =>
  b1 (Fl_fits q7) fun x8 =>
  if x8 = (0 : Int32) then
    b1 (wr 21 q7 23 v1 v4) fun q10 =>
    if v5 = (0 : Int32) then
      some ((0 : Int32), q10)
    else
      b1 (Gr_detachPath q10) fun q12 =>
      some ((0 : Int32), q12)
  else
    some ((1 : Int32), q7)
theorem w_Tr_tryLevel_J82 {X : Cv} (C : Cx X cX9_tryLevel RX9 rm_Tr_tryLevel 6) (S : IsK X) {z : Int32 × St} (hret : RokI X cX9_tryLevel .boolean z.1 z.2) (v1 : Int32) (v2 : Int32) (v4 : Int32) (v5 : Int32) (q : St) (h : Tr_tryLevel_J82 v1 v2 v4 v5 q = some z) : At X 82 [(0, .ref (adOf X 165)), (1, .int v1), (2, .int v2), (4, .int v4), (5, .int v5)] [] q := by
  unfold Tr_tryLevel_J82 at h
  refine a_aload_n C 0 rfl rfl dX9_tryLevel_82 ?_
  refine gK_9_15 C S dX9_tryLevel_83 ?_
  refine gK_9_44 C S (Or.inl rfl) dX9_tryLevel_86 ?_
  refine a_iload_n C 1 rfl rfl dX9_tryLevel_89 ?_
  refine a_iload_n C 2 rfl rfl dX9_tryLevel_90 ?_
  obtain ⟨q6, e_q6, h⟩ := b1s h
  refine sK_s4 (o := 19) C S (Or.inl rfl) e_q6 dX9_tryLevel_91 ?_
  refine a_aload_n C 0 rfl rfl dX9_tryLevel_92 ?_
  refine gK_9_23 C S dX9_tryLevel_93 ?_
  obtain ⟨q7, e_q7, h⟩ := b1s h
  refine kK_9_68 C S e_q7 ⟨(Nat.le_of_ble_eq_true rfl), (Nat.le_of_ble_eq_true rfl)⟩ (Nat.le_of_ble_eq_true rfl) dX9_tryLevel_96 ?_
  refine a_aload_n C 0 rfl rfl dX9_tryLevel_99 ?_
  refine gK_9_23 C S dX9_tryLevel_100 ?_
  obtain ⟨x8, e_x8, h⟩ := b1s h
  refine kK_9_73 C S e_x8 ⟨(Nat.le_of_ble_eq_true rfl), (Nat.le_of_ble_eq_true rfl)⟩ (Nat.le_of_ble_eq_true rfl) dX9_tryLevel_103 ?_
  refine a_if_eq C 111 (by decide) dX9_tryLevel_106 (fun c9 => ?_) (fun c9 => ?_)
  · replace h := ifp c9 h
    refine a_aload_n C 0 rfl rfl dX9_tryLevel_111 ?_
    refine gK_9_15 C S dX9_tryLevel_112 ?_
    refine gK_9_44 C S (Or.inl rfl) dX9_tryLevel_115 ?_
    refine a_iload_n C 1 rfl rfl dX9_tryLevel_118 ?_
    refine a_iload C 3 rfl dX9_tryLevel_119 ?_
    obtain ⟨q10, e_q10, h⟩ := b1s h
    refine sK_s4 (o := 19) C S (Or.inl rfl) e_q10 dX9_tryLevel_121 ?_
    refine a_iload C 4 rfl dX9_tryLevel_122 ?_
    refine a_if_eq C 134 (by decide) dX9_tryLevel_124 (fun c11 => ?_) (fun c11 => ?_)
    · replace h := ifp c11 h
      refine a_iconst (v := 0) C (by decide) dX9_tryLevel_134 ?_
      exact a_iret hret h rfl dX9_tryLevel_135
    · replace h := ifn c11 h
      refine a_aload_n C 0 rfl rfl dX9_tryLevel_127 ?_
      refine gK_9_27 C S dX9_tryLevel_128 ?_
      obtain ⟨q12, e_q12, h⟩ := b1s h
      refine kK_9_77 C S e_q12 ⟨(Nat.le_of_ble_eq_true rfl), (Nat.le_of_ble_eq_true rfl)⟩ (Nat.le_of_ble_eq_true rfl) dX9_tryLevel_131 ?_
      refine a_iconst (v := 0) C (by decide) dX9_tryLevel_134 ?_
      exact a_iret hret h rfl dX9_tryLevel_135
  · replace h := ifn c9 h
    refine a_iconst (v := 1) C (by decide) dX9_tryLevel_109 ?_
    exact a_iret hret h rfl dX9_tryLevel_110
def Tr_tryLevel_J38 (v1 : Int32) (v2 : Int32) (v3 : Int32) (v4 : Int32) (z0 : Int32) (q : St) : Option (Int32 × St) :=
  if z0 = (0 : Int32) then
    Tr_tryLevel_J82 v1 v2 v4 z0 q
  else
    b1 (rd 21 q 21 v1) fun x13 =>
    b1 (Su_rateOf q x13 v2) fun x14 =>
    b2 (Gr_findPath q v3 x14) fun x15 q16 =>
    if x15 = (0 : Int32) then
      some ((0 : Int32), q16)
    else
      b1 (Gr_attachPath q16) fun q18 =>
      Tr_tryLevel_J82 v1 v2 v4 z0 q18
theorem w_Tr_tryLevel_J38 {X : Cv} (C : Cx X cX9_tryLevel RX9 rm_Tr_tryLevel 6) (S : IsK X) {z : Int32 × St} (hret : RokI X cX9_tryLevel .boolean z.1 z.2) (v1 : Int32) (v2 : Int32) (v3 : Int32) (v4 : Int32) (z0 : Int32) (q : St) (h : Tr_tryLevel_J38 v1 v2 v3 v4 z0 q = some z) : At X 38 [(0, .ref (adOf X 165)), (1, .int v1), (2, .int v2), (3, .int v3), (4, .int v4)] [.int z0] q := by
  unfold Tr_tryLevel_J38 at h
  refine a_istore C [(5, .int z0), (0, .ref (adOf X 165)), (1, .int v1), (2, .int v2), (3, .int v3), (4, .int v4)] (by decide) rfl dX9_tryLevel_38 ?_
  refine a_iload C 0 rfl dX9_tryLevel_40 ?_
  refine a_if_eq C 82 (by decide) dX9_tryLevel_42 (fun c5 => ?_) (fun c5 => ?_)
  · replace h := ifp c5 h
    exact At.sub [1, 2, 3, 5, 0] rfl (w_Tr_tryLevel_J82 C S hret _ _ _ _ _ h)
  · replace h := ifn c5 h
    refine a_aload_n C 1 rfl rfl dX9_tryLevel_45 ?_
    refine gK_9_27 C S dX9_tryLevel_46 ?_
    refine a_iload_n C 4 rfl rfl dX9_tryLevel_49 ?_
    refine a_aload_n C 1 rfl rfl dX9_tryLevel_50 ?_
    refine gK_9_9 C S dX9_tryLevel_51 ?_
    refine a_aload_n C 1 rfl rfl dX9_tryLevel_54 ?_
    refine gK_9_15 C S dX9_tryLevel_55 ?_
    refine gK_9_51 C S (Or.inl rfl) dX9_tryLevel_58 ?_
    refine a_iload_n C 2 rfl rfl dX9_tryLevel_61 ?_
    obtain ⟨x13, e_x13, h⟩ := b1s h
    refine lK_s2 (o := 19) C S (Or.inl rfl) e_x13 dX9_tryLevel_62 ?_
    refine a_iload_n C 3 rfl rfl dX9_tryLevel_63 ?_
    obtain ⟨x14, e_x14, h⟩ := b1s h
    refine kK_9_54 C S e_x14 ⟨(Nat.le_of_ble_eq_true rfl), (Nat.le_of_ble_eq_true rfl)⟩ (Nat.le_of_ble_eq_true rfl) dX9_tryLevel_64 ?_
    obtain ⟨x15, q16, e_q16, h⟩ := b2s h
    refine kK_9_60 C S e_q16 ⟨(Nat.le_of_ble_eq_true rfl), (Nat.le_of_ble_eq_true rfl)⟩ (Nat.le_of_ble_eq_true rfl) dX9_tryLevel_67 ?_
    refine a_if_ne C 75 (by decide) dX9_tryLevel_70 (fun c17 => ?_) (fun c17 => ?_)
    · replace h := ifn c17 h
      refine a_aload_n C 1 rfl rfl dX9_tryLevel_75 ?_
      refine gK_9_27 C S dX9_tryLevel_76 ?_
      obtain ⟨q18, e_q18, h⟩ := b1s h
      refine kK_9_65 C S e_q18 ⟨(Nat.le_of_ble_eq_true rfl), (Nat.le_of_ble_eq_true rfl)⟩ (Nat.le_of_ble_eq_true rfl) dX9_tryLevel_79 ?_
      exact At.sub [1, 2, 3, 5, 0] rfl (w_Tr_tryLevel_J82 C S hret _ _ _ _ _ h)
    · replace h := ifp c17 h
      refine a_iconst (v := 0) C (by decide) dX9_tryLevel_73 ?_
      exact a_iret hret h rfl dX9_tryLevel_74
def Tr_tryLevel (q : St) (v1 : Int32) (v2 : Int32) : Option (Int32 × St) :=
  b1 (rd 21 q 20 v1) fun x1 =>
  b1 (rd 21 q 23 v1) fun x2 =>
  b1 (rd 16 q 28 x1) fun x3 =>
  if x3 = (0 : Int32) then
    Tr_tryLevel_J38 v1 v2 x1 x2 (1 : Int32) q
  else
    Tr_tryLevel_J38 v1 v2 x1 x2 (0 : Int32) q
theorem w_Tr_tryLevel {X : Cv} (C : Cx X cX9_tryLevel RX9 rm_Tr_tryLevel 6) (S : IsK X) {z : Int32 × St} (hret : RokI X cX9_tryLevel .boolean z.1 z.2) (v1 : Int32) (v2 : Int32) (q : St) (h : Tr_tryLevel q v1 v2 = some z) : At X 0 [(0, .ref (adOf X 165)), (1, .int v1), (2, .int v2)] [] q := by
  unfold Tr_tryLevel at h
  refine a_aload_n C 0 rfl rfl dX9_tryLevel_0 ?_
  refine gK_9_15 C S dX9_tryLevel_1 ?_
  refine gK_9_41 C S (Or.inl rfl) dX9_tryLevel_4 ?_
  refine a_iload_n C 1 rfl rfl dX9_tryLevel_7 ?_
  obtain ⟨x1, e_x1, h⟩ := b1s h
  refine lK_s1 (o := 19) C S (Or.inl rfl) e_x1 dX9_tryLevel_8 ?_
  refine a_istore_n C [(3, .int x1), (0, .ref (adOf X 165)), (1, .int v1), (2, .int v2)] rfl (by decide) rfl dX9_tryLevel_9 ?_
  refine a_aload_n C 1 rfl rfl dX9_tryLevel_10 ?_
  refine gK_9_15 C S dX9_tryLevel_11 ?_
  refine gK_9_44 C S (Or.inl rfl) dX9_tryLevel_14 ?_
  refine a_iload_n C 2 rfl rfl dX9_tryLevel_17 ?_
  obtain ⟨x2, e_x2, h⟩ := b1s h
  refine lK_s4 (o := 19) C S (Or.inl rfl) e_x2 dX9_tryLevel_18 ?_
  refine a_istore C [(4, .int x2), (3, .int x1), (0, .ref (adOf X 165)), (1, .int v1), (2, .int v2)] (by decide) rfl dX9_tryLevel_19 ?_
  refine a_aload_n C 2 rfl rfl dX9_tryLevel_21 ?_
  refine gK_9_15 C S dX9_tryLevel_22 ?_
  refine gK_9_47 C S (Or.inl rfl) dX9_tryLevel_25 ?_
  refine a_iload_n C 1 rfl rfl dX9_tryLevel_28 ?_
  obtain ⟨x3, e_x3, h⟩ := b1s h
  refine lK_s9 (o := 19) C S (Or.inl rfl) e_x3 dX9_tryLevel_29 ?_
  refine a_if_ne C 37 (by decide) dX9_tryLevel_30 (fun c4 => ?_) (fun c4 => ?_)
  · replace h := ifn c4 h
    refine a_iconst (v := 0) C (by decide) dX9_tryLevel_37 ?_
    exact At.sub [2, 3, 4, 1, 0] rfl (w_Tr_tryLevel_J38 C S hret _ _ _ _ _ _ h)
  · replace h := ifp c4 h
    refine a_iconst (v := 1) C (by decide) dX9_tryLevel_33 ?_
    refine a_goto C 38 (by decide) dX9_tryLevel_34 ?_
    exact At.sub [2, 3, 4, 1, 0] rfl (w_Tr_tryLevel_J38 C S hret _ _ _ _ _ _ h)
theorem c_Tr_tryLevel {l : Launch} {D : va_G} {I : ClassId × ClassId × ClassId × ClassId} {ad : Nat → Nat} {q : St} {v1 : Int32} {v2 : Int32} {z : Int32 × St} (h : Tr_tryLevel q v1 v2 = some z) : Ctr l D I (zK ad) 168 (shK I) ad yX9_tryLevel cX9_tryLevel 6 (some .boolean) rm_Tr_tryLevel [.ref (ad 165), .int v1, .int v2] q (some z.1) z.2 :=
  ctr_ofI (by decide) (Nat.le_of_ble_eq_true rfl) (fun p e s m args below meth c Q H0 X hX C hret => by subst hX; exact w_Tr_tryLevel C ⟨rfl, rfl, rfl⟩ hret _ _ _ h)
theorem kK_9_37 {X : Cv} {cc : ByteArray} {rm : Room} {nL1 pc : Nat} {lv : List (Nat × Value)} {sk : List Value} {q : St} {v1 : Int32} {v2 : Int32} {z : Int32} {q2 : St} (C : Cx X cc RX9 rm nL1) (S : IsK X) (h : Tr_tryLevel q v1 v2 = some (z, q2)) (hz : rm_Tr_tryLevel.frames + 1 ≤ rm.frames ∧ 8 + (6 + 11) + rm_Tr_tryLevel.locals ≤ rm.locals) (hr : (sk.map fun v => v.category).sum ≤ 8) (hd : decode cc pc = .ok (.invokevirtual 37, 3)) (k : At X (pc + 3) lv (.int z :: sk) q2) : At X pc lv (.int v2 :: .int v1 :: .ref (adOf X 165) :: sk) q := a_callVi (as := [.int v1, .int v2]) C (kp := 165) (kLt S (by decide)) (by rw [S.2.1]; rfl) rfl (by have hh := c_Tr_tryLevel (l := X.2.1) (D := dOf X) (I := idOf X) (ad := adOf X) h; rw [← S.1, ← S.2.1, ← S.2.2] at hh; exact hh) (gd_V (tg 789 (by decide +kernel) rfl) (tg 790 (by decide +kernel) rfl) (tg 791 (by decide +kernel) rfl) (tg 124 (by decide +kernel) rfl) (tg 792 (by decide +kernel) rfl)) ⟨rfl, rfl, hz.1, hz.2⟩ ⟨by decide, by decide, by show Option.map _ (parseMethodDescriptor yX9_tryLevel.desc) = some 2; decide⟩ hr rfl hd k
theorem kK_10_203 {X : Cv} {cc : ByteArray} {rm : Room} {nL1 pc : Nat} {lv : List (Nat × Value)} {sk : List Value} {q : St} {v1 : Int32} {v2 : Int32} {z : Int32} {q2 : St} (C : Cx X cc RX10 rm nL1) (S : IsK X) (h : Tr_tryLevel q v1 v2 = some (z, q2)) (hz : rm_Tr_tryLevel.frames + 1 ≤ rm.frames ∧ 8 + (6 + 11) + rm_Tr_tryLevel.locals ≤ rm.locals) (hr : (sk.map fun v => v.category).sum ≤ 8) (hd : decode cc pc = .ok (.invokevirtual 203, 3)) (k : At X (pc + 3) lv (.int z :: sk) q2) : At X pc lv (.int v2 :: .int v1 :: .ref (adOf X 165) :: sk) q := a_callVi (as := [.int v1, .int v2]) C (kp := 165) (kLt S (by decide)) (by rw [S.2.1]; rfl) rfl (by have hh := c_Tr_tryLevel (l := X.2.1) (D := dOf X) (I := idOf X) (ad := adOf X) h; rw [← S.1, ← S.2.1, ← S.2.2] at hh; exact hh) (gd_V (tg 922 (by decide +kernel) rfl) (tg 790 (by decide +kernel) rfl) (tg 791 (by decide +kernel) rfl) (tg 124 (by decide +kernel) rfl) (tg 792 (by decide +kernel) rfl)) ⟨rfl, rfl, hz.1, hz.2⟩ ⟨by decide, by decide, by show Option.map _ (parseMethodDescriptor yX9_tryLevel.desc) = some 2; decide⟩ hr rfl hd k
abbrev rm_Tr_join : Room := { frames := 4, cells := 0, slots := 0, locals := 100 }
def Tr_join_B10 (rec : Int32 → Int32 → St → Option (Int32 × St)) (v1 : Int32) (v2 : Int32) (q : St) : Option (Int32 × St) :=
  if v2 < (1 : Int32) then
    some ((0 : Int32), q)
  else
    b2 (Tr_tryLevel q v1 v2) fun x3 q4 =>
    if x3 = (0 : Int32) then
      rec v1 (v2 + -1) q4
    else
      some (v2, q4)
theorem w_Tr_join_B10 {X : Cv} (C : Cx X cX9_join RX9 rm_Tr_join 3) (S : IsK X) {z : Int32 × St} (hret : RokI X cX9_join .int z.1 z.2) (rec : Int32 → Int32 → St → Option (Int32 × St)) (hrec : ∀ (v1 : Int32) (v2 : Int32) (q : St), rec v1 v2 q = some z → At X 10 [(0, .ref (adOf X 165)), (1, .int v1), (2, .int v2)] [] q) (v1 : Int32) (v2 : Int32) (q : St) (h : Tr_join_B10 rec v1 v2 q = some z) : At X 10 [(0, .ref (adOf X 165)), (1, .int v1), (2, .int v2)] [] q := by
  unfold Tr_join_B10 at h
  refine a_iload_n C 2 rfl rfl dX9_join_10 ?_
  refine a_iconst (v := 1) C (by decide) dX9_join_11 ?_
  refine a_icmp_lt C 32 (by decide) dX9_join_12 (fun c2 => ?_) (fun c2 => ?_)
  · replace h := ifp c2 h
    refine a_iconst (v := 0) C (by decide) dX9_join_32 ?_
    exact a_iret hret h rfl dX9_join_33
  · replace h := ifn c2 h
    refine a_aload_n C 0 rfl rfl dX9_join_15 ?_
    refine a_iload_n C 1 rfl rfl dX9_join_16 ?_
    refine a_iload_n C 2 rfl rfl dX9_join_17 ?_
    obtain ⟨x3, q4, e_q4, h⟩ := b2s h
    refine kK_9_37 C S e_q4 ⟨(Nat.le_of_ble_eq_true rfl), (Nat.le_of_ble_eq_true rfl)⟩ (Nat.le_of_ble_eq_true rfl) dX9_join_18 ?_
    refine a_if_eq C 26 (by decide) dX9_join_21 (fun c5 => ?_) (fun c5 => ?_)
    · replace h := ifp c5 h
      refine a_iinc (v := (v2 + -1)) C [(2, .int (v2 + -1)), (0, .ref (adOf X 165)), (1, .int v1)] 2 rfl (congrArg (HAdd.hAdd v2) (by decide : Int32.ofInt (-1) = (-1 : Int32))) (by decide) rfl dX9_join_26 ?_
      refine a_goto C 10 (by decide) dX9_join_29 ?_
      exact At.sub [1, 2, 0] rfl (hrec _ _ _ h)
    · replace h := ifn c5 h
      refine a_iload_n C 2 rfl rfl dX9_join_24 ?_
      exact a_iret hret h rfl dX9_join_25
def Tr_join_L10 : Nat → Int32 → Int32 → St → Option (Int32 × St)
  | 0, _, _, _ => none
  | n + 1, v1, v2, q => Tr_join_B10 (Tr_join_L10 n) v1 v2 q
theorem w_Tr_join_L10 {X : Cv} (C : Cx X cX9_join RX9 rm_Tr_join 3) (S : IsK X) {z : Int32 × St} (hret : RokI X cX9_join .int z.1 z.2) (n : Nat) : ∀ (v1 : Int32) (v2 : Int32) (q : St), Tr_join_L10 n v1 v2 q = some z → At X 10 [(0, .ref (adOf X 165)), (1, .int v1), (2, .int v2)] [] q := by
  induction n with
  | zero => intro v1 v2 q h; cases h
  | succ n ih => intro v1 v2 q h; exact w_Tr_join_B10 C S hret _ ih v1 v2 q h
def Tr_join (q : St) (v1 : Int32) : Option (Int32 × St) :=
  b1 (rd 21 q 22 v1) fun x1 =>
  Tr_join_L10 FU v1 x1 q
theorem w_Tr_join {X : Cv} (C : Cx X cX9_join RX9 rm_Tr_join 3) (S : IsK X) {z : Int32 × St} (hret : RokI X cX9_join .int z.1 z.2) (v1 : Int32) (q : St) (h : Tr_join q v1 = some z) : At X 0 [(0, .ref (adOf X 165)), (1, .int v1)] [] q := by
  unfold Tr_join at h
  refine a_aload_n C 0 rfl rfl dX9_join_0 ?_
  refine gK_9_15 C S dX9_join_1 ?_
  refine gK_9_31 C S (Or.inl rfl) dX9_join_4 ?_
  refine a_iload_n C 1 rfl rfl dX9_join_7 ?_
  obtain ⟨x1, e_x1, h⟩ := b1s h
  refine lK_s3 (o := 19) C S (Or.inl rfl) e_x1 dX9_join_8 ?_
  refine a_istore_n C [(2, .int x1), (0, .ref (adOf X 165)), (1, .int v1)] rfl (by decide) rfl dX9_join_9 ?_
  exact At.sub [1, 2, 0] rfl (w_Tr_join_L10 C S hret _ _ _ _ h)
theorem c_Tr_join {l : Launch} {D : va_G} {I : ClassId × ClassId × ClassId × ClassId} {ad : Nat → Nat} {q : St} {v1 : Int32} {z : Int32 × St} (h : Tr_join q v1 = some z) : Ctr l D I (zK ad) 168 (shK I) ad yX9_join cX9_join 3 (some .int) rm_Tr_join [.ref (ad 165), .int v1] q (some z.1) z.2 :=
  ctr_ofI (by decide) (Nat.le_of_ble_eq_true rfl) (fun p e s m args below meth c Q H0 X hX C hret => by subst hX; exact w_Tr_join C ⟨rfl, rfl, rfl⟩ hret _ _ h)
theorem kK_10_177 {X : Cv} {cc : ByteArray} {rm : Room} {nL1 pc : Nat} {lv : List (Nat × Value)} {sk : List Value} {q : St} {v1 : Int32} {z : Int32} {q2 : St} (C : Cx X cc RX10 rm nL1) (S : IsK X) (h : Tr_join q v1 = some (z, q2)) (hz : rm_Tr_join.frames + 1 ≤ rm.frames ∧ 8 + (3 + 11) + rm_Tr_join.locals ≤ rm.locals) (hr : (sk.map fun v => v.category).sum ≤ 8) (hd : decode cc pc = .ok (.invokevirtual 177, 3)) (k : At X (pc + 3) lv (.int z :: sk) q2) : At X pc lv (.int v1 :: .ref (adOf X 165) :: sk) q := a_callVi (as := [.int v1]) C (kp := 165) (kLt S (by decide)) (by rw [S.2.1]; rfl) rfl (by have hh := c_Tr_join (l := X.2.1) (D := dOf X) (I := idOf X) (ad := adOf X) h; rw [← S.1, ← S.2.1, ← S.2.2] at hh; exact hh) (gd_V (tg 785 (by decide +kernel) rfl) (tg 786 (by decide +kernel) rfl) (tg 787 (by decide +kernel) rfl) (tg 124 (by decide +kernel) rfl) (tg 788 (by decide +kernel) rfl)) ⟨rfl, rfl, hz.1, hz.2⟩ ⟨by decide, by decide, by show Option.map _ (parseMethodDescriptor yX9_join.desc) = some 1; decide⟩ hr rfl hd k
theorem kK_9_103 {X : Cv} {cc : ByteArray} {rm : Room} {nL1 pc : Nat} {lv : List (Nat × Value)} {sk : List Value} {q : St} {v1 : Int32} {z : Int32} {q2 : St} (C : Cx X cc RX9 rm nL1) (S : IsK X) (h : Tr_join q v1 = some (z, q2)) (hz : rm_Tr_join.frames + 1 ≤ rm.frames ∧ 8 + (3 + 11) + rm_Tr_join.locals ≤ rm.locals) (hr : (sk.map fun v => v.category).sum ≤ 8) (hd : decode cc pc = .ok (.invokevirtual 103, 3)) (k : At X (pc + 3) lv (.int z :: sk) q2) : At X pc lv (.int v1 :: .ref (adOf X 165) :: sk) q := a_callVi (as := [.int v1]) C (kp := 165) (kLt S (by decide)) (by rw [S.2.1]; rfl) rfl (by have hh := c_Tr_join (l := X.2.1) (D := dOf X) (I := idOf X) (ad := adOf X) h; rw [← S.1, ← S.2.1, ← S.2.2] at hh; exact hh) (gd_V (tg 1000 (by decide +kernel) rfl) (tg 786 (by decide +kernel) rfl) (tg 787 (by decide +kernel) rfl) (tg 124 (by decide +kernel) rfl) (tg 788 (by decide +kernel) rfl)) ⟨rfl, rfl, hz.1, hz.2⟩ ⟨by decide, by decide, by show Option.map _ (parseMethodDescriptor yX9_join.desc) = some 1; decide⟩ hr rfl hd k
abbrev rm_K_addReceiver : Room := { frames := 5, cells := 0, slots := 0, locals := 122 }
def K_addReceiver (q : St) (v1 : Int32) (v2 : Int32) (v3 : Int32) : Option (Int32 × St) :=
  b1 (K_isNode q v1) fun x1 =>
  if x1 = (0 : Int32) then
    some ((-1 : Int32), q)
  else
    b1 (K_isFormat q v2) fun x3 =>
    if x3 = (0 : Int32) then
      some ((-1 : Int32), q)
    else
      b1 (K_isLevel q v3) fun x5 =>
      if x5 = (0 : Int32) then
        some ((-1 : Int32), q)
      else
        if (gt q 19 0) < (20 : Int32) then
          b1 (Hi_keep 19 q) fun q8 =>
          b2 (Ss_enrol q8 v1 v2 v3) fun x9 q10 =>
          b2 (Tr_join q10 x9) fun x11 q12 =>
          some (x9, q12)
        else
          some ((-2 : Int32), q)
theorem w_K_addReceiver {X : Cv} (C : Cx X cX10_addReceiver RX10 rm_K_addReceiver 5) (S : IsK X) {z : Int32 × St} (hret : RokI X cX10_addReceiver .int z.1 z.2) (v1 : Int32) (v2 : Int32) (v3 : Int32) (q : St) (h : K_addReceiver q v1 v2 v3 = some z) : At X 0 [(0, .ref (adOf X 0)), (1, .int v1), (2, .int v2), (3, .int v3)] [] q := by
  unfold K_addReceiver at h
  refine a_aload_n C 0 rfl rfl dX10_addReceiver_0 ?_
  refine a_iload_n C 1 rfl rfl dX10_addReceiver_1 ?_
  obtain ⟨x1, e_x1, h⟩ := b1s h
  refine kK_10_149 C S e_x1 ⟨(Nat.le_of_ble_eq_true rfl), (Nat.le_of_ble_eq_true rfl)⟩ (Nat.le_of_ble_eq_true rfl) dX10_addReceiver_2 ?_
  refine a_if_eq C 24 (by decide) dX10_addReceiver_5 (fun c2 => ?_) (fun c2 => ?_)
  · replace h := ifp c2 h
    refine a_iconst (v := -1) C (by decide) dX10_addReceiver_24 ?_
    exact a_iret hret h rfl dX10_addReceiver_25
  · replace h := ifn c2 h
    refine a_aload_n C 0 rfl rfl dX10_addReceiver_8 ?_
    refine a_iload_n C 2 rfl rfl dX10_addReceiver_9 ?_
    obtain ⟨x3, e_x3, h⟩ := b1s h
    refine kK_10_138 C S e_x3 ⟨(Nat.le_of_ble_eq_true rfl), (Nat.le_of_ble_eq_true rfl)⟩ (Nat.le_of_ble_eq_true rfl) dX10_addReceiver_10 ?_
    refine a_if_eq C 24 (by decide) dX10_addReceiver_13 (fun c4 => ?_) (fun c4 => ?_)
    · replace h := ifp c4 h
      refine a_iconst (v := -1) C (by decide) dX10_addReceiver_24 ?_
      exact a_iret hret h rfl dX10_addReceiver_25
    · replace h := ifn c4 h
      refine a_aload_n C 0 rfl rfl dX10_addReceiver_16 ?_
      refine a_iload_n C 3 rfl rfl dX10_addReceiver_17 ?_
      obtain ⟨x5, e_x5, h⟩ := b1s h
      refine kK_10_142 C S e_x5 ⟨(Nat.le_of_ble_eq_true rfl), (Nat.le_of_ble_eq_true rfl)⟩ (Nat.le_of_ble_eq_true rfl) dX10_addReceiver_18 ?_
      refine a_if_ne C 26 (by decide) dX10_addReceiver_21 (fun c6 => ?_) (fun c6 => ?_)
      · replace h := ifn c6 h
        refine a_aload_n C 0 rfl rfl dX10_addReceiver_26 ?_
        refine gK_10_22 C S dX10_addReceiver_27 ?_
        refine gK_10_166 C S (Or.inl rfl) dX10_addReceiver_30 ?_
        refine a_bipush (v := 20) C (by decide) dX10_addReceiver_33 ?_
        refine a_icmp_lt C 41 (by decide) dX10_addReceiver_35 (fun c7 => ?_) (fun c7 => ?_)
        · replace h := ifp c7 h
          refine a_aload_n C 0 rfl rfl dX10_addReceiver_41 ?_
          refine gK_10_32 C S dX10_addReceiver_42 ?_
          refine a_aload_n C 0 rfl rfl dX10_addReceiver_45 ?_
          refine gK_10_22 C S dX10_addReceiver_46 ?_
          obtain ⟨q8, e_q8, h⟩ := b1s h
          refine kK_10_169 C S (Or.inl rfl) e_q8 ⟨(Nat.le_of_ble_eq_true rfl), (Nat.le_of_ble_eq_true rfl)⟩ (Nat.le_of_ble_eq_true rfl) dX10_addReceiver_49 ?_
          refine a_aload_n C 0 rfl rfl dX10_addReceiver_52 ?_
          refine gK_10_22 C S dX10_addReceiver_53 ?_
          refine a_iload_n C 1 rfl rfl dX10_addReceiver_56 ?_
          refine a_iload_n C 2 rfl rfl dX10_addReceiver_57 ?_
          refine a_iload_n C 3 rfl rfl dX10_addReceiver_58 ?_
          obtain ⟨x9, q10, e_q10, h⟩ := b2s h
          refine kK_10_173 C S e_q10 ⟨(Nat.le_of_ble_eq_true rfl), (Nat.le_of_ble_eq_true rfl)⟩ (Nat.le_of_ble_eq_true rfl) dX10_addReceiver_59 ?_
          refine a_istore C [(4, .int x9), (0, .ref (adOf X 0)), (1, .int v1), (2, .int v2), (3, .int v3)] (by decide) rfl dX10_addReceiver_62 ?_
          refine a_aload_n C 1 rfl rfl dX10_addReceiver_64 ?_
          refine gK_10_82 C S dX10_addReceiver_65 ?_
          refine a_iload C 0 rfl dX10_addReceiver_68 ?_
          obtain ⟨x11, q12, e_q12, h⟩ := b2s h
          refine kK_10_177 C S e_q12 ⟨(Nat.le_of_ble_eq_true rfl), (Nat.le_of_ble_eq_true rfl)⟩ (Nat.le_of_ble_eq_true rfl) dX10_addReceiver_70 ?_
          refine a_pop C rfl dX10_addReceiver_73 ?_
          refine a_iload C 0 rfl dX10_addReceiver_74 ?_
          exact a_iret hret h rfl dX10_addReceiver_76
        · replace h := ifn c7 h
          refine a_bipush (v := -2) C (by decide) dX10_addReceiver_38 ?_
          exact a_iret hret h rfl dX10_addReceiver_40
      · replace h := ifp c6 h
        refine a_iconst (v := -1) C (by decide) dX10_addReceiver_24 ?_
        exact a_iret hret h rfl dX10_addReceiver_25
theorem c_K_addReceiver {l : Launch} {D : va_G} {I : ClassId × ClassId × ClassId × ClassId} {ad : Nat → Nat} {q : St} {v1 : Int32} {v2 : Int32} {v3 : Int32} {z : Int32 × St} (h : K_addReceiver q v1 v2 v3 = some z) : Ctr l D I (zK ad) 168 (shK I) ad yX10_addReceiver cX10_addReceiver 5 (some .int) rm_K_addReceiver [.ref (ad 0), .int v1, .int v2, .int v3] q (some z.1) z.2 :=
  ctr_ofI (by decide) (Nat.le_of_ble_eq_true rfl) (fun p e s m args below meth c Q H0 X hX C hret => by subst hX; exact w_K_addReceiver C ⟨rfl, rfl, rfl⟩ hret _ _ _ _ h)
abbrev rm_K_isAdded : Room := { frames := 0, cells := 0, slots := 0, locals := 0 }
def K_isAdded (q : St) (v1 : Int32) : Option (Int32) :=
  if v1 < (0 : Int32) then
    some (0 : Int32)
  else
    if (gt q 19 0) ≤ v1 then
      some (0 : Int32)
    else
      some (1 : Int32)
theorem w_K_isAdded {X : Cv} (C : Cx X cX10_isAdded RX10 rm_K_isAdded 2) (S : IsK X) {q : St} {z : Int32} (hret : RokI X cX10_isAdded .boolean z q) (v1 : Int32) (h : K_isAdded q v1 = some z) : At X 0 [(0, .ref (adOf X 0)), (1, .int v1)] [] q := by
  unfold K_isAdded at h
  refine a_iload_n C 1 rfl rfl dX10_isAdded_0 ?_
  refine a_if_lt C 19 (by decide) dX10_isAdded_1 (fun c1 => ?_) (fun c1 => ?_)
  · replace h := ifp c1 h
    refine a_iconst (v := 0) C (by decide) dX10_isAdded_19 ?_
    exact a_iretR hret h rfl dX10_isAdded_20
  · replace h := ifn c1 h
    refine a_iload_n C 1 rfl rfl dX10_isAdded_4 ?_
    refine a_aload_n C 0 rfl rfl dX10_isAdded_5 ?_
    refine gK_10_22 C S dX10_isAdded_6 ?_
    refine gK_10_166 C S (Or.inl rfl) dX10_isAdded_9 ?_
    refine a_icmp_ge C 19 (by decide) dX10_isAdded_12 (fun c2 => ?_) (fun c2 => ?_)
    · replace h := ifp c2 h
      refine a_iconst (v := 0) C (by decide) dX10_isAdded_19 ?_
      exact a_iretR hret h rfl dX10_isAdded_20
    · replace h := ifn c2 h
      refine a_iconst (v := 1) C (by decide) dX10_isAdded_15 ?_
      refine a_goto C 20 (by decide) dX10_isAdded_16 ?_
      exact a_iretR hret h rfl dX10_isAdded_20
theorem c_K_isAdded {l : Launch} {D : va_G} {I : ClassId × ClassId × ClassId × ClassId} {ad : Nat → Nat} {q : St} {v1 : Int32} {z : Int32} (h : K_isAdded q v1 = some z) : Ctr l D I (zK ad) 168 (shK I) ad yX10_isAdded cX10_isAdded 2 (some .boolean) rm_K_isAdded [.ref (ad 0), .int v1] q (some z) q :=
  ctr_ofI (by decide) (Nat.le_of_ble_eq_true rfl) (fun p e s m args below meth c Q H0 X hX C hret => by subst hX; exact w_K_isAdded C ⟨rfl, rfl, rfl⟩ hret _ h)
theorem kK_10_235 {X : Cv} {cc : ByteArray} {rm : Room} {nL1 pc : Nat} {lv : List (Nat × Value)} {sk : List Value} {q : St} {v1 : Int32} {z : Int32} (C : Cx X cc RX10 rm nL1) (S : IsK X) (h : K_isAdded q v1 = some z) (hz : rm_K_isAdded.frames + 1 ≤ rm.frames ∧ 8 + (2 + 11) + rm_K_isAdded.locals ≤ rm.locals) (hr : (sk.map fun v => v.category).sum ≤ 8) (hd : decode cc pc = .ok (.invokevirtual 235, 3)) (k : At X (pc + 3) lv (.int z :: sk) q) : At X pc lv (.int v1 :: .ref (adOf X 0) :: sk) q := a_callVi (as := [.int v1]) C (kp := 0) (kLt S (by decide)) (by rw [S.2.1]; rfl) rfl (by have hh := c_K_isAdded (l := X.2.1) (D := dOf X) (I := idOf X) (ad := adOf X) h; rw [← S.1, ← S.2.1, ← S.2.2] at hh; exact hh) (gd_V (tg 894 (by decide +kernel) rfl) (tg 896 (by decide +kernel) rfl) (tg 29 (by decide +kernel) rfl) (tg 115 (by decide +kernel) rfl) (tg 897 (by decide +kernel) rfl)) ⟨rfl, rfl, hz.1, hz.2⟩ ⟨by decide, by decide, by show Option.map _ (parseMethodDescriptor yX10_isAdded.desc) = some 1; decide⟩ hr rfl hd k
abbrev rm_K_isPresent : Room := { frames := 1, cells := 0, slots := 0, locals := 21 }
def K_isPresent (q : St) (v1 : Int32) : Option (Int32) :=
  b1 (K_isAdded q v1) fun x1 =>
  if x1 = (0 : Int32) then
    some (0 : Int32)
  else
    b1 (rd 21 q 24 v1) fun x3 =>
    if x3 = (0 : Int32) then
      some (1 : Int32)
    else
      some (0 : Int32)
theorem w_K_isPresent {X : Cv} (C : Cx X cX10_isPresent RX10 rm_K_isPresent 2) (S : IsK X) {q : St} {z : Int32} (hret : RokI X cX10_isPresent .boolean z q) (v1 : Int32) (h : K_isPresent q v1 = some z) : At X 0 [(0, .ref (adOf X 0)), (1, .int v1)] [] q := by
  unfold K_isPresent at h
  refine a_aload_n C 0 rfl rfl dX10_isPresent_0 ?_
  refine a_iload_n C 1 rfl rfl dX10_isPresent_1 ?_
  obtain ⟨x1, e_x1, h⟩ := b1s h
  refine kK_10_235 C S e_x1 ⟨(Nat.le_of_ble_eq_true rfl), (Nat.le_of_ble_eq_true rfl)⟩ (Nat.le_of_ble_eq_true rfl) dX10_isPresent_2 ?_
  refine a_if_eq C 24 (by decide) dX10_isPresent_5 (fun c2 => ?_) (fun c2 => ?_)
  · replace h := ifp c2 h
    refine a_iconst (v := 0) C (by decide) dX10_isPresent_24 ?_
    exact a_iretR hret h rfl dX10_isPresent_25
  · replace h := ifn c2 h
    refine a_aload_n C 0 rfl rfl dX10_isPresent_8 ?_
    refine gK_10_22 C S dX10_isPresent_9 ?_
    refine gK_10_187 C S (Or.inl rfl) dX10_isPresent_12 ?_
    refine a_iload_n C 1 rfl rfl dX10_isPresent_15 ?_
    obtain ⟨x3, e_x3, h⟩ := b1s h
    refine lK_s5 (o := 19) C S (Or.inl rfl) e_x3 dX10_isPresent_16 ?_
    refine a_if_ne C 24 (by decide) dX10_isPresent_17 (fun c4 => ?_) (fun c4 => ?_)
    · replace h := ifn c4 h
      refine a_iconst (v := 0) C (by decide) dX10_isPresent_24 ?_
      exact a_iretR hret h rfl dX10_isPresent_25
    · replace h := ifp c4 h
      refine a_iconst (v := 1) C (by decide) dX10_isPresent_20 ?_
      refine a_goto C 25 (by decide) dX10_isPresent_21 ?_
      exact a_iretR hret h rfl dX10_isPresent_25
theorem c_K_isPresent {l : Launch} {D : va_G} {I : ClassId × ClassId × ClassId × ClassId} {ad : Nat → Nat} {q : St} {v1 : Int32} {z : Int32} (h : K_isPresent q v1 = some z) : Ctr l D I (zK ad) 168 (shK I) ad yX10_isPresent cX10_isPresent 2 (some .boolean) rm_K_isPresent [.ref (ad 0), .int v1] q (some z) q :=
  ctr_ofI (by decide) (Nat.le_of_ble_eq_true rfl) (fun p e s m args below meth c Q H0 X hX C hret => by subst hX; exact w_K_isPresent C ⟨rfl, rfl, rfl⟩ hret _ h)
theorem kK_10_181 {X : Cv} {cc : ByteArray} {rm : Room} {nL1 pc : Nat} {lv : List (Nat × Value)} {sk : List Value} {q : St} {v1 : Int32} {z : Int32} (C : Cx X cc RX10 rm nL1) (S : IsK X) (h : K_isPresent q v1 = some z) (hz : rm_K_isPresent.frames + 1 ≤ rm.frames ∧ 8 + (2 + 11) + rm_K_isPresent.locals ≤ rm.locals) (hr : (sk.map fun v => v.category).sum ≤ 8) (hd : decode cc pc = .ok (.invokevirtual 181, 3)) (k : At X (pc + 3) lv (.int z :: sk) q) : At X pc lv (.int v1 :: .ref (adOf X 0) :: sk) q := a_callVi (as := [.int v1]) C (kp := 0) (kLt S (by decide)) (by rw [S.2.1]; rfl) rfl (by have hh := c_K_isPresent (l := X.2.1) (D := dOf X) (I := idOf X) (ad := adOf X) h; rw [← S.1, ← S.2.1, ← S.2.2] at hh; exact hh) (gd_V (tg 890 (by decide +kernel) rfl) (tg 892 (by decide +kernel) rfl) (tg 28 (by decide +kernel) rfl) (tg 115 (by decide +kernel) rfl) (tg 893 (by decide +kernel) rfl)) ⟨rfl, rfl, hz.1, hz.2⟩ ⟨by decide, by decide, by show Option.map _ (parseMethodDescriptor yX10_isPresent.desc) = some 1; decide⟩ hr rfl hd k
abbrev rm_Sp_nodesUp : Room := { frames := 0, cells := 0, slots := 0, locals := 0 }
def Sp_nodesUp_B7 (q : St) (rec : Int32 → Int32 → Int32 → Option (Int32)) (v2 : Int32) (v3 : Int32) (v4 : Int32) : Option (Int32) :=
  if (16 : Int32) ≤ v4 then
    some v2
  else
    if v3 = (-1 : Int32) then
      some v2
    else
      lt_ (v2 ||| ((1 : Int32) <<< (v3 &&& 31))) fun w3 =>
      b1 (rd 16 q 29 v3) fun x4 =>
      rec w3 x4 (v4 + 1)
theorem w_Sp_nodesUp_B7 {X : Cv} (C : Cx X cX6_nodesUp RX6 rm_Sp_nodesUp 5) (S : IsK X) (q : St) {z : Int32} (hret : RokI X cX6_nodesUp .int z q) (rec : Int32 → Int32 → Int32 → Option (Int32)) (hrec : ∀ (v2 : Int32) (v3 : Int32) (v4 : Int32), rec v2 v3 v4 = some z → At X 7 [(0, .ref (adOf X 156)), (2, .int v2), (3, .int v3), (4, .int v4)] [] q) (v2 : Int32) (v3 : Int32) (v4 : Int32) (h : Sp_nodesUp_B7 q rec v2 v3 v4 = some z) : At X 7 [(0, .ref (adOf X 156)), (2, .int v2), (3, .int v3), (4, .int v4)] [] q := by
  unfold Sp_nodesUp_B7 at h
  refine a_iload C 3 rfl dX6_nodesUp_7 ?_
  refine a_bipush (v := 16) C (by decide) dX6_nodesUp_9 ?_
  refine a_icmp_ge C 41 (by decide) dX6_nodesUp_11 (fun c1 => ?_) (fun c1 => ?_)
  · replace h := ifp c1 h
    refine a_iload_n C 1 rfl rfl dX6_nodesUp_41 ?_
    exact a_iretR hret h rfl dX6_nodesUp_42
  · replace h := ifn c1 h
    refine a_iload_n C 2 rfl rfl dX6_nodesUp_14 ?_
    refine a_iconst (v := -1) C (by decide) dX6_nodesUp_15 ?_
    refine a_icmp_eq C 41 (by decide) dX6_nodesUp_16 (fun c2 => ?_) (fun c2 => ?_)
    · replace h := ifp c2 h
      refine a_iload_n C 1 rfl rfl dX6_nodesUp_41 ?_
      exact a_iretR hret h rfl dX6_nodesUp_42
    · replace h := ifn c2 h
      refine a_iload_n C 1 rfl rfl dX6_nodesUp_19 ?_
      refine a_iconst (v := 1) C (by decide) dX6_nodesUp_20 ?_
      refine a_iload_n C 2 rfl rfl dX6_nodesUp_21 ?_
      refine a_ishl C dX6_nodesUp_22 ?_
      refine a_ior C dX6_nodesUp_23 ?_
      obtain ⟨w3, e_w3, h⟩ := lts h
      refine a_top e_w3 ?_
      refine a_istore_n C [(2, .int w3), (0, .ref (adOf X 156)), (3, .int v3), (4, .int v4)] rfl (by decide) rfl dX6_nodesUp_24 ?_
      refine a_aload_n C 1 rfl rfl dX6_nodesUp_25 ?_
      refine gK_6_15 C S dX6_nodesUp_26 ?_
      refine gK_6_19 C S (Or.inl rfl) dX6_nodesUp_29 ?_
      refine a_iload_n C 2 rfl rfl dX6_nodesUp_32 ?_
      obtain ⟨x4, e_x4, h⟩ := b1s h
      refine lK_s10 (o := 19) C S (Or.inl rfl) e_x4 dX6_nodesUp_33 ?_
      refine a_istore_n C [(3, .int x4), (2, .int w3), (0, .ref (adOf X 156)), (4, .int v4)] rfl (by decide) rfl dX6_nodesUp_34 ?_
      refine a_iinc (v := (v4 + 1)) C [(4, .int (v4 + 1)), (3, .int x4), (2, .int w3), (0, .ref (adOf X 156))] 3 rfl (congrArg (HAdd.hAdd v4) (by decide : Int32.ofInt (1) = (1 : Int32))) (by decide) rfl dX6_nodesUp_35 ?_
      refine a_goto C 7 (by decide) dX6_nodesUp_38 ?_
      exact At.sub [3, 2, 1, 0] rfl (hrec _ _ _ h)
def Sp_nodesUp_L7 (q : St) : Nat → Int32 → Int32 → Int32 → Option (Int32)
  | 0, _, _, _ => none
  | n + 1, v2, v3, v4 => Sp_nodesUp_B7 q (Sp_nodesUp_L7 q n) v2 v3 v4
theorem w_Sp_nodesUp_L7 {X : Cv} (C : Cx X cX6_nodesUp RX6 rm_Sp_nodesUp 5) (S : IsK X) (q : St) {z : Int32} (hret : RokI X cX6_nodesUp .int z q) (n : Nat) : ∀ (v2 : Int32) (v3 : Int32) (v4 : Int32), Sp_nodesUp_L7 q n v2 v3 v4 = some z → At X 7 [(0, .ref (adOf X 156)), (2, .int v2), (3, .int v3), (4, .int v4)] [] q := by
  induction n with
  | zero => intro v2 v3 v4 h; cases h
  | succ n ih => intro v2 v3 v4 h; exact w_Sp_nodesUp_B7 C S _ hret _ ih v2 v3 v4 h
def Sp_nodesUp (q : St) (v1 : Int32) : Option (Int32) :=
  Sp_nodesUp_L7 q FU (0 : Int32) v1 (0 : Int32)
theorem w_Sp_nodesUp {X : Cv} (C : Cx X cX6_nodesUp RX6 rm_Sp_nodesUp 5) (S : IsK X) {q : St} {z : Int32} (hret : RokI X cX6_nodesUp .int z q) (v1 : Int32) (h : Sp_nodesUp q v1 = some z) : At X 0 [(0, .ref (adOf X 156)), (1, .int v1)] [] q := by
  unfold Sp_nodesUp at h
  refine a_iconst (v := 0) C (by decide) dX6_nodesUp_0 ?_
  refine a_istore_n C [(2, .int (0 : Int32)), (0, .ref (adOf X 156)), (1, .int v1)] rfl (by decide) rfl dX6_nodesUp_1 ?_
  refine a_iload_n C 2 rfl rfl dX6_nodesUp_2 ?_
  refine a_istore_n C [(3, .int v1), (2, .int (0 : Int32)), (0, .ref (adOf X 156)), (1, .int v1)] rfl (by decide) rfl dX6_nodesUp_3 ?_
  refine a_iconst (v := 0) C (by decide) dX6_nodesUp_4 ?_
  refine a_istore C [(4, .int (0 : Int32)), (3, .int v1), (2, .int (0 : Int32)), (0, .ref (adOf X 156)), (1, .int v1)] (by decide) rfl dX6_nodesUp_5 ?_
  exact At.sub [3, 2, 1, 0] rfl (w_Sp_nodesUp_L7 C S _ hret _ _ _ _ h)
theorem c_Sp_nodesUp {l : Launch} {D : va_G} {I : ClassId × ClassId × ClassId × ClassId} {ad : Nat → Nat} {q : St} {v1 : Int32} {z : Int32} (h : Sp_nodesUp q v1 = some z) : Ctr l D I (zK ad) 168 (shK I) ad yX6_nodesUp cX6_nodesUp 5 (some .int) rm_Sp_nodesUp [.ref (ad 156), .int v1] q (some z) q :=
  ctr_ofI (by decide) (Nat.le_of_ble_eq_true rfl) (fun p e s m args below meth c Q H0 X hX C hret => by subst hX; exact w_Sp_nodesUp C ⟨rfl, rfl, rfl⟩ hret _ h)
theorem kK_6_56 {X : Cv} {cc : ByteArray} {rm : Room} {nL1 pc : Nat} {lv : List (Nat × Value)} {sk : List Value} {q : St} {v1 : Int32} {z : Int32} (C : Cx X cc RX6 rm nL1) (S : IsK X) (h : Sp_nodesUp q v1 = some z) (hz : rm_Sp_nodesUp.frames + 1 ≤ rm.frames ∧ 8 + (5 + 11) + rm_Sp_nodesUp.locals ≤ rm.locals) (hr : (sk.map fun v => v.category).sum ≤ 8) (hd : decode cc pc = .ok (.invokevirtual 56, 3)) (k : At X (pc + 3) lv (.int z :: sk) q) : At X pc lv (.int v1 :: .ref (adOf X 156) :: sk) q := a_callVi (as := [.int v1]) C (kp := 156) (kLt S (by decide)) (by rw [S.2.1]; rfl) rfl (by have hh := c_Sp_nodesUp (l := X.2.1) (D := dOf X) (I := idOf X) (ad := adOf X) h; rw [← S.1, ← S.2.1, ← S.2.2] at hh; exact hh) (gd_V (tg 907 (by decide +kernel) rfl) (tg 909 (by decide +kernel) rfl) (tg 30 (by decide +kernel) rfl) (tg 121 (by decide +kernel) rfl) (tg 910 (by decide +kernel) rfl)) ⟨rfl, rfl, hz.1, hz.2⟩ ⟨by decide, by decide, by show Option.map _ (parseMethodDescriptor yX6_nodesUp.desc) = some 1; decide⟩ hr rfl hd k
abbrev rm_Sp_pathNodes : Room := { frames := 1, cells := 0, slots := 0, locals := 24 }
def Sp_pathNodes (q : St) (v1 : Int32) : Option (Int32) :=
  b1 (Sp_pathStart q v1) fun x1 =>
  b1 (Sp_nodesUp q x1) fun x2 =>
  some x2
theorem w_Sp_pathNodes {X : Cv} (C : Cx X cX6_pathNodes RX6 rm_Sp_pathNodes 2) (S : IsK X) {q : St} {z : Int32} (hret : RokI X cX6_pathNodes .int z q) (v1 : Int32) (h : Sp_pathNodes q v1 = some z) : At X 0 [(0, .ref (adOf X 156)), (1, .int v1)] [] q := by
  unfold Sp_pathNodes at h
  refine a_aload_n C 0 rfl rfl dX6_pathNodes_0 ?_
  refine a_aload_n C 0 rfl rfl dX6_pathNodes_1 ?_
  refine a_iload_n C 1 rfl rfl dX6_pathNodes_2 ?_
  obtain ⟨x1, e_x1, h⟩ := b1s h
  refine kK_6_53 C S e_x1 ⟨(Nat.le_of_ble_eq_true rfl), (Nat.le_of_ble_eq_true rfl)⟩ (Nat.le_of_ble_eq_true rfl) dX6_pathNodes_3 ?_
  obtain ⟨x2, e_x2, h⟩ := b1s h
  refine kK_6_56 C S e_x2 ⟨(Nat.le_of_ble_eq_true rfl), (Nat.le_of_ble_eq_true rfl)⟩ (Nat.le_of_ble_eq_true rfl) dX6_pathNodes_6 ?_
  exact a_iretR hret h rfl dX6_pathNodes_9
theorem c_Sp_pathNodes {l : Launch} {D : va_G} {I : ClassId × ClassId × ClassId × ClassId} {ad : Nat → Nat} {q : St} {v1 : Int32} {z : Int32} (h : Sp_pathNodes q v1 = some z) : Ctr l D I (zK ad) 168 (shK I) ad yX6_pathNodes cX6_pathNodes 2 (some .int) rm_Sp_pathNodes [.ref (ad 156), .int v1] q (some z) q :=
  ctr_ofI (by decide) (Nat.le_of_ble_eq_true rfl) (fun p e s m args below meth c Q H0 X hX C hret => by subst hX; exact w_Sp_pathNodes C ⟨rfl, rfl, rfl⟩ hret _ h)
theorem kK_6_72 {X : Cv} {cc : ByteArray} {rm : Room} {nL1 pc : Nat} {lv : List (Nat × Value)} {sk : List Value} {q : St} {v1 : Int32} {z : Int32} (C : Cx X cc RX6 rm nL1) (S : IsK X) (h : Sp_pathNodes q v1 = some z) (hz : rm_Sp_pathNodes.frames + 1 ≤ rm.frames ∧ 8 + (2 + 11) + rm_Sp_pathNodes.locals ≤ rm.locals) (hr : (sk.map fun v => v.category).sum ≤ 8) (hd : decode cc pc = .ok (.invokevirtual 72, 3)) (k : At X (pc + 3) lv (.int z :: sk) q) : At X pc lv (.int v1 :: .ref (adOf X 156) :: sk) q := a_callVi (as := [.int v1]) C (kp := 156) (kLt S (by decide)) (by rw [S.2.1]; rfl) rfl (by have hh := c_Sp_pathNodes (l := X.2.1) (D := dOf X) (I := idOf X) (ad := adOf X) h; rw [← S.1, ← S.2.1, ← S.2.2] at hh; exact hh) (gd_V (tg 902 (by decide +kernel) rfl) (tg 903 (by decide +kernel) rfl) (tg 904 (by decide +kernel) rfl) (tg 121 (by decide +kernel) rfl) (tg 905 (by decide +kernel) rfl)) ⟨rfl, rfl, hz.1, hz.2⟩ ⟨by decide, by decide, by show Option.map _ (parseMethodDescriptor yX6_pathNodes.desc) = some 1; decide⟩ hr rfl hd k
theorem kK_9_154 {X : Cv} {cc : ByteArray} {rm : Room} {nL1 pc : Nat} {lv : List (Nat × Value)} {sk : List Value} {q : St} {v1 : Int32} {z : Int32} (C : Cx X cc RX9 rm nL1) (S : IsK X) (h : Sp_pathNodes q v1 = some z) (hz : rm_Sp_pathNodes.frames + 1 ≤ rm.frames ∧ 8 + (2 + 11) + rm_Sp_pathNodes.locals ≤ rm.locals) (hr : (sk.map fun v => v.category).sum ≤ 8) (hd : decode cc pc = .ok (.invokevirtual 154, 3)) (k : At X (pc + 3) lv (.int z :: sk) q) : At X pc lv (.int v1 :: .ref (adOf X 156) :: sk) q := a_callVi (as := [.int v1]) C (kp := 156) (kLt S (by decide)) (by rw [S.2.1]; rfl) rfl (by have hh := c_Sp_pathNodes (l := X.2.1) (D := dOf X) (I := idOf X) (ad := adOf X) h; rw [← S.1, ← S.2.1, ← S.2.2] at hh; exact hh) (gd_V (tg 956 (by decide +kernel) rfl) (tg 903 (by decide +kernel) rfl) (tg 904 (by decide +kernel) rfl) (tg 121 (by decide +kernel) rfl) (tg 905 (by decide +kernel) rfl)) ⟨rfl, rfl, hz.1, hz.2⟩ ⟨by decide, by decide, by show Option.map _ (parseMethodDescriptor yX6_pathNodes.desc) = some 1; decide⟩ hr rfl hd k
theorem kK_10_256 {X : Cv} {cc : ByteArray} {rm : Room} {nL1 pc : Nat} {lv : List (Nat × Value)} {sk : List Value} {q : St} {v1 : Int32} {z : Int32} (C : Cx X cc RX10 rm nL1) (S : IsK X) (h : Sp_pathNodes q v1 = some z) (hz : rm_Sp_pathNodes.frames + 1 ≤ rm.frames ∧ 8 + (2 + 11) + rm_Sp_pathNodes.locals ≤ rm.locals) (hr : (sk.map fun v => v.category).sum ≤ 8) (hd : decode cc pc = .ok (.invokevirtual 256, 3)) (k : At X (pc + 3) lv (.int z :: sk) q) : At X pc lv (.int v1 :: .ref (adOf X 156) :: sk) q := a_callVi (as := [.int v1]) C (kp := 156) (kLt S (by decide)) (by rw [S.2.1]; rfl) rfl (by have hh := c_Sp_pathNodes (l := X.2.1) (D := dOf X) (I := idOf X) (ad := adOf X) h; rw [← S.1, ← S.2.1, ← S.2.2] at hh; exact hh) (gd_V (tg 1063 (by decide +kernel) rfl) (tg 903 (by decide +kernel) rfl) (tg 904 (by decide +kernel) rfl) (tg 121 (by decide +kernel) rfl) (tg 905 (by decide +kernel) rfl)) ⟨rfl, rfl, hz.1, hz.2⟩ ⟨by decide, by decide, by show Option.map _ (parseMethodDescriptor yX6_pathNodes.desc) = some 1; decide⟩ hr rfl hd k
abbrev rm_Sp_prune : Room := { frames := 2, cells := 0, slots := 0, locals := 45 }
def Sp_prune_B4 (q : St) (k : Int32 → Option (St)) (rec : Int32 → Int32 → Option (St)) (v1 : Int32) (v2 : Int32) : Option (St) :=
  if (gt q 19 0) ≤ v2 then
    k v1
  else
    b1 (Sp_pathNodes q v2) fun x2 =>
    lt_ (v1 ||| x2) fun w3 =>
    rec w3 (v2 + 1)
theorem w_Sp_prune_B4 {X : Cv} (C : Cx X cX6_prune RX6 rm_Sp_prune 3) (S : IsK X) (q : St) {z : St} (hret : RokV X cX6_prune z) (k : Int32 → Option (St)) (hk : ∀ (v1 : Int32), k v1 = some z → At X 29 [(0, .ref (adOf X 156)), (1, .int v1)] [] q) (rec : Int32 → Int32 → Option (St)) (hrec : ∀ (v1 : Int32) (v2 : Int32), rec v1 v2 = some z → At X 4 [(0, .ref (adOf X 156)), (1, .int v1), (2, .int v2)] [] q) (v1 : Int32) (v2 : Int32) (h : Sp_prune_B4 q k rec v1 v2 = some z) : At X 4 [(0, .ref (adOf X 156)), (1, .int v1), (2, .int v2)] [] q := by
  unfold Sp_prune_B4 at h
  refine a_iload_n C 2 rfl rfl dX6_prune_4 ?_
  refine a_aload_n C 0 rfl rfl dX6_prune_5 ?_
  refine gK_6_15 C S dX6_prune_6 ?_
  refine gK_6_69 C S (Or.inl rfl) dX6_prune_9 ?_
  refine a_icmp_ge C 29 (by decide) dX6_prune_12 (fun c1 => ?_) (fun c1 => ?_)
  · replace h := ifp c1 h
    exact At.sub [0, 1] rfl (hk _ h)
  · replace h := ifn c1 h
    refine a_iload_n C 1 rfl rfl dX6_prune_15 ?_
    refine a_aload_n C 0 rfl rfl dX6_prune_16 ?_
    refine a_iload_n C 2 rfl rfl dX6_prune_17 ?_
    obtain ⟨x2, e_x2, h⟩ := b1s h
    refine kK_6_72 C S e_x2 ⟨(Nat.le_of_ble_eq_true rfl), (Nat.le_of_ble_eq_true rfl)⟩ (Nat.le_of_ble_eq_true rfl) dX6_prune_18 ?_
    refine a_ior C dX6_prune_21 ?_
    obtain ⟨w3, e_w3, h⟩ := lts h
    refine a_top e_w3 ?_
    refine a_istore_n C [(1, .int w3), (0, .ref (adOf X 156)), (2, .int v2)] rfl (by decide) rfl dX6_prune_22 ?_
    refine a_iinc (v := (v2 + 1)) C [(2, .int (v2 + 1)), (1, .int w3), (0, .ref (adOf X 156))] 2 rfl (congrArg (HAdd.hAdd v2) (by decide : Int32.ofInt (1) = (1 : Int32))) (by decide) rfl dX6_prune_23 ?_
    refine a_goto C 4 (by decide) dX6_prune_26 ?_
    exact At.sub [2, 1, 0] rfl (hrec _ _ h)
def Sp_prune_L4 (q : St) (k : Int32 → Option (St)) : Nat → Int32 → Int32 → Option (St)
  | 0, _, _ => none
  | n + 1, v1, v2 => Sp_prune_B4 q k (Sp_prune_L4 q k n) v1 v2
theorem w_Sp_prune_L4 {X : Cv} (C : Cx X cX6_prune RX6 rm_Sp_prune 3) (S : IsK X) (q : St) {z : St} (hret : RokV X cX6_prune z) (k : Int32 → Option (St)) (hk : ∀ (v1 : Int32), k v1 = some z → At X 29 [(0, .ref (adOf X 156)), (1, .int v1)] [] q) (n : Nat) : ∀ (v1 : Int32) (v2 : Int32), Sp_prune_L4 q k n v1 v2 = some z → At X 4 [(0, .ref (adOf X 156)), (1, .int v1), (2, .int v2)] [] q := by
  induction n with
  | zero => intro v1 v2 h; cases h
  | succ n ih => intro v1 v2 h; exact w_Sp_prune_B4 C S _ hret k hk _ ih v1 v2 h
def Sp_prune_B31 (rec : Int32 → Int32 → St → Option (St)) (v1 : Int32) (v2 : Int32) (q : St) : Option (St) :=
  if (gt q 1 0) ≤ v2 then
    some q
  else
    if ((v1 >>> (v2 &&& 31)) &&& (1 : Int32)) = (0 : Int32) then
      b1 (Sp_detach q v2) fun q7 =>
      rec v1 (v2 + 1) q7
    else
      rec v1 (v2 + 1) q
theorem w_Sp_prune_B31 {X : Cv} (C : Cx X cX6_prune RX6 rm_Sp_prune 3) (S : IsK X) {z : St} (hret : RokV X cX6_prune z) (rec : Int32 → Int32 → St → Option (St)) (hrec : ∀ (v1 : Int32) (v2 : Int32) (q : St), rec v1 v2 q = some z → At X 31 [(0, .ref (adOf X 156)), (1, .int v1), (2, .int v2)] [] q) (v1 : Int32) (v2 : Int32) (q : St) (h : Sp_prune_B31 rec v1 v2 q = some z) : At X 31 [(0, .ref (adOf X 156)), (1, .int v1), (2, .int v2)] [] q := by
  unfold Sp_prune_B31 at h
  refine a_iload_n C 2 rfl rfl dX6_prune_31 ?_
  refine a_aload_n C 0 rfl rfl dX6_prune_32 ?_
  refine gK_6_9 C S dX6_prune_33 ?_
  refine gK_6_33 C S (Or.inl rfl) dX6_prune_36 ?_
  refine a_icmp_ge C 61 (by decide) dX6_prune_39 (fun c5 => ?_) (fun c5 => ?_)
  · replace h := ifp c5 h
    exact a_vret hret h dX6_prune_61
  · replace h := ifn c5 h
    refine a_iload_n C 1 rfl rfl dX6_prune_42 ?_
    refine a_iload_n C 2 rfl rfl dX6_prune_43 ?_
    refine a_ishr C dX6_prune_44 ?_
    refine a_iconst (v := 1) C (by decide) dX6_prune_45 ?_
    refine a_iand C dX6_prune_46 ?_
    refine a_if_ne C 55 (by decide) dX6_prune_47 (fun c6 => ?_) (fun c6 => ?_)
    · replace h := ifn c6 h
      refine a_iinc (v := (v2 + 1)) C [(2, .int (v2 + 1)), (0, .ref (adOf X 156)), (1, .int v1)] 2 rfl (congrArg (HAdd.hAdd v2) (by decide : Int32.ofInt (1) = (1 : Int32))) (by decide) rfl dX6_prune_55 ?_
      refine a_goto C 31 (by decide) dX6_prune_58 ?_
      exact At.sub [1, 2, 0] rfl (hrec _ _ _ h)
    · replace h := ifp c6 h
      refine a_aload_n C 0 rfl rfl dX6_prune_50 ?_
      refine a_iload_n C 2 rfl rfl dX6_prune_51 ?_
      obtain ⟨q7, e_q7, h⟩ := b1s h
      refine kK_6_75 C S e_q7 ⟨(Nat.le_of_ble_eq_true rfl), (Nat.le_of_ble_eq_true rfl)⟩ (Nat.le_of_ble_eq_true rfl) dX6_prune_52 ?_
      refine a_iinc (v := (v2 + 1)) C [(2, .int (v2 + 1)), (0, .ref (adOf X 156)), (1, .int v1)] 2 rfl (congrArg (HAdd.hAdd v2) (by decide : Int32.ofInt (1) = (1 : Int32))) (by decide) rfl dX6_prune_55 ?_
      refine a_goto C 31 (by decide) dX6_prune_58 ?_
      exact At.sub [1, 2, 0] rfl (hrec _ _ _ h)
def Sp_prune_L31 : Nat → Int32 → Int32 → St → Option (St)
  | 0, _, _, _ => none
  | n + 1, v1, v2, q => Sp_prune_B31 (Sp_prune_L31 n) v1 v2 q
theorem w_Sp_prune_L31 {X : Cv} (C : Cx X cX6_prune RX6 rm_Sp_prune 3) (S : IsK X) {z : St} (hret : RokV X cX6_prune z) (n : Nat) : ∀ (v1 : Int32) (v2 : Int32) (q : St), Sp_prune_L31 n v1 v2 q = some z → At X 31 [(0, .ref (adOf X 156)), (1, .int v1), (2, .int v2)] [] q := by
  induction n with
  | zero => intro v1 v2 q h; cases h
  | succ n ih => intro v1 v2 q h; exact w_Sp_prune_B31 C S hret _ ih v1 v2 q h
def Sp_prune (q : St) : Option (St) :=
  Sp_prune_L4 q (fun y4 =>
    Sp_prune_L31 FU y4 (0 : Int32) q
    ) FU (1 : Int32) (0 : Int32)
theorem w_Sp_prune {X : Cv} (C : Cx X cX6_prune RX6 rm_Sp_prune 3) (S : IsK X) {z : St} (hret : RokV X cX6_prune z) (q : St) (h : Sp_prune q = some z) : At X 0 [(0, .ref (adOf X 156))] [] q := by
  unfold Sp_prune at h
  refine a_iconst (v := 1) C (by decide) dX6_prune_0 ?_
  refine a_istore_n C [(1, .int (1 : Int32)), (0, .ref (adOf X 156))] rfl (by decide) rfl dX6_prune_1 ?_
  refine a_iconst (v := 0) C (by decide) dX6_prune_2 ?_
  refine a_istore_n C [(2, .int (0 : Int32)), (1, .int (1 : Int32)), (0, .ref (adOf X 156))] rfl (by decide) rfl dX6_prune_3 ?_
  refine At.sub [2, 1, 0] rfl (w_Sp_prune_L4 C S _ hret _ ?_ _ _ _ h)
  intro y4 h
  refine a_iconst (v := 0) C (by decide) dX6_prune_29 ?_
  refine a_istore_n C [(2, .int (0 : Int32)), (0, .ref (adOf X 156)), (1, .int y4)] rfl (by decide) rfl dX6_prune_30 ?_
  exact At.sub [1, 2, 0] rfl (w_Sp_prune_L31 C S hret _ _ _ _ h)
theorem c_Sp_prune {l : Launch} {D : va_G} {I : ClassId × ClassId × ClassId × ClassId} {ad : Nat → Nat} {q : St} {z : St} (h : Sp_prune q = some z) : Ctr l D I (zK ad) 168 (shK I) ad yX6_prune cX6_prune 3 none rm_Sp_prune [.ref (ad 156)] q none z :=
  ctr_ofV (by decide) (Nat.le_of_ble_eq_true rfl) (fun p e s m args below meth c Q H0 X hX C hret => by subst hX; exact w_Sp_prune C ⟨rfl, rfl, rfl⟩ hret _ h)
theorem kK_10_190 {X : Cv} {cc : ByteArray} {rm : Room} {nL1 pc : Nat} {lv : List (Nat × Value)} {sk : List Value} {q : St} {q2 : St} (C : Cx X cc RX10 rm nL1) (S : IsK X) (h : Sp_prune q = some q2) (hz : rm_Sp_prune.frames + 1 ≤ rm.frames ∧ 8 + (3 + 11) + rm_Sp_prune.locals ≤ rm.locals) (hr : (sk.map fun v => v.category).sum ≤ 8) (hd : decode cc pc = .ok (.invokevirtual 190, 3)) (k : At X (pc + 3) lv sk q2) : At X pc lv (.ref (adOf X 156) :: sk) q := a_callVv (as := []) C (kp := 156) (kLt S (by decide)) (by rw [S.2.1]; rfl) rfl (by have hh := c_Sp_prune (l := X.2.1) (D := dOf X) (I := idOf X) (ad := adOf X) h; rw [← S.1, ← S.2.1, ← S.2.2] at hh; exact hh) (gd_V (tg 898 (by decide +kernel) rfl) (tg 899 (by decide +kernel) rfl) (tg 900 (by decide +kernel) rfl) (tg 121 (by decide +kernel) rfl) (tg 901 (by decide +kernel) rfl)) ⟨rfl, rfl, hz.1, hz.2⟩ ⟨by decide, by decide, by show Option.map _ (parseMethodDescriptor yX6_prune.desc) = some 0; decide⟩ hr rfl hd k
theorem kK_9_113 {X : Cv} {cc : ByteArray} {rm : Room} {nL1 pc : Nat} {lv : List (Nat × Value)} {sk : List Value} {q : St} {q2 : St} (C : Cx X cc RX9 rm nL1) (S : IsK X) (h : Sp_prune q = some q2) (hz : rm_Sp_prune.frames + 1 ≤ rm.frames ∧ 8 + (3 + 11) + rm_Sp_prune.locals ≤ rm.locals) (hr : (sk.map fun v => v.category).sum ≤ 8) (hd : decode cc pc = .ok (.invokevirtual 113, 3)) (k : At X (pc + 3) lv sk q2) : At X pc lv (.ref (adOf X 156) :: sk) q := a_callVv (as := []) C (kp := 156) (kLt S (by decide)) (by rw [S.2.1]; rfl) rfl (by have hh := c_Sp_prune (l := X.2.1) (D := dOf X) (I := idOf X) (ad := adOf X) h; rw [← S.1, ← S.2.1, ← S.2.2] at hh; exact hh) (gd_V (tg 975 (by decide +kernel) rfl) (tg 899 (by decide +kernel) rfl) (tg 900 (by decide +kernel) rfl) (tg 121 (by decide +kernel) rfl) (tg 901 (by decide +kernel) rfl)) ⟨rfl, rfl, hz.1, hz.2⟩ ⟨by decide, by decide, by show Option.map _ (parseMethodDescriptor yX6_prune.desc) = some 0; decide⟩ hr rfl hd k
abbrev rm_K_leave : Room := { frames := 3, cells := 0, slots := 0, locals := 92 }
def K_leave (q : St) (v1 : Int32) : Option (Int32 × St) :=
  b1 (K_isPresent q v1) fun x1 =>
  if x1 = (0 : Int32) then
    some ((-1 : Int32), q)
  else
    b1 (Hi_keep 19 q) fun q3 =>
    b1 (rd 21 q3 23 v1) fun x4 =>
    b1 (wr 21 q3 23 v1 (0 : Int32)) fun q5 =>
    b1 (wr 21 q5 24 v1 (vp_nar .boolean (1 : Int32))) fun q6 =>
    b1 (Sp_prune q6) fun q7 =>
    some (x4, q7)
theorem w_K_leave {X : Cv} (C : Cx X cX10_leave RX10 rm_K_leave 3) (S : IsK X) {z : Int32 × St} (hret : RokI X cX10_leave .int z.1 z.2) (v1 : Int32) (q : St) (h : K_leave q v1 = some z) : At X 0 [(0, .ref (adOf X 0)), (1, .int v1)] [] q := by
  unfold K_leave at h
  refine a_aload_n C 0 rfl rfl dX10_leave_0 ?_
  refine a_iload_n C 1 rfl rfl dX10_leave_1 ?_
  obtain ⟨x1, e_x1, h⟩ := b1s h
  refine kK_10_181 C S e_x1 ⟨(Nat.le_of_ble_eq_true rfl), (Nat.le_of_ble_eq_true rfl)⟩ (Nat.le_of_ble_eq_true rfl) dX10_leave_2 ?_
  refine a_if_ne C 10 (by decide) dX10_leave_5 (fun c2 => ?_) (fun c2 => ?_)
  · replace h := ifn c2 h
    refine a_aload_n C 0 rfl rfl dX10_leave_10 ?_
    refine gK_10_32 C S dX10_leave_11 ?_
    refine a_aload_n C 0 rfl rfl dX10_leave_14 ?_
    refine gK_10_22 C S dX10_leave_15 ?_
    obtain ⟨q3, e_q3, h⟩ := b1s h
    refine kK_10_169 C S (Or.inl rfl) e_q3 ⟨(Nat.le_of_ble_eq_true rfl), (Nat.le_of_ble_eq_true rfl)⟩ (Nat.le_of_ble_eq_true rfl) dX10_leave_18 ?_
    refine a_aload_n C 0 rfl rfl dX10_leave_21 ?_
    refine gK_10_22 C S dX10_leave_22 ?_
    refine gK_10_184 C S (Or.inl rfl) dX10_leave_25 ?_
    refine a_iload_n C 1 rfl rfl dX10_leave_28 ?_
    obtain ⟨x4, e_x4, h⟩ := b1s h
    refine lK_s4 (o := 19) C S (Or.inl rfl) e_x4 dX10_leave_29 ?_
    refine a_istore_n C [(2, .int x4), (0, .ref (adOf X 0)), (1, .int v1)] rfl (by decide) rfl dX10_leave_30 ?_
    refine a_aload_n C 1 rfl rfl dX10_leave_31 ?_
    refine gK_10_22 C S dX10_leave_32 ?_
    refine gK_10_184 C S (Or.inl rfl) dX10_leave_35 ?_
    refine a_iload_n C 2 rfl rfl dX10_leave_38 ?_
    refine a_iconst (v := 0) C (by decide) dX10_leave_39 ?_
    obtain ⟨q5, e_q5, h⟩ := b1s h
    refine sK_s4 (o := 19) C S (Or.inl rfl) e_q5 dX10_leave_40 ?_
    refine a_aload_n C 1 rfl rfl dX10_leave_41 ?_
    refine gK_10_22 C S dX10_leave_42 ?_
    refine gK_10_187 C S (Or.inl rfl) dX10_leave_45 ?_
    refine a_iload_n C 2 rfl rfl dX10_leave_48 ?_
    refine a_iconst (v := 1) C (by decide) dX10_leave_49 ?_
    obtain ⟨q6, e_q6, h⟩ := b1s h
    refine sK_s5 (o := 19) C S (Or.inl rfl) e_q6 dX10_leave_50 ?_
    refine a_aload_n C 1 rfl rfl dX10_leave_51 ?_
    refine gK_10_57 C S dX10_leave_52 ?_
    obtain ⟨q7, e_q7, h⟩ := b1s h
    refine kK_10_190 C S e_q7 ⟨(Nat.le_of_ble_eq_true rfl), (Nat.le_of_ble_eq_true rfl)⟩ (Nat.le_of_ble_eq_true rfl) dX10_leave_55 ?_
    refine a_iload_n C 0 rfl rfl dX10_leave_58 ?_
    exact a_iret hret h rfl dX10_leave_59
  · replace h := ifp c2 h
    refine a_iconst (v := -1) C (by decide) dX10_leave_8 ?_
    exact a_iret hret h rfl dX10_leave_9
theorem c_K_leave {l : Launch} {D : va_G} {I : ClassId × ClassId × ClassId × ClassId} {ad : Nat → Nat} {q : St} {v1 : Int32} {z : Int32 × St} (h : K_leave q v1 = some z) : Ctr l D I (zK ad) 168 (shK I) ad yX10_leave cX10_leave 3 (some .int) rm_K_leave [.ref (ad 0), .int v1] q (some z.1) z.2 :=
  ctr_ofI (by decide) (Nat.le_of_ble_eq_true rfl) (fun p e s m args below meth c Q H0 X hX C hret => by subst hX; exact w_K_leave C ⟨rfl, rfl, rfl⟩ hret _ _ h)
abbrev rm_K_setWanted : Room := { frames := 3, cells := 0, slots := 0, locals := 92 }
def K_setWanted (q : St) (v1 : Int32) (v2 : Int32) : Option (Int32 × St) :=
  b1 (K_isPresent q v1) fun x1 =>
  if x1 = (0 : Int32) then
    some ((-1 : Int32), q)
  else
    b1 (K_isLevel q v2) fun x3 =>
    if x3 = (0 : Int32) then
      some ((-1 : Int32), q)
    else
      b1 (rd 21 q 22 v1) fun x5 =>
      if x5 = v2 then
        some ((-2 : Int32), q)
      else
        b1 (Hi_keep 19 q) fun q7 =>
        b1 (wr 21 q7 22 v1 v2) fun q8 =>
        b1 (rd 21 q8 23 v1) fun x9 =>
        b1 (wr 21 q8 23 v1 (imin x9 v2)) fun q10 =>
        b1 (rd 21 q10 23 v1) fun x11 =>
        some (x11, q10)
theorem w_K_setWanted {X : Cv} (C : Cx X cX10_setWanted RX10 rm_K_setWanted 3) (S : IsK X) {z : Int32 × St} (hret : RokI X cX10_setWanted .int z.1 z.2) (v1 : Int32) (v2 : Int32) (q : St) (h : K_setWanted q v1 v2 = some z) : At X 0 [(0, .ref (adOf X 0)), (1, .int v1), (2, .int v2)] [] q := by
  unfold K_setWanted at h
  refine a_aload_n C 0 rfl rfl dX10_setWanted_0 ?_
  refine a_iload_n C 1 rfl rfl dX10_setWanted_1 ?_
  obtain ⟨x1, e_x1, h⟩ := b1s h
  refine kK_10_181 C S e_x1 ⟨(Nat.le_of_ble_eq_true rfl), (Nat.le_of_ble_eq_true rfl)⟩ (Nat.le_of_ble_eq_true rfl) dX10_setWanted_2 ?_
  refine a_if_eq C 16 (by decide) dX10_setWanted_5 (fun c2 => ?_) (fun c2 => ?_)
  · replace h := ifp c2 h
    refine a_iconst (v := -1) C (by decide) dX10_setWanted_16 ?_
    exact a_iret hret h rfl dX10_setWanted_17
  · replace h := ifn c2 h
    refine a_aload_n C 0 rfl rfl dX10_setWanted_8 ?_
    refine a_iload_n C 2 rfl rfl dX10_setWanted_9 ?_
    obtain ⟨x3, e_x3, h⟩ := b1s h
    refine kK_10_142 C S e_x3 ⟨(Nat.le_of_ble_eq_true rfl), (Nat.le_of_ble_eq_true rfl)⟩ (Nat.le_of_ble_eq_true rfl) dX10_setWanted_10 ?_
    refine a_if_ne C 18 (by decide) dX10_setWanted_13 (fun c4 => ?_) (fun c4 => ?_)
    · replace h := ifn c4 h
      refine a_aload_n C 0 rfl rfl dX10_setWanted_18 ?_
      refine gK_10_22 C S dX10_setWanted_19 ?_
      refine gK_10_193 C S (Or.inl rfl) dX10_setWanted_22 ?_
      refine a_iload_n C 1 rfl rfl dX10_setWanted_25 ?_
      obtain ⟨x5, e_x5, h⟩ := b1s h
      refine lK_s3 (o := 19) C S (Or.inl rfl) e_x5 dX10_setWanted_26 ?_
      refine a_iload_n C 2 rfl rfl dX10_setWanted_27 ?_
      refine a_icmp_ne C 34 (by decide) dX10_setWanted_28 (fun c6 => ?_) (fun c6 => ?_)
      · replace h := ifn c6 h
        refine a_aload_n C 0 rfl rfl dX10_setWanted_34 ?_
        refine gK_10_32 C S dX10_setWanted_35 ?_
        refine a_aload_n C 0 rfl rfl dX10_setWanted_38 ?_
        refine gK_10_22 C S dX10_setWanted_39 ?_
        obtain ⟨q7, e_q7, h⟩ := b1s h
        refine kK_10_169 C S (Or.inl rfl) e_q7 ⟨(Nat.le_of_ble_eq_true rfl), (Nat.le_of_ble_eq_true rfl)⟩ (Nat.le_of_ble_eq_true rfl) dX10_setWanted_42 ?_
        refine a_aload_n C 0 rfl rfl dX10_setWanted_45 ?_
        refine gK_10_22 C S dX10_setWanted_46 ?_
        refine gK_10_193 C S (Or.inl rfl) dX10_setWanted_49 ?_
        refine a_iload_n C 1 rfl rfl dX10_setWanted_52 ?_
        refine a_iload_n C 2 rfl rfl dX10_setWanted_53 ?_
        obtain ⟨q8, e_q8, h⟩ := b1s h
        refine sK_s3 (o := 19) C S (Or.inl rfl) e_q8 dX10_setWanted_54 ?_
        refine a_aload_n C 0 rfl rfl dX10_setWanted_55 ?_
        refine gK_10_22 C S dX10_setWanted_56 ?_
        refine gK_10_184 C S (Or.inl rfl) dX10_setWanted_59 ?_
        refine a_iload_n C 1 rfl rfl dX10_setWanted_62 ?_
        refine a_aload_n C 0 rfl rfl dX10_setWanted_63 ?_
        refine gK_10_22 C S dX10_setWanted_64 ?_
        refine gK_10_184 C S (Or.inl rfl) dX10_setWanted_67 ?_
        refine a_iload_n C 1 rfl rfl dX10_setWanted_70 ?_
        obtain ⟨x9, e_x9, h⟩ := b1s h
        refine lK_s4 (o := 19) C S (Or.inl rfl) e_x9 dX10_setWanted_71 ?_
        refine a_iload_n C 2 rfl rfl dX10_setWanted_72 ?_
        refine a_mmin C (tg 916 (by decide +kernel) rfl) (Nat.le_of_ble_eq_true rfl) (Nat.le_of_ble_eq_true rfl) dX10_setWanted_73 ?_
        obtain ⟨q10, e_q10, h⟩ := b1s h
        refine sK_s4 (o := 19) C S (Or.inl rfl) e_q10 dX10_setWanted_76 ?_
        refine a_aload_n C 0 rfl rfl dX10_setWanted_77 ?_
        refine gK_10_22 C S dX10_setWanted_78 ?_
        refine gK_10_184 C S (Or.inl rfl) dX10_setWanted_81 ?_
        refine a_iload_n C 1 rfl rfl dX10_setWanted_84 ?_
        obtain ⟨x11, e_x11, h⟩ := b1s h
        refine lK_s4 (o := 19) C S (Or.inl rfl) e_x11 dX10_setWanted_85 ?_
        exact a_iret hret h rfl dX10_setWanted_86
      · replace h := ifp c6 h
        refine a_bipush (v := -2) C (by decide) dX10_setWanted_31 ?_
        exact a_iret hret h rfl dX10_setWanted_33
    · replace h := ifp c4 h
      refine a_iconst (v := -1) C (by decide) dX10_setWanted_16 ?_
      exact a_iret hret h rfl dX10_setWanted_17
theorem c_K_setWanted {l : Launch} {D : va_G} {I : ClassId × ClassId × ClassId × ClassId} {ad : Nat → Nat} {q : St} {v1 : Int32} {v2 : Int32} {z : Int32 × St} (h : K_setWanted q v1 v2 = some z) : Ctr l D I (zK ad) 168 (shK I) ad yX10_setWanted cX10_setWanted 3 (some .int) rm_K_setWanted [.ref (ad 0), .int v1, .int v2] q (some z.1) z.2 :=
  ctr_ofI (by decide) (Nat.le_of_ble_eq_true rfl) (fun p e s m args below meth c Q H0 X hX C hret => by subst hX; exact w_K_setWanted C ⟨rfl, rfl, rfl⟩ hret _ _ _ h)
