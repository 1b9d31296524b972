abbrev rm_Ss_clearTree : Room := { frames := 0, cells := 0, slots := 0, locals := 0 }
def Ss_clearTree_J22 (rec : Int32 → St → Option (St)) (v1 : Int32) (z0 : Int32) (z1 : Int32) (q : St) : Option (St) :=
  b1 (wr 16 q 28 z1 (vp_nar .boolean z0)) fun q3 =>
  b1 (wr 16 q3 29 v1 (-1 : Int32)) fun q4 =>
  rec (v1 + 1) q4
theorem w_Ss_clearTree_J22 {X : Cv} (C : Cx X cX7_clearTree RX7 rm_Ss_clearTree 2) (S : IsK X) {z : St} (hret : RokV X cX7_clearTree z) (rec : Int32 → St → Option (St)) (hrec : ∀ (v1 : Int32) (q : St), rec v1 q = some z → At X 2 [(0, .ref (adOf X 19)), (1, .int v1)] [] q) (v1 : Int32) (z0 : Int32) (z1 : Int32) (q : St) (h : Ss_clearTree_J22 rec v1 z0 z1 q = some z) : At X 22 [(0, .ref (adOf X 19)), (1, .int v1)] [.int z0, .int z1, .ref (adOf X 28)] q := by
  unfold Ss_clearTree_J22 at h
  obtain ⟨q3, e_q3, h⟩ := b1s h
  refine sK_s9 (o := 19) C S (Or.inl rfl) e_q3 dX7_clearTree_22 ?_
  refine a_aload_n C 0 rfl rfl dX7_clearTree_23 ?_
  refine gK_7_40 C S (Or.inl rfl) dX7_clearTree_24 ?_
  refine a_iload_n C 1 rfl rfl dX7_clearTree_27 ?_
  refine a_iconst (v := -1) C (by decide) dX7_clearTree_28 ?_
  obtain ⟨q4, e_q4, h⟩ := b1s h
  refine sK_s10 (o := 19) C S (Or.inl rfl) e_q4 dX7_clearTree_29 ?_
  refine a_iinc (v := (v1 + 1)) C [(1, .int (v1 + 1)), (0, .ref (adOf X 19))] 1 rfl (congrArg (HAdd.hAdd v1) (by decide : Int32.ofInt (1) = (1 : Int32))) (by decide) rfl dX7_clearTree_30 ?_
  refine a_goto C 2 (by decide) dX7_clearTree_33 ?_
  exact At.sub [1, 0] rfl (hrec _ _ h)
def Ss_clearTree_B2 (rec : Int32 → St → Option (St)) (v1 : Int32) (q : St) : Option (St) :=
  if (16 : Int32) ≤ v1 then
    some q
  else
    if v1 = (0 : Int32) then
      Ss_clearTree_J22 rec v1 (1 : Int32) v1 q
    else
      Ss_clearTree_J22 rec v1 (0 : Int32) v1 q
theorem w_Ss_clearTree_B2 {X : Cv} (C : Cx X cX7_clearTree RX7 rm_Ss_clearTree 2) (S : IsK X) {z : St} (hret : RokV X cX7_clearTree z) (rec : Int32 → St → Option (St)) (hrec : ∀ (v1 : Int32) (q : St), rec v1 q = some z → At X 2 [(0, .ref (adOf X 19)), (1, .int v1)] [] q) (v1 : Int32) (q : St) (h : Ss_clearTree_B2 rec v1 q = some z) : At X 2 [(0, .ref (adOf X 19)), (1, .int v1)] [] q := by
  unfold Ss_clearTree_B2 at h
  refine a_iload_n C 1 rfl rfl dX7_clearTree_2 ?_
  refine a_bipush (v := 16) C (by decide) dX7_clearTree_3 ?_
  refine a_icmp_ge C 36 (by decide) dX7_clearTree_5 (fun c1 => ?_) (fun c1 => ?_)
  · replace h := ifp c1 h
    exact a_vret hret h dX7_clearTree_36
  · replace h := ifn c1 h
    refine a_aload_n C 0 rfl rfl dX7_clearTree_8 ?_
    refine gK_7_37 C S (Or.inl rfl) dX7_clearTree_9 ?_
    refine a_iload_n C 1 rfl rfl dX7_clearTree_12 ?_
    refine a_iload_n C 1 rfl rfl dX7_clearTree_13 ?_
    refine a_if_ne C 21 (by decide) dX7_clearTree_14 (fun c2 => ?_) (fun c2 => ?_)
    · replace h := ifn c2 h
      refine a_iconst (v := 0) C (by decide) dX7_clearTree_21 ?_
      exact At.sub [0, 1] rfl (w_Ss_clearTree_J22 C S hret _ hrec _ _ _ _ h)
    · replace h := ifp c2 h
      refine a_iconst (v := 1) C (by decide) dX7_clearTree_17 ?_
      refine a_goto C 22 (by decide) dX7_clearTree_18 ?_
      exact At.sub [0, 1] rfl (w_Ss_clearTree_J22 C S hret _ hrec _ _ _ _ h)
def Ss_clearTree_L2 : Nat → Int32 → St → Option (St)
  | 0, _, _ => none
  | n + 1, v1, q => Ss_clearTree_B2 (Ss_clearTree_L2 n) v1 q
theorem w_Ss_clearTree_L2 {X : Cv} (C : Cx X cX7_clearTree RX7 rm_Ss_clearTree 2) (S : IsK X) {z : St} (hret : RokV X cX7_clearTree z) (n : Nat) : ∀ (v1 : Int32) (q : St), Ss_clearTree_L2 n v1 q = some z → At X 2 [(0, .ref (adOf X 19)), (1, .int v1)] [] q := by
  induction n with
  | zero => intro v1 q h; cases h
  | succ n ih => intro v1 q h; exact w_Ss_clearTree_B2 C S hret _ ih v1 q h
def Ss_clearTree (q : St) : Option (St) :=
  Ss_clearTree_L2 FU (0 : Int32) q
theorem w_Ss_clearTree {X : Cv} (C : Cx X cX7_clearTree RX7 rm_Ss_clearTree 2) (S : IsK X) {z : St} (hret : RokV X cX7_clearTree z) (q : St) (h : Ss_clearTree q = some z) : At X 0 [(0, .ref (adOf X 19))] [] q := by
  unfold Ss_clearTree at h
  refine a_iconst (v := 0) C (by decide) dX7_clearTree_0 ?_
  refine a_istore_n C [(1, .int (0 : Int32)), (0, .ref (adOf X 19))] rfl (by decide) rfl dX7_clearTree_1 ?_
  exact At.sub [1, 0] rfl (w_Ss_clearTree_L2 C S hret _ _ _ h)
theorem c_Ss_clearTree {l : Launch} {D : va_G} {I : ClassId × ClassId × ClassId × ClassId} {ad : Nat → Nat} {q : St} {z : St} (h : Ss_clearTree q = some z) : Ctr l D I (zK ad) 168 (shK I) ad yX7_clearTree cX7_clearTree 2 none rm_Ss_clearTree [.ref (ad 19)] q none z :=
  ctr_ofV (by decide) (Nat.le_of_ble_eq_true rfl) (fun p e s m args below meth c Q H0 X hX C hret => by subst hX; exact w_Ss_clearTree C ⟨rfl, rfl, rfl⟩ hret _ h)
theorem kK_7_58 {X : Cv} {cc : ByteArray} {rm : Room} {nL1 pc : Nat} {lv : List (Nat × Value)} {sk : List Value} {q : St} {q2 : St} (C : Cx X cc RX7 rm nL1) (S : IsK X) (h : Ss_clearTree q = some q2) (hz : rm_Ss_clearTree.frames + 1 ≤ rm.frames ∧ 8 + (2 + 11) + rm_Ss_clearTree.locals ≤ rm.locals) (hr : (sk.map fun v => v.category).sum ≤ 8) (hd : decode cc pc = .ok (.invokevirtual 58, 3)) (k : At X (pc + 3) lv sk q2) : At X pc lv (.ref (adOf X 19) :: sk) q := a_callVv (as := []) C (kp := 19) (kLt S (by have hS2 : IsSt 19 := (Or.inl rfl); have := isSt_lt hS2; omega)) (by rw [S.2.1]; exact shK_st (o := 19) (j := 0) (Or.inl rfl) (by decide)) rfl (by have hh := c_Ss_clearTree (l := X.2.1) (D := dOf X) (I := idOf X) (ad := adOf X) h; rw [← S.1, ← S.2.1, ← S.2.2] at hh; exact hh) (gd_V (tg 496 (by decide +kernel) rfl) (tg 497 (by decide +kernel) rfl) (tg 498 (by decide +kernel) rfl) (tg 117 (by decide +kernel) rfl) (tg 499 (by decide +kernel) rfl)) ⟨rfl, rfl, hz.1, hz.2⟩ ⟨by decide, by decide, by show Option.map _ (parseMethodDescriptor yX7_clearTree.desc) = some 0; decide⟩ hr rfl hd k
theorem kK_9_94 {X : Cv} {cc : ByteArray} {rm : Room} {nL1 pc : Nat} {lv : List (Nat × Value)} {sk : List Value} {q : St} {q2 : St} (C : Cx X cc RX9 rm nL1) (S : IsK X) (h : Ss_clearTree q = some q2) (hz : rm_Ss_clearTree.frames + 1 ≤ rm.frames ∧ 8 + (2 + 11) + rm_Ss_clearTree.locals ≤ rm.locals) (hr : (sk.map fun v => v.category).sum ≤ 8) (hd : decode cc pc = .ok (.invokevirtual 94, 3)) (k : At X (pc + 3) lv sk q2) : At X pc lv (.ref (adOf X 19) :: sk) q := a_callVv (as := []) C (kp := 19) (kLt S (by have hS2 : IsSt 19 := (Or.inl rfl); have := isSt_lt hS2; omega)) (by rw [S.2.1]; exact shK_st (o := 19) (j := 0) (Or.inl rfl) (by decide)) rfl (by have hh := c_Ss_clearTree (l := X.2.1) (D := dOf X) (I := idOf X) (ad := adOf X) h; rw [← S.1, ← S.2.1, ← S.2.2] at hh; exact hh) (gd_V (tg 1017 (by decide +kernel) rfl) (tg 497 (by decide +kernel) rfl) (tg 498 (by decide +kernel) rfl) (tg 117 (by decide +kernel) rfl) (tg 499 (by decide +kernel) rfl)) ⟨rfl, rfl, hz.1, hz.2⟩ ⟨by decide, by decide, by show Option.map _ (parseMethodDescriptor yX7_clearTree.desc) = some 0; decide⟩ hr rfl hd k
abbrev rm_Ss_begin : Room := { frames := 1, cells := 0, slots := 0, locals := 50 }
def Ss_begin_B22 (k : St → Option (St)) (rec : Int32 → St → Option (St)) (v2 : Int32) (q : St) : Option (St) :=
  if (32 : Int32) ≤ v2 then
    k  q
  else
    b1 (wr 32 q 26 v2 (vp_nar .boolean (1 : Int32))) fun q4 =>
    rec (v2 + 1) q4
theorem w_Ss_begin_B22 {X : Cv} (C : Cx X cX7_begin RX7 rm_Ss_begin 3) (S : IsK X) {z : St} (hret : RokV X cX7_begin z) (k : St → Option (St)) (hk : ∀ (q : St), k q = some z → At X 41 [(0, .ref (adOf X 19)), (1, .ref (adOf X 1))] [] q) (rec : Int32 → St → Option (St)) (hrec : ∀ (v2 : Int32) (q : St), rec v2 q = some z → At X 22 [(0, .ref (adOf X 19)), (1, .ref (adOf X 1)), (2, .int v2)] [] q) (v2 : Int32) (q : St) (h : Ss_begin_B22 k rec v2 q = some z) : At X 22 [(0, .ref (adOf X 19)), (1, .ref (adOf X 1)), (2, .int v2)] [] q := by
  unfold Ss_begin_B22 at h
  refine a_iload_n C 2 rfl rfl dX7_begin_22 ?_
  refine a_bipush (v := 32) C (by decide) dX7_begin_23 ?_
  refine a_icmp_ge C 41 (by decide) dX7_begin_25 (fun c3 => ?_) (fun c3 => ?_)
  · replace h := ifp c3 h
    exact At.sub [0, 1] rfl (hk  _ h)
  · replace h := ifn c3 h
    refine a_aload_n C 0 rfl rfl dX7_begin_28 ?_
    refine gK_7_31 C S (Or.inl rfl) dX7_begin_29 ?_
    refine a_iload_n C 2 rfl rfl dX7_begin_32 ?_
    refine a_iconst (v := 1) C (by decide) dX7_begin_33 ?_
    obtain ⟨q4, e_q4, h⟩ := b1s h
    refine sK_s7 (o := 19) C S (Or.inl rfl) e_q4 dX7_begin_34 ?_
    refine a_iinc (v := (v2 + 1)) C [(2, .int (v2 + 1)), (0, .ref (adOf X 19)), (1, .ref (adOf X 1))] 2 rfl (congrArg (HAdd.hAdd v2) (by decide : Int32.ofInt (1) = (1 : Int32))) (by decide) rfl dX7_begin_35 ?_
    refine a_goto C 22 (by decide) dX7_begin_38 ?_
    exact At.sub [1, 2, 0] rfl (hrec _ _ h)
def Ss_begin_L22 (k : St → Option (St)) : Nat → Int32 → St → Option (St)
  | 0, _, _ => none
  | n + 1, v2, q => Ss_begin_B22 k (Ss_begin_L22 k n) v2 q
theorem w_Ss_begin_L22 {X : Cv} (C : Cx X cX7_begin RX7 rm_Ss_begin 3) (S : IsK X) {z : St} (hret : RokV X cX7_begin z) (k : St → Option (St)) (hk : ∀ (q : St), k q = some z → At X 41 [(0, .ref (adOf X 19)), (1, .ref (adOf X 1))] [] q) (n : Nat) : ∀ (v2 : Int32) (q : St), Ss_begin_L22 k n v2 q = some z → At X 22 [(0, .ref (adOf X 19)), (1, .ref (adOf X 1)), (2, .int v2)] [] q := by
  induction n with
  | zero => intro v2 q h; cases h
  | succ n ih => intro v2 q h; exact w_Ss_begin_B22 C S hret k hk _ ih v2 q h
def Ss_begin_B43 (k : St → Option (St)) (rec : Int32 → St → Option (St)) (v2 : Int32) (q : St) : Option (St) :=
  if (64 : Int32) ≤ v2 then
    k  q
  else
    b1 (wr 64 q 27 v2 (vp_nar .boolean (0 : Int32))) fun q7 =>
    rec (v2 + 1) q7
theorem w_Ss_begin_B43 {X : Cv} (C : Cx X cX7_begin RX7 rm_Ss_begin 3) (S : IsK X) {z : St} (hret : RokV X cX7_begin z) (k : St → Option (St)) (hk : ∀ (q : St), k q = some z → At X 65 [(0, .ref (adOf X 19)), (1, .ref (adOf X 1))] [] q) (rec : Int32 → St → Option (St)) (hrec : ∀ (v2 : Int32) (q : St), rec v2 q = some z → At X 43 [(0, .ref (adOf X 19)), (1, .ref (adOf X 1)), (2, .int v2)] [] q) (v2 : Int32) (q : St) (h : Ss_begin_B43 k rec v2 q = some z) : At X 43 [(0, .ref (adOf X 19)), (1, .ref (adOf X 1)), (2, .int v2)] [] q := by
  unfold Ss_begin_B43 at h
  refine a_iload_n C 2 rfl rfl dX7_begin_43 ?_
  refine a_aload_n C 0 rfl rfl dX7_begin_44 ?_
  refine gK_7_34 C S (Or.inl rfl) dX7_begin_45 ?_
  refine nK_s8 (o := 19) C S (Or.inl rfl) dX7_begin_48 ?_
  refine a_icmp_ge C 65 (by decide) dX7_begin_49 (fun c6 => ?_) (fun c6 => ?_)
  · replace h := ifp c6 h
    exact At.sub [0, 1] rfl (hk  _ h)
  · replace h := ifn c6 h
    refine a_aload_n C 0 rfl rfl dX7_begin_52 ?_
    refine gK_7_34 C S (Or.inl rfl) dX7_begin_53 ?_
    refine a_iload_n C 2 rfl rfl dX7_begin_56 ?_
    refine a_iconst (v := 0) C (by decide) dX7_begin_57 ?_
    obtain ⟨q7, e_q7, h⟩ := b1s h
    refine sK_s8 (o := 19) C S (Or.inl rfl) e_q7 dX7_begin_58 ?_
    refine a_iinc (v := (v2 + 1)) C [(2, .int (v2 + 1)), (0, .ref (adOf X 19)), (1, .ref (adOf X 1))] 2 rfl (congrArg (HAdd.hAdd v2) (by decide : Int32.ofInt (1) = (1 : Int32))) (by decide) rfl dX7_begin_59 ?_
    refine a_goto C 43 (by decide) dX7_begin_62 ?_
    exact At.sub [1, 2, 0] rfl (hrec _ _ h)
def Ss_begin_L43 (k : St → Option (St)) : Nat → Int32 → St → Option (St)
  | 0, _, _ => none
  | n + 1, v2, q => Ss_begin_B43 k (Ss_begin_L43 k n) v2 q
theorem w_Ss_begin_L43 {X : Cv} (C : Cx X cX7_begin RX7 rm_Ss_begin 3) (S : IsK X) {z : St} (hret : RokV X cX7_begin z) (k : St → Option (St)) (hk : ∀ (q : St), k q = some z → At X 65 [(0, .ref (adOf X 19)), (1, .ref (adOf X 1))] [] q) (n : Nat) : ∀ (v2 : Int32) (q : St), Ss_begin_L43 k n v2 q = some z → At X 43 [(0, .ref (adOf X 19)), (1, .ref (adOf X 1)), (2, .int v2)] [] q := by
  induction n with
  | zero => intro v2 q h; cases h
  | succ n ih => intro v2 q h; exact w_Ss_begin_B43 C S hret k hk _ ih v2 q h
def Ss_begin (q : St) : Option (St) :=
  lt_ (st q 19 0 (0 : Int32)) fun q1 =>
  lt_ (cpI q1 4 25 32) fun q2 =>
  Ss_begin_L22 (fun q5 =>
    Ss_begin_L43 (fun q8 =>
      b1 (Ss_clearTree q8) fun q9 =>
      some q9
      ) FU (0 : Int32) q5
    ) FU (0 : Int32) q2
theorem w_Ss_begin {X : Cv} (C : Cx X cX7_begin RX7 rm_Ss_begin 3) (S : IsK X) {z : St} (hret : RokV X cX7_begin z) (q : St) (h : Ss_begin q = some z) : At X 0 [(0, .ref (adOf X 19)), (1, .ref (adOf X 1))] [] q := by
  unfold Ss_begin at h
  refine a_aload_n C 0 rfl rfl dX7_begin_0 ?_
  refine a_iconst (v := 0) C (by decide) dX7_begin_1 ?_
  obtain ⟨q1, e_q1, h⟩ := lts h
  refine pK_7_43 C S (Or.inl rfl) e_q1 dX7_begin_2 ?_
  refine a_aload_n C 1 rfl rfl dX7_begin_5 ?_
  refine gK_7_47 C S (Or.inl rfl) dX7_begin_6 ?_
  refine a_iconst (v := 0) C (by decide) dX7_begin_9 ?_
  refine a_aload_n C 0 rfl rfl dX7_begin_10 ?_
  refine gK_7_28 C S (Or.inl rfl) dX7_begin_11 ?_
  refine a_iconst (v := 0) C (by decide) dX7_begin_14 ?_
  refine a_bipush (v := 32) C (by decide) dX7_begin_15 ?_
  obtain ⟨q2, e_q2, h⟩ := lts h
  refine a_cpI (len := 32) (n0 := 32) C (kLt S (by have hS2 : IsSu 1 := (Or.inl rfl); unfold IsSu at hS2; omega)) (kLt S (by have hS2 : IsSt 19 := (Or.inl rfl); have := isSt_lt hS2; omega)) (by rw [S.2.1]; intro f w; exact shK_su (o := 1) (j := 3) (Or.inl rfl) (by decide)) (by rw [S.2.1]; intro f w; exact shK_st (o := 19) (j := 6) (Or.inl rfl) (by decide)) (by decide) (by decide) (by decide) e_q2 (tg 493 (by decide +kernel) rfl) (Nat.le_of_ble_eq_true rfl) (Nat.le_of_ble_eq_true rfl) dX7_begin_17 ?_
  refine a_iconst (v := 0) C (by decide) dX7_begin_20 ?_
  refine a_istore_n C [(2, .int (0 : Int32)), (0, .ref (adOf X 19)), (1, .ref (adOf X 1))] rfl (by decide) rfl dX7_begin_21 ?_
  refine At.sub [1, 2, 0] rfl (w_Ss_begin_L22 C S hret _ ?_ _ _ _ h)
  intro q5 h
  refine a_iconst (v := 0) C (by decide) dX7_begin_41 ?_
  refine a_istore_n C [(2, .int (0 : Int32)), (0, .ref (adOf X 19)), (1, .ref (adOf X 1))] rfl (by decide) rfl dX7_begin_42 ?_
  refine At.sub [1, 2, 0] rfl (w_Ss_begin_L43 C S hret _ ?_ _ _ _ h)
  intro q8 h
  refine a_aload_n C 0 rfl rfl dX7_begin_65 ?_
  obtain ⟨q9, e_q9, h⟩ := b1s h
  refine kK_7_58 C S e_q9 ⟨(Nat.le_of_ble_eq_true rfl), (Nat.le_of_ble_eq_true rfl)⟩ (Nat.le_of_ble_eq_true rfl) dX7_begin_66 ?_
  exact a_vret hret h dX7_begin_69
theorem c_Ss_begin {l : Launch} {D : va_G} {I : ClassId × ClassId × ClassId × ClassId} {ad : Nat → Nat} {q : St} {z : St} (h : Ss_begin q = some z) : Ctr l D I (zK ad) 168 (shK I) ad yX7_begin cX7_begin 3 none rm_Ss_begin [.ref (ad 19), .ref (ad 1)] q none z :=
  ctr_ofV (by decide) (Nat.le_of_ble_eq_true rfl) (fun p e s m args below meth c Q H0 X hX C hret => by subst hX; exact w_Ss_begin C ⟨rfl, rfl, rfl⟩ hret _ h)
theorem kK_10_102 {X : Cv} {cc : ByteArray} {rm : Room} {nL1 pc : Nat} {lv : List (Nat × Value)} {sk : List Value} {q : St} {q2 : St} (C : Cx X cc RX10 rm nL1) (S : IsK X) (h : Ss_begin q = some q2) (hz : rm_Ss_begin.frames + 1 ≤ rm.frames ∧ 8 + (3 + 11) + rm_Ss_begin.locals ≤ rm.locals) (hr : (sk.map fun v => v.category).sum ≤ 8) (hd : decode cc pc = .ok (.invokevirtual 102, 3)) (k : At X (pc + 3) lv sk q2) : At X pc lv (.ref (adOf X 1) :: .ref (adOf X 19) :: sk) q := a_callVv (as := [.ref (adOf X 1)]) C (kp := 19) (kLt S (by have hS2 : IsSt 19 := (Or.inl rfl); have := isSt_lt hS2; omega)) (by rw [S.2.1]; exact shK_st (o := 19) (j := 0) (Or.inl rfl) (by decide)) rfl (by have hh := c_Ss_begin (l := X.2.1) (D := dOf X) (I := idOf X) (ad := adOf X) h; rw [← S.1, ← S.2.1, ← S.2.2] at hh; exact hh) (gd_V (tg 489 (by decide +kernel) rfl) (tg 490 (by decide +kernel) rfl) (tg 491 (by decide +kernel) rfl) (tg 117 (by decide +kernel) rfl) (tg 492 (by decide +kernel) rfl)) ⟨rfl, rfl, hz.1, hz.2⟩ ⟨by decide, by decide, by show Option.map _ (parseMethodDescriptor yX7_begin.desc) = some 1; decide⟩ hr rfl hd k
abbrev rm_Hi_forget : Room := { frames := 0, cells := 0, slots := 0, locals := 0 }
def Hi_forget (q : St) : Option (St) :=
  lt_ (st q 41 1 (0 : Int32)) fun q1 =>
  some q1
theorem w_Hi_forget {X : Cv} (C : Cx X cX2_forget RX2 rm_Hi_forget 1) (S : IsK X) {z : St} (hret : RokV X cX2_forget z) (q : St) (h : Hi_forget q = some z) : At X 0 [(0, .ref (adOf X 41))] [] q := by
  unfold Hi_forget at h
  refine a_aload_n C 0 rfl rfl dX2_forget_0 ?_
  refine a_iconst (v := 0) C (by decide) dX2_forget_1 ?_
  obtain ⟨q1, e_q1, h⟩ := lts h
  refine pK_2_18 C S e_q1 dX2_forget_2 ?_
  exact a_vret hret h dX2_forget_5
theorem c_Hi_forget {l : Launch} {D : va_G} {I : ClassId × ClassId × ClassId × ClassId} {ad : Nat → Nat} {q : St} {z : St} (h : Hi_forget q = some z) : Ctr l D I (zK ad) 168 (shK I) ad yX2_forget cX2_forget 1 none rm_Hi_forget [.ref (ad 41)] q none z :=
  ctr_ofV (by decide) (Nat.le_of_ble_eq_true rfl) (fun p e s m args below meth c Q H0 X hX C hret => by subst hX; exact w_Hi_forget C ⟨rfl, rfl, rfl⟩ hret _ h)
theorem kK_10_123 {X : Cv} {cc : ByteArray} {rm : Room} {nL1 pc : Nat} {lv : List (Nat × Value)} {sk : List Value} {q : St} {q2 : St} (C : Cx X cc RX10 rm nL1) (S : IsK X) (h : Hi_forget q = some q2) (hz : rm_Hi_forget.frames + 1 ≤ rm.frames ∧ 8 + (1 + 11) + rm_Hi_forget.locals ≤ rm.locals) (hr : (sk.map fun v => v.category).sum ≤ 8) (hd : decode cc pc = .ok (.invokevirtual 123, 3)) (k : At X (pc + 3) lv sk q2) : At X pc lv (.ref (adOf X 41) :: sk) q := a_callVv (as := []) C (kp := 41) (kLt S (by decide)) (by rw [S.2.1]; rfl) rfl (by have hh := c_Hi_forget (l := X.2.1) (D := dOf X) (I := idOf X) (ad := adOf X) h; rw [← S.1, ← S.2.1, ← S.2.2] at hh; exact hh) (gd_V (tg 704 (by decide +kernel) rfl) (tg 705 (by decide +kernel) rfl) (tg 706 (by decide +kernel) rfl) (tg 118 (by decide +kernel) rfl) (tg 707 (by decide +kernel) rfl)) ⟨rfl, rfl, hz.1, hz.2⟩ ⟨by decide, by decide, by show Option.map _ (parseMethodDescriptor yX2_forget.desc) = some 0; decide⟩ hr rfl hd k
abbrev rm_K_load : Room := { frames := 10, cells := 0, slots := 0, locals := 258 }
def K_load (q : St) : Option (Int32 × St) :=
  b2 (Rd_readSetup q) fun x1 q2 =>
  lt_ (st q2 153 1 (0 : Int32)) fun q3 =>
  if x1 = (0 : Int32) then
    lt_ (st q3 0 12 (gt q3 155 5)) fun q9 =>
    some ((-1 : Int32), q9)
  else
    lt_ (st q3 0 12 (-2 : Int32)) fun q5 =>
    b1 (Su_copyFrom q5) fun q6 =>
    b1 (Ss_begin q6) fun q7 =>
    b1 (Hi_forget q7) fun q8 =>
    some ((gt q8 1 0), q8)
theorem w_K_load {X : Cv} (C : Cx X cX10_load RX10 rm_K_load 2) (S : IsK X) {z : Int32 × St} (hret : RokI X cX10_load .int z.1 z.2) (q : St) (h : K_load q = some z) : At X 0 [(0, .ref (adOf X 0))] [] q := by
  unfold K_load at h
  refine a_aload_n C 0 rfl rfl dX10_load_0 ?_
  refine gK_10_48 C S dX10_load_1 ?_
  obtain ⟨x1, q2, e_q2, h⟩ := b2s h
  refine kK_10_113 C S e_q2 ⟨(Nat.le_of_ble_eq_true rfl), (Nat.le_of_ble_eq_true rfl)⟩ (Nat.le_of_ble_eq_true rfl) dX10_load_4 ?_
  refine a_istore_n C [(1, .int x1), (0, .ref (adOf X 0))] rfl (by decide) rfl dX10_load_7 ?_
  refine a_aload_n C 1 rfl rfl dX10_load_8 ?_
  refine gK_10_39 C S dX10_load_9 ?_
  refine a_iconst (v := 0) C (by decide) dX10_load_12 ?_
  obtain ⟨q3, e_q3, h⟩ := lts h
  refine pK_10_106 C S e_q3 dX10_load_13 ?_
  refine a_iload_n C 0 rfl rfl dX10_load_16 ?_
  refine a_if_ne C 33 (by decide) dX10_load_17 (fun c4 => ?_) (fun c4 => ?_)
  · replace h := ifn c4 h
    refine a_aload_n C 1 rfl rfl dX10_load_33 ?_
    refine a_bipush (v := -2) C (by decide) dX10_load_34 ?_
    obtain ⟨q5, e_q5, h⟩ := lts h
    refine pK_10_95 C S e_q5 dX10_load_36 ?_
    refine a_aload_n C 1 rfl rfl dX10_load_39 ?_
    refine gK_10_12 C S dX10_load_40 ?_
    refine a_aload_n C 1 rfl rfl dX10_load_43 ?_
    refine gK_10_16 C S dX10_load_44 ?_
    obtain ⟨q6, e_q6, h⟩ := b1s h
    refine kK_10_120 C S e_q6 ⟨(Nat.le_of_ble_eq_true rfl), (Nat.le_of_ble_eq_true rfl)⟩ (Nat.le_of_ble_eq_true rfl) dX10_load_47 ?_
    refine a_aload_n C 1 rfl rfl dX10_load_50 ?_
    refine gK_10_22 C S dX10_load_51 ?_
    refine a_aload_n C 1 rfl rfl dX10_load_54 ?_
    refine gK_10_12 C S dX10_load_55 ?_
    obtain ⟨q7, e_q7, h⟩ := b1s h
    refine kK_10_102 C S e_q7 ⟨(Nat.le_of_ble_eq_true rfl), (Nat.le_of_ble_eq_true rfl)⟩ (Nat.le_of_ble_eq_true rfl) dX10_load_58 ?_
    refine a_aload_n C 1 rfl rfl dX10_load_61 ?_
    refine gK_10_32 C S dX10_load_62 ?_
    obtain ⟨q8, e_q8, h⟩ := b1s h
    refine kK_10_123 C S e_q8 ⟨(Nat.le_of_ble_eq_true rfl), (Nat.le_of_ble_eq_true rfl)⟩ (Nat.le_of_ble_eq_true rfl) dX10_load_65 ?_
    refine a_aload_n C 1 rfl rfl dX10_load_68 ?_
    refine gK_10_12 C S dX10_load_69 ?_
    refine gK_10_126 C S (Or.inl rfl) dX10_load_72 ?_
    exact a_iret hret h rfl dX10_load_75
  · replace h := ifp c4 h
    refine a_aload_n C 1 rfl rfl dX10_load_20 ?_
    refine a_aload_n C 1 rfl rfl dX10_load_21 ?_
    refine gK_10_48 C S dX10_load_22 ?_
    refine gK_10_117 C S dX10_load_25 ?_
    obtain ⟨q9, e_q9, h⟩ := lts h
    refine pK_10_95 C S e_q9 dX10_load_28 ?_
    refine a_iconst (v := -1) C (by decide) dX10_load_31 ?_
    exact a_iret hret h rfl dX10_load_32
theorem c_K_load {l : Launch} {D : va_G} {I : ClassId × ClassId × ClassId × ClassId} {ad : Nat → Nat} {q : St} {z : Int32 × St} (h : K_load q = some z) : Ctr l D I (zK ad) 168 (shK I) ad yX10_load cX10_load 2 (some .int) rm_K_load [.ref (ad 0)] q (some z.1) z.2 :=
  ctr_ofI (by decide) (Nat.le_of_ble_eq_true rfl) (fun p e s m args below meth c Q H0 X hX C hret => by subst hX; exact w_K_load C ⟨rfl, rfl, rfl⟩ hret _ h)
abbrev rm_K_errorPosition : Room := { frames := 0, cells := 0, slots := 0, locals := 0 }
def K_errorPosition (q : St) : Option (Int32) :=
  some (gt q 0 12)
theorem w_K_errorPosition {X : Cv} (C : Cx X cX10_errorPosition RX10 rm_K_errorPosition 1) (S : IsK X) {q : St} {z : Int32} (hret : RokI X cX10_errorPosition .int z q) (h : K_errorPosition q = some z) : At X 0 [(0, .ref (adOf X 0))] [] q := by
  unfold K_errorPosition at h
  refine a_aload_n C 0 rfl rfl dX10_errorPosition_0 ?_
  refine gK_10_95 C S dX10_errorPosition_1 ?_
  exact a_iretR hret h rfl dX10_errorPosition_4
theorem c_K_errorPosition {l : Launch} {D : va_G} {I : ClassId × ClassId × ClassId × ClassId} {ad : Nat → Nat} {q : St} {z : Int32} (h : K_errorPosition q = some z) : Ctr l D I (zK ad) 168 (shK I) ad yX10_errorPosition cX10_errorPosition 1 (some .int) rm_K_errorPosition [.ref (ad 0)] q (some z) q :=
  ctr_ofI (by decide) (Nat.le_of_ble_eq_true rfl) (fun p e s m args below meth c Q H0 X hX C hret => by subst hX; exact w_K_errorPosition C ⟨rfl, rfl, rfl⟩ hret h)
abbrev rm_K_nodes : Room := { frames := 0, cells := 0, slots := 0, locals := 0 }
def K_nodes (q : St) : Option (Int32) :=
  some (gt q 1 0)
theorem w_K_nodes {X : Cv} (C : Cx X cX10_nodes RX10 rm_K_nodes 1) (S : IsK X) {q : St} {z : Int32} (hret : RokI X cX10_nodes .int z q) (h : K_nodes q = some z) : At X 0 [(0, .ref (adOf X 0))] [] q := by
  unfold K_nodes at h
  refine a_aload_n C 0 rfl rfl dX10_nodes_0 ?_
  refine gK_10_12 C S dX10_nodes_1 ?_
  refine gK_10_126 C S (Or.inl rfl) dX10_nodes_4 ?_
  exact a_iretR hret h rfl dX10_nodes_7
theorem c_K_nodes {l : Launch} {D : va_G} {I : ClassId × ClassId × ClassId × ClassId} {ad : Nat → Nat} {q : St} {z : Int32} (h : K_nodes q = some z) : Ctr l D I (zK ad) 168 (shK I) ad yX10_nodes cX10_nodes 1 (some .int) rm_K_nodes [.ref (ad 0)] q (some z) q :=
  ctr_ofI (by decide) (Nat.le_of_ble_eq_true rfl) (fun p e s m args below meth c Q H0 X hX C hret => by subst hX; exact w_K_nodes C ⟨rfl, rfl, rfl⟩ hret h)
abbrev rm_K_links : Room := { frames := 0, cells := 0, slots := 0, locals := 0 }
def K_links (q : St) : Option (Int32) :=
  some (gt q 1 1)
theorem w_K_links {X : Cv} (C : Cx X cX10_links RX10 rm_K_links 1) (S : IsK X) {q : St} {z : Int32} (hret : RokI X cX10_links .int z q) (h : K_links q = some z) : At X 0 [(0, .ref (adOf X 0))] [] q := by
  unfold K_links at h
  refine a_aload_n C 0 rfl rfl dX10_links_0 ?_
  refine gK_10_12 C S dX10_links_1 ?_
  refine gK_10_129 C S (Or.inl rfl) dX10_links_4 ?_
  exact a_iretR hret h rfl dX10_links_7
theorem c_K_links {l : Launch} {D : va_G} {I : ClassId × ClassId × ClassId × ClassId} {ad : Nat → Nat} {q : St} {z : Int32} (h : K_links q = some z) : Ctr l D I (zK ad) 168 (shK I) ad yX10_links cX10_links 1 (some .int) rm_K_links [.ref (ad 0)] q (some z) q :=
  ctr_ofI (by decide) (Nat.le_of_ble_eq_true rfl) (fun p e s m args below meth c Q H0 X hX C hret => by subst hX; exact w_K_links C ⟨rfl, rfl, rfl⟩ hret h)
abbrev rm_K_formats : Room := { frames := 0, cells := 0, slots := 0, locals := 0 }
def K_formats (q : St) : Option (Int32) :=
  some (gt q 1 2)
theorem w_K_formats {X : Cv} (C : Cx X cX10_formats RX10 rm_K_formats 1) (S : IsK X) {q : St} {z : Int32} (hret : RokI X cX10_formats .int z q) (h : K_formats q = some z) : At X 0 [(0, .ref (adOf X 0))] [] q := by
  unfold K_formats at h
  refine a_aload_n C 0 rfl rfl dX10_formats_0 ?_
  refine gK_10_12 C S dX10_formats_1 ?_
  refine gK_10_132 C S (Or.inl rfl) dX10_formats_4 ?_
  exact a_iretR hret h rfl dX10_formats_7
theorem c_K_formats {l : Launch} {D : va_G} {I : ClassId × ClassId × ClassId × ClassId} {ad : Nat → Nat} {q : St} {z : Int32} (h : K_formats q = some z) : Ctr l D I (zK ad) 168 (shK I) ad yX10_formats cX10_formats 1 (some .int) rm_K_formats [.ref (ad 0)] q (some z) q :=
  ctr_ofI (by decide) (Nat.le_of_ble_eq_true rfl) (fun p e s m args below meth c Q H0 X hX C hret => by subst hX; exact w_K_formats C ⟨rfl, rfl, rfl⟩ hret h)
abbrev rm_K_layers : Room := { frames := 0, cells := 0, slots := 0, locals := 0 }
def K_layers (q : St) : Option (Int32) :=
  some (gt q 1 3)
theorem w_K_layers {X : Cv} (C : Cx X cX10_layers RX10 rm_K_layers 1) (S : IsK X) {q : St} {z : Int32} (hret : RokI X cX10_layers .int z q) (h : K_layers q = some z) : At X 0 [(0, .ref (adOf X 0))] [] q := by
  unfold K_layers at h
  refine a_aload_n C 0 rfl rfl dX10_layers_0 ?_
  refine gK_10_12 C S dX10_layers_1 ?_
  refine gK_10_135 C S (Or.inl rfl) dX10_layers_4 ?_
  exact a_iretR hret h rfl dX10_layers_7
theorem c_K_layers {l : Launch} {D : va_G} {I : ClassId × ClassId × ClassId × ClassId} {ad : Nat → Nat} {q : St} {z : Int32} (h : K_layers q = some z) : Ctr l D I (zK ad) 168 (shK I) ad yX10_layers cX10_layers 1 (some .int) rm_K_layers [.ref (ad 0)] q (some z) q :=
  ctr_ofI (by decide) (Nat.le_of_ble_eq_true rfl) (fun p e s m args below meth c Q H0 X hX C hret => by subst hX; exact w_K_layers C ⟨rfl, rfl, rfl⟩ hret h)
abbrev rm_K_isFormat : Room := { frames := 0, cells := 0, slots := 0, locals := 0 }
def K_isFormat (q : St) (v1 : Int32) : Option (Int32) :=
  if v1 < (0 : Int32) then
    some (0 : Int32)
  else
    if (gt q 1 2) ≤ v1 then
      some (0 : Int32)
    else
      some (1 : Int32)
theorem w_K_isFormat {X : Cv} (C : Cx X cX10_isFormat RX10 rm_K_isFormat 2) (S : IsK X) {q : St} {z : Int32} (hret : RokI X cX10_isFormat .boolean z q) (v1 : Int32) (h : K_isFormat q v1 = some z) : At X 0 [(0, .ref (adOf X 0)), (1, .int v1)] [] q := by
  unfold K_isFormat at h
  refine a_iload_n C 1 rfl rfl dX10_isFormat_0 ?_
  refine a_if_lt C 19 (by decide) dX10_isFormat_1 (fun c1 => ?_) (fun c1 => ?_)
  · replace h := ifp c1 h
    refine a_iconst (v := 0) C (by decide) dX10_isFormat_19 ?_
    exact a_iretR hret h rfl dX10_isFormat_20
  · replace h := ifn c1 h
    refine a_iload_n C 1 rfl rfl dX10_isFormat_4 ?_
    refine a_aload_n C 0 rfl rfl dX10_isFormat_5 ?_
    refine gK_10_12 C S dX10_isFormat_6 ?_
    refine gK_10_132 C S (Or.inl rfl) dX10_isFormat_9 ?_
    refine a_icmp_ge C 19 (by decide) dX10_isFormat_12 (fun c2 => ?_) (fun c2 => ?_)
    · replace h := ifp c2 h
      refine a_iconst (v := 0) C (by decide) dX10_isFormat_19 ?_
      exact a_iretR hret h rfl dX10_isFormat_20
    · replace h := ifn c2 h
      refine a_iconst (v := 1) C (by decide) dX10_isFormat_15 ?_
      refine a_goto C 20 (by decide) dX10_isFormat_16 ?_
      exact a_iretR hret h rfl dX10_isFormat_20
theorem c_K_isFormat {l : Launch} {D : va_G} {I : ClassId × ClassId × ClassId × ClassId} {ad : Nat → Nat} {q : St} {v1 : Int32} {z : Int32} (h : K_isFormat q v1 = some z) : Ctr l D I (zK ad) 168 (shK I) ad yX10_isFormat cX10_isFormat 2 (some .boolean) rm_K_isFormat [.ref (ad 0), .int v1] q (some z) q :=
  ctr_ofI (by decide) (Nat.le_of_ble_eq_true rfl) (fun p e s m args below meth c Q H0 X hX C hret => by subst hX; exact w_K_isFormat C ⟨rfl, rfl, rfl⟩ hret _ h)
theorem kK_10_138 {X : Cv} {cc : ByteArray} {rm : Room} {nL1 pc : Nat} {lv : List (Nat × Value)} {sk : List Value} {q : St} {v1 : Int32} {z : Int32} (C : Cx X cc RX10 rm nL1) (S : IsK X) (h : K_isFormat q v1 = some z) (hz : rm_K_isFormat.frames + 1 ≤ rm.frames ∧ 8 + (2 + 11) + rm_K_isFormat.locals ≤ rm.locals) (hr : (sk.map fun v => v.category).sum ≤ 8) (hd : decode cc pc = .ok (.invokevirtual 138, 3)) (k : At X (pc + 3) lv (.int z :: sk) q) : At X pc lv (.int v1 :: .ref (adOf X 0) :: sk) q := a_callVi (as := [.int v1]) C (kp := 0) (kLt S (by decide)) (by rw [S.2.1]; rfl) rfl (by have hh := c_K_isFormat (l := X.2.1) (D := dOf X) (I := idOf X) (ad := adOf X) h; rw [← S.1, ← S.2.1, ← S.2.2] at hh; exact hh) (gd_V (tg 733 (by decide +kernel) rfl) (tg 735 (by decide +kernel) rfl) (tg 16 (by decide +kernel) rfl) (tg 115 (by decide +kernel) rfl) (tg 736 (by decide +kernel) rfl)) ⟨rfl, rfl, hz.1, hz.2⟩ ⟨by decide, by decide, by show Option.map _ (parseMethodDescriptor yX10_isFormat.desc) = some 1; decide⟩ hr rfl hd k
abbrev rm_K_isLevel : Room := { frames := 0, cells := 0, slots := 0, locals := 0 }
def K_isLevel (q : St) (v1 : Int32) : Option (Int32) :=
  if v1 < (1 : Int32) then
    some (0 : Int32)
  else
    if (gt q 1 3) < v1 then
      some (0 : Int32)
    else
      some (1 : Int32)
theorem w_K_isLevel {X : Cv} (C : Cx X cX10_isLevel RX10 rm_K_isLevel 2) (S : IsK X) {q : St} {z : Int32} (hret : RokI X cX10_isLevel .boolean z q) (v1 : Int32) (h : K_isLevel q v1 = some z) : At X 0 [(0, .ref (adOf X 0)), (1, .int v1)] [] q := by
  unfold K_isLevel at h
  refine a_iload_n C 1 rfl rfl dX10_isLevel_0 ?_
  refine a_iconst (v := 1) C (by decide) dX10_isLevel_1 ?_
  refine a_icmp_lt C 20 (by decide) dX10_isLevel_2 (fun c1 => ?_) (fun c1 => ?_)
  · replace h := ifp c1 h
    refine a_iconst (v := 0) C (by decide) dX10_isLevel_20 ?_
    exact a_iretR hret h rfl dX10_isLevel_21
  · replace h := ifn c1 h
    refine a_iload_n C 1 rfl rfl dX10_isLevel_5 ?_
    refine a_aload_n C 0 rfl rfl dX10_isLevel_6 ?_
    refine gK_10_12 C S dX10_isLevel_7 ?_
    refine gK_10_135 C S (Or.inl rfl) dX10_isLevel_10 ?_
    refine a_icmp_gt C 20 (by decide) dX10_isLevel_13 (fun c2 => ?_) (fun c2 => ?_)
    · replace h := ifp c2 h
      refine a_iconst (v := 0) C (by decide) dX10_isLevel_20 ?_
      exact a_iretR hret h rfl dX10_isLevel_21
    · replace h := ifn c2 h
      refine a_iconst (v := 1) C (by decide) dX10_isLevel_16 ?_
      refine a_goto C 21 (by decide) dX10_isLevel_17 ?_
      exact a_iretR hret h rfl dX10_isLevel_21
theorem c_K_isLevel {l : Launch} {D : va_G} {I : ClassId × ClassId × ClassId × ClassId} {ad : Nat → Nat} {q : St} {v1 : Int32} {z : Int32} (h : K_isLevel q v1 = some z) : Ctr l D I (zK ad) 168 (shK I) ad yX10_isLevel cX10_isLevel 2 (some .boolean) rm_K_isLevel [.ref (ad 0), .int v1] q (some z) q :=
  ctr_ofI (by decide) (Nat.le_of_ble_eq_true rfl) (fun p e s m args below meth c Q H0 X hX C hret => by subst hX; exact w_K_isLevel C ⟨rfl, rfl, rfl⟩ hret _ h)
theorem kK_10_142 {X : Cv} {cc : ByteArray} {rm : Room} {nL1 pc : Nat} {lv : List (Nat × Value)} {sk : List Value} {q : St} {v1 : Int32} {z : Int32} (C : Cx X cc RX10 rm nL1) (S : IsK X) (h : K_isLevel q v1 = some z) (hz : rm_K_isLevel.frames + 1 ≤ rm.frames ∧ 8 + (2 + 11) + rm_K_isLevel.locals ≤ rm.locals) (hr : (sk.map fun v => v.category).sum ≤ 8) (hd : decode cc pc = .ok (.invokevirtual 142, 3)) (k : At X (pc + 3) lv (.int z :: sk) q) : At X pc lv (.int v1 :: .ref (adOf X 0) :: sk) q := a_callVi (as := [.int v1]) C (kp := 0) (kLt S (by decide)) (by rw [S.2.1]; rfl) rfl (by have hh := c_K_isLevel (l := X.2.1) (D := dOf X) (I := idOf X) (ad := adOf X) h; rw [← S.1, ← S.2.1, ← S.2.2] at hh; exact hh) (gd_V (tg 737 (by decide +kernel) rfl) (tg 739 (by decide +kernel) rfl) (tg 17 (by decide +kernel) rfl) (tg 115 (by decide +kernel) rfl) (tg 740 (by decide +kernel) rfl)) ⟨rfl, rfl, hz.1, hz.2⟩ ⟨by decide, by decide, by show Option.map _ (parseMethodDescriptor yX10_isLevel.desc) = some 1; decide⟩ hr rfl hd k
abbrev rm_Su_rateOf : Room := { frames := 0, cells := 0, slots := 0, locals := 0 }
def Su_rateOf (q : St) (v1 : Int32) (v2 : Int32) : Option (Int32) :=
  b1 (rd 24 q 9 ((v1 * (6 : Int32)) + v2)) fun x1 =>
  some x1
theorem w_Su_rateOf {X : Cv} (C : Cx X cX4_rateOf RX4 rm_Su_rateOf 3) (S : IsK X) {q : St} {z : Int32} (hret : RokI X cX4_rateOf .int z q) (v1 : Int32) (v2 : Int32) (h : Su_rateOf q v1 v2 = some z) : At X 0 [(0, .ref (adOf X 1)), (1, .int v1), (2, .int v2)] [] q := by
  unfold Su_rateOf at h
  refine a_aload_n C 0 rfl rfl dX4_rateOf_0 ?_
  refine gK_4_33 C S (Or.inl rfl) dX4_rateOf_1 ?_
  refine a_iload_n C 1 rfl rfl dX4_rateOf_4 ?_
  refine a_bipush (v := 6) C (by decide) dX4_rateOf_5 ?_
  refine a_imul C dX4_rateOf_7 ?_
  refine a_iload_n C 2 rfl rfl dX4_rateOf_8 ?_
  refine a_iadd C dX4_rateOf_9 ?_
  obtain ⟨x1, e_x1, h⟩ := b1s h
  refine lK_u8 (o := 1) C S (Or.inl rfl) e_x1 dX4_rateOf_10 ?_
  exact a_iretR hret h rfl dX4_rateOf_11
theorem c_Su_rateOf {l : Launch} {D : va_G} {I : ClassId × ClassId × ClassId × ClassId} {ad : Nat → Nat} {q : St} {v1 : Int32} {v2 : Int32} {z : Int32} (h : Su_rateOf q v1 v2 = some z) : Ctr l D I (zK ad) 168 (shK I) ad yX4_rateOf cX4_rateOf 3 (some .int) rm_Su_rateOf [.ref (ad 1), .int v1, .int v2] q (some z) q :=
  ctr_ofI (by decide) (Nat.le_of_ble_eq_true rfl) (fun p e s m args below meth c Q H0 X hX C hret => by subst hX; exact w_Su_rateOf C ⟨rfl, rfl, rfl⟩ hret _ _ h)
theorem kK_10_145 {X : Cv} {cc : ByteArray} {rm : Room} {nL1 pc : Nat} {lv : List (Nat × Value)} {sk : List Value} {q : St} {v1 : Int32} {v2 : Int32} {z : Int32} (C : Cx X cc RX10 rm nL1) (S : IsK X) (h : Su_rateOf q v1 v2 = some z) (hz : rm_Su_rateOf.frames + 1 ≤ rm.frames ∧ 8 + (3 + 11) + rm_Su_rateOf.locals ≤ rm.locals) (hr : (sk.map fun v => v.category).sum ≤ 8) (hd : decode cc pc = .ok (.invokevirtual 145, 3)) (k : At X (pc + 3) lv (.int z :: sk) q) : At X pc lv (.int v2 :: .int v1 :: .ref (adOf X 1) :: sk) q := a_callVi (as := [.int v1, .int v2]) C (kp := 1) (kLt S (by have hS2 : IsSu 1 := (Or.inl rfl); unfold IsSu at hS2; omega)) (by rw [S.2.1]; exact shK_su (o := 1) (j := 0) (Or.inl rfl) (by decide)) rfl (by have hh := c_Su_rateOf (l := X.2.1) (D := dOf X) (I := idOf X) (ad := adOf X) h; rw [← S.1, ← S.2.1, ← S.2.2] at hh; exact hh) (gd_V (tg 741 (by decide +kernel) rfl) (tg 742 (by decide +kernel) rfl) (tg 743 (by decide +kernel) rfl) (tg 116 (by decide +kernel) rfl) (tg 744 (by decide +kernel) rfl)) ⟨rfl, rfl, hz.1, hz.2⟩ ⟨by decide, by decide, by show Option.map _ (parseMethodDescriptor yX4_rateOf.desc) = some 2; decide⟩ hr rfl hd k
theorem kK_9_54 {X : Cv} {cc : ByteArray} {rm : Room} {nL1 pc : Nat} {lv : List (Nat × Value)} {sk : List Value} {q : St} {v1 : Int32} {v2 : Int32} {z : Int32} (C : Cx X cc RX9 rm nL1) (S : IsK X) (h : Su_rateOf q v1 v2 = some z) (hz : rm_Su_rateOf.frames + 1 ≤ rm.frames ∧ 8 + (3 + 11) + rm_Su_rateOf.locals ≤ rm.locals) (hr : (sk.map fun v => v.category).sum ≤ 8) (hd : decode cc pc = .ok (.invokevirtual 54, 3)) (k : At X (pc + 3) lv (.int z :: sk) q) : At X pc lv (.int v2 :: .int v1 :: .ref (adOf X 1) :: sk) q := a_callVi (as := [.int v1, .int v2]) C (kp := 1) (kLt S (by have hS2 : IsSu 1 := (Or.inl rfl); unfold IsSu at hS2; omega)) (by rw [S.2.1]; exact shK_su (o := 1) (j := 0) (Or.inl rfl) (by decide)) rfl (by have hh := c_Su_rateOf (l := X.2.1) (D := dOf X) (I := idOf X) (ad := adOf X) h; rw [← S.1, ← S.2.1, ← S.2.2] at hh; exact hh) (gd_V (tg 793 (by decide +kernel) rfl) (tg 742 (by decide +kernel) rfl) (tg 743 (by decide +kernel) rfl) (tg 116 (by decide +kernel) rfl) (tg 744 (by decide +kernel) rfl)) ⟨rfl, rfl, hz.1, hz.2⟩ ⟨by decide, by decide, by show Option.map _ (parseMethodDescriptor yX4_rateOf.desc) = some 2; decide⟩ hr rfl hd k
theorem kK_0_89 {X : Cv} {cc : ByteArray} {rm : Room} {nL1 pc : Nat} {lv : List (Nat × Value)} {sk : List Value} {q : St} {v1 : Int32} {v2 : Int32} {z : Int32} (C : Cx X cc RX0 rm nL1) (S : IsK X) (h : Su_rateOf q v1 v2 = some z) (hz : rm_Su_rateOf.frames + 1 ≤ rm.frames ∧ 8 + (3 + 11) + rm_Su_rateOf.locals ≤ rm.locals) (hr : (sk.map fun v => v.category).sum ≤ 8) (hd : decode cc pc = .ok (.invokevirtual 89, 3)) (k : At X (pc + 3) lv (.int z :: sk) q) : At X pc lv (.int v2 :: .int v1 :: .ref (adOf X 1) :: sk) q := a_callVi (as := [.int v1, .int v2]) C (kp := 1) (kLt S (by have hS2 : IsSu 1 := (Or.inl rfl); unfold IsSu at hS2; omega)) (by rw [S.2.1]; exact shK_su (o := 1) (j := 0) (Or.inl rfl) (by decide)) rfl (by have hh := c_Su_rateOf (l := X.2.1) (D := dOf X) (I := idOf X) (ad := adOf X) h; rw [← S.1, ← S.2.1, ← S.2.2] at hh; exact hh) (gd_V (tg 857 (by decide +kernel) rfl) (tg 742 (by decide +kernel) rfl) (tg 743 (by decide +kernel) rfl) (tg 116 (by decide +kernel) rfl) (tg 744 (by decide +kernel) rfl)) ⟨rfl, rfl, hz.1, hz.2⟩ ⟨by decide, by decide, by show Option.map _ (parseMethodDescriptor yX4_rateOf.desc) = some 2; decide⟩ hr rfl hd k
abbrev rm_K_rate : Room := { frames := 1, cells := 0, slots := 0, locals := 22 }
def K_rate (q : St) (v1 : Int32) (v2 : Int32) : Option (Int32) :=
  b1 (K_isFormat q v1) fun x1 =>
  if x1 = (0 : Int32) then
    some (-1 : Int32)
  else
    b1 (K_isLevel q v2) fun x3 =>
    if x3 = (0 : Int32) then
      some (-1 : Int32)
    else
      b1 (Su_rateOf q v1 v2) fun x5 =>
      some x5
theorem w_K_rate {X : Cv} (C : Cx X cX10_rate RX10 rm_K_rate 3) (S : IsK X) {q : St} {z : Int32} (hret : RokI X cX10_rate .int z q) (v1 : Int32) (v2 : Int32) (h : K_rate q v1 v2 = some z) : At X 0 [(0, .ref (adOf X 0)), (1, .int v1), (2, .int v2)] [] q := by
  unfold K_rate at h
  refine a_aload_n C 0 rfl rfl dX10_rate_0 ?_
  refine a_iload_n C 1 rfl rfl dX10_rate_1 ?_
  obtain ⟨x1, e_x1, h⟩ := b1s h
  refine kK_10_138 C S e_x1 ⟨(Nat.le_of_ble_eq_true rfl), (Nat.le_of_ble_eq_true rfl)⟩ (Nat.le_of_ble_eq_true rfl) dX10_rate_2 ?_
  refine a_if_eq C 16 (by decide) dX10_rate_5 (fun c2 => ?_) (fun c2 => ?_)
  · replace h := ifp c2 h
    refine a_iconst (v := -1) C (by decide) dX10_rate_16 ?_
    exact a_iretR hret h rfl dX10_rate_17
  · replace h := ifn c2 h
    refine a_aload_n C 0 rfl rfl dX10_rate_8 ?_
    refine a_iload_n C 2 rfl rfl dX10_rate_9 ?_
    obtain ⟨x3, e_x3, h⟩ := b1s h
    refine kK_10_142 C S e_x3 ⟨(Nat.le_of_ble_eq_true rfl), (Nat.le_of_ble_eq_true rfl)⟩ (Nat.le_of_ble_eq_true rfl) dX10_rate_10 ?_
    refine a_if_ne C 18 (by decide) dX10_rate_13 (fun c4 => ?_) (fun c4 => ?_)
    · replace h := ifn c4 h
      refine a_aload_n C 0 rfl rfl dX10_rate_18 ?_
      refine gK_10_12 C S dX10_rate_19 ?_
      refine a_iload_n C 1 rfl rfl dX10_rate_22 ?_
      refine a_iload_n C 2 rfl rfl dX10_rate_23 ?_
      obtain ⟨x5, e_x5, h⟩ := b1s h
      refine kK_10_145 C S e_x5 ⟨(Nat.le_of_ble_eq_true rfl), (Nat.le_of_ble_eq_true rfl)⟩ (Nat.le_of_ble_eq_true rfl) dX10_rate_24 ?_
      exact a_iretR hret h rfl dX10_rate_27
    · replace h := ifp c4 h
      refine a_iconst (v := -1) C (by decide) dX10_rate_16 ?_
      exact a_iretR hret h rfl dX10_rate_17
theorem c_K_rate {l : Launch} {D : va_G} {I : ClassId × ClassId × ClassId × ClassId} {ad : Nat → Nat} {q : St} {v1 : Int32} {v2 : Int32} {z : Int32} (h : K_rate q v1 v2 = some z) : Ctr l D I (zK ad) 168 (shK I) ad yX10_rate cX10_rate 3 (some .int) rm_K_rate [.ref (ad 0), .int v1, .int v2] q (some z) q :=
  ctr_ofI (by decide) (Nat.le_of_ble_eq_true rfl) (fun p e s m args below meth c Q H0 X hX C hret => by subst hX; exact w_K_rate C ⟨rfl, rfl, rfl⟩ hret _ _ h)
abbrev rm_K_isNode : Room := { frames := 0, cells := 0, slots := 0, locals := 0 }
def K_isNode (q : St) (v1 : Int32) : Option (Int32) :=
  if v1 < (0 : Int32) then
    some (0 : Int32)
  else
    if (gt q 1 0) ≤ v1 then
      some (0 : Int32)
    else
      some (1 : Int32)
theorem w_K_isNode {X : Cv} (C : Cx X cX10_isNode RX10 rm_K_isNode 2) (S : IsK X) {q : St} {z : Int32} (hret : RokI X cX10_isNode .boolean z q) (v1 : Int32) (h : K_isNode q v1 = some z) : At X 0 [(0, .ref (adOf X 0)), (1, .int v1)] [] q := by
  unfold K_isNode at h
  refine a_iload_n C 1 rfl rfl dX10_isNode_0 ?_
  refine a_if_lt C 19 (by decide) dX10_isNode_1 (fun c1 => ?_) (fun c1 => ?_)
  · replace h := ifp c1 h
    refine a_iconst (v := 0) C (by decide) dX10_isNode_19 ?_
    exact a_iretR hret h rfl dX10_isNode_20
  · replace h := ifn c1 h
    refine a_iload_n C 1 rfl rfl dX10_isNode_4 ?_
    refine a_aload_n C 0 rfl rfl dX10_isNode_5 ?_
    refine gK_10_12 C S dX10_isNode_6 ?_
    refine gK_10_126 C S (Or.inl rfl) dX10_isNode_9 ?_
    refine a_icmp_ge C 19 (by decide) dX10_isNode_12 (fun c2 => ?_) (fun c2 => ?_)
    · replace h := ifp c2 h
      refine a_iconst (v := 0) C (by decide) dX10_isNode_19 ?_
      exact a_iretR hret h rfl dX10_isNode_20
    · replace h := ifn c2 h
      refine a_iconst (v := 1) C (by decide) dX10_isNode_15 ?_
      refine a_goto C 20 (by decide) dX10_isNode_16 ?_
      exact a_iretR hret h rfl dX10_isNode_20
theorem c_K_isNode {l : Launch} {D : va_G} {I : ClassId × ClassId × ClassId × ClassId} {ad : Nat → Nat} {q : St} {v1 : Int32} {z : Int32} (h : K_isNode q v1 = some z) : Ctr l D I (zK ad) 168 (shK I) ad yX10_isNode cX10_isNode 2 (some .boolean) rm_K_isNode [.ref (ad 0), .int v1] q (some z) q :=
  ctr_ofI (by decide) (Nat.le_of_ble_eq_true rfl) (fun p e s m args below meth c Q H0 X hX C hret => by subst hX; exact w_K_isNode C ⟨rfl, rfl, rfl⟩ hret _ h)
theorem kK_10_149 {X : Cv} {cc : ByteArray} {rm : Room} {nL1 pc : Nat} {lv : List (Nat × Value)} {sk : List Value} {q : St} {v1 : Int32} {z : Int32} (C : Cx X cc RX10 rm nL1) (S : IsK X) (h : K_isNode q v1 = some z) (hz : rm_K_isNode.frames + 1 ≤ rm.frames ∧ 8 + (2 + 11) + rm_K_isNode.locals ≤ rm.locals) (hr : (sk.map fun v => v.category).sum ≤ 8) (hd : decode cc pc = .ok (.invokevirtual 149, 3)) (k : At X (pc + 3) lv (.int z :: sk) q) : At X pc lv (.int v1 :: .ref (adOf X 0) :: sk) q := a_callVi (as := [.int v1]) C (kp := 0) (kLt S (by decide)) (by rw [S.2.1]; rfl) rfl (by have hh := c_K_isNode (l := X.2.1) (D := dOf X) (I := idOf X) (ad := adOf X) h; rw [← S.1, ← S.2.1, ← S.2.2] at hh; exact hh) (gd_V (tg 749 (by decide +kernel) rfl) (tg 751 (by decide +kernel) rfl) (tg 18 (by decide +kernel) rfl) (tg 115 (by decide +kernel) rfl) (tg 752 (by decide +kernel) rfl)) ⟨rfl, rfl, hz.1, hz.2⟩ ⟨by decide, by decide, by show Option.map _ (parseMethodDescriptor yX10_isNode.desc) = some 1; decide⟩ hr rfl hd k
abbrev rm_K_linkBetween : Room := { frames := 1, cells := 0, slots := 0, locals := 21 }
def K_linkBetween (q : St) (v1 : Int32) (v2 : Int32) : Option (Int32) :=
  b1 (K_isNode q v1) fun x1 =>
  if x1 = (0 : Int32) then
    some (-1 : Int32)
  else
    b1 (K_isNode q v2) fun x3 =>
    if x3 = (0 : Int32) then
      some (-1 : Int32)
    else
      b1 (rd 256 q 6 ((v1 * (16 : Int32)) + v2)) fun x5 =>
      if x5 = (-1 : Int32) then
        some (-2 : Int32)
      else
        some x5
theorem w_K_linkBetween {X : Cv} (C : Cx X cX10_linkBetween RX10 rm_K_linkBetween 4) (S : IsK X) {q : St} {z : Int32} (hret : RokI X cX10_linkBetween .int z q) (v1 : Int32) (v2 : Int32) (h : K_linkBetween q v1 v2 = some z) : At X 0 [(0, .ref (adOf X 0)), (1, .int v1), (2, .int v2)] [] q := by
  unfold K_linkBetween at h
  refine a_aload_n C 0 rfl rfl dX10_linkBetween_0 ?_
  refine a_iload_n C 1 rfl rfl dX10_linkBetween_1 ?_
  obtain ⟨x1, e_x1, h⟩ := b1s h
  refine kK_10_149 C S e_x1 ⟨(Nat.le_of_ble_eq_true rfl), (Nat.le_of_ble_eq_true rfl)⟩ (Nat.le_of_ble_eq_true rfl) dX10_linkBetween_2 ?_
  refine a_if_eq C 16 (by decide) dX10_linkBetween_5 (fun c2 => ?_) (fun c2 => ?_)
  · replace h := ifp c2 h
    refine a_iconst (v := -1) C (by decide) dX10_linkBetween_16 ?_
    exact a_iretR hret h rfl dX10_linkBetween_17
  · replace h := ifn c2 h
    refine a_aload_n C 0 rfl rfl dX10_linkBetween_8 ?_
    refine a_iload_n C 2 rfl rfl dX10_linkBetween_9 ?_
    obtain ⟨x3, e_x3, h⟩ := b1s h
    refine kK_10_149 C S e_x3 ⟨(Nat.le_of_ble_eq_true rfl), (Nat.le_of_ble_eq_true rfl)⟩ (Nat.le_of_ble_eq_true rfl) dX10_linkBetween_10 ?_
    refine a_if_ne C 18 (by decide) dX10_linkBetween_13 (fun c4 => ?_) (fun c4 => ?_)
    · replace h := ifn c4 h
      refine a_aload_n C 0 rfl rfl dX10_linkBetween_18 ?_
      refine gK_10_12 C S dX10_linkBetween_19 ?_
      refine gK_10_152 C S (Or.inl rfl) dX10_linkBetween_22 ?_
      refine a_iload_n C 1 rfl rfl dX10_linkBetween_25 ?_
      refine a_bipush (v := 16) C (by decide) dX10_linkBetween_26 ?_
      refine a_imul C dX10_linkBetween_28 ?_
      refine a_iload_n C 2 rfl rfl dX10_linkBetween_29 ?_
      refine a_iadd C dX10_linkBetween_30 ?_
      obtain ⟨x5, e_x5, h⟩ := b1s h
      refine lK_u5 (o := 1) C S (Or.inl rfl) e_x5 dX10_linkBetween_31 ?_
      refine a_istore_n C [(3, .int x5), (0, .ref (adOf X 0)), (1, .int v1), (2, .int v2)] rfl (by decide) rfl dX10_linkBetween_32 ?_
      refine a_iload_n C 0 rfl rfl dX10_linkBetween_33 ?_
      refine a_iconst (v := -1) C (by decide) dX10_linkBetween_34 ?_
      refine a_icmp_ne C 43 (by decide) dX10_linkBetween_35 (fun c6 => ?_) (fun c6 => ?_)
      · replace h := ifn c6 h
        refine a_iload_n C 0 rfl rfl dX10_linkBetween_43 ?_
        exact a_iretR hret h rfl dX10_linkBetween_44
      · replace h := ifp c6 h
        refine a_bipush (v := -2) C (by decide) dX10_linkBetween_38 ?_
        refine a_goto C 44 (by decide) dX10_linkBetween_40 ?_
        exact a_iretR hret h rfl dX10_linkBetween_44
    · replace h := ifp c4 h
      refine a_iconst (v := -1) C (by decide) dX10_linkBetween_16 ?_
      exact a_iretR hret h rfl dX10_linkBetween_17
theorem c_K_linkBetween {l : Launch} {D : va_G} {I : ClassId × ClassId × ClassId × ClassId} {ad : Nat → Nat} {q : St} {v1 : Int32} {v2 : Int32} {z : Int32} (h : K_linkBetween q v1 v2 = some z) : Ctr l D I (zK ad) 168 (shK I) ad yX10_linkBetween cX10_linkBetween 4 (some .int) rm_K_linkBetween [.ref (ad 0), .int v1, .int v2] q (some z) q :=
  ctr_ofI (by decide) (Nat.le_of_ble_eq_true rfl) (fun p e s m args below meth c Q H0 X hX C hret => by subst hX; exact w_K_linkBetween C ⟨rfl, rfl, rfl⟩ hret _ _ h)
abbrev rm_K_isLink : Room := { frames := 0, cells := 0, slots := 0, locals := 0 }
def K_isLink (q : St) (v1 : Int32) : Option (Int32) :=
  if v1 < (0 : Int32) then
    some (0 : Int32)
  else
    if (gt q 1 1) ≤ v1 then
      some (0 : Int32)
    else
      some (1 : Int32)
theorem w_K_isLink {X : Cv} (C : Cx X cX10_isLink RX10 rm_K_isLink 2) (S : IsK X) {q : St} {z : Int32} (hret : RokI X cX10_isLink .boolean z q) (v1 : Int32) (h : K_isLink q v1 = some z) : At X 0 [(0, .ref (adOf X 0)), (1, .int v1)] [] q := by
  unfold K_isLink at h
  refine a_iload_n C 1 rfl rfl dX10_isLink_0 ?_
  refine a_if_lt C 19 (by decide) dX10_isLink_1 (fun c1 => ?_) (fun c1 => ?_)
  · replace h := ifp c1 h
    refine a_iconst (v := 0) C (by decide) dX10_isLink_19 ?_
    exact a_iretR hret h rfl dX10_isLink_20
  · replace h := ifn c1 h
    refine a_iload_n C 1 rfl rfl dX10_isLink_4 ?_
    refine a_aload_n C 0 rfl rfl dX10_isLink_5 ?_
    refine gK_10_12 C S dX10_isLink_6 ?_
    refine gK_10_129 C S (Or.inl rfl) dX10_isLink_9 ?_
    refine a_icmp_ge C 19 (by decide) dX10_isLink_12 (fun c2 => ?_) (fun c2 => ?_)
    · replace h := ifp c2 h
      refine a_iconst (v := 0) C (by decide) dX10_isLink_19 ?_
      exact a_iretR hret h rfl dX10_isLink_20
    · replace h := ifn c2 h
      refine a_iconst (v := 1) C (by decide) dX10_isLink_15 ?_
      refine a_goto C 20 (by decide) dX10_isLink_16 ?_
      exact a_iretR hret h rfl dX10_isLink_20
theorem c_K_isLink {l : Launch} {D : va_G} {I : ClassId × ClassId × ClassId × ClassId} {ad : Nat → Nat} {q : St} {v1 : Int32} {z : Int32} (h : K_isLink q v1 = some z) : Ctr l D I (zK ad) 168 (shK I) ad yX10_isLink cX10_isLink 2 (some .boolean) rm_K_isLink [.ref (ad 0), .int v1] q (some z) q :=
  ctr_ofI (by decide) (Nat.le_of_ble_eq_true rfl) (fun p e s m args below meth c Q H0 X hX C hret => by subst hX; exact w_K_isLink C ⟨rfl, rfl, rfl⟩ hret _ h)
theorem kK_10_156 {X : Cv} {cc : ByteArray} {rm : Room} {nL1 pc : Nat} {lv : List (Nat × Value)} {sk : List Value} {q : St} {v1 : Int32} {z : Int32} (C : Cx X cc RX10 rm nL1) (S : IsK X) (h : K_isLink q v1 = some z) (hz : rm_K_isLink.frames + 1 ≤ rm.frames ∧ 8 + (2 + 11) + rm_K_isLink.locals ≤ rm.locals) (hr : (sk.map fun v => v.category).sum ≤ 8) (hd : decode cc pc = .ok (.invokevirtual 156, 3)) (k : At X (pc + 3) lv (.int z :: sk) q) : At X pc lv (.int v1 :: .ref (adOf X 0) :: sk) q := a_callVi (as := [.int v1]) C (kp := 0) (kLt S (by decide)) (by rw [S.2.1]; rfl) rfl (by have hh := c_K_isLink (l := X.2.1) (D := dOf X) (I := idOf X) (ad := adOf X) h; rw [← S.1, ← S.2.1, ← S.2.2] at hh; exact hh) (gd_V (tg 757 (by decide +kernel) rfl) (tg 759 (by decide +kernel) rfl) (tg 19 (by decide +kernel) rfl) (tg 115 (by decide +kernel) rfl) (tg 760 (by decide +kernel) rfl)) ⟨rfl, rfl, hz.1, hz.2⟩ ⟨by decide, by decide, by show Option.map _ (parseMethodDescriptor yX10_isLink.desc) = some 1; decide⟩ hr rfl hd k
abbrev rm_K_capacity : Room := { frames := 1, cells := 0, slots := 0, locals := 21 }
def K_capacity (q : St) (v1 : Int32) : Option (Int32) :=
  b1 (K_isLink q v1) fun x1 =>
  if x1 = (0 : Int32) then
    some (-1 : Int32)
  else
    b1 (rd 32 q 25 v1) fun x3 =>
    some x3
theorem w_K_capacity {X : Cv} (C : Cx X cX10_capacity RX10 rm_K_capacity 2) (S : IsK X) {q : St} {z : Int32} (hret : RokI X cX10_capacity .int z q) (v1 : Int32) (h : K_capacity q v1 = some z) : At X 0 [(0, .ref (adOf X 0)), (1, .int v1)] [] q := by
  unfold K_capacity at h
  refine a_aload_n C 0 rfl rfl dX10_capacity_0 ?_
  refine a_iload_n C 1 rfl rfl dX10_capacity_1 ?_
  obtain ⟨x1, e_x1, h⟩ := b1s h
  refine kK_10_156 C S e_x1 ⟨(Nat.le_of_ble_eq_true rfl), (Nat.le_of_ble_eq_true rfl)⟩ (Nat.le_of_ble_eq_true rfl) dX10_capacity_2 ?_
  refine a_if_eq C 20 (by decide) dX10_capacity_5 (fun c2 => ?_) (fun c2 => ?_)
  · replace h := ifp c2 h
    refine a_iconst (v := -1) C (by decide) dX10_capacity_20 ?_
    exact a_iretR hret h rfl dX10_capacity_21
  · replace h := ifn c2 h
    refine a_aload_n C 0 rfl rfl dX10_capacity_8 ?_
    refine gK_10_22 C S dX10_capacity_9 ?_
    refine gK_10_159 C S (Or.inl rfl) dX10_capacity_12 ?_
    refine a_iload_n C 1 rfl rfl dX10_capacity_15 ?_
    obtain ⟨x3, e_x3, h⟩ := b1s h
    refine lK_s6 (o := 19) C S (Or.inl rfl) e_x3 dX10_capacity_16 ?_
    refine a_goto C 21 (by decide) dX10_capacity_17 ?_
    exact a_iretR hret h rfl dX10_capacity_21
theorem c_K_capacity {l : Launch} {D : va_G} {I : ClassId × ClassId × ClassId × ClassId} {ad : Nat → Nat} {q : St} {v1 : Int32} {z : Int32} (h : K_capacity q v1 = some z) : Ctr l D I (zK ad) 168 (shK I) ad yX10_capacity cX10_capacity 2 (some .int) rm_K_capacity [.ref (ad 0), .int v1] q (some z) q :=
  ctr_ofI (by decide) (Nat.le_of_ble_eq_true rfl) (fun p e s m args below meth c Q H0 X hX C hret => by subst hX; exact w_K_capacity C ⟨rfl, rfl, rfl⟩ hret _ h)
abbrev rm_K_isOpen : Room := { frames := 1, cells := 0, slots := 0, locals := 21 }
def K_isOpen (q : St) (v1 : Int32) : Option (Int32) :=
  b1 (K_isLink q v1) fun x1 =>
  if x1 = (0 : Int32) then
    some (0 : Int32)
  else
    b1 (rd 32 q 26 v1) fun x3 =>
    if x3 = (0 : Int32) then
      some (0 : Int32)
    else
      some (1 : Int32)
theorem w_K_isOpen {X : Cv} (C : Cx X cX10_isOpen RX10 rm_K_isOpen 2) (S : IsK X) {q : St} {z : Int32} (hret : RokI X cX10_isOpen .boolean z q) (v1 : Int32) (h : K_isOpen q v1 = some z) : At X 0 [(0, .ref (adOf X 0)), (1, .int v1)] [] q := by
  unfold K_isOpen at h
  refine a_aload_n C 0 rfl rfl dX10_isOpen_0 ?_
  refine a_iload_n C 1 rfl rfl dX10_isOpen_1 ?_
  obtain ⟨x1, e_x1, h⟩ := b1s h
  refine kK_10_156 C S e_x1 ⟨(Nat.le_of_ble_eq_true rfl), (Nat.le_of_ble_eq_true rfl)⟩ (Nat.le_of_ble_eq_true rfl) dX10_isOpen_2 ?_
  refine a_if_eq C 24 (by decide) dX10_isOpen_5 (fun c2 => ?_) (fun c2 => ?_)
  · replace h := ifp c2 h
    refine a_iconst (v := 0) C (by decide) dX10_isOpen_24 ?_
    exact a_iretR hret h rfl dX10_isOpen_25
  · replace h := ifn c2 h
    refine a_aload_n C 0 rfl rfl dX10_isOpen_8 ?_
    refine gK_10_22 C S dX10_isOpen_9 ?_
    refine gK_10_162 C S (Or.inl rfl) dX10_isOpen_12 ?_
    refine a_iload_n C 1 rfl rfl dX10_isOpen_15 ?_
    obtain ⟨x3, e_x3, h⟩ := b1s h
    refine lK_s7 (o := 19) C S (Or.inl rfl) e_x3 dX10_isOpen_16 ?_
    refine a_if_eq C 24 (by decide) dX10_isOpen_17 (fun c4 => ?_) (fun c4 => ?_)
    · replace h := ifp c4 h
      refine a_iconst (v := 0) C (by decide) dX10_isOpen_24 ?_
      exact a_iretR hret h rfl dX10_isOpen_25
    · replace h := ifn c4 h
      refine a_iconst (v := 1) C (by decide) dX10_isOpen_20 ?_
      refine a_goto C 25 (by decide) dX10_isOpen_21 ?_
      exact a_iretR hret h rfl dX10_isOpen_25
theorem c_K_isOpen {l : Launch} {D : va_G} {I : ClassId × ClassId × ClassId × ClassId} {ad : Nat → Nat} {q : St} {v1 : Int32} {z : Int32} (h : K_isOpen q v1 = some z) : Ctr l D I (zK ad) 168 (shK I) ad yX10_isOpen cX10_isOpen 2 (some .boolean) rm_K_isOpen [.ref (ad 0), .int v1] q (some z) q :=
  ctr_ofI (by decide) (Nat.le_of_ble_eq_true rfl) (fun p e s m args below meth c Q H0 X hX C hret => by subst hX; exact w_K_isOpen C ⟨rfl, rfl, rfl⟩ hret _ h)
abbrev rm_Ss_copyFrom : Room := { frames := 1, cells := 0, slots := 0, locals := 50 }
def Ss_copyFrom (o : Nat) (o2 : Nat) (q : St) : Option (St) :=
  lt_ (st q o 0 (gt q o2 0)) fun q1 =>
  lt_ (cpI q1 (o2 + 1) (o + 1) 21) fun q2 =>
  lt_ (cpI q2 (o2 + 2) (o + 2) 21) fun q3 =>
  lt_ (cpI q3 (o2 + 3) (o + 3) 21) fun q4 =>
  lt_ (cpI q4 (o2 + 4) (o + 4) 21) fun q5 =>
  b1 (cpZ q5 (o2 + 5) (o + 5) 21) fun q6 =>
  lt_ (cpI q6 (o2 + 6) (o + 6) 32) fun q7 =>
  b1 (cpZ q7 (o2 + 7) (o + 7) 32) fun q8 =>
  b1 (cpZ q8 (o2 + 8) (o + 8) 64) fun q9 =>
  b1 (cpZ q9 (o2 + 9) (o + 9) 16) fun q10 =>
  lt_ (cpI q10 (o2 + 10) (o + 10) 16) fun q11 =>
  some q11
theorem w_Ss_copyFrom {X : Cv} (C : Cx X cX7_copyFrom RX7 rm_Ss_copyFrom 2) (S : IsK X) {o : Nat} (hO : IsSt o) {o2 : Nat} (hO2 : IsSt o2) {z : St} (hret : RokV X cX7_copyFrom z) (q : St) (h : Ss_copyFrom o o2 q = some z) : At X 0 [(0, .ref (adOf X o)), (1, .ref (adOf X o2))] [] q := by
  unfold Ss_copyFrom at h
  refine a_aload_n C 0 rfl rfl dX7_copyFrom_0 ?_
  refine a_aload_n C 1 rfl rfl dX7_copyFrom_1 ?_
  refine gK_7_43 C S hO2 dX7_copyFrom_2 ?_
  obtain ⟨q1, e_q1, h⟩ := lts h
  refine pK_7_43 C S hO e_q1 dX7_copyFrom_5 ?_
  refine a_aload_n C 1 rfl rfl dX7_copyFrom_8 ?_
  refine gK_7_11 C S hO2 dX7_copyFrom_9 ?_
  refine a_iconst (v := 0) C (by decide) dX7_copyFrom_12 ?_
  refine a_aload_n C 0 rfl rfl dX7_copyFrom_13 ?_
  refine gK_7_11 C S hO dX7_copyFrom_14 ?_
  refine a_iconst (v := 0) C (by decide) dX7_copyFrom_17 ?_
  refine a_bipush (v := 21) C (by decide) dX7_copyFrom_18 ?_
  obtain ⟨q2, e_q2, h⟩ := lts h
  refine a_cpI (len := 21) (n0 := 21) C (kLt S (by have hS2 : IsSt o2 := hO2; have := isSt_lt hS2; omega)) (kLt S (by have hS2 : IsSt o := hO; have := isSt_lt hS2; omega)) (by rw [S.2.1]; intro f w; exact shK_st (o := o2) (j := 1) hO2 (by decide)) (by rw [S.2.1]; intro f w; exact shK_st (o := o) (j := 1) hO (by decide)) (by decide) (by decide) (by decide) e_q2 (tg 493 (by decide +kernel) rfl) (Nat.le_of_ble_eq_true rfl) (Nat.le_of_ble_eq_true rfl) dX7_copyFrom_20 ?_
  refine a_aload_n C 1 rfl rfl dX7_copyFrom_23 ?_
  refine gK_7_15 C S hO2 dX7_copyFrom_24 ?_
  refine a_iconst (v := 0) C (by decide) dX7_copyFrom_27 ?_
  refine a_aload_n C 0 rfl rfl dX7_copyFrom_28 ?_
  refine gK_7_15 C S hO dX7_copyFrom_29 ?_
  refine a_iconst (v := 0) C (by decide) dX7_copyFrom_32 ?_
  refine a_bipush (v := 21) C (by decide) dX7_copyFrom_33 ?_
  obtain ⟨q3, e_q3, h⟩ := lts h
  refine a_cpI (len := 21) (n0 := 21) C (kLt S (by have hS2 : IsSt o2 := hO2; have := isSt_lt hS2; omega)) (kLt S (by have hS2 : IsSt o := hO; have := isSt_lt hS2; omega)) (by rw [S.2.1]; intro f w; exact shK_st (o := o2) (j := 2) hO2 (by decide)) (by rw [S.2.1]; intro f w; exact shK_st (o := o) (j := 2) hO (by decide)) (by decide) (by decide) (by decide) e_q3 (tg 493 (by decide +kernel) rfl) (Nat.le_of_ble_eq_true rfl) (Nat.le_of_ble_eq_true rfl) dX7_copyFrom_35 ?_
  refine a_aload_n C 1 rfl rfl dX7_copyFrom_38 ?_
  refine gK_7_18 C S hO2 dX7_copyFrom_39 ?_
  refine a_iconst (v := 0) C (by decide) dX7_copyFrom_42 ?_
  refine a_aload_n C 0 rfl rfl dX7_copyFrom_43 ?_
  refine gK_7_18 C S hO dX7_copyFrom_44 ?_
  refine a_iconst (v := 0) C (by decide) dX7_copyFrom_47 ?_
  refine a_bipush (v := 21) C (by decide) dX7_copyFrom_48 ?_
  obtain ⟨q4, e_q4, h⟩ := lts h
  refine a_cpI (len := 21) (n0 := 21) C (kLt S (by have hS2 : IsSt o2 := hO2; have := isSt_lt hS2; omega)) (kLt S (by have hS2 : IsSt o := hO; have := isSt_lt hS2; omega)) (by rw [S.2.1]; intro f w; exact shK_st (o := o2) (j := 3) hO2 (by decide)) (by rw [S.2.1]; intro f w; exact shK_st (o := o) (j := 3) hO (by decide)) (by decide) (by decide) (by decide) e_q4 (tg 493 (by decide +kernel) rfl) (Nat.le_of_ble_eq_true rfl) (Nat.le_of_ble_eq_true rfl) dX7_copyFrom_50 ?_
  refine a_aload_n C 1 rfl rfl dX7_copyFrom_53 ?_
  refine gK_7_21 C S hO2 dX7_copyFrom_54 ?_
  refine a_iconst (v := 0) C (by decide) dX7_copyFrom_57 ?_
  refine a_aload_n C 0 rfl rfl dX7_copyFrom_58 ?_
  refine gK_7_21 C S hO dX7_copyFrom_59 ?_
  refine a_iconst (v := 0) C (by decide) dX7_copyFrom_62 ?_
  refine a_bipush (v := 21) C (by decide) dX7_copyFrom_63 ?_
  obtain ⟨q5, e_q5, h⟩ := lts h
  refine a_cpI (len := 21) (n0 := 21) C (kLt S (by have hS2 : IsSt o2 := hO2; have := isSt_lt hS2; omega)) (kLt S (by have hS2 : IsSt o := hO; have := isSt_lt hS2; omega)) (by rw [S.2.1]; intro f w; exact shK_st (o := o2) (j := 4) hO2 (by decide)) (by rw [S.2.1]; intro f w; exact shK_st (o := o) (j := 4) hO (by decide)) (by decide) (by decide) (by decide) e_q5 (tg 493 (by decide +kernel) rfl) (Nat.le_of_ble_eq_true rfl) (Nat.le_of_ble_eq_true rfl) dX7_copyFrom_65 ?_
  refine a_aload_n C 1 rfl rfl dX7_copyFrom_68 ?_
  refine gK_7_24 C S hO2 dX7_copyFrom_69 ?_
  refine a_iconst (v := 0) C (by decide) dX7_copyFrom_72 ?_
  refine a_aload_n C 0 rfl rfl dX7_copyFrom_73 ?_
  refine gK_7_24 C S hO dX7_copyFrom_74 ?_
  refine a_iconst (v := 0) C (by decide) dX7_copyFrom_77 ?_
  refine a_bipush (v := 21) C (by decide) dX7_copyFrom_78 ?_
  obtain ⟨q6, e_q6, h⟩ := b1s h
  refine a_cpZ (len := 21) (n0 := 21) C (kLt S (by have hS2 : IsSt o2 := hO2; have := isSt_lt hS2; omega)) (kLt S (by have hS2 : IsSt o := hO; have := isSt_lt hS2; omega)) (by rw [S.2.1]; intro f w; exact shK_st (o := o2) (j := 5) hO2 (by decide)) (by rw [S.2.1]; intro f w; exact shK_st (o := o) (j := 5) hO (by decide)) (by decide) (by decide) (by decide) e_q6 (tg 493 (by decide +kernel) rfl) (Nat.le_of_ble_eq_true rfl) (Nat.le_of_ble_eq_true rfl) dX7_copyFrom_80 ?_
  refine a_aload_n C 1 rfl rfl dX7_copyFrom_83 ?_
  refine gK_7_28 C S hO2 dX7_copyFrom_84 ?_
  refine a_iconst (v := 0) C (by decide) dX7_copyFrom_87 ?_
  refine a_aload_n C 0 rfl rfl dX7_copyFrom_88 ?_
  refine gK_7_28 C S hO dX7_copyFrom_89 ?_
  refine a_iconst (v := 0) C (by decide) dX7_copyFrom_92 ?_
  refine a_bipush (v := 32) C (by decide) dX7_copyFrom_93 ?_
  obtain ⟨q7, e_q7, h⟩ := lts h
  refine a_cpI (len := 32) (n0 := 32) C (kLt S (by have hS2 : IsSt o2 := hO2; have := isSt_lt hS2; omega)) (kLt S (by have hS2 : IsSt o := hO; have := isSt_lt hS2; omega)) (by rw [S.2.1]; intro f w; exact shK_st (o := o2) (j := 6) hO2 (by decide)) (by rw [S.2.1]; intro f w; exact shK_st (o := o) (j := 6) hO (by decide)) (by decide) (by decide) (by decide) e_q7 (tg 493 (by decide +kernel) rfl) (Nat.le_of_ble_eq_true rfl) (Nat.le_of_ble_eq_true rfl) dX7_copyFrom_95 ?_
  refine a_aload_n C 1 rfl rfl dX7_copyFrom_98 ?_
  refine gK_7_31 C S hO2 dX7_copyFrom_99 ?_
  refine a_iconst (v := 0) C (by decide) dX7_copyFrom_102 ?_
  refine a_aload_n C 0 rfl rfl dX7_copyFrom_103 ?_
  refine gK_7_31 C S hO dX7_copyFrom_104 ?_
  refine a_iconst (v := 0) C (by decide) dX7_copyFrom_107 ?_
  refine a_bipush (v := 32) C (by decide) dX7_copyFrom_108 ?_
  obtain ⟨q8, e_q8, h⟩ := b1s h
  refine a_cpZ (len := 32) (n0 := 32) C (kLt S (by have hS2 : IsSt o2 := hO2; have := isSt_lt hS2; omega)) (kLt S (by have hS2 : IsSt o := hO; have := isSt_lt hS2; omega)) (by rw [S.2.1]; intro f w; exact shK_st (o := o2) (j := 7) hO2 (by decide)) (by rw [S.2.1]; intro f w; exact shK_st (o := o) (j := 7) hO (by decide)) (by decide) (by decide) (by decide) e_q8 (tg 493 (by decide +kernel) rfl) (Nat.le_of_ble_eq_true rfl) (Nat.le_of_ble_eq_true rfl) dX7_copyFrom_110 ?_
  refine a_aload_n C 1 rfl rfl dX7_copyFrom_113 ?_
  refine gK_7_34 C S hO2 dX7_copyFrom_114 ?_
  refine a_iconst (v := 0) C (by decide) dX7_copyFrom_117 ?_
  refine a_aload_n C 0 rfl rfl dX7_copyFrom_118 ?_
  refine gK_7_34 C S hO dX7_copyFrom_119 ?_
  refine a_iconst (v := 0) C (by decide) dX7_copyFrom_122 ?_
  refine a_aload_n C 0 rfl rfl dX7_copyFrom_123 ?_
  refine gK_7_34 C S hO dX7_copyFrom_124 ?_
  refine nK_s8 (o := o) C S hO dX7_copyFrom_127 ?_
  obtain ⟨q9, e_q9, h⟩ := b1s h
  refine a_cpZ (len := 64) (n0 := 64) C (kLt S (by have hS2 : IsSt o2 := hO2; have := isSt_lt hS2; omega)) (kLt S (by have hS2 : IsSt o := hO; have := isSt_lt hS2; omega)) (by rw [S.2.1]; intro f w; exact shK_st (o := o2) (j := 8) hO2 (by decide)) (by rw [S.2.1]; intro f w; exact shK_st (o := o) (j := 8) hO (by decide)) (by decide) (by decide) (by decide) e_q9 (tg 493 (by decide +kernel) rfl) (Nat.le_of_ble_eq_true rfl) (Nat.le_of_ble_eq_true rfl) dX7_copyFrom_128 ?_
  refine a_aload_n C 1 rfl rfl dX7_copyFrom_131 ?_
  refine gK_7_37 C S hO2 dX7_copyFrom_132 ?_
  refine a_iconst (v := 0) C (by decide) dX7_copyFrom_135 ?_
  refine a_aload_n C 0 rfl rfl dX7_copyFrom_136 ?_
  refine gK_7_37 C S hO dX7_copyFrom_137 ?_
  refine a_iconst (v := 0) C (by decide) dX7_copyFrom_140 ?_
  refine a_bipush (v := 16) C (by decide) dX7_copyFrom_141 ?_
  obtain ⟨q10, e_q10, h⟩ := b1s h
  refine a_cpZ (len := 16) (n0 := 16) C (kLt S (by have hS2 : IsSt o2 := hO2; have := isSt_lt hS2; omega)) (kLt S (by have hS2 : IsSt o := hO; have := isSt_lt hS2; omega)) (by rw [S.2.1]; intro f w; exact shK_st (o := o2) (j := 9) hO2 (by decide)) (by rw [S.2.1]; intro f w; exact shK_st (o := o) (j := 9) hO (by decide)) (by decide) (by decide) (by decide) e_q10 (tg 493 (by decide +kernel) rfl) (Nat.le_of_ble_eq_true rfl) (Nat.le_of_ble_eq_true rfl) dX7_copyFrom_143 ?_
  refine a_aload_n C 1 rfl rfl dX7_copyFrom_146 ?_
  refine gK_7_40 C S hO2 dX7_copyFrom_147 ?_
  refine a_iconst (v := 0) C (by decide) dX7_copyFrom_150 ?_
  refine a_aload_n C 0 rfl rfl dX7_copyFrom_151 ?_
  refine gK_7_40 C S hO dX7_copyFrom_152 ?_
  refine a_iconst (v := 0) C (by decide) dX7_copyFrom_155 ?_
  refine a_bipush (v := 16) C (by decide) dX7_copyFrom_156 ?_
  obtain ⟨q11, e_q11, h⟩ := lts h
  refine a_cpI (len := 16) (n0 := 16) C (kLt S (by have hS2 : IsSt o2 := hO2; have := isSt_lt hS2; omega)) (kLt S (by have hS2 : IsSt o := hO; have := isSt_lt hS2; omega)) (by rw [S.2.1]; intro f w; exact shK_st (o := o2) (j := 10) hO2 (by decide)) (by rw [S.2.1]; intro f w; exact shK_st (o := o) (j := 10) hO (by decide)) (by decide) (by decide) (by decide) e_q11 (tg 493 (by decide +kernel) rfl) (Nat.le_of_ble_eq_true rfl) (Nat.le_of_ble_eq_true rfl) dX7_copyFrom_158 ?_
  exact a_vret hret h dX7_copyFrom_161
theorem c_Ss_copyFrom {l : Launch} {D : va_G} {I : ClassId × ClassId × ClassId × ClassId} {ad : Nat → Nat} {o : Nat} (hO : IsSt o) {o2 : Nat} (hO2 : IsSt o2) {q : St} {z : St} (h : Ss_copyFrom o o2 q = some z) : Ctr l D I (zK ad) 168 (shK I) ad yX7_copyFrom cX7_copyFrom 2 none rm_Ss_copyFrom [.ref (ad o), .ref (ad o2)] q none z :=
  ctr_ofV (by decide) (Nat.le_of_ble_eq_true rfl) (fun p e s m args below meth c Q H0 X hX C hret => by subst hX; exact w_Ss_copyFrom C ⟨rfl, rfl, rfl⟩ hO hO2 hret _ h)
theorem kK_2_25 {X : Cv} {cc : ByteArray} {rm : Room} {nL1 pc : Nat} {lv : List (Nat × Value)} {sk : List Value} {q : St} {q2 : St} (C : Cx X cc RX2 rm nL1) (S : IsK X) {o : Nat} (hO : IsSt o) {o2 : Nat} (hO2 : IsSt o2) (h : Ss_copyFrom o o2 q = some q2) (hz : rm_Ss_copyFrom.frames + 1 ≤ rm.frames ∧ 8 + (2 + 11) + rm_Ss_copyFrom.locals ≤ rm.locals) (hr : (sk.map fun v => v.category).sum ≤ 8) (hd : decode cc pc = .ok (.invokevirtual 25, 3)) (k : At X (pc + 3) lv sk q2) : At X pc lv (.ref (adOf X o2) :: .ref (adOf X o) :: sk) q := a_callVv (as := [.ref (adOf X o2)]) C (kp := o) (kLt S (by have hS2 : IsSt o := hO; have := isSt_lt hS2; omega)) (by rw [S.2.1]; exact shK_st (o := o) (j := 0) hO (by decide)) rfl (by have hh := c_Ss_copyFrom (l := X.2.1) (D := dOf X) (I := idOf X) (ad := adOf X) hO hO2 h; rw [← S.1, ← S.2.1, ← S.2.2] at hh; exact hh) (gd_V (tg 773 (by decide +kernel) rfl) (tg 774 (by decide +kernel) rfl) (tg 775 (by decide +kernel) rfl) (tg 117 (by decide +kernel) rfl) (tg 776 (by decide +kernel) rfl)) ⟨rfl, rfl, hz.1, hz.2⟩ ⟨by decide, by decide, by show Option.map _ (parseMethodDescriptor yX7_copyFrom.desc) = some 1; decide⟩ hr rfl hd k
theorem kK_10_201 {X : Cv} {cc : ByteArray} {rm : Room} {nL1 pc : Nat} {lv : List (Nat × Value)} {sk : List Value} {q : St} {q2 : St} (C : Cx X cc RX10 rm nL1) (S : IsK X) {o : Nat} (hO : IsSt o) {o2 : Nat} (hO2 : IsSt o2) (h : Ss_copyFrom o o2 q = some q2) (hz : rm_Ss_copyFrom.frames + 1 ≤ rm.frames ∧ 8 + (2 + 11) + rm_Ss_copyFrom.locals ≤ rm.locals) (hr : (sk.map fun v => v.category).sum ≤ 8) (hd : decode cc pc = .ok (.invokevirtual 201, 3)) (k : At X (pc + 3) lv sk q2) : At X pc lv (.ref (adOf X o2) :: .ref (adOf X o) :: sk) q := a_callVv (as := [.ref (adOf X o2)]) C (kp := o) (kLt S (by have hS2 : IsSt o := hO; have := isSt_lt hS2; omega)) (by rw [S.2.1]; exact shK_st (o := o) (j := 0) hO (by decide)) rfl (by have hh := c_Ss_copyFrom (l := X.2.1) (D := dOf X) (I := idOf X) (ad := adOf X) hO hO2 h; rw [← S.1, ← S.2.1, ← S.2.2] at hh; exact hh) (gd_V (tg 921 (by decide +kernel) rfl) (tg 774 (by decide +kernel) rfl) (tg 775 (by decide +kernel) rfl) (tg 117 (by decide +kernel) rfl) (tg 776 (by decide +kernel) rfl)) ⟨rfl, rfl, hz.1, hz.2⟩ ⟨by decide, by decide, by show Option.map _ (parseMethodDescriptor yX7_copyFrom.desc) = some 1; decide⟩ hr rfl hd k
abbrev rm_Hi_keep : Room := { frames := 2, cells := 0, slots := 0, locals := 71 }
def Hi_keep_J35 (o2 : Nat) (z0 : Int32) (q : St) : Option (St) :=
  lt_ (st q 41 2 z0) fun q4 =>
  lt_ (st q4 41 1 (imin ((gt q4 41 1) + (1 : Int32)) (10 : Int32))) fun q5 =>
  some q5
theorem w_Hi_keep_J35 {X : Cv} (C : Cx X cX2_keep RX2 rm_Hi_keep 2) (S : IsK X) {o2 : Nat} (hO2 : IsSt o2) {z : St} (hret : RokV X cX2_keep z) (z0 : Int32) (q : St) (h : Hi_keep_J35 o2 z0 q = some z) : At X 35 [(0, .ref (adOf X 41)), (1, .ref (adOf X o2))] [.int z0, .ref (adOf X 41)] q := by
  unfold Hi_keep_J35 at h
  obtain ⟨q4, e_q4, h⟩ := lts h
  refine pK_2_22 C S e_q4 dX2_keep_35 ?_
  refine a_aload_n C 0 rfl rfl dX2_keep_38 ?_
  refine a_aload_n C 0 rfl rfl dX2_keep_39 ?_
  refine gK_2_18 C S dX2_keep_40 ?_
  refine a_iconst (v := 1) C (by decide) dX2_keep_43 ?_
  refine a_iadd C dX2_keep_44 ?_
  refine a_bipush (v := 10) C (by decide) dX2_keep_45 ?_
  refine a_mmin C (tg 777 (by decide +kernel) rfl) (Nat.le_of_ble_eq_true rfl) (Nat.le_of_ble_eq_true rfl) dX2_keep_47 ?_
  obtain ⟨q5, e_q5, h⟩ := lts h
  refine pK_2_18 C S e_q5 dX2_keep_50 ?_
  exact a_vret hret h dX2_keep_53
def Hi_keep (o2 : Nat) (q : St) : Option (St) :=
  ck 10 (gt q 41 2) <|
  b1 (Ss_copyFrom (43 + 11 * ((gt q 41 2)).toNatClampNeg) o2 q) fun q2 =>
  if (10 : Int32) ≤ ((gt q2 41 2) + (1 : Int32)) then
    Hi_keep_J35 o2 (0 : Int32) q2
  else
    Hi_keep_J35 o2 ((gt q2 41 2) + (1 : Int32)) q2
theorem w_Hi_keep {X : Cv} (C : Cx X cX2_keep RX2 rm_Hi_keep 2) (S : IsK X) {o2 : Nat} (hO2 : IsSt o2) {z : St} (hret : RokV X cX2_keep z) (q : St) (h : Hi_keep o2 q = some z) : At X 0 [(0, .ref (adOf X 41)), (1, .ref (adOf X o2))] [] q := by
  unfold Hi_keep at h
  refine a_aload_n C 0 rfl rfl dX2_keep_0 ?_
  refine gK_2_11 C S dX2_keep_1 ?_
  refine a_aload_n C 0 rfl rfl dX2_keep_4 ?_
  refine gK_2_22 C S dX2_keep_5 ?_
  obtain ⟨b1, h⟩ := cks h
  refine lK_42 C S b1 dX2_keep_8 ?_
  refine a_aload_n C 1 rfl rfl dX2_keep_9 ?_
  obtain ⟨q2, e_q2, h⟩ := b1s h
  refine kK_2_25 C S (isSt_h b1) hO2 e_q2 ⟨(Nat.le_of_ble_eq_true rfl), (Nat.le_of_ble_eq_true rfl)⟩ (Nat.le_of_ble_eq_true rfl) dX2_keep_10 ?_
  refine a_aload_n C 0 rfl rfl dX2_keep_13 ?_
  refine a_aload_n C 0 rfl rfl dX2_keep_14 ?_
  refine gK_2_22 C S dX2_keep_15 ?_
  refine a_iconst (v := 1) C (by decide) dX2_keep_18 ?_
  refine a_iadd C dX2_keep_19 ?_
  refine a_bipush (v := 10) C (by decide) dX2_keep_20 ?_
  refine a_icmp_ge C 34 (by decide) dX2_keep_22 (fun c3 => ?_) (fun c3 => ?_)
  · replace h := ifp c3 h
    refine a_iconst (v := 0) C (by decide) dX2_keep_34 ?_
    exact At.sub [0, 1] rfl (w_Hi_keep_J35 C S hO2 hret _ _ h)
  · replace h := ifn c3 h
    refine a_aload_n C 0 rfl rfl dX2_keep_25 ?_
    refine gK_2_22 C S dX2_keep_26 ?_
    refine a_iconst (v := 1) C (by decide) dX2_keep_29 ?_
    refine a_iadd C dX2_keep_30 ?_
    refine a_goto C 35 (by decide) dX2_keep_31 ?_
    exact At.sub [0, 1] rfl (w_Hi_keep_J35 C S hO2 hret _ _ h)
theorem c_Hi_keep {l : Launch} {D : va_G} {I : ClassId × ClassId × ClassId × ClassId} {ad : Nat → Nat} {o2 : Nat} (hO2 : IsSt o2) {q : St} {z : St} (h : Hi_keep o2 q = some z) : Ctr l D I (zK ad) 168 (shK I) ad yX2_keep cX2_keep 2 none rm_Hi_keep [.ref (ad 41), .ref (ad o2)] q none z :=
  ctr_ofV (by decide) (Nat.le_of_ble_eq_true rfl) (fun p e s m args below meth c Q H0 X hX C hret => by subst hX; exact w_Hi_keep C ⟨rfl, rfl, rfl⟩ hO2 hret _ h)
theorem kK_10_169 {X : Cv} {cc : ByteArray} {rm : Room} {nL1 pc : Nat} {lv : List (Nat × Value)} {sk : List Value} {q : St} {q2 : St} (C : Cx X cc RX10 rm nL1) (S : IsK X) {o2 : Nat} (hO2 : IsSt o2) (h : Hi_keep o2 q = some q2) (hz : rm_Hi_keep.frames + 1 ≤ rm.frames ∧ 8 + (2 + 11) + rm_Hi_keep.locals ≤ rm.locals) (hr : (sk.map fun v => v.category).sum ≤ 8) (hd : decode cc pc = .ok (.invokevirtual 169, 3)) (k : At X (pc + 3) lv sk q2) : At X pc lv (.ref (adOf X o2) :: .ref (adOf X 41) :: sk) q := a_callVv (as := [.ref (adOf X o2)]) C (kp := 41) (kLt S (by decide)) (by rw [S.2.1]; rfl) rfl (by have hh := c_Hi_keep (l := X.2.1) (D := dOf X) (I := idOf X) (ad := adOf X) hO2 h; rw [← S.1, ← S.2.1, ← S.2.2] at hh; exact hh) (gd_V (tg 769 (by decide +kernel) rfl) (tg 770 (by decide +kernel) rfl) (tg 771 (by decide +kernel) rfl) (tg 118 (by decide +kernel) rfl) (tg 772 (by decide +kernel) rfl)) ⟨rfl, rfl, hz.1, hz.2⟩ ⟨by decide, by decide, by show Option.map _ (parseMethodDescriptor yX2_keep.desc) = some 1; decide⟩ hr rfl hd k
abbrev rm_Ss_enrol : Room := { frames := 1, cells := 0, slots := 0, locals := 50 }
def Ss_enrol (q : St) (v1 : Int32) (v2 : Int32) (v3 : Int32) : Option (Int32 × St) :=
  lt_ (imin (gt q 19 0) (20 : Int32)) fun w1 =>
  b1 (wr 21 q 20 w1 v1) fun q2 =>
  b1 (wr 21 q2 21 w1 v2) fun q3 =>
  b1 (wr 21 q3 22 w1 v3) fun q4 =>
  b1 (wr 21 q4 23 w1 (0 : Int32)) fun q5 =>
  b1 (wr 21 q5 24 w1 (vp_nar .boolean (0 : Int32))) fun q6 =>
  lt_ (st q6 19 0 (w1 + (1 : Int32))) fun q7 =>
  some (w1, q7)
theorem w_Ss_enrol {X : Cv} (C : Cx X cX7_enrol RX7 rm_Ss_enrol 5) (S : IsK X) {z : Int32 × St} (hret : RokI X cX7_enrol .int z.1 z.2) (v1 : Int32) (v2 : Int32) (v3 : Int32) (q : St) (h : Ss_enrol q v1 v2 v3 = some z) : At X 0 [(0, .ref (adOf X 19)), (1, .int v1), (2, .int v2), (3, .int v3)] [] q := by
  unfold Ss_enrol at h
  refine a_aload_n C 0 rfl rfl dX7_enrol_0 ?_
  refine gK_7_43 C S (Or.inl rfl) dX7_enrol_1 ?_
  refine a_bipush (v := 20) C (by decide) dX7_enrol_4 ?_
  refine a_mmin C (tg 784 (by decide +kernel) rfl) (Nat.le_of_ble_eq_true rfl) (Nat.le_of_ble_eq_true rfl) dX7_enrol_6 ?_
  obtain ⟨w1, e_w1, h⟩ := lts h
  refine a_top e_w1 ?_
  refine a_istore C [(4, .int w1), (0, .ref (adOf X 19)), (1, .int v1), (2, .int v2), (3, .int v3)] (by decide) rfl dX7_enrol_9 ?_
  refine a_aload_n C 1 rfl rfl dX7_enrol_11 ?_
  refine gK_7_11 C S (Or.inl rfl) dX7_enrol_12 ?_
  refine a_iload C 0 rfl dX7_enrol_15 ?_
  refine a_iload_n C 2 rfl rfl dX7_enrol_17 ?_
  obtain ⟨q2, e_q2, h⟩ := b1s h
  refine sK_s1 (o := 19) C S (Or.inl rfl) e_q2 dX7_enrol_18 ?_
  refine a_aload_n C 1 rfl rfl dX7_enrol_19 ?_
  refine gK_7_15 C S (Or.inl rfl) dX7_enrol_20 ?_
  refine a_iload C 0 rfl dX7_enrol_23 ?_
  refine a_iload_n C 3 rfl rfl dX7_enrol_25 ?_
  obtain ⟨q3, e_q3, h⟩ := b1s h
  refine sK_s2 (o := 19) C S (Or.inl rfl) e_q3 dX7_enrol_26 ?_
  refine a_aload_n C 1 rfl rfl dX7_enrol_27 ?_
  refine gK_7_18 C S (Or.inl rfl) dX7_enrol_28 ?_
  refine a_iload C 0 rfl dX7_enrol_31 ?_
  refine a_iload_n C 4 rfl rfl dX7_enrol_33 ?_
  obtain ⟨q4, e_q4, h⟩ := b1s h
  refine sK_s3 (o := 19) C S (Or.inl rfl) e_q4 dX7_enrol_34 ?_
  refine a_aload_n C 1 rfl rfl dX7_enrol_35 ?_
  refine gK_7_21 C S (Or.inl rfl) dX7_enrol_36 ?_
  refine a_iload C 0 rfl dX7_enrol_39 ?_
  refine a_iconst (v := 0) C (by decide) dX7_enrol_41 ?_
  obtain ⟨q5, e_q5, h⟩ := b1s h
  refine sK_s4 (o := 19) C S (Or.inl rfl) e_q5 dX7_enrol_42 ?_
  refine a_aload_n C 1 rfl rfl dX7_enrol_43 ?_
  refine gK_7_24 C S (Or.inl rfl) dX7_enrol_44 ?_
  refine a_iload C 0 rfl dX7_enrol_47 ?_
  refine a_iconst (v := 0) C (by decide) dX7_enrol_49 ?_
  obtain ⟨q6, e_q6, h⟩ := b1s h
  refine sK_s5 (o := 19) C S (Or.inl rfl) e_q6 dX7_enrol_50 ?_
  refine a_aload_n C 1 rfl rfl dX7_enrol_51 ?_
  refine a_iload C 0 rfl dX7_enrol_52 ?_
  refine a_iconst (v := 1) C (by decide) dX7_enrol_54 ?_
  refine a_iadd C dX7_enrol_55 ?_
  obtain ⟨q7, e_q7, h⟩ := lts h
  refine pK_7_43 C S (Or.inl rfl) e_q7 dX7_enrol_56 ?_
  refine a_iload C 0 rfl dX7_enrol_59 ?_
  exact a_iret hret h rfl dX7_enrol_61
theorem c_Ss_enrol {l : Launch} {D : va_G} {I : ClassId × ClassId × ClassId × ClassId} {ad : Nat → Nat} {q : St} {v1 : Int32} {v2 : Int32} {v3 : Int32} {z : Int32 × St} (h : Ss_enrol q v1 v2 v3 = some z) : Ctr l D I (zK ad) 168 (shK I) ad yX7_enrol cX7_enrol 5 (some .int) rm_Ss_enrol [.ref (ad 19), .int v1, .int v2, .int v3] q (some z.1) z.2 :=
  ctr_ofI (by decide) (Nat.le_of_ble_eq_true rfl) (fun p e s m args below meth c Q H0 X hX C hret => by subst hX; exact w_Ss_enrol C ⟨rfl, rfl, rfl⟩ hret _ _ _ _ h)
theorem kK_10_173 {X : Cv} {cc : ByteArray} {rm : Room} {nL1 pc : Nat} {lv : List (Nat × Value)} {sk : List Value} {q : St} {v1 : Int32} {v2 : Int32} {v3 : Int32} {z : Int32} {q2 : St} (C : Cx X cc RX10 rm nL1) (S : IsK X) (h : Ss_enrol q v1 v2 v3 = some (z, q2)) (hz : rm_Ss_enrol.frames + 1 ≤ rm.frames ∧ 8 + (5 + 11) + rm_Ss_enrol.locals ≤ rm.locals) (hr : (sk.map fun v => v.category).sum ≤ 8) (hd : decode cc pc = .ok (.invokevirtual 173, 3)) (k : At X (pc + 3) lv (.int z :: sk) q2) : At X pc lv (.int v3 :: .int v2 :: .int v1 :: .ref (adOf X 19) :: sk) q := a_callVi (as := [.int v1, .int v2, .int v3]) C (kp := 19) (kLt S (by have hS2 : IsSt 19 := (Or.inl rfl); have := isSt_lt hS2; omega)) (by rw [S.2.1]; exact shK_st (o := 19) (j := 0) (Or.inl rfl) (by decide)) rfl (by have hh := c_Ss_enrol (l := X.2.1) (D := dOf X) (I := idOf X) (ad := adOf X) h; rw [← S.1, ← S.2.1, ← S.2.2] at hh; exact hh) (gd_V (tg 780 (by decide +kernel) rfl) (tg 781 (by decide +kernel) rfl) (tg 782 (by decide +kernel) rfl) (tg 117 (by decide +kernel) rfl) (tg 783 (by decide +kernel) rfl)) ⟨rfl, rfl, hz.1, hz.2⟩ ⟨by decide, by decide, by show Option.map _ (parseMethodDescriptor yX7_enrol.desc) = some 3; decide⟩ hr rfl hd k
abbrev rm_Gr_weighLinks : Room := { frames := 0, cells := 0, slots := 0, locals := 0 }
def Gr_weighLinks_J43 (rec : Int32 → Int32 → St → Option (St)) (v1 : Int32) (v2 : Int32) (z0 : Int32) (q : St) : Option (St) :=
  if z0 = (0 : Int32) then
    b1 (wr 32 q 162 v2 (16777216 : Int32)) fun q5 =>
    rec v1 (v2 + 1) q5
  else
    b1 (rd 32 q 5 v2) fun x6 =>
    b1 (wr 32 q 162 v2 ((x6 * (64 : Int32)) + (1 : Int32))) fun q7 =>
    rec v1 (v2 + 1) q7
theorem w_Gr_weighLinks_J43 {X : Cv} (C : Cx X cX1_weighLinks RX1 rm_Gr_weighLinks 4) (S : IsK X) {z : St} (hret : RokV X cX1_weighLinks z) (rec : Int32 → Int32 → St → Option (St)) (hrec : ∀ (v1 : Int32) (v2 : Int32) (q : St), rec v1 v2 q = some z → At X 2 [(0, .ref (adOf X 161)), (1, .int v1), (2, .int v2)] [] q) (v1 : Int32) (v2 : Int32) (z0 : Int32) (q : St) (h : Gr_weighLinks_J43 rec v1 v2 z0 q = some z) : At X 43 [(0, .ref (adOf X 161)), (1, .int v1), (2, .int v2)] [.int z0] q := by
  unfold Gr_weighLinks_J43 at h
  refine a_istore_n C [(3, .int z0), (0, .ref (adOf X 161)), (1, .int v1), (2, .int v2)] rfl (by decide) rfl dX1_weighLinks_43 ?_
  refine a_aload_n C 1 rfl rfl dX1_weighLinks_44 ?_
  refine gK_1_9 C S dX1_weighLinks_45 ?_
  refine a_iload_n C 3 rfl rfl dX1_weighLinks_48 ?_
  refine a_iload_n C 0 rfl rfl dX1_weighLinks_49 ?_
  refine a_if_eq C 70 (by decide) dX1_weighLinks_50 (fun c4 => ?_) (fun c4 => ?_)
  · replace h := ifp c4 h
    refine a_ldc (v := 16777216) C (tg 802 (by decide +kernel) rfl) dX1_weighLinks_70 ?_
    obtain ⟨q5, e_q5, h⟩ := b1s h
    refine sK_162 C S e_q5 dX1_weighLinks_72 ?_
    refine a_iinc (v := (v2 + 1)) C [(2, .int (v2 + 1)), (3, .int z0), (0, .ref (adOf X 161)), (1, .int v1)] 3 rfl (congrArg (HAdd.hAdd v2) (by decide : Int32.ofInt (1) = (1 : Int32))) (by decide) rfl dX1_weighLinks_73 ?_
    refine a_goto C 2 (by decide) dX1_weighLinks_76 ?_
    exact At.sub [2, 3, 0] rfl (hrec _ _ _ h)
  · replace h := ifn c4 h
    refine a_aload_n C 1 rfl rfl dX1_weighLinks_53 ?_
    refine gK_1_21 C S dX1_weighLinks_54 ?_
    refine gK_1_74 C S (Or.inl rfl) dX1_weighLinks_57 ?_
    refine a_iload_n C 3 rfl rfl dX1_weighLinks_60 ?_
    obtain ⟨x6, e_x6, h⟩ := b1s h
    refine lK_u4 (o := 1) C S (Or.inl rfl) e_x6 dX1_weighLinks_61 ?_
    refine a_bipush (v := 64) C (by decide) dX1_weighLinks_62 ?_
    refine a_imul C dX1_weighLinks_64 ?_
    refine a_iconst (v := 1) C (by decide) dX1_weighLinks_65 ?_
    refine a_iadd C dX1_weighLinks_66 ?_
    refine a_goto C 72 (by decide) dX1_weighLinks_67 ?_
    obtain ⟨q7, e_q7, h⟩ := b1s h
    refine sK_162 C S e_q7 dX1_weighLinks_72 ?_
    refine a_iinc (v := (v2 + 1)) C [(2, .int (v2 + 1)), (3, .int z0), (0, .ref (adOf X 161)), (1, .int v1)] 3 rfl (congrArg (HAdd.hAdd v2) (by decide : Int32.ofInt (1) = (1 : Int32))) (by decide) rfl dX1_weighLinks_73 ?_
    refine a_goto C 2 (by decide) dX1_weighLinks_76 ?_
    exact At.sub [2, 3, 0] rfl (hrec _ _ _ h)
def Gr_weighLinks_J42 (rec : Int32 → Int32 → St → Option (St)) (v1 : Int32) (v2 : Int32) (q : St) : Option (St) :=
  Gr_weighLinks_J43 rec v1 v2 (0 : Int32) q
theorem w_Gr_weighLinks_J42 {X : Cv} (C : Cx X cX1_weighLinks RX1 rm_Gr_weighLinks 4) (S : IsK X) {z : St} (hret : RokV X cX1_weighLinks z) (rec : Int32 → Int32 → St → Option (St)) (hrec : ∀ (v1 : Int32) (v2 : Int32) (q : St), rec v1 v2 q = some z → At X 2 [(0, .ref (adOf X 161)), (1, .int v1), (2, .int v2)] [] q) (v1 : Int32) (v2 : Int32) (q : St) (h : Gr_weighLinks_J42 rec v1 v2 q = some z) : At X 42 [(0, .ref (adOf X 161)), (1, .int v1), (2, .int v2)] [] q := by
  unfold Gr_weighLinks_J42 at h
  refine a_iconst (v := 0) C (by decide) dX1_weighLinks_42 ?_
  exact At.sub [0, 1, 2] rfl (w_Gr_weighLinks_J43 C S hret _ hrec _ _ _ _ h)
def Gr_weighLinks_B2 (rec : Int32 → Int32 → St → Option (St)) (v1 : Int32) (v2 : Int32) (q : St) : Option (St) :=
  if (gt q 1 1) ≤ v2 then
    some q
  else
    b1 (rd 32 q 26 v2) fun x2 =>
    if x2 = (0 : Int32) then
      Gr_weighLinks_J42 rec v1 v2 q
    else
      b1 (rd 32 q 25 v2) fun x8 =>
      if x8 < v1 then
        Gr_weighLinks_J42 rec v1 v2 q
      else
        Gr_weighLinks_J43 rec v1 v2 (1 : Int32) q
theorem w_Gr_weighLinks_B2 {X : Cv} (C : Cx X cX1_weighLinks RX1 rm_Gr_weighLinks 4) (S : IsK X) {z : St} (hret : RokV X cX1_weighLinks z) (rec : Int32 → Int32 → St → Option (St)) (hrec : ∀ (v1 : Int32) (v2 : Int32) (q : St), rec v1 v2 q = some z → At X 2 [(0, .ref (adOf X 161)), (1, .int v1), (2, .int v2)] [] q) (v1 : Int32) (v2 : Int32) (q : St) (h : Gr_weighLinks_B2 rec v1 v2 q = some z) : At X 2 [(0, .ref (adOf X 161)), (1, .int v1), (2, .int v2)] [] q := by
  unfold Gr_weighLinks_B2 at h
  refine a_iload_n C 2 rfl rfl dX1_weighLinks_2 ?_
  refine a_aload_n C 0 rfl rfl dX1_weighLinks_3 ?_
  refine gK_1_21 C S dX1_weighLinks_4 ?_
  refine gK_1_60 C S (Or.inl rfl) dX1_weighLinks_7 ?_
  refine a_icmp_ge C 79 (by decide) dX1_weighLinks_10 (fun c1 => ?_) (fun c1 => ?_)
  · replace h := ifp c1 h
    exact a_vret hret h dX1_weighLinks_79
  · replace h := ifn c1 h
    refine a_aload_n C 0 rfl rfl dX1_weighLinks_13 ?_
    refine gK_1_25 C S dX1_weighLinks_14 ?_
    refine gK_1_65 C S (Or.inl rfl) dX1_weighLinks_17 ?_
    refine a_iload_n C 2 rfl rfl dX1_weighLinks_20 ?_
    obtain ⟨x2, e_x2, h⟩ := b1s h
    refine lK_s7 (o := 19) C S (Or.inl rfl) e_x2 dX1_weighLinks_21 ?_
    refine a_if_eq C 42 (by decide) dX1_weighLinks_22 (fun c3 => ?_) (fun c3 => ?_)
    · replace h := ifp c3 h
      exact At.sub [0, 1, 2] rfl (w_Gr_weighLinks_J42 C S hret _ hrec _ _ _ h)
    · replace h := ifn c3 h
      refine a_aload_n C 0 rfl rfl dX1_weighLinks_25 ?_
      refine gK_1_25 C S dX1_weighLinks_26 ?_
      refine gK_1_71 C S (Or.inl rfl) dX1_weighLinks_29 ?_
      refine a_iload_n C 2 rfl rfl dX1_weighLinks_32 ?_
      obtain ⟨x8, e_x8, h⟩ := b1s h
      refine lK_s6 (o := 19) C S (Or.inl rfl) e_x8 dX1_weighLinks_33 ?_
      refine a_iload_n C 1 rfl rfl dX1_weighLinks_34 ?_
      refine a_icmp_lt C 42 (by decide) dX1_weighLinks_35 (fun c9 => ?_) (fun c9 => ?_)
      · replace h := ifp c9 h
        exact At.sub [0, 1, 2] rfl (w_Gr_weighLinks_J42 C S hret _ hrec _ _ _ h)
      · replace h := ifn c9 h
        refine a_iconst (v := 1) C (by decide) dX1_weighLinks_38 ?_
        refine a_goto C 43 (by decide) dX1_weighLinks_39 ?_
        exact At.sub [0, 1, 2] rfl (w_Gr_weighLinks_J43 C S hret _ hrec _ _ _ _ h)
def Gr_weighLinks_L2 : Nat → Int32 → Int32 → St → Option (St)
  | 0, _, _, _ => none
  | n + 1, v1, v2, q => Gr_weighLinks_B2 (Gr_weighLinks_L2 n) v1 v2 q
theorem w_Gr_weighLinks_L2 {X : Cv} (C : Cx X cX1_weighLinks RX1 rm_Gr_weighLinks 4) (S : IsK X) {z : St} (hret : RokV X cX1_weighLinks z) (n : Nat) : ∀ (v1 : Int32) (v2 : Int32) (q : St), Gr_weighLinks_L2 n v1 v2 q = some z → At X 2 [(0, .ref (adOf X 161)), (1, .int v1), (2, .int v2)] [] q := by
  induction n with
  | zero => intro v1 v2 q h; cases h
  | succ n ih => intro v1 v2 q h; exact w_Gr_weighLinks_B2 C S hret _ ih v1 v2 q h
def Gr_weighLinks (q : St) (v1 : Int32) : Option (St) :=
  Gr_weighLinks_L2 FU v1 (0 : Int32) q
theorem w_Gr_weighLinks {X : Cv} (C : Cx X cX1_weighLinks RX1 rm_Gr_weighLinks 4) (S : IsK X) {z : St} (hret : RokV X cX1_weighLinks z) (v1 : Int32) (q : St) (h : Gr_weighLinks q v1 = some z) : At X 0 [(0, .ref (adOf X 161)), (1, .int v1)] [] q := by
  unfold Gr_weighLinks at h
  refine a_iconst (v := 0) C (by decide) dX1_weighLinks_0 ?_
  refine a_istore_n C [(2, .int (0 : Int32)), (0, .ref (adOf X 161)), (1, .int v1)] rfl (by decide) rfl dX1_weighLinks_1 ?_
  exact At.sub [1, 2, 0] rfl (w_Gr_weighLinks_L2 C S hret _ _ _ _ h)
theorem c_Gr_weighLinks {l : Launch} {D : va_G} {I : ClassId × ClassId × ClassId × ClassId} {ad : Nat → Nat} {q : St} {v1 : Int32} {z : St} (h : Gr_weighLinks q v1 = some z) : Ctr l D I (zK ad) 168 (shK I) ad yX1_weighLinks cX1_weighLinks 4 none rm_Gr_weighLinks [.ref (ad 161), .int v1] q none z :=
  ctr_ofV (by decide) (Nat.le_of_ble_eq_true rfl) (fun p e s m args below meth c Q H0 X hX C hret => by subst hX; exact w_Gr_weighLinks C ⟨rfl, rfl, rfl⟩ hret _ _ h)
theorem kK_1_33 {X : Cv} {cc : ByteArray} {rm : Room} {nL1 pc : Nat} {lv : List (Nat × Value)} {sk : List Value} {q : St} {v1 : Int32} {q2 : St} (C : Cx X cc RX1 rm nL1) (S : IsK X) (h : Gr_weighLinks q v1 = some q2) (hz : rm_Gr_weighLinks.frames + 1 ≤ rm.frames ∧ 8 + (4 + 11) + rm_Gr_weighLinks.locals ≤ rm.locals) (hr : (sk.map fun v => v.category).sum ≤ 8) (hd : decode cc pc = .ok (.invokevirtual 33, 3)) (k : At X (pc + 3) lv sk q2) : At X pc lv (.int v1 :: .ref (adOf X 161) :: sk) q := a_callVv (as := [.int v1]) C (kp := 161) (kLt S (by decide)) (by rw [S.2.1]; rfl) rfl (by have hh := c_Gr_weighLinks (l := X.2.1) (D := dOf X) (I := idOf X) (ad := adOf X) h; rw [← S.1, ← S.2.1, ← S.2.2] at hh; exact hh) (gd_V (tg 798 (by decide +kernel) rfl) (tg 800 (by decide +kernel) rfl) (tg 20 (by decide +kernel) rfl) (tg 123 (by decide +kernel) rfl) (tg 801 (by decide +kernel) rfl)) ⟨rfl, rfl, hz.1, hz.2⟩ ⟨by decide, by decide, by show Option.map _ (parseMethodDescriptor yX1_weighLinks.desc) = some 1; decide⟩ hr rfl hd k
abbrev rm_Gr_shorten : Room := { frames := 0, cells := 0, slots := 0, locals := 0 }
def Gr_shorten (q : St) (v1 : Int32) (v2 : Int32) (v3 : Int32) : Option (Int32 × St) :=
  b1 (rd 16 q 28 v2) fun x1 =>
  if x1 = (0 : Int32) then
    b1 (rd 16 q 163 v2) fun x3 =>
    b1 (rd 16 q 163 v1) fun x4 =>
    if (x3 + v3) < x4 then
      b1 (rd 16 q 163 v2) fun x6 =>
      b1 (wr 16 q 163 v1 (x6 + v3)) fun q7 =>
      some ((1 : Int32), q7)
    else
      some ((0 : Int32), q)
  else
    some ((0 : Int32), q)
theorem w_Gr_shorten {X : Cv} (C : Cx X cX1_shorten RX1 rm_Gr_shorten 4) (S : IsK X) {z : Int32 × St} (hret : RokI X cX1_shorten .boolean z.1 z.2) (v1 : Int32) (v2 : Int32) (v3 : Int32) (q : St) (h : Gr_shorten q v1 v2 v3 = some z) : At X 0 [(0, .ref (adOf X 161)), (1, .int v1), (2, .int v2), (3, .int v3)] [] q := by
  unfold Gr_shorten at h
  refine a_aload_n C 0 rfl rfl dX1_shorten_0 ?_
  refine gK_1_25 C S dX1_shorten_1 ?_
  refine gK_1_87 C S (Or.inl rfl) dX1_shorten_4 ?_
  refine a_iload_n C 2 rfl rfl dX1_shorten_7 ?_
  obtain ⟨x1, e_x1, h⟩ := b1s h
  refine lK_s9 (o := 19) C S (Or.inl rfl) e_x1 dX1_shorten_8 ?_
  refine a_if_ne C 29 (by decide) dX1_shorten_9 (fun c2 => ?_) (fun c2 => ?_)
  · replace h := ifn c2 h
    refine a_iconst (v := 0) C (by decide) dX1_shorten_29 ?_
    exact a_iret hret h rfl dX1_shorten_30
  · replace h := ifp c2 h
    refine a_aload_n C 0 rfl rfl dX1_shorten_12 ?_
    refine gK_1_15 C S dX1_shorten_13 ?_
    refine a_iload_n C 2 rfl rfl dX1_shorten_16 ?_
    obtain ⟨x3, e_x3, h⟩ := b1s h
    refine lK_163 C S e_x3 dX1_shorten_17 ?_
    refine a_iload_n C 3 rfl rfl dX1_shorten_18 ?_
    refine a_iadd C dX1_shorten_19 ?_
    refine a_aload_n C 0 rfl rfl dX1_shorten_20 ?_
    refine gK_1_15 C S dX1_shorten_21 ?_
    refine a_iload_n C 1 rfl rfl dX1_shorten_24 ?_
    obtain ⟨x4, e_x4, h⟩ := b1s h
    refine lK_163 C S e_x4 dX1_shorten_25 ?_
    refine a_icmp_lt C 31 (by decide) dX1_shorten_26 (fun c5 => ?_) (fun c5 => ?_)
    · replace h := ifp c5 h
      refine a_aload_n C 0 rfl rfl dX1_shorten_31 ?_
      refine gK_1_15 C S dX1_shorten_32 ?_
      refine a_iload_n C 1 rfl rfl dX1_shorten_35 ?_
      refine a_aload_n C 0 rfl rfl dX1_shorten_36 ?_
      refine gK_1_15 C S dX1_shorten_37 ?_
      refine a_iload_n C 2 rfl rfl dX1_shorten_40 ?_
      obtain ⟨x6, e_x6, h⟩ := b1s h
      refine lK_163 C S e_x6 dX1_shorten_41 ?_
      refine a_iload_n C 3 rfl rfl dX1_shorten_42 ?_
      refine a_iadd C dX1_shorten_43 ?_
      obtain ⟨q7, e_q7, h⟩ := b1s h
      refine sK_163 C S e_q7 dX1_shorten_44 ?_
      refine a_iconst (v := 1) C (by decide) dX1_shorten_45 ?_
      exact a_iret hret h rfl dX1_shorten_46
    · replace h := ifn c5 h
      refine a_iconst (v := 0) C (by decide) dX1_shorten_29 ?_
      exact a_iret hret h rfl dX1_shorten_30
theorem c_Gr_shorten {l : Launch} {D : va_G} {I : ClassId × ClassId × ClassId × ClassId} {ad : Nat → Nat} {q : St} {v1 : Int32} {v2 : Int32} {v3 : Int32} {z : Int32 × St} (h : Gr_shorten q v1 v2 v3 = some z) : Ctr l D I (zK ad) 168 (shK I) ad yX1_shorten cX1_shorten 4 (some .boolean) rm_Gr_shorten [.ref (ad 161), .int v1, .int v2, .int v3] q (some z.1) z.2 :=
  ctr_ofI (by decide) (Nat.le_of_ble_eq_true rfl) (fun p e s m args below meth c Q H0 X hX C hret => by subst hX; exact w_Gr_shorten C ⟨rfl, rfl, rfl⟩ hret _ _ _ _ h)
theorem kK_1_83 {X : Cv} {cc : ByteArray} {rm : Room} {nL1 pc : Nat} {lv : List (Nat × Value)} {sk : List Value} {q : St} {v1 : Int32} {v2 : Int32} {v3 : Int32} {z : Int32} {q2 : St} (C : Cx X cc RX1 rm nL1) (S : IsK X) (h : Gr_shorten q v1 v2 v3 = some (z, q2)) (hz : rm_Gr_shorten.frames + 1 ≤ rm.frames ∧ 8 + (4 + 11) + rm_Gr_shorten.locals ≤ rm.locals) (hr : (sk.map fun v => v.category).sum ≤ 8) (hd : decode cc pc = .ok (.invokevirtual 83, 3)) (k : At X (pc + 3) lv (.int z :: sk) q2) : At X pc lv (.int v3 :: .int v2 :: .int v1 :: .ref (adOf X 161) :: sk) q := a_callVi (as := [.int v1, .int v2, .int v3]) C (kp := 161) (kLt S (by decide)) (by rw [S.2.1]; rfl) rfl (by have hh := c_Gr_shorten (l := X.2.1) (D := dOf X) (I := idOf X) (ad := adOf X) h; rw [← S.1, ← S.2.1, ← S.2.2] at hh; exact hh) (gd_V (tg 808 (by decide +kernel) rfl) (tg 810 (by decide +kernel) rfl) (tg 22 (by decide +kernel) rfl) (tg 123 (by decide +kernel) rfl) (tg 811 (by decide +kernel) rfl)) ⟨rfl, rfl, hz.1, hz.2⟩ ⟨by decide, by decide, by show Option.map _ (parseMethodDescriptor yX1_shorten.desc) = some 3; decide⟩ hr rfl hd k
