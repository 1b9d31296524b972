abbrev rm_Sp_subtree : Room := { frames := 1, cells := 0, slots := 0, locals := 24 }
def Sp_subtree_B4 (q : St) (rec : Int32 → Int32 → Int32 → Option (Int32)) (v1 : Int32) (v2 : Int32) (v3 : Int32) : Option (Int32) :=
  if (gt q 1 0) ≤ v3 then
    some v2
  else
    b1 (rd 16 q 28 v3) fun x2 =>
    if x2 = (0 : Int32) then
      rec v1 v2 (v3 + 1)
    else
      b1 (Sp_nodesUp q v3) fun x4 =>
      if ((x4 >>> (v1 &&& 31)) &&& (1 : Int32)) = (1 : Int32) then
        lt_ (v2 ||| ((1 : Int32) <<< (v3 &&& 31))) fun w6 =>
        rec v1 w6 (v3 + 1)
      else
        rec v1 v2 (v3 + 1)
theorem w_Sp_subtree_B4 {X : Cv} (C : Cx X cX6_subtree RX6 rm_Sp_subtree 4) (S : IsK X) (q : St) {z : Int32} (hret : RokI X cX6_subtree .int z q) (rec : Int32 → Int32 → Int32 → Option (Int32)) (hrec : ∀ (v1 : Int32) (v2 : Int32) (v3 : Int32), rec v1 v2 v3 = some z → At X 4 [(0, .ref (adOf X 156)), (1, .int v1), (2, .int v2), (3, .int v3)] [] q) (v1 : Int32) (v2 : Int32) (v3 : Int32) (h : Sp_subtree_B4 q rec v1 v2 v3 = some z) : At X 4 [(0, .ref (adOf X 156)), (1, .int v1), (2, .int v2), (3, .int v3)] [] q := by
  unfold Sp_subtree_B4 at h
  refine a_iload_n C 3 rfl rfl dX6_subtree_4 ?_
  refine a_aload_n C 0 rfl rfl dX6_subtree_5 ?_
  refine gK_6_9 C S dX6_subtree_6 ?_
  refine gK_6_33 C S (Or.inl rfl) dX6_subtree_9 ?_
  refine a_icmp_ge C 52 (by decide) dX6_subtree_12 (fun c1 => ?_) (fun c1 => ?_)
  · replace h := ifp c1 h
    refine a_iload_n C 2 rfl rfl dX6_subtree_52 ?_
    exact a_iretR hret h rfl dX6_subtree_53
  · replace h := ifn c1 h
    refine a_aload_n C 0 rfl rfl dX6_subtree_15 ?_
    refine gK_6_15 C S dX6_subtree_16 ?_
    refine gK_6_59 C S (Or.inl rfl) dX6_subtree_19 ?_
    refine a_iload_n C 3 rfl rfl dX6_subtree_22 ?_
    obtain ⟨x2, e_x2, h⟩ := b1s h
    refine lK_s9 (o := 19) C S (Or.inl rfl) e_x2 dX6_subtree_23 ?_
    refine a_if_eq C 46 (by decide) dX6_subtree_24 (fun c3 => ?_) (fun c3 => ?_)
    · replace h := ifp c3 h
      refine a_iinc (v := (v3 + 1)) C [(3, .int (v3 + 1)), (0, .ref (adOf X 156)), (1, .int v1), (2, .int v2)] 3 rfl (congrArg (HAdd.hAdd v3) (by decide : Int32.ofInt (1) = (1 : Int32))) (by decide) rfl dX6_subtree_46 ?_
      refine a_goto C 4 (by decide) dX6_subtree_49 ?_
      exact At.sub [1, 2, 3, 0] rfl (hrec _ _ _ h)
    · replace h := ifn c3 h
      refine a_aload_n C 0 rfl rfl dX6_subtree_27 ?_
      refine a_iload_n C 3 rfl rfl dX6_subtree_28 ?_
      obtain ⟨x4, e_x4, h⟩ := b1s h
      refine kK_6_56 C S e_x4 ⟨(Nat.le_of_ble_eq_true rfl), (Nat.le_of_ble_eq_true rfl)⟩ (Nat.le_of_ble_eq_true rfl) dX6_subtree_29 ?_
      refine a_iload_n C 1 rfl rfl dX6_subtree_32 ?_
      refine a_ishr C dX6_subtree_33 ?_
      refine a_iconst (v := 1) C (by decide) dX6_subtree_34 ?_
      refine a_iand C dX6_subtree_35 ?_
      refine a_iconst (v := 1) C (by decide) dX6_subtree_36 ?_
      refine a_icmp_ne C 46 (by decide) dX6_subtree_37 (fun c5 => ?_) (fun c5 => ?_)
      · replace h := ifn c5 h
        refine a_iinc (v := (v3 + 1)) C [(3, .int (v3 + 1)), (0, .ref (adOf X 156)), (1, .int v1), (2, .int v2)] 3 rfl (congrArg (HAdd.hAdd v3) (by decide : Int32.ofInt (1) = (1 : Int32))) (by decide) rfl dX6_subtree_46 ?_
        refine a_goto C 4 (by decide) dX6_subtree_49 ?_
        exact At.sub [1, 2, 3, 0] rfl (hrec _ _ _ h)
      · replace h := ifp c5 h
        refine a_iload_n C 2 rfl rfl dX6_subtree_40 ?_
        refine a_iconst (v := 1) C (by decide) dX6_subtree_41 ?_
        refine a_iload_n C 3 rfl rfl dX6_subtree_42 ?_
        refine a_ishl C dX6_subtree_43 ?_
        refine a_ior C dX6_subtree_44 ?_
        obtain ⟨w6, e_w6, h⟩ := lts h
        refine a_top e_w6 ?_
        refine a_istore_n C [(2, .int w6), (0, .ref (adOf X 156)), (1, .int v1), (3, .int v3)] rfl (by decide) rfl dX6_subtree_45 ?_
        refine a_iinc (v := (v3 + 1)) C [(3, .int (v3 + 1)), (2, .int w6), (0, .ref (adOf X 156)), (1, .int v1)] 3 rfl (congrArg (HAdd.hAdd v3) (by decide : Int32.ofInt (1) = (1 : Int32))) (by decide) rfl dX6_subtree_46 ?_
        refine a_goto C 4 (by decide) dX6_subtree_49 ?_
        exact At.sub [2, 3, 1, 0] rfl (hrec _ _ _ h)
def Sp_subtree_L4 (q : St) : Nat → Int32 → Int32 → Int32 → Option (Int32)
  | 0, _, _, _ => none
  | n + 1, v1, v2, v3 => Sp_subtree_B4 q (Sp_subtree_L4 q n) v1 v2 v3
theorem w_Sp_subtree_L4 {X : Cv} (C : Cx X cX6_subtree RX6 rm_Sp_subtree 4) (S : IsK X) (q : St) {z : Int32} (hret : RokI X cX6_subtree .int z q) (n : Nat) : ∀ (v1 : Int32) (v2 : Int32) (v3 : Int32), Sp_subtree_L4 q n v1 v2 v3 = some z → At X 4 [(0, .ref (adOf X 156)), (1, .int v1), (2, .int v2), (3, .int v3)] [] q := by
  induction n with
  | zero => intro v1 v2 v3 h; cases h
  | succ n ih => intro v1 v2 v3 h; exact w_Sp_subtree_B4 C S _ hret _ ih v1 v2 v3 h
def Sp_subtree (q : St) (v1 : Int32) : Option (Int32) :=
  Sp_subtree_L4 q FU v1 (0 : Int32) (0 : Int32)
theorem w_Sp_subtree {X : Cv} (C : Cx X cX6_subtree RX6 rm_Sp_subtree 4) (S : IsK X) {q : St} {z : Int32} (hret : RokI X cX6_subtree .int z q) (v1 : Int32) (h : Sp_subtree q v1 = some z) : At X 0 [(0, .ref (adOf X 156)), (1, .int v1)] [] q := by
  unfold Sp_subtree at h
  refine a_iconst (v := 0) C (by decide) dX6_subtree_0 ?_
  refine a_istore_n C [(2, .int (0 : Int32)), (0, .ref (adOf X 156)), (1, .int v1)] rfl (by decide) rfl dX6_subtree_1 ?_
  refine a_iconst (v := 0) C (by decide) dX6_subtree_2 ?_
  refine a_istore_n C [(3, .int (0 : Int32)), (2, .int (0 : Int32)), (0, .ref (adOf X 156)), (1, .int v1)] rfl (by decide) rfl dX6_subtree_3 ?_
  exact At.sub [2, 3, 1, 0] rfl (w_Sp_subtree_L4 C S _ hret _ _ _ _ h)
theorem c_Sp_subtree {l : Launch} {D : va_G} {I : ClassId × ClassId × ClassId × ClassId} {ad : Nat → Nat} {q : St} {v1 : Int32} {z : Int32} (h : Sp_subtree q v1 = some z) : Ctr l D I (zK ad) 168 (shK I) ad yX6_subtree cX6_subtree 4 (some .int) rm_Sp_subtree [.ref (ad 156), .int v1] q (some z) q :=
  ctr_ofI (by decide) (Nat.le_of_ble_eq_true rfl) (fun p e s m args below meth c Q H0 X hX C hret => by subst hX; exact w_Sp_subtree C ⟨rfl, rfl, rfl⟩ hret _ h)
theorem kK_9_121 {X : Cv} {cc : ByteArray} {rm : Room} {nL1 pc : Nat} {lv : List (Nat × Value)} {sk : List Value} {q : St} {v1 : Int32} {z : Int32} (C : Cx X cc RX9 rm nL1) (S : IsK X) (h : Sp_subtree q v1 = some z) (hz : rm_Sp_subtree.frames + 1 ≤ rm.frames ∧ 8 + (4 + 11) + rm_Sp_subtree.locals ≤ rm.locals) (hr : (sk.map fun v => v.category).sum ≤ 8) (hd : decode cc pc = .ok (.invokevirtual 121, 3)) (k : At X (pc + 3) lv (.int z :: sk) q) : At X pc lv (.int v1 :: .ref (adOf X 156) :: sk) q := a_callVi (as := [.int v1]) C (kp := 156) (kLt S (by decide)) (by rw [S.2.1]; rfl) rfl (by have hh := c_Sp_subtree (l := X.2.1) (D := dOf X) (I := idOf X) (ad := adOf X) h; rw [← S.1, ← S.2.1, ← S.2.2] at hh; exact hh) (gd_V (tg 996 (by decide +kernel) rfl) (tg 997 (by decide +kernel) rfl) (tg 998 (by decide +kernel) rfl) (tg 121 (by decide +kernel) rfl) (tg 999 (by decide +kernel) rfl)) ⟨rfl, rfl, hz.1, hz.2⟩ ⟨by decide, by decide, by show Option.map _ (parseMethodDescriptor yX6_subtree.desc) = some 1; decide⟩ hr rfl hd k
theorem kK_10_270 {X : Cv} {cc : ByteArray} {rm : Room} {nL1 pc : Nat} {lv : List (Nat × Value)} {sk : List Value} {q : St} {v1 : Int32} {z : Int32} (C : Cx X cc RX10 rm nL1) (S : IsK X) (h : Sp_subtree q v1 = some z) (hz : rm_Sp_subtree.frames + 1 ≤ rm.frames ∧ 8 + (4 + 11) + rm_Sp_subtree.locals ≤ rm.locals) (hr : (sk.map fun v => v.category).sum ≤ 8) (hd : decode cc pc = .ok (.invokevirtual 270, 3)) (k : At X (pc + 3) lv (.int z :: sk) q) : At X pc lv (.int v1 :: .ref (adOf X 156) :: sk) q := a_callVi (as := [.int v1]) C (kp := 156) (kLt S (by decide)) (by rw [S.2.1]; rfl) rfl (by have hh := c_Sp_subtree (l := X.2.1) (D := dOf X) (I := idOf X) (ad := adOf X) h; rw [← S.1, ← S.2.1, ← S.2.2] at hh; exact hh) (gd_V (tg 1091 (by decide +kernel) rfl) (tg 997 (by decide +kernel) rfl) (tg 998 (by decide +kernel) rfl) (tg 121 (by decide +kernel) rfl) (tg 999 (by decide +kernel) rfl)) ⟨rfl, rfl, hz.1, hz.2⟩ ⟨by decide, by decide, by show Option.map _ (parseMethodDescriptor yX6_subtree.desc) = some 1; decide⟩ hr rfl hd k
abbrev rm_Tr_cutAt : Room := { frames := 2, cells := 0, slots := 0, locals := 47 }
def Tr_cutAt_B30 (rec : Int32 → Int32 → Int32 → St → Option (Int32 × St)) (v3 : Int32) (v4 : Int32) (v5 : Int32) (q : St) : Option (Int32 × St) :=
  if (gt q 19 0) ≤ v5 then
    some (v4, q)
  else
    b1 (rd 21 q 23 v5) fun x5 =>
    if x5 ≤ (0 : Int32) then
      rec v3 v4 (v5 + 1) q
    else
      b1 (rd 21 q 20 v5) fun x7 =>
      if ((v3 >>> (x7 &&& 31)) &&& (1 : Int32)) = (1 : Int32) then
        lt_ (v4 ||| ((1 : Int32) <<< (v5 &&& 31))) fun w9 =>
        b1 (wr 21 q 23 v5 (0 : Int32)) fun q10 =>
        rec v3 w9 (v5 + 1) q10
      else
        rec v3 v4 (v5 + 1) q
theorem w_Tr_cutAt_B30 {X : Cv} (C : Cx X cX9_cutAt RX9 rm_Tr_cutAt 6) (S : IsK X) {z : Int32 × St} (hret : RokI X cX9_cutAt .int z.1 z.2) (rec : Int32 → Int32 → Int32 → St → Option (Int32 × St)) (hrec : ∀ (v3 : Int32) (v4 : Int32) (v5 : Int32) (q : St), rec v3 v4 v5 q = some z → At X 30 [(0, .ref (adOf X 165)), (3, .int v3), (4, .int v4), (5, .int v5)] [] q) (v3 : Int32) (v4 : Int32) (v5 : Int32) (q : St) (h : Tr_cutAt_B30 rec v3 v4 v5 q = some z) : At X 30 [(0, .ref (adOf X 165)), (3, .int v3), (4, .int v4), (5, .int v5)] [] q := by
  unfold Tr_cutAt_B30 at h
  refine a_iload C 3 rfl dX9_cutAt_30 ?_
  refine a_aload_n C 0 rfl rfl dX9_cutAt_32 ?_
  refine gK_9_15 C S dX9_cutAt_33 ?_
  refine gK_9_83 C S (Or.inl rfl) dX9_cutAt_36 ?_
  refine a_icmp_ge C 99 (by decide) dX9_cutAt_39 (fun c4 => ?_) (fun c4 => ?_)
  · replace h := ifp c4 h
    refine a_iload C 2 rfl dX9_cutAt_99 ?_
    exact a_iret hret h rfl dX9_cutAt_101
  · replace h := ifn c4 h
    refine a_aload_n C 0 rfl rfl dX9_cutAt_42 ?_
    refine gK_9_15 C S dX9_cutAt_43 ?_
    refine gK_9_44 C S (Or.inl rfl) dX9_cutAt_46 ?_
    refine a_iload C 3 rfl dX9_cutAt_49 ?_
    obtain ⟨x5, e_x5, h⟩ := b1s h
    refine lK_s4 (o := 19) C S (Or.inl rfl) e_x5 dX9_cutAt_51 ?_
    refine a_if_le C 93 (by decide) dX9_cutAt_52 (fun c6 => ?_) (fun c6 => ?_)
    · replace h := ifp c6 h
      refine a_iinc (v := (v5 + 1)) C [(5, .int (v5 + 1)), (0, .ref (adOf X 165)), (3, .int v3), (4, .int v4)] 3 rfl (congrArg (HAdd.hAdd v5) (by decide : Int32.ofInt (1) = (1 : Int32))) (by decide) rfl dX9_cutAt_93 ?_
      refine a_goto C 30 (by decide) dX9_cutAt_96 ?_
      exact At.sub [1, 2, 3, 0] rfl (hrec _ _ _ _ h)
    · replace h := ifn c6 h
      refine a_iload_n C 1 rfl rfl dX9_cutAt_55 ?_
      refine a_aload_n C 0 rfl rfl dX9_cutAt_56 ?_
      refine gK_9_15 C S dX9_cutAt_57 ?_
      refine gK_9_41 C S (Or.inl rfl) dX9_cutAt_60 ?_
      refine a_iload C 3 rfl dX9_cutAt_63 ?_
      obtain ⟨x7, e_x7, h⟩ := b1s h
      refine lK_s1 (o := 19) C S (Or.inl rfl) e_x7 dX9_cutAt_65 ?_
      refine a_ishr C dX9_cutAt_66 ?_
      refine a_iconst (v := 1) C (by decide) dX9_cutAt_67 ?_
      refine a_iand C dX9_cutAt_68 ?_
      refine a_iconst (v := 1) C (by decide) dX9_cutAt_69 ?_
      refine a_icmp_ne C 93 (by decide) dX9_cutAt_70 (fun c8 => ?_) (fun c8 => ?_)
      · replace h := ifn c8 h
        refine a_iinc (v := (v5 + 1)) C [(5, .int (v5 + 1)), (0, .ref (adOf X 165)), (3, .int v3), (4, .int v4)] 3 rfl (congrArg (HAdd.hAdd v5) (by decide : Int32.ofInt (1) = (1 : Int32))) (by decide) rfl dX9_cutAt_93 ?_
        refine a_goto C 30 (by decide) dX9_cutAt_96 ?_
        exact At.sub [1, 2, 3, 0] rfl (hrec _ _ _ _ h)
      · replace h := ifp c8 h
        refine a_iload C 2 rfl dX9_cutAt_73 ?_
        refine a_iconst (v := 1) C (by decide) dX9_cutAt_75 ?_
        refine a_iload C 3 rfl dX9_cutAt_76 ?_
        refine a_ishl C dX9_cutAt_78 ?_
        refine a_ior C dX9_cutAt_79 ?_
        obtain ⟨w9, e_w9, h⟩ := lts h
        refine a_top e_w9 ?_
        refine a_istore C [(4, .int w9), (0, .ref (adOf X 165)), (3, .int v3), (5, .int v5)] (by decide) rfl dX9_cutAt_80 ?_
        refine a_aload_n C 1 rfl rfl dX9_cutAt_82 ?_
        refine gK_9_15 C S dX9_cutAt_83 ?_
        refine gK_9_44 C S (Or.inl rfl) dX9_cutAt_86 ?_
        refine a_iload C 3 rfl dX9_cutAt_89 ?_
        refine a_iconst (v := 0) C (by decide) dX9_cutAt_91 ?_
        obtain ⟨q10, e_q10, h⟩ := b1s h
        refine sK_s4 (o := 19) C S (Or.inl rfl) e_q10 dX9_cutAt_92 ?_
        refine a_iinc (v := (v5 + 1)) C [(5, .int (v5 + 1)), (4, .int w9), (0, .ref (adOf X 165)), (3, .int v3)] 3 rfl (congrArg (HAdd.hAdd v5) (by decide : Int32.ofInt (1) = (1 : Int32))) (by decide) rfl dX9_cutAt_93 ?_
        refine a_goto C 30 (by decide) dX9_cutAt_96 ?_
        exact At.sub [2, 3, 1, 0] rfl (hrec _ _ _ _ h)
def Tr_cutAt_L30 : Nat → Int32 → Int32 → Int32 → St → Option (Int32 × St)
  | 0, _, _, _, _ => none
  | n + 1, v3, v4, v5, q => Tr_cutAt_B30 (Tr_cutAt_L30 n) v3 v4 v5 q
theorem w_Tr_cutAt_L30 {X : Cv} (C : Cx X cX9_cutAt RX9 rm_Tr_cutAt 6) (S : IsK X) {z : Int32 × St} (hret : RokI X cX9_cutAt .int z.1 z.2) (n : Nat) : ∀ (v3 : Int32) (v4 : Int32) (v5 : Int32) (q : St), Tr_cutAt_L30 n v3 v4 v5 q = some z → At X 30 [(0, .ref (adOf X 165)), (3, .int v3), (4, .int v4), (5, .int v5)] [] q := by
  induction n with
  | zero => intro v3 v4 v5 q h; cases h
  | succ n ih => intro v3 v4 v5 q h; exact w_Tr_cutAt_B30 C S hret _ ih v3 v4 v5 q h
def Tr_cutAt (q : St) (v1 : Int32) : Option (Int32 × St) :=
  b1 (Tr_lowerEnd q v1) fun x1 =>
  if x1 = (-1 : Int32) then
    Tr_cutAt_L30 FU (0 : Int32) (0 : Int32) (0 : Int32) q
  else
    b1 (Sp_subtree q x1) fun x3 =>
    Tr_cutAt_L30 FU x3 (0 : Int32) (0 : Int32) q
theorem w_Tr_cutAt {X : Cv} (C : Cx X cX9_cutAt RX9 rm_Tr_cutAt 6) (S : IsK X) {z : Int32 × St} (hret : RokI X cX9_cutAt .int z.1 z.2) (v1 : Int32) (q : St) (h : Tr_cutAt q v1 = some z) : At X 0 [(0, .ref (adOf X 165)), (1, .int v1)] [] q := by
  unfold Tr_cutAt at h
  refine a_aload_n C 0 rfl rfl dX9_cutAt_0 ?_
  refine a_iload_n C 1 rfl rfl dX9_cutAt_1 ?_
  obtain ⟨x1, e_x1, h⟩ := b1s h
  refine kK_9_118 C S e_x1 ⟨(Nat.le_of_ble_eq_true rfl), (Nat.le_of_ble_eq_true rfl)⟩ (Nat.le_of_ble_eq_true rfl) dX9_cutAt_2 ?_
  refine a_istore_n C [(2, .int x1), (0, .ref (adOf X 165)), (1, .int v1)] rfl (by decide) rfl dX9_cutAt_5 ?_
  refine a_iload_n C 0 rfl rfl dX9_cutAt_6 ?_
  refine a_iconst (v := -1) C (by decide) dX9_cutAt_7 ?_
  refine a_icmp_ne C 15 (by decide) dX9_cutAt_8 (fun c2 => ?_) (fun c2 => ?_)
  · replace h := ifn c2 h
    refine a_aload_n C 1 rfl rfl dX9_cutAt_15 ?_
    refine gK_9_19 C S dX9_cutAt_16 ?_
    refine a_iload_n C 0 rfl rfl dX9_cutAt_19 ?_
    obtain ⟨x3, e_x3, h⟩ := b1s h
    refine kK_9_121 C S e_x3 ⟨(Nat.le_of_ble_eq_true rfl), (Nat.le_of_ble_eq_true rfl)⟩ (Nat.le_of_ble_eq_true rfl) dX9_cutAt_20 ?_
    refine a_istore_n C [(3, .int x3), (2, .int x1), (0, .ref (adOf X 165)), (1, .int v1)] rfl (by decide) rfl dX9_cutAt_23 ?_
    refine a_iconst (v := 0) C (by decide) dX9_cutAt_24 ?_
    refine a_istore C [(4, .int (0 : Int32)), (3, .int x3), (2, .int x1), (0, .ref (adOf X 165)), (1, .int v1)] (by decide) rfl dX9_cutAt_25 ?_
    refine a_iconst (v := 0) C (by decide) dX9_cutAt_27 ?_
    refine a_istore C [(5, .int (0 : Int32)), (4, .int (0 : Int32)), (3, .int x3), (2, .int x1), (0, .ref (adOf X 165)), (1, .int v1)] (by decide) rfl dX9_cutAt_28 ?_
    exact At.sub [4, 2, 1, 0] rfl (w_Tr_cutAt_L30 C S hret _ _ _ _ _ h)
  · replace h := ifp c2 h
    refine a_iconst (v := 0) C (by decide) dX9_cutAt_11 ?_
    refine a_goto C 23 (by decide) dX9_cutAt_12 ?_
    refine a_istore_n C [(3, .int (0 : Int32)), (2, .int x1), (0, .ref (adOf X 165)), (1, .int v1)] rfl (by decide) rfl dX9_cutAt_23 ?_
    refine a_iconst (v := 0) C (by decide) dX9_cutAt_24 ?_
    refine a_istore C [(4, .int (0 : Int32)), (3, .int (0 : Int32)), (2, .int x1), (0, .ref (adOf X 165)), (1, .int v1)] (by decide) rfl dX9_cutAt_25 ?_
    refine a_iconst (v := 0) C (by decide) dX9_cutAt_27 ?_
    refine a_istore C [(5, .int (0 : Int32)), (4, .int (0 : Int32)), (3, .int (0 : Int32)), (2, .int x1), (0, .ref (adOf X 165)), (1, .int v1)] (by decide) rfl dX9_cutAt_28 ?_
    exact At.sub [4, 2, 1, 0] rfl (w_Tr_cutAt_L30 C S hret _ _ _ _ _ h)
theorem c_Tr_cutAt {l : Launch} {D : va_G} {I : ClassId × ClassId × ClassId × ClassId} {ad : Nat → Nat} {q : St} {v1 : Int32} {z : Int32 × St} (h : Tr_cutAt q v1 = some z) : Ctr l D I (zK ad) 168 (shK I) ad yX9_cutAt cX9_cutAt 6 (some .int) rm_Tr_cutAt [.ref (ad 165), .int v1] q (some z.1) z.2 :=
  ctr_ofI (by decide) (Nat.le_of_ble_eq_true rfl) (fun p e s m args below meth c Q H0 X hX C hret => by subst hX; exact w_Tr_cutAt C ⟨rfl, rfl, rfl⟩ hret _ _ h)
theorem kK_9_110 {X : Cv} {cc : ByteArray} {rm : Room} {nL1 pc : Nat} {lv : List (Nat × Value)} {sk : List Value} {q : St} {v1 : Int32} {z : Int32} {q2 : St} (C : Cx X cc RX9 rm nL1) (S : IsK X) (h : Tr_cutAt q v1 = some (z, q2)) (hz : rm_Tr_cutAt.frames + 1 ≤ rm.frames ∧ 8 + (6 + 11) + rm_Tr_cutAt.locals ≤ rm.locals) (hr : (sk.map fun v => v.category).sum ≤ 8) (hd : decode cc pc = .ok (.invokevirtual 110, 3)) (k : At X (pc + 3) lv (.int z :: sk) q2) : At X pc lv (.int v1 :: .ref (adOf X 165) :: sk) q := a_callVi (as := [.int v1]) C (kp := 165) (kLt S (by decide)) (by rw [S.2.1]; rfl) rfl (by have hh := c_Tr_cutAt (l := X.2.1) (D := dOf X) (I := idOf X) (ad := adOf X) h; rw [← S.1, ← S.2.1, ← S.2.2] at hh; exact hh) (gd_V (tg 992 (by decide +kernel) rfl) (tg 994 (by decide +kernel) rfl) (tg 38 (by decide +kernel) rfl) (tg 124 (by decide +kernel) rfl) (tg 995 (by decide +kernel) rfl)) ⟨rfl, rfl, hz.1, hz.2⟩ ⟨by decide, by decide, by show Option.map _ (parseMethodDescriptor yX9_cutAt.desc) = some 1; decide⟩ hr rfl hd k
abbrev rm_Tr_closeLink : Room := { frames := 5, cells := 0, slots := 0, locals := 122 }
def Tr_closeLink_B34 (k : Int32 → St → Option (Int32 × St)) (rec : Int32 → Int32 → Int32 → St → Option (Int32 × St)) (v2 : Int32) (v3 : Int32) (v4 : Int32) (q : St) : Option (Int32 × St) :=
  if (gt q 19 0) ≤ v4 then
    k v2 q
  else
    if ((v3 >>> (v4 &&& 31)) &&& (1 : Int32)) = (1 : Int32) then
      b2 (Tr_join q v4) fun x8 q9 =>
      rec v2 v3 (v4 + 1) q9
    else
      rec v2 v3 (v4 + 1) q
theorem w_Tr_closeLink_B34 {X : Cv} (C : Cx X cX9_closeLink RX9 rm_Tr_closeLink 5) (S : IsK X) {z : Int32 × St} (hret : RokI X cX9_closeLink .int z.1 z.2) (k : Int32 → St → Option (Int32 × St)) (hk : ∀ (v2 : Int32) (q : St), k v2 q = some z → At X 69 [(0, .ref (adOf X 165)), (2, .int v2)] [] q) (rec : Int32 → Int32 → Int32 → St → Option (Int32 × St)) (hrec : ∀ (v2 : Int32) (v3 : Int32) (v4 : Int32) (q : St), rec v2 v3 v4 q = some z → At X 34 [(0, .ref (adOf X 165)), (2, .int v2), (3, .int v3), (4, .int v4)] [] q) (v2 : Int32) (v3 : Int32) (v4 : Int32) (q : St) (h : Tr_closeLink_B34 k rec v2 v3 v4 q = some z) : At X 34 [(0, .ref (adOf X 165)), (2, .int v2), (3, .int v3), (4, .int v4)] [] q := by
  unfold Tr_closeLink_B34 at h
  refine a_iload C 3 rfl dX9_closeLink_34 ?_
  refine a_aload_n C 0 rfl rfl dX9_closeLink_36 ?_
  refine gK_9_15 C S dX9_closeLink_37 ?_
  refine gK_9_83 C S (Or.inl rfl) dX9_closeLink_40 ?_
  refine a_icmp_ge C 69 (by decide) dX9_closeLink_43 (fun c6 => ?_) (fun c6 => ?_)
  · replace h := ifp c6 h
    exact At.sub [0, 1] rfl (hk _ _ h)
  · replace h := ifn c6 h
    refine a_iload_n C 2 rfl rfl dX9_closeLink_46 ?_
    refine a_iload C 3 rfl dX9_closeLink_47 ?_
    refine a_ishr C dX9_closeLink_49 ?_
    refine a_iconst (v := 1) C (by decide) dX9_closeLink_50 ?_
    refine a_iand C dX9_closeLink_51 ?_
    refine a_iconst (v := 1) C (by decide) dX9_closeLink_52 ?_
    refine a_icmp_ne C 63 (by decide) dX9_closeLink_53 (fun c7 => ?_) (fun c7 => ?_)
    · replace h := ifn c7 h
      refine a_iinc (v := (v4 + 1)) C [(4, .int (v4 + 1)), (0, .ref (adOf X 165)), (2, .int v2), (3, .int v3)] 3 rfl (congrArg (HAdd.hAdd v4) (by decide : Int32.ofInt (1) = (1 : Int32))) (by decide) rfl dX9_closeLink_63 ?_
      refine a_goto C 34 (by decide) dX9_closeLink_66 ?_
      exact At.sub [1, 2, 3, 0] rfl (hrec _ _ _ _ h)
    · replace h := ifp c7 h
      refine a_aload_n C 0 rfl rfl dX9_closeLink_56 ?_
      refine a_iload C 3 rfl dX9_closeLink_57 ?_
      obtain ⟨x8, q9, e_q9, h⟩ := b2s h
      refine kK_9_103 C S e_q9 ⟨(Nat.le_of_ble_eq_true rfl), (Nat.le_of_ble_eq_true rfl)⟩ (Nat.le_of_ble_eq_true rfl) dX9_closeLink_59 ?_
      refine a_pop C rfl dX9_closeLink_62 ?_
      refine a_iinc (v := (v4 + 1)) C [(4, .int (v4 + 1)), (0, .ref (adOf X 165)), (2, .int v2), (3, .int v3)] 3 rfl (congrArg (HAdd.hAdd v4) (by decide : Int32.ofInt (1) = (1 : Int32))) (by decide) rfl dX9_closeLink_63 ?_
      refine a_goto C 34 (by decide) dX9_closeLink_66 ?_
      exact At.sub [1, 2, 3, 0] rfl (hrec _ _ _ _ h)
def Tr_closeLink_L34 (k : Int32 → St → Option (Int32 × St)) : Nat → Int32 → Int32 → Int32 → St → Option (Int32 × St)
  | 0, _, _, _, _ => none
  | n + 1, v2, v3, v4, q => Tr_closeLink_B34 k (Tr_closeLink_L34 k n) v2 v3 v4 q
theorem w_Tr_closeLink_L34 {X : Cv} (C : Cx X cX9_closeLink RX9 rm_Tr_closeLink 5) (S : IsK X) {z : Int32 × St} (hret : RokI X cX9_closeLink .int z.1 z.2) (k : Int32 → St → Option (Int32 × St)) (hk : ∀ (v2 : Int32) (q : St), k v2 q = some z → At X 69 [(0, .ref (adOf X 165)), (2, .int v2)] [] q) (n : Nat) : ∀ (v2 : Int32) (v3 : Int32) (v4 : Int32) (q : St), Tr_closeLink_L34 k n v2 v3 v4 q = some z → At X 34 [(0, .ref (adOf X 165)), (2, .int v2), (3, .int v3), (4, .int v4)] [] q := by
  induction n with
  | zero => intro v2 v3 v4 q h; cases h
  | succ n ih => intro v2 v3 v4 q h; exact w_Tr_closeLink_B34 C S hret k hk _ ih v2 v3 v4 q h
def Tr_closeLink (q : St) (v1 : Int32) : Option (Int32 × St) :=
  b1 (Ss_levelSum q) fun x1 =>
  b1 (wr 32 q 26 v1 (vp_nar .boolean (0 : Int32))) fun q2 =>
  b2 (Tr_cutAt q2 v1) fun x3 q4 =>
  b1 (Sp_prune q4) fun q5 =>
  Tr_closeLink_L34 (fun y10 q11 =>
    b1 (Ss_levelSum q11) fun x12 =>
    some ((y10 - x12), q11)
    ) FU x1 x3 (0 : Int32) q5
theorem w_Tr_closeLink {X : Cv} (C : Cx X cX9_closeLink RX9 rm_Tr_closeLink 5) (S : IsK X) {z : Int32 × St} (hret : RokI X cX9_closeLink .int z.1 z.2) (v1 : Int32) (q : St) (h : Tr_closeLink q v1 = some z) : At X 0 [(0, .ref (adOf X 165)), (1, .int v1)] [] q := by
  unfold Tr_closeLink at h
  refine a_aload_n C 0 rfl rfl dX9_closeLink_0 ?_
  refine gK_9_15 C S dX9_closeLink_1 ?_
  obtain ⟨x1, e_x1, h⟩ := b1s h
  refine kK_9_90 C S e_x1 ⟨(Nat.le_of_ble_eq_true rfl), (Nat.le_of_ble_eq_true rfl)⟩ (Nat.le_of_ble_eq_true rfl) dX9_closeLink_4 ?_
  refine a_istore_n C [(2, .int x1), (0, .ref (adOf X 165)), (1, .int v1)] rfl (by decide) rfl dX9_closeLink_7 ?_
  refine a_aload_n C 1 rfl rfl dX9_closeLink_8 ?_
  refine gK_9_15 C S dX9_closeLink_9 ?_
  refine gK_9_107 C S (Or.inl rfl) dX9_closeLink_12 ?_
  refine a_iload_n C 2 rfl rfl dX9_closeLink_15 ?_
  refine a_iconst (v := 0) C (by decide) dX9_closeLink_16 ?_
  obtain ⟨q2, e_q2, h⟩ := b1s h
  refine sK_s7 (o := 19) C S (Or.inl rfl) e_q2 dX9_closeLink_17 ?_
  refine a_aload_n C 1 rfl rfl dX9_closeLink_18 ?_
  refine a_iload_n C 2 rfl rfl dX9_closeLink_19 ?_
  obtain ⟨x3, q4, e_q4, h⟩ := b2s h
  refine kK_9_110 C S e_q4 ⟨(Nat.le_of_ble_eq_true rfl), (Nat.le_of_ble_eq_true rfl)⟩ (Nat.le_of_ble_eq_true rfl) dX9_closeLink_20 ?_
  refine a_istore_n C [(3, .int x3), (2, .int x1), (0, .ref (adOf X 165)), (1, .int v1)] rfl (by decide) rfl dX9_closeLink_23 ?_
  refine a_aload_n C 2 rfl rfl dX9_closeLink_24 ?_
  refine gK_9_19 C S dX9_closeLink_25 ?_
  obtain ⟨q5, e_q5, h⟩ := b1s h
  refine kK_9_113 C S e_q5 ⟨(Nat.le_of_ble_eq_true rfl), (Nat.le_of_ble_eq_true rfl)⟩ (Nat.le_of_ble_eq_true rfl) dX9_closeLink_28 ?_
  refine a_iconst (v := 0) C (by decide) dX9_closeLink_31 ?_
  refine a_istore C [(4, .int (0 : Int32)), (3, .int x3), (2, .int x1), (0, .ref (adOf X 165)), (1, .int v1)] (by decide) rfl dX9_closeLink_32 ?_
  refine At.sub [3, 2, 1, 0] rfl (w_Tr_closeLink_L34 C S hret _ ?_ _ _ _ _ _ h)
  intro y10 q11 h
  refine a_iload_n C 1 rfl rfl dX9_closeLink_69 ?_
  refine a_aload_n C 0 rfl rfl dX9_closeLink_70 ?_
  refine gK_9_15 C S dX9_closeLink_71 ?_
  obtain ⟨x12, e_x12, h⟩ := b1s h
  refine kK_9_90 C S e_x12 ⟨(Nat.le_of_ble_eq_true rfl), (Nat.le_of_ble_eq_true rfl)⟩ (Nat.le_of_ble_eq_true rfl) dX9_closeLink_74 ?_
  refine a_isub C dX9_closeLink_77 ?_
  exact a_iret hret h rfl dX9_closeLink_78
theorem c_Tr_closeLink {l : Launch} {D : va_G} {I : ClassId × ClassId × ClassId × ClassId} {ad : Nat → Nat} {q : St} {v1 : Int32} {z : Int32 × St} (h : Tr_closeLink q v1 = some z) : Ctr l D I (zK ad) 168 (shK I) ad yX9_closeLink cX9_closeLink 5 (some .int) rm_Tr_closeLink [.ref (ad 165), .int v1] q (some z.1) z.2 :=
  ctr_ofI (by decide) (Nat.le_of_ble_eq_true rfl) (fun p e s m args below meth c Q H0 X hX C hret => by subst hX; exact w_Tr_closeLink C ⟨rfl, rfl, rfl⟩ hret _ _ h)
theorem kK_10_220 {X : Cv} {cc : ByteArray} {rm : Room} {nL1 pc : Nat} {lv : List (Nat × Value)} {sk : List Value} {q : St} {v1 : Int32} {z : Int32} {q2 : St} (C : Cx X cc RX10 rm nL1) (S : IsK X) (h : Tr_closeLink q v1 = some (z, q2)) (hz : rm_Tr_closeLink.frames + 1 ≤ rm.frames ∧ 8 + (5 + 11) + rm_Tr_closeLink.locals ≤ rm.locals) (hr : (sk.map fun v => v.category).sum ≤ 8) (hd : decode cc pc = .ok (.invokevirtual 220, 3)) (k : At X (pc + 3) lv (.int z :: sk) q2) : At X pc lv (.int v1 :: .ref (adOf X 165) :: sk) q := a_callVi (as := [.int v1]) C (kp := 165) (kLt S (by decide)) (by rw [S.2.1]; rfl) rfl (by have hh := c_Tr_closeLink (l := X.2.1) (D := dOf X) (I := idOf X) (ad := adOf X) h; rw [← S.1, ← S.2.1, ← S.2.2] at hh; exact hh) (gd_V (tg 984 (by decide +kernel) rfl) (tg 985 (by decide +kernel) rfl) (tg 986 (by decide +kernel) rfl) (tg 124 (by decide +kernel) rfl) (tg 987 (by decide +kernel) rfl)) ⟨rfl, rfl, hz.1, hz.2⟩ ⟨by decide, by decide, by show Option.map _ (parseMethodDescriptor yX9_closeLink.desc) = some 1; decide⟩ hr rfl hd k
abbrev rm_K_setOpen : Room := { frames := 6, cells := 0, slots := 0, locals := 146 }
def K_setOpen (q : St) (v1 : Int32) (v2 : Int32) : Option (Int32 × St) :=
  b1 (K_isLink q v1) fun x1 =>
  if x1 = (0 : Int32) then
    some ((-1 : Int32), q)
  else
    b1 (rd 32 q 26 v1) fun x3 =>
    if x3 = v2 then
      some ((-2 : Int32), q)
    else
      b1 (Hi_keep 19 q) fun q5 =>
      if v2 = (0 : Int32) then
        b2 (Tr_closeLink q5 v1) fun x7 q8 =>
        some (x7, q8)
      else
        b1 (wr 32 q5 26 v1 (vp_nar .boolean (1 : Int32))) fun q9 =>
        some ((0 : Int32), q9)
theorem w_K_setOpen {X : Cv} (C : Cx X cX10_setOpen RX10 rm_K_setOpen 3) (S : IsK X) {z : Int32 × St} (hret : RokI X cX10_setOpen .int z.1 z.2) (v1 : Int32) (v2 : Int32) (q : St) (h : K_setOpen q v1 v2 = some z) : At X 0 [(0, .ref (adOf X 0)), (1, .int v1), (2, .int v2)] [] q := by
  unfold K_setOpen at h
  refine a_aload_n C 0 rfl rfl dX10_setOpen_0 ?_
  refine a_iload_n C 1 rfl rfl dX10_setOpen_1 ?_
  obtain ⟨x1, e_x1, h⟩ := b1s h
  refine kK_10_156 C S e_x1 ⟨(Nat.le_of_ble_eq_true rfl), (Nat.le_of_ble_eq_true rfl)⟩ (Nat.le_of_ble_eq_true rfl) dX10_setOpen_2 ?_
  refine a_if_ne C 10 (by decide) dX10_setOpen_5 (fun c2 => ?_) (fun c2 => ?_)
  · replace h := ifn c2 h
    refine a_aload_n C 0 rfl rfl dX10_setOpen_10 ?_
    refine gK_10_22 C S dX10_setOpen_11 ?_
    refine gK_10_162 C S (Or.inl rfl) dX10_setOpen_14 ?_
    refine a_iload_n C 1 rfl rfl dX10_setOpen_17 ?_
    obtain ⟨x3, e_x3, h⟩ := b1s h
    refine lK_s7 (o := 19) C S (Or.inl rfl) e_x3 dX10_setOpen_18 ?_
    refine a_iload_n C 2 rfl rfl dX10_setOpen_19 ?_
    refine a_icmp_ne C 26 (by decide) dX10_setOpen_20 (fun c4 => ?_) (fun c4 => ?_)
    · replace h := ifn c4 h
      refine a_aload_n C 0 rfl rfl dX10_setOpen_26 ?_
      refine gK_10_32 C S dX10_setOpen_27 ?_
      refine a_aload_n C 0 rfl rfl dX10_setOpen_30 ?_
      refine gK_10_22 C S dX10_setOpen_31 ?_
      obtain ⟨q5, e_q5, h⟩ := b1s h
      refine kK_10_169 C S (Or.inl rfl) e_q5 ⟨(Nat.le_of_ble_eq_true rfl), (Nat.le_of_ble_eq_true rfl)⟩ (Nat.le_of_ble_eq_true rfl) dX10_setOpen_34 ?_
      refine a_iload_n C 2 rfl rfl dX10_setOpen_37 ?_
      refine a_if_eq C 53 (by decide) dX10_setOpen_38 (fun c6 => ?_) (fun c6 => ?_)
      · replace h := ifp c6 h
        refine a_aload_n C 0 rfl rfl dX10_setOpen_53 ?_
        refine gK_10_82 C S dX10_setOpen_54 ?_
        refine a_iload_n C 1 rfl rfl dX10_setOpen_57 ?_
        obtain ⟨x7, q8, e_q8, h⟩ := b2s h
        refine kK_10_220 C S e_q8 ⟨(Nat.le_of_ble_eq_true rfl), (Nat.le_of_ble_eq_true rfl)⟩ (Nat.le_of_ble_eq_true rfl) dX10_setOpen_58 ?_
        exact a_iret hret h rfl dX10_setOpen_61
      · replace h := ifn c6 h
        refine a_aload_n C 0 rfl rfl dX10_setOpen_41 ?_
        refine gK_10_22 C S dX10_setOpen_42 ?_
        refine gK_10_162 C S (Or.inl rfl) dX10_setOpen_45 ?_
        refine a_iload_n C 1 rfl rfl dX10_setOpen_48 ?_
        refine a_iconst (v := 1) C (by decide) dX10_setOpen_49 ?_
        obtain ⟨q9, e_q9, h⟩ := b1s h
        refine sK_s7 (o := 19) C S (Or.inl rfl) e_q9 dX10_setOpen_50 ?_
        refine a_iconst (v := 0) C (by decide) dX10_setOpen_51 ?_
        exact a_iret hret h rfl dX10_setOpen_52
    · replace h := ifp c4 h
      refine a_bipush (v := -2) C (by decide) dX10_setOpen_23 ?_
      exact a_iret hret h rfl dX10_setOpen_25
  · replace h := ifp c2 h
    refine a_iconst (v := -1) C (by decide) dX10_setOpen_8 ?_
    exact a_iret hret h rfl dX10_setOpen_9
theorem c_K_setOpen {l : Launch} {D : va_G} {I : ClassId × ClassId × ClassId × ClassId} {ad : Nat → Nat} {q : St} {v1 : Int32} {v2 : Int32} {z : Int32 × St} (h : K_setOpen q v1 v2 = some z) : Ctr l D I (zK ad) 168 (shK I) ad yX10_setOpen cX10_setOpen 3 (some .int) rm_K_setOpen [.ref (ad 0), .int v1, .int v2] q (some z.1) z.2 :=
  ctr_ofI (by decide) (Nat.le_of_ble_eq_true rfl) (fun p e s m args below meth c Q H0 X hX C hret => by subst hX; exact w_K_setOpen C ⟨rfl, rfl, rfl⟩ hret _ _ _ h)
abbrev rm_Tr_raiseAll : Room := { frames := 4, cells := 0, slots := 0, locals := 100 }
def Tr_raiseAll_B15 (k : Int32 → Int32 → Int32 → St → Option (Int32 × St)) (rec : Int32 → Int32 → Int32 → Int32 → St → Option (Int32 × St)) (v1 : Int32) (v2 : Int32) (v3 : Int32) (v4 : Int32) (q : St) : Option (Int32 × St) :=
  if (gt q 19 0) ≤ v4 then
    k v1 v2 v3 q
  else
    b1 (rd 21 q 23 v4) fun x3 =>
    lt_ (x3 + (1 : Int32)) fun w4 =>
    b1 (rd 21 q 24 v4) fun x5 =>
    if x5 = (0 : Int32) then
      b1 (rd 21 q 22 v4) fun x7 =>
      if x7 < w4 then
        rec v1 v2 v3 (v4 + 1) q
      else
        b2 (Tr_tryLevel q v4 w4) fun x9 q10 =>
        if x9 = (0 : Int32) then
          rec v1 v2 v3 (v4 + 1) q10
        else
          rec (v1 + 1) v2 v3 (v4 + 1) q10
    else
      rec v1 v2 v3 (v4 + 1) q
theorem w_Tr_raiseAll_B15 {X : Cv} (C : Cx X cX9_raiseAll RX9 rm_Tr_raiseAll 6) (S : IsK X) {z : Int32 × St} (hret : RokI X cX9_raiseAll .int z.1 z.2) (k : Int32 → Int32 → Int32 → St → Option (Int32 × St)) (hk : ∀ (v1 : Int32) (v2 : Int32) (v3 : Int32) (q : St), k v1 v2 v3 q = some z → At X 89 [(0, .ref (adOf X 165)), (1, .int v1), (2, .int v2), (3, .int v3)] [] q) (rec : Int32 → Int32 → Int32 → Int32 → St → Option (Int32 × St)) (hrec : ∀ (v1 : Int32) (v2 : Int32) (v3 : Int32) (v4 : Int32) (q : St), rec v1 v2 v3 v4 q = some z → At X 15 [(0, .ref (adOf X 165)), (1, .int v1), (2, .int v2), (3, .int v3), (4, .int v4)] [] q) (v1 : Int32) (v2 : Int32) (v3 : Int32) (v4 : Int32) (q : St) (h : Tr_raiseAll_B15 k rec v1 v2 v3 v4 q = some z) : At X 15 [(0, .ref (adOf X 165)), (1, .int v1), (2, .int v2), (3, .int v3), (4, .int v4)] [] q := by
  unfold Tr_raiseAll_B15 at h
  refine a_iload C 4 rfl dX9_raiseAll_15 ?_
  refine a_aload_n C 0 rfl rfl dX9_raiseAll_17 ?_
  refine gK_9_15 C S dX9_raiseAll_18 ?_
  refine gK_9_83 C S (Or.inl rfl) dX9_raiseAll_21 ?_
  refine a_icmp_ge C 89 (by decide) dX9_raiseAll_24 (fun c2 => ?_) (fun c2 => ?_)
  · replace h := ifp c2 h
    exact At.sub [0, 1, 2, 3] rfl (hk _ _ _ _ h)
  · replace h := ifn c2 h
    refine a_aload_n C 0 rfl rfl dX9_raiseAll_27 ?_
    refine gK_9_15 C S dX9_raiseAll_28 ?_
    refine gK_9_44 C S (Or.inl rfl) dX9_raiseAll_31 ?_
    refine a_iload C 4 rfl dX9_raiseAll_34 ?_
    obtain ⟨x3, e_x3, h⟩ := b1s h
    refine lK_s4 (o := 19) C S (Or.inl rfl) e_x3 dX9_raiseAll_36 ?_
    refine a_iconst (v := 1) C (by decide) dX9_raiseAll_37 ?_
    refine a_iadd C dX9_raiseAll_38 ?_
    obtain ⟨w4, e_w4, h⟩ := lts h
    refine a_top e_w4 ?_
    refine a_istore C [(5, .int w4), (0, .ref (adOf X 165)), (1, .int v1), (2, .int v2), (3, .int v3), (4, .int v4)] (by decide) rfl dX9_raiseAll_39 ?_
    refine a_aload_n C 1 rfl rfl dX9_raiseAll_41 ?_
    refine gK_9_15 C S dX9_raiseAll_42 ?_
    refine gK_9_87 C S (Or.inl rfl) dX9_raiseAll_45 ?_
    refine a_iload C 5 rfl dX9_raiseAll_48 ?_
    obtain ⟨x5, e_x5, h⟩ := b1s h
    refine lK_s5 (o := 19) C S (Or.inl rfl) e_x5 dX9_raiseAll_50 ?_
    refine a_if_ne C 83 (by decide) dX9_raiseAll_51 (fun c6 => ?_) (fun c6 => ?_)
    · replace h := ifn c6 h
      refine a_iinc (v := (v4 + 1)) C [(4, .int (v4 + 1)), (5, .int w4), (0, .ref (adOf X 165)), (1, .int v1), (2, .int v2), (3, .int v3)] 5 rfl (congrArg (HAdd.hAdd v4) (by decide : Int32.ofInt (1) = (1 : Int32))) (by decide) rfl dX9_raiseAll_83 ?_
      refine a_goto C 15 (by decide) dX9_raiseAll_86 ?_
      exact At.sub [2, 3, 4, 5, 0] rfl (hrec _ _ _ _ _ h)
    · replace h := ifp c6 h
      refine a_iload C 0 rfl dX9_raiseAll_54 ?_
      refine a_aload_n C 1 rfl rfl dX9_raiseAll_56 ?_
      refine gK_9_15 C S dX9_raiseAll_57 ?_
      refine gK_9_31 C S (Or.inl rfl) dX9_raiseAll_60 ?_
      refine a_iload C 5 rfl dX9_raiseAll_63 ?_
      obtain ⟨x7, e_x7, h⟩ := b1s h
      refine lK_s3 (o := 19) C S (Or.inl rfl) e_x7 dX9_raiseAll_65 ?_
      refine a_icmp_gt C 83 (by decide) dX9_raiseAll_66 (fun c8 => ?_) (fun c8 => ?_)
      · replace h := ifp c8 h
        refine a_iinc (v := (v4 + 1)) C [(4, .int (v4 + 1)), (5, .int w4), (0, .ref (adOf X 165)), (1, .int v1), (2, .int v2), (3, .int v3)] 5 rfl (congrArg (HAdd.hAdd v4) (by decide : Int32.ofInt (1) = (1 : Int32))) (by decide) rfl dX9_raiseAll_83 ?_
        refine a_goto C 15 (by decide) dX9_raiseAll_86 ?_
        exact At.sub [2, 3, 4, 5, 0] rfl (hrec _ _ _ _ _ h)
      · replace h := ifn c8 h
        refine a_aload_n C 1 rfl rfl dX9_raiseAll_69 ?_
        refine a_iload C 5 rfl dX9_raiseAll_70 ?_
        refine a_iload C 0 rfl dX9_raiseAll_72 ?_
        obtain ⟨x9, q10, e_q10, h⟩ := b2s h
        refine kK_9_37 C S e_q10 ⟨(Nat.le_of_ble_eq_true rfl), (Nat.le_of_ble_eq_true rfl)⟩ (Nat.le_of_ble_eq_true rfl) dX9_raiseAll_74 ?_
        refine a_if_eq C 83 (by decide) dX9_raiseAll_77 (fun c11 => ?_) (fun c11 => ?_)
        · replace h := ifp c11 h
          refine a_iinc (v := (v4 + 1)) C [(4, .int (v4 + 1)), (5, .int w4), (0, .ref (adOf X 165)), (1, .int v1), (2, .int v2), (3, .int v3)] 5 rfl (congrArg (HAdd.hAdd v4) (by decide : Int32.ofInt (1) = (1 : Int32))) (by decide) rfl dX9_raiseAll_83 ?_
          refine a_goto C 15 (by decide) dX9_raiseAll_86 ?_
          exact At.sub [2, 3, 4, 5, 0] rfl (hrec _ _ _ _ _ h)
        · replace h := ifn c11 h
          refine a_iinc (v := (v1 + 1)) C [(1, .int (v1 + 1)), (5, .int w4), (0, .ref (adOf X 165)), (2, .int v2), (3, .int v3), (4, .int v4)] 2 rfl (congrArg (HAdd.hAdd v1) (by decide : Int32.ofInt (1) = (1 : Int32))) (by decide) rfl dX9_raiseAll_80 ?_
          refine a_iinc (v := (v4 + 1)) C [(4, .int (v4 + 1)), (1, .int (v1 + 1)), (5, .int w4), (0, .ref (adOf X 165)), (2, .int v2), (3, .int v3)] 5 rfl (congrArg (HAdd.hAdd v4) (by decide : Int32.ofInt (1) = (1 : Int32))) (by decide) rfl dX9_raiseAll_83 ?_
          refine a_goto C 15 (by decide) dX9_raiseAll_86 ?_
          exact At.sub [3, 1, 4, 5, 0] rfl (hrec _ _ _ _ _ h)
def Tr_raiseAll_L15 (k : Int32 → Int32 → Int32 → St → Option (Int32 × St)) : Nat → Int32 → Int32 → Int32 → Int32 → St → Option (Int32 × St)
  | 0, _, _, _, _, _ => none
  | n + 1, v1, v2, v3, v4, q => Tr_raiseAll_B15 k (Tr_raiseAll_L15 k n) v1 v2 v3 v4 q
theorem w_Tr_raiseAll_L15 {X : Cv} (C : Cx X cX9_raiseAll RX9 rm_Tr_raiseAll 6) (S : IsK X) {z : Int32 × St} (hret : RokI X cX9_raiseAll .int z.1 z.2) (k : Int32 → Int32 → Int32 → St → Option (Int32 × St)) (hk : ∀ (v1 : Int32) (v2 : Int32) (v3 : Int32) (q : St), k v1 v2 v3 q = some z → At X 89 [(0, .ref (adOf X 165)), (1, .int v1), (2, .int v2), (3, .int v3)] [] q) (n : Nat) : ∀ (v1 : Int32) (v2 : Int32) (v3 : Int32) (v4 : Int32) (q : St), Tr_raiseAll_L15 k n v1 v2 v3 v4 q = some z → At X 15 [(0, .ref (adOf X 165)), (1, .int v1), (2, .int v2), (3, .int v3), (4, .int v4)] [] q := by
  induction n with
  | zero => intro v1 v2 v3 v4 q h; cases h
  | succ n ih => intro v1 v2 v3 v4 q h; exact w_Tr_raiseAll_B15 C S hret k hk _ ih v1 v2 v3 v4 q h
def Tr_raiseAll_B4 (rec : Int32 → Int32 → St → Option (Int32 × St)) (v1 : Int32) (v2 : Int32) (q : St) : Option (Int32 × St) :=
  if (105 : Int32) < v2 then
    some (v1, q)
  else
    Tr_raiseAll_L15 (fun y12 y13 y14 q15 =>
      if y12 = y14 then
        some (y12, q15)
      else
        rec y12 (y13 + 1) q15
      ) FU v1 v2 v1 (0 : Int32) q
theorem w_Tr_raiseAll_B4 {X : Cv} (C : Cx X cX9_raiseAll RX9 rm_Tr_raiseAll 6) (S : IsK X) {z : Int32 × St} (hret : RokI X cX9_raiseAll .int z.1 z.2) (rec : Int32 → Int32 → St → Option (Int32 × St)) (hrec : ∀ (v1 : Int32) (v2 : Int32) (q : St), rec v1 v2 q = some z → At X 4 [(0, .ref (adOf X 165)), (1, .int v1), (2, .int v2)] [] q) (v1 : Int32) (v2 : Int32) (q : St) (h : Tr_raiseAll_B4 rec v1 v2 q = some z) : At X 4 [(0, .ref (adOf X 165)), (1, .int v1), (2, .int v2)] [] q := by
  unfold Tr_raiseAll_B4 at h
  refine a_iload_n C 2 rfl rfl dX9_raiseAll_4 ?_
  refine a_bipush (v := 105) C (by decide) dX9_raiseAll_5 ?_
  refine a_icmp_gt C 102 (by decide) dX9_raiseAll_7 (fun c1 => ?_) (fun c1 => ?_)
  · replace h := ifp c1 h
    refine a_iload_n C 1 rfl rfl dX9_raiseAll_102 ?_
    exact a_iret hret h rfl dX9_raiseAll_103
  · replace h := ifn c1 h
    refine a_iload_n C 1 rfl rfl dX9_raiseAll_10 ?_
    refine a_istore_n C [(3, .int v1), (0, .ref (adOf X 165)), (1, .int v1), (2, .int v2)] rfl (by decide) rfl dX9_raiseAll_11 ?_
    refine a_iconst (v := 0) C (by decide) dX9_raiseAll_12 ?_
    refine a_istore C [(4, .int (0 : Int32)), (3, .int v1), (0, .ref (adOf X 165)), (1, .int v1), (2, .int v2)] (by decide) rfl dX9_raiseAll_13 ?_
    refine At.sub [2, 3, 4, 1, 0] rfl (w_Tr_raiseAll_L15 C S hret _ ?_ _ _ _ _ _ _ h)
    intro y12 y13 y14 q15 h
    refine a_iload_n C 1 rfl rfl dX9_raiseAll_89 ?_
    refine a_iload_n C 3 rfl rfl dX9_raiseAll_90 ?_
    refine a_icmp_ne C 96 (by decide) dX9_raiseAll_91 (fun c16 => ?_) (fun c16 => ?_)
    · replace h := ifn c16 h
      refine a_iinc (v := (y13 + 1)) C [(2, .int (y13 + 1)), (0, .ref (adOf X 165)), (1, .int y12), (3, .int y14)] 2 rfl (congrArg (HAdd.hAdd y13) (by decide : Int32.ofInt (1) = (1 : Int32))) (by decide) rfl dX9_raiseAll_96 ?_
      refine a_goto C 4 (by decide) dX9_raiseAll_99 ?_
      exact At.sub [1, 2, 0] rfl (hrec _ _ _ h)
    · replace h := ifp c16 h
      refine a_iload_n C 1 rfl rfl dX9_raiseAll_94 ?_
      exact a_iret hret h rfl dX9_raiseAll_95
def Tr_raiseAll_L4 : Nat → Int32 → Int32 → St → Option (Int32 × St)
  | 0, _, _, _ => none
  | n + 1, v1, v2, q => Tr_raiseAll_B4 (Tr_raiseAll_L4 n) v1 v2 q
theorem w_Tr_raiseAll_L4 {X : Cv} (C : Cx X cX9_raiseAll RX9 rm_Tr_raiseAll 6) (S : IsK X) {z : Int32 × St} (hret : RokI X cX9_raiseAll .int z.1 z.2) (n : Nat) : ∀ (v1 : Int32) (v2 : Int32) (q : St), Tr_raiseAll_L4 n v1 v2 q = some z → At X 4 [(0, .ref (adOf X 165)), (1, .int v1), (2, .int v2)] [] q := by
  induction n with
  | zero => intro v1 v2 q h; cases h
  | succ n ih => intro v1 v2 q h; exact w_Tr_raiseAll_B4 C S hret _ ih v1 v2 q h
def Tr_raiseAll (q : St) : Option (Int32 × St) :=
  Tr_raiseAll_L4 FU (0 : Int32) (0 : Int32) q
theorem w_Tr_raiseAll {X : Cv} (C : Cx X cX9_raiseAll RX9 rm_Tr_raiseAll 6) (S : IsK X) {z : Int32 × St} (hret : RokI X cX9_raiseAll .int z.1 z.2) (q : St) (h : Tr_raiseAll q = some z) : At X 0 [(0, .ref (adOf X 165))] [] q := by
  unfold Tr_raiseAll at h
  refine a_iconst (v := 0) C (by decide) dX9_raiseAll_0 ?_
  refine a_istore_n C [(1, .int (0 : Int32)), (0, .ref (adOf X 165))] rfl (by decide) rfl dX9_raiseAll_1 ?_
  refine a_iconst (v := 0) C (by decide) dX9_raiseAll_2 ?_
  refine a_istore_n C [(2, .int (0 : Int32)), (1, .int (0 : Int32)), (0, .ref (adOf X 165))] rfl (by decide) rfl dX9_raiseAll_3 ?_
  exact At.sub [2, 1, 0] rfl (w_Tr_raiseAll_L4 C S hret _ _ _ _ h)
theorem c_Tr_raiseAll {l : Launch} {D : va_G} {I : ClassId × ClassId × ClassId × ClassId} {ad : Nat → Nat} {q : St} {z : Int32 × St} (h : Tr_raiseAll q = some z) : Ctr l D I (zK ad) 168 (shK I) ad yX9_raiseAll cX9_raiseAll 6 (some .int) rm_Tr_raiseAll [.ref (ad 165)] q (some z.1) z.2 :=
  ctr_ofI (by decide) (Nat.le_of_ble_eq_true rfl) (fun p e s m args below meth c Q H0 X hX C hret => by subst hX; exact w_Tr_raiseAll C ⟨rfl, rfl, rfl⟩ hret _ h)
theorem kK_10_223 {X : Cv} {cc : ByteArray} {rm : Room} {nL1 pc : Nat} {lv : List (Nat × Value)} {sk : List Value} {q : St} {z : Int32} {q2 : St} (C : Cx X cc RX10 rm nL1) (S : IsK X) (h : Tr_raiseAll q = some (z, q2)) (hz : rm_Tr_raiseAll.frames + 1 ≤ rm.frames ∧ 8 + (6 + 11) + rm_Tr_raiseAll.locals ≤ rm.locals) (hr : (sk.map fun v => v.category).sum ≤ 8) (hd : decode cc pc = .ok (.invokevirtual 223, 3)) (k : At X (pc + 3) lv (.int z :: sk) q2) : At X pc lv (.ref (adOf X 165) :: sk) q := a_callVi (as := []) C (kp := 165) (kLt S (by decide)) (by rw [S.2.1]; rfl) rfl (by have hh := c_Tr_raiseAll (l := X.2.1) (D := dOf X) (I := idOf X) (ad := adOf X) h; rw [← S.1, ← S.2.1, ← S.2.2] at hh; exact hh) (gd_V (tg 1005 (by decide +kernel) rfl) (tg 1006 (by decide +kernel) rfl) (tg 1007 (by decide +kernel) rfl) (tg 124 (by decide +kernel) rfl) (tg 1008 (by decide +kernel) rfl)) ⟨rfl, rfl, hz.1, hz.2⟩ ⟨by decide, by decide, by show Option.map _ (parseMethodDescriptor yX9_raiseAll.desc) = some 0; decide⟩ hr rfl hd k
abbrev rm_K_improve : Room := { frames := 5, cells := 0, slots := 0, locals := 125 }
def K_improve (q : St) : Option (Int32 × St) :=
  b1 (Ss_copyFrom 30 19 q) fun q1 =>
  b2 (Tr_raiseAll q1) fun x2 q3 =>
  if x2 = (0 : Int32) then
    some ((-2 : Int32), q3)
  else
    b1 (Hi_keep 30 q3) fun q5 =>
    some (x2, q5)
theorem w_K_improve {X : Cv} (C : Cx X cX10_improve RX10 rm_K_improve 2) (S : IsK X) {z : Int32 × St} (hret : RokI X cX10_improve .int z.1 z.2) (q : St) (h : K_improve q = some z) : At X 0 [(0, .ref (adOf X 0))] [] q := by
  unfold K_improve at h
  refine a_aload_n C 0 rfl rfl dX10_improve_0 ?_
  refine gK_10_26 C S dX10_improve_1 ?_
  refine a_aload_n C 0 rfl rfl dX10_improve_4 ?_
  refine gK_10_22 C S dX10_improve_5 ?_
  obtain ⟨q1, e_q1, h⟩ := b1s h
  refine kK_10_201 C S (Or.inr (Or.inl rfl)) (Or.inl rfl) e_q1 ⟨(Nat.le_of_ble_eq_true rfl), (Nat.le_of_ble_eq_true rfl)⟩ (Nat.le_of_ble_eq_true rfl) dX10_improve_8 ?_
  refine a_aload_n C 0 rfl rfl dX10_improve_11 ?_
  refine gK_10_82 C S dX10_improve_12 ?_
  obtain ⟨x2, q3, e_q3, h⟩ := b2s h
  refine kK_10_223 C S e_q3 ⟨(Nat.le_of_ble_eq_true rfl), (Nat.le_of_ble_eq_true rfl)⟩ (Nat.le_of_ble_eq_true rfl) dX10_improve_15 ?_
  refine a_istore_n C [(1, .int x2), (0, .ref (adOf X 0))] rfl (by decide) rfl dX10_improve_18 ?_
  refine a_iload_n C 0 rfl rfl dX10_improve_19 ?_
  refine a_if_ne C 26 (by decide) dX10_improve_20 (fun c4 => ?_) (fun c4 => ?_)
  · replace h := ifn c4 h
    refine a_aload_n C 1 rfl rfl dX10_improve_26 ?_
    refine gK_10_32 C S dX10_improve_27 ?_
    refine a_aload_n C 1 rfl rfl dX10_improve_30 ?_
    refine gK_10_26 C S dX10_improve_31 ?_
    obtain ⟨q5, e_q5, h⟩ := b1s h
    refine kK_10_169 C S (Or.inr (Or.inl rfl)) e_q5 ⟨(Nat.le_of_ble_eq_true rfl), (Nat.le_of_ble_eq_true rfl)⟩ (Nat.le_of_ble_eq_true rfl) dX10_improve_34 ?_
    refine a_iload_n C 0 rfl rfl dX10_improve_37 ?_
    exact a_iret hret h rfl dX10_improve_38
  · replace h := ifp c4 h
    refine a_bipush (v := -2) C (by decide) dX10_improve_23 ?_
    exact a_iret hret h rfl dX10_improve_25
theorem c_K_improve {l : Launch} {D : va_G} {I : ClassId × ClassId × ClassId × ClassId} {ad : Nat → Nat} {q : St} {z : Int32 × St} (h : K_improve q = some z) : Ctr l D I (zK ad) 168 (shK I) ad yX10_improve cX10_improve 2 (some .int) rm_K_improve [.ref (ad 0)] q (some z.1) z.2 :=
  ctr_ofI (by decide) (Nat.le_of_ble_eq_true rfl) (fun p e s m args below meth c Q H0 X hX C hret => by subst hX; exact w_K_improve C ⟨rfl, rfl, rfl⟩ hret _ h)
abbrev rm_Tr_growAnew : Room := { frames := 5, cells := 0, slots := 0, locals := 122 }
def Tr_growAnew_B28 (k : Int32 → St → Option (Int32 × St)) (rec : Int32 → Int32 → St → Option (Int32 × St)) (v1 : Int32) (v2 : Int32) (q : St) : Option (Int32 × St) :=
  if (gt q 19 0) ≤ v2 then
    k v1 q
  else
    b1 (rd 21 q 24 v2) fun x5 =>
    if x5 = (0 : Int32) then
      b2 (Tr_join q v2) fun x7 q8 =>
      rec v1 (v2 + 1) q8
    else
      rec v1 (v2 + 1) q
theorem w_Tr_growAnew_B28 {X : Cv} (C : Cx X cX9_growAnew RX9 rm_Tr_growAnew 3) (S : IsK X) {z : Int32 × St} (hret : RokI X cX9_growAnew .int z.1 z.2) (k : Int32 → St → Option (Int32 × St)) (hk : ∀ (v1 : Int32) (q : St), k v1 q = some z → At X 63 [(0, .ref (adOf X 165)), (1, .int v1)] [] q) (rec : Int32 → Int32 → St → Option (Int32 × St)) (hrec : ∀ (v1 : Int32) (v2 : Int32) (q : St), rec v1 v2 q = some z → At X 28 [(0, .ref (adOf X 165)), (1, .int v1), (2, .int v2)] [] q) (v1 : Int32) (v2 : Int32) (q : St) (h : Tr_growAnew_B28 k rec v1 v2 q = some z) : At X 28 [(0, .ref (adOf X 165)), (1, .int v1), (2, .int v2)] [] q := by
  unfold Tr_growAnew_B28 at h
  refine a_iload_n C 2 rfl rfl dX9_growAnew_28 ?_
  refine a_aload_n C 0 rfl rfl dX9_growAnew_29 ?_
  refine gK_9_15 C S dX9_growAnew_30 ?_
  refine gK_9_83 C S (Or.inl rfl) dX9_growAnew_33 ?_
  refine a_icmp_ge C 63 (by decide) dX9_growAnew_36 (fun c4 => ?_) (fun c4 => ?_)
  · replace h := ifp c4 h
    exact At.sub [0, 1] rfl (hk _ _ h)
  · replace h := ifn c4 h
    refine a_aload_n C 0 rfl rfl dX9_growAnew_39 ?_
    refine gK_9_15 C S dX9_growAnew_40 ?_
    refine gK_9_87 C S (Or.inl rfl) dX9_growAnew_43 ?_
    refine a_iload_n C 2 rfl rfl dX9_growAnew_46 ?_
    obtain ⟨x5, e_x5, h⟩ := b1s h
    refine lK_s5 (o := 19) C S (Or.inl rfl) e_x5 dX9_growAnew_47 ?_
    refine a_if_ne C 57 (by decide) dX9_growAnew_48 (fun c6 => ?_) (fun c6 => ?_)
    · replace h := ifn c6 h
      refine a_iinc (v := (v2 + 1)) C [(2, .int (v2 + 1)), (0, .ref (adOf X 165)), (1, .int v1)] 2 rfl (congrArg (HAdd.hAdd v2) (by decide : Int32.ofInt (1) = (1 : Int32))) (by decide) rfl dX9_growAnew_57 ?_
      refine a_goto C 28 (by decide) dX9_growAnew_60 ?_
      exact At.sub [1, 2, 0] rfl (hrec _ _ _ h)
    · replace h := ifp c6 h
      refine a_aload_n C 0 rfl rfl dX9_growAnew_51 ?_
      refine a_iload_n C 2 rfl rfl dX9_growAnew_52 ?_
      obtain ⟨x7, q8, e_q8, h⟩ := b2s h
      refine kK_9_103 C S e_q8 ⟨(Nat.le_of_ble_eq_true rfl), (Nat.le_of_ble_eq_true rfl)⟩ (Nat.le_of_ble_eq_true rfl) dX9_growAnew_53 ?_
      refine a_pop C rfl dX9_growAnew_56 ?_
      refine a_iinc (v := (v2 + 1)) C [(2, .int (v2 + 1)), (0, .ref (adOf X 165)), (1, .int v1)] 2 rfl (congrArg (HAdd.hAdd v2) (by decide : Int32.ofInt (1) = (1 : Int32))) (by decide) rfl dX9_growAnew_57 ?_
      refine a_goto C 28 (by decide) dX9_growAnew_60 ?_
      exact At.sub [1, 2, 0] rfl (hrec _ _ _ h)
def Tr_growAnew_L28 (k : Int32 → St → Option (Int32 × St)) : Nat → Int32 → Int32 → St → Option (Int32 × St)
  | 0, _, _, _ => none
  | n + 1, v1, v2, q => Tr_growAnew_B28 k (Tr_growAnew_L28 k n) v1 v2 q
theorem w_Tr_growAnew_L28 {X : Cv} (C : Cx X cX9_growAnew RX9 rm_Tr_growAnew 3) (S : IsK X) {z : Int32 × St} (hret : RokI X cX9_growAnew .int z.1 z.2) (k : Int32 → St → Option (Int32 × St)) (hk : ∀ (v1 : Int32) (q : St), k v1 q = some z → At X 63 [(0, .ref (adOf X 165)), (1, .int v1)] [] q) (n : Nat) : ∀ (v1 : Int32) (v2 : Int32) (q : St), Tr_growAnew_L28 k n v1 v2 q = some z → At X 28 [(0, .ref (adOf X 165)), (1, .int v1), (2, .int v2)] [] q := by
  induction n with
  | zero => intro v1 v2 q h; cases h
  | succ n ih => intro v1 v2 q h; exact w_Tr_growAnew_B28 C S hret k hk _ ih v1 v2 q h
def Tr_growAnew (q : St) : Option (Int32 × St) :=
  b1 (Ss_levelSum q) fun x1 =>
  b1 (Ss_clearTree q) fun q2 =>
  b1 (J_fill 21 23 q2 (0 : Int32)) fun q3 =>
  Tr_growAnew_L28 (fun y9 q10 =>
    b1 (Ss_levelSum q10) fun x11 =>
    some ((x11 - y9), q10)
    ) FU x1 (0 : Int32) q3
theorem w_Tr_growAnew {X : Cv} (C : Cx X cX9_growAnew RX9 rm_Tr_growAnew 3) (S : IsK X) {z : Int32 × St} (hret : RokI X cX9_growAnew .int z.1 z.2) (q : St) (h : Tr_growAnew q = some z) : At X 0 [(0, .ref (adOf X 165))] [] q := by
  unfold Tr_growAnew at h
  refine a_aload_n C 0 rfl rfl dX9_growAnew_0 ?_
  refine gK_9_15 C S dX9_growAnew_1 ?_
  obtain ⟨x1, e_x1, h⟩ := b1s h
  refine kK_9_90 C S e_x1 ⟨(Nat.le_of_ble_eq_true rfl), (Nat.le_of_ble_eq_true rfl)⟩ (Nat.le_of_ble_eq_true rfl) dX9_growAnew_4 ?_
  refine a_istore_n C [(1, .int x1), (0, .ref (adOf X 165))] rfl (by decide) rfl dX9_growAnew_7 ?_
  refine a_aload_n C 1 rfl rfl dX9_growAnew_8 ?_
  refine gK_9_15 C S dX9_growAnew_9 ?_
  obtain ⟨q2, e_q2, h⟩ := b1s h
  refine kK_9_94 C S e_q2 ⟨(Nat.le_of_ble_eq_true rfl), (Nat.le_of_ble_eq_true rfl)⟩ (Nat.le_of_ble_eq_true rfl) dX9_growAnew_12 ?_
  refine a_aload_n C 1 rfl rfl dX9_growAnew_15 ?_
  refine gK_9_15 C S dX9_growAnew_16 ?_
  refine gK_9_44 C S (Or.inl rfl) dX9_growAnew_19 ?_
  refine a_iconst (v := 0) C (by decide) dX9_growAnew_22 ?_
  obtain ⟨q3, e_q3, h⟩ := b1s h
  refine k_J_fill C (p := 23) (kLt S (by have hS2 : IsSt 19 := (Or.inl rfl); have := isSt_lt hS2; omega)) (by rw [S.2.1]; intro f w; exact shK_st (o := 19) (j := 4) (Or.inl rfl) (by decide)) e_q3 (tg 1018 (by decide +kernel) rfl) ⟨(Nat.le_of_ble_eq_true rfl), (Nat.le_of_ble_eq_true rfl)⟩ (Nat.le_of_ble_eq_true rfl) dX9_growAnew_23 ?_
  refine a_iconst (v := 0) C (by decide) dX9_growAnew_26 ?_
  refine a_istore_n C [(2, .int (0 : Int32)), (1, .int x1), (0, .ref (adOf X 165))] rfl (by decide) rfl dX9_growAnew_27 ?_
  refine At.sub [2, 1, 0] rfl (w_Tr_growAnew_L28 C S hret _ ?_ _ _ _ _ h)
  intro y9 q10 h
  refine a_aload_n C 0 rfl rfl dX9_growAnew_63 ?_
  refine gK_9_15 C S dX9_growAnew_64 ?_
  obtain ⟨x11, e_x11, h⟩ := b1s h
  refine kK_9_90 C S e_x11 ⟨(Nat.le_of_ble_eq_true rfl), (Nat.le_of_ble_eq_true rfl)⟩ (Nat.le_of_ble_eq_true rfl) dX9_growAnew_67 ?_
  refine a_iload_n C 1 rfl rfl dX9_growAnew_70 ?_
  refine a_isub C dX9_growAnew_71 ?_
  exact a_iret hret h rfl dX9_growAnew_72
theorem c_Tr_growAnew {l : Launch} {D : va_G} {I : ClassId × ClassId × ClassId × ClassId} {ad : Nat → Nat} {q : St} {z : Int32 × St} (h : Tr_growAnew q = some z) : Ctr l D I (zK ad) 168 (shK I) ad yX9_growAnew cX9_growAnew 3 (some .int) rm_Tr_growAnew [.ref (ad 165)] q (some z.1) z.2 :=
  ctr_ofI (by decide) (Nat.le_of_ble_eq_true rfl) (fun p e s m args below meth c Q H0 X hX C hret => by subst hX; exact w_Tr_growAnew C ⟨rfl, rfl, rfl⟩ hret _ h)
theorem kK_10_226 {X : Cv} {cc : ByteArray} {rm : Room} {nL1 pc : Nat} {lv : List (Nat × Value)} {sk : List Value} {q : St} {z : Int32} {q2 : St} (C : Cx X cc RX10 rm nL1) (S : IsK X) (h : Tr_growAnew q = some (z, q2)) (hz : rm_Tr_growAnew.frames + 1 ≤ rm.frames ∧ 8 + (3 + 11) + rm_Tr_growAnew.locals ≤ rm.locals) (hr : (sk.map fun v => v.category).sum ≤ 8) (hd : decode cc pc = .ok (.invokevirtual 226, 3)) (k : At X (pc + 3) lv (.int z :: sk) q2) : At X pc lv (.ref (adOf X 165) :: sk) q := a_callVi (as := []) C (kp := 165) (kLt S (by decide)) (by rw [S.2.1]; rfl) rfl (by have hh := c_Tr_growAnew (l := X.2.1) (D := dOf X) (I := idOf X) (ad := adOf X) h; rw [← S.1, ← S.2.1, ← S.2.2] at hh; exact hh) (gd_V (tg 1013 (by decide +kernel) rfl) (tg 1014 (by decide +kernel) rfl) (tg 1015 (by decide +kernel) rfl) (tg 124 (by decide +kernel) rfl) (tg 1016 (by decide +kernel) rfl)) ⟨rfl, rfl, hz.1, hz.2⟩ ⟨by decide, by decide, by show Option.map _ (parseMethodDescriptor yX9_growAnew.desc) = some 0; decide⟩ hr rfl hd k
abbrev rm_K_rebuild : Room := { frames := 6, cells := 0, slots := 0, locals := 144 }
def K_rebuild (q : St) : Option (Int32 × St) :=
  b1 (Ss_copyFrom 30 19 q) fun q1 =>
  b2 (Tr_growAnew q1) fun x2 q3 =>
  if (0 : Int32) < x2 then
    b1 (Hi_keep 30 q3) fun q5 =>
    some (x2, q5)
  else
    b1 (Ss_copyFrom 19 30 q3) fun q6 =>
    some ((-2 : Int32), q6)
theorem w_K_rebuild {X : Cv} (C : Cx X cX10_rebuild RX10 rm_K_rebuild 2) (S : IsK X) {z : Int32 × St} (hret : RokI X cX10_rebuild .int z.1 z.2) (q : St) (h : K_rebuild q = some z) : At X 0 [(0, .ref (adOf X 0))] [] q := by
  unfold K_rebuild at h
  refine a_aload_n C 0 rfl rfl dX10_rebuild_0 ?_
  refine gK_10_26 C S dX10_rebuild_1 ?_
  refine a_aload_n C 0 rfl rfl dX10_rebuild_4 ?_
  refine gK_10_22 C S dX10_rebuild_5 ?_
  obtain ⟨q1, e_q1, h⟩ := b1s h
  refine kK_10_201 C S (Or.inr (Or.inl rfl)) (Or.inl rfl) e_q1 ⟨(Nat.le_of_ble_eq_true rfl), (Nat.le_of_ble_eq_true rfl)⟩ (Nat.le_of_ble_eq_true rfl) dX10_rebuild_8 ?_
  refine a_aload_n C 0 rfl rfl dX10_rebuild_11 ?_
  refine gK_10_82 C S dX10_rebuild_12 ?_
  obtain ⟨x2, q3, e_q3, h⟩ := b2s h
  refine kK_10_226 C S e_q3 ⟨(Nat.le_of_ble_eq_true rfl), (Nat.le_of_ble_eq_true rfl)⟩ (Nat.le_of_ble_eq_true rfl) dX10_rebuild_15 ?_
  refine a_istore_n C [(1, .int x2), (0, .ref (adOf X 0))] rfl (by decide) rfl dX10_rebuild_18 ?_
  refine a_iload_n C 0 rfl rfl dX10_rebuild_19 ?_
  refine a_if_gt C 37 (by decide) dX10_rebuild_20 (fun c4 => ?_) (fun c4 => ?_)
  · replace h := ifp c4 h
    refine a_aload_n C 1 rfl rfl dX10_rebuild_37 ?_
    refine gK_10_32 C S dX10_rebuild_38 ?_
    refine a_aload_n C 1 rfl rfl dX10_rebuild_41 ?_
    refine gK_10_26 C S dX10_rebuild_42 ?_
    obtain ⟨q5, e_q5, h⟩ := b1s h
    refine kK_10_169 C S (Or.inr (Or.inl rfl)) e_q5 ⟨(Nat.le_of_ble_eq_true rfl), (Nat.le_of_ble_eq_true rfl)⟩ (Nat.le_of_ble_eq_true rfl) dX10_rebuild_45 ?_
    refine a_iload_n C 0 rfl rfl dX10_rebuild_48 ?_
    exact a_iret hret h rfl dX10_rebuild_49
  · replace h := ifn c4 h
    refine a_aload_n C 1 rfl rfl dX10_rebuild_23 ?_
    refine gK_10_22 C S dX10_rebuild_24 ?_
    refine a_aload_n C 1 rfl rfl dX10_rebuild_27 ?_
    refine gK_10_26 C S dX10_rebuild_28 ?_
    obtain ⟨q6, e_q6, h⟩ := b1s h
    refine kK_10_201 C S (Or.inl rfl) (Or.inr (Or.inl rfl)) e_q6 ⟨(Nat.le_of_ble_eq_true rfl), (Nat.le_of_ble_eq_true rfl)⟩ (Nat.le_of_ble_eq_true rfl) dX10_rebuild_31 ?_
    refine a_bipush (v := -2) C (by decide) dX10_rebuild_34 ?_
    exact a_iret hret h rfl dX10_rebuild_36
theorem c_K_rebuild {l : Launch} {D : va_G} {I : ClassId × ClassId × ClassId × ClassId} {ad : Nat → Nat} {q : St} {z : Int32 × St} (h : K_rebuild q = some z) : Ctr l D I (zK ad) 168 (shK I) ad yX10_rebuild cX10_rebuild 2 (some .int) rm_K_rebuild [.ref (ad 0)] q (some z.1) z.2 :=
  ctr_ofI (by decide) (Nat.le_of_ble_eq_true rfl) (fun p e s m args below meth c Q H0 X hX C hret => by subst hX; exact w_K_rebuild C ⟨rfl, rfl, rfl⟩ hret _ h)
abbrev rm_Hi_takeBack : Room := { frames := 2, cells := 0, slots := 0, locals := 71 }
def Hi_takeBack_J26 (z0 : Int32) (q : St) : Option (St) :=
  lt_ (st q 41 2 z0) fun q3 =>
  lt_ (st q3 41 1 ((gt q3 41 1) - (1 : Int32))) fun q4 =>
  ck 10 (gt q4 41 2) <|
  b1 (Ss_copyFrom 19 (43 + 11 * ((gt q4 41 2)).toNatClampNeg) q4) fun q6 =>
  some q6
theorem w_Hi_takeBack_J26 {X : Cv} (C : Cx X cX2_takeBack RX2 rm_Hi_takeBack 2) (S : IsK X) {z : St} (hret : RokV X cX2_takeBack z) (z0 : Int32) (q : St) (h : Hi_takeBack_J26 z0 q = some z) : At X 26 [(0, .ref (adOf X 41)), (1, .ref (adOf X 19))] [.int z0, .ref (adOf X 41)] q := by
  unfold Hi_takeBack_J26 at h
  obtain ⟨q3, e_q3, h⟩ := lts h
  refine pK_2_22 C S e_q3 dX2_takeBack_26 ?_
  refine a_aload_n C 0 rfl rfl dX2_takeBack_29 ?_
  refine a_dup C rfl dX2_takeBack_30 ?_
  refine gK_2_18 C S dX2_takeBack_31 ?_
  refine a_iconst (v := 1) C (by decide) dX2_takeBack_34 ?_
  refine a_isub C dX2_takeBack_35 ?_
  obtain ⟨q4, e_q4, h⟩ := lts h
  refine pK_2_18 C S e_q4 dX2_takeBack_36 ?_
  refine a_aload_n C 1 rfl rfl dX2_takeBack_39 ?_
  refine a_aload_n C 0 rfl rfl dX2_takeBack_40 ?_
  refine gK_2_11 C S dX2_takeBack_41 ?_
  refine a_aload_n C 0 rfl rfl dX2_takeBack_44 ?_
  refine gK_2_22 C S dX2_takeBack_45 ?_
  obtain ⟨b5, h⟩ := cks h
  refine lK_42 C S b5 dX2_takeBack_48 ?_
  obtain ⟨q6, e_q6, h⟩ := b1s h
  refine kK_2_25 C S (Or.inl rfl) (isSt_h b5) e_q6 ⟨(Nat.le_of_ble_eq_true rfl), (Nat.le_of_ble_eq_true rfl)⟩ (Nat.le_of_ble_eq_true rfl) dX2_takeBack_49 ?_
  exact a_vret hret h dX2_takeBack_52
def Hi_takeBack (q : St) : Option (St) :=
  if (gt q 41 1) ≤ (0 : Int32) then
    some q
  else
    if (gt q 41 2) ≤ (0 : Int32) then
      Hi_takeBack_J26 (9 : Int32) q
    else
      Hi_takeBack_J26 ((gt q 41 2) - (1 : Int32)) q
theorem w_Hi_takeBack {X : Cv} (C : Cx X cX2_takeBack RX2 rm_Hi_takeBack 2) (S : IsK X) {z : St} (hret : RokV X cX2_takeBack z) (q : St) (h : Hi_takeBack q = some z) : At X 0 [(0, .ref (adOf X 41)), (1, .ref (adOf X 19))] [] q := by
  unfold Hi_takeBack at h
  refine a_aload_n C 0 rfl rfl dX2_takeBack_0 ?_
  refine gK_2_18 C S dX2_takeBack_1 ?_
  refine a_if_le C 52 (by decide) dX2_takeBack_4 (fun c1 => ?_) (fun c1 => ?_)
  · replace h := ifp c1 h
    exact a_vret hret h dX2_takeBack_52
  · replace h := ifn c1 h
    refine a_aload_n C 0 rfl rfl dX2_takeBack_7 ?_
    refine a_aload_n C 0 rfl rfl dX2_takeBack_8 ?_
    refine gK_2_22 C S dX2_takeBack_9 ?_
    refine a_if_le C 24 (by decide) dX2_takeBack_12 (fun c2 => ?_) (fun c2 => ?_)
    · replace h := ifp c2 h
      refine a_bipush (v := 9) C (by decide) dX2_takeBack_24 ?_
      exact At.sub [0, 1] rfl (w_Hi_takeBack_J26 C S hret _ _ h)
    · replace h := ifn c2 h
      refine a_aload_n C 0 rfl rfl dX2_takeBack_15 ?_
      refine gK_2_22 C S dX2_takeBack_16 ?_
      refine a_iconst (v := 1) C (by decide) dX2_takeBack_19 ?_
      refine a_isub C dX2_takeBack_20 ?_
      refine a_goto C 26 (by decide) dX2_takeBack_21 ?_
      exact At.sub [0, 1] rfl (w_Hi_takeBack_J26 C S hret _ _ h)
theorem c_Hi_takeBack {l : Launch} {D : va_G} {I : ClassId × ClassId × ClassId × ClassId} {ad : Nat → Nat} {q : St} {z : St} (h : Hi_takeBack q = some z) : Ctr l D I (zK ad) 168 (shK I) ad yX2_takeBack cX2_takeBack 2 none rm_Hi_takeBack [.ref (ad 41), .ref (ad 19)] q none z :=
  ctr_ofV (by decide) (Nat.le_of_ble_eq_true rfl) (fun p e s m args below meth c Q H0 X hX C hret => by subst hX; exact w_Hi_takeBack C ⟨rfl, rfl, rfl⟩ hret _ h)
theorem kK_10_232 {X : Cv} {cc : ByteArray} {rm : Room} {nL1 pc : Nat} {lv : List (Nat × Value)} {sk : List Value} {q : St} {q2 : St} (C : Cx X cc RX10 rm nL1) (S : IsK X) (h : Hi_takeBack q = some q2) (hz : rm_Hi_takeBack.frames + 1 ≤ rm.frames ∧ 8 + (2 + 11) + rm_Hi_takeBack.locals ≤ rm.locals) (hr : (sk.map fun v => v.category).sum ≤ 8) (hd : decode cc pc = .ok (.invokevirtual 232, 3)) (k : At X (pc + 3) lv sk q2) : At X pc lv (.ref (adOf X 19) :: .ref (adOf X 41) :: sk) q := a_callVv (as := [.ref (adOf X 19)]) C (kp := 41) (kLt S (by decide)) (by rw [S.2.1]; rfl) rfl (by have hh := c_Hi_takeBack (l := X.2.1) (D := dOf X) (I := idOf X) (ad := adOf X) h; rw [← S.1, ← S.2.1, ← S.2.2] at hh; exact hh) (gd_V (tg 1023 (by decide +kernel) rfl) (tg 1024 (by decide +kernel) rfl) (tg 1025 (by decide +kernel) rfl) (tg 118 (by decide +kernel) rfl) (tg 1026 (by decide +kernel) rfl)) ⟨rfl, rfl, hz.1, hz.2⟩ ⟨by decide, by decide, by show Option.map _ (parseMethodDescriptor yX2_takeBack.desc) = some 1; decide⟩ hr rfl hd k
abbrev rm_K_undo : Room := { frames := 3, cells := 0, slots := 0, locals := 92 }
def K_undo (q : St) : Option (Int32 × St) :=
  if (gt q 41 1) = (0 : Int32) then
    some ((-1 : Int32), q)
  else
    b1 (Hi_takeBack q) fun q2 =>
    some ((gt q2 41 1), q2)
theorem w_K_undo {X : Cv} (C : Cx X cX10_undo RX10 rm_K_undo 1) (S : IsK X) {z : Int32 × St} (hret : RokI X cX10_undo .int z.1 z.2) (q : St) (h : K_undo q = some z) : At X 0 [(0, .ref (adOf X 0))] [] q := by
  unfold K_undo at h
  refine a_aload_n C 0 rfl rfl dX10_undo_0 ?_
  refine gK_10_32 C S dX10_undo_1 ?_
  refine gK_10_229 C S dX10_undo_4 ?_
  refine a_if_ne C 12 (by decide) dX10_undo_7 (fun c1 => ?_) (fun c1 => ?_)
  · replace h := ifn c1 h
    refine a_aload_n C 0 rfl rfl dX10_undo_12 ?_
    refine gK_10_32 C S dX10_undo_13 ?_
    refine a_aload_n C 0 rfl rfl dX10_undo_16 ?_
    refine gK_10_22 C S dX10_undo_17 ?_
    obtain ⟨q2, e_q2, h⟩ := b1s h
    refine kK_10_232 C S e_q2 ⟨(Nat.le_of_ble_eq_true rfl), (Nat.le_of_ble_eq_true rfl)⟩ (Nat.le_of_ble_eq_true rfl) dX10_undo_20 ?_
    refine a_aload_n C 0 rfl rfl dX10_undo_23 ?_
    refine gK_10_32 C S dX10_undo_24 ?_
    refine gK_10_229 C S dX10_undo_27 ?_
    exact a_iret hret h rfl dX10_undo_30
  · replace h := ifp c1 h
    refine a_iconst (v := -1) C (by decide) dX10_undo_10 ?_
    exact a_iret hret h rfl dX10_undo_11
theorem c_K_undo {l : Launch} {D : va_G} {I : ClassId × ClassId × ClassId × ClassId} {ad : Nat → Nat} {q : St} {z : Int32 × St} (h : K_undo q = some z) : Ctr l D I (zK ad) 168 (shK I) ad yX10_undo cX10_undo 1 (some .int) rm_K_undo [.ref (ad 0)] q (some z.1) z.2 :=
  ctr_ofI (by decide) (Nat.le_of_ble_eq_true rfl) (fun p e s m args below meth c Q H0 X hX C hret => by subst hX; exact w_K_undo C ⟨rfl, rfl, rfl⟩ hret _ h)
abbrev rm_K_receivers : Room := { frames := 0, cells := 0, slots := 0, locals := 0 }
def K_receivers (q : St) : Option (Int32) :=
  some (gt q 19 0)
theorem w_K_receivers {X : Cv} (C : Cx X cX10_receivers RX10 rm_K_receivers 1) (S : IsK X) {q : St} {z : Int32} (hret : RokI X cX10_receivers .int z q) (h : K_receivers q = some z) : At X 0 [(0, .ref (adOf X 0))] [] q := by
  unfold K_receivers at h
  refine a_aload_n C 0 rfl rfl dX10_receivers_0 ?_
  refine gK_10_22 C S dX10_receivers_1 ?_
  refine gK_10_166 C S (Or.inl rfl) dX10_receivers_4 ?_
  exact a_iretR hret h rfl dX10_receivers_7
theorem c_K_receivers {l : Launch} {D : va_G} {I : ClassId × ClassId × ClassId × ClassId} {ad : Nat → Nat} {q : St} {z : Int32} (h : K_receivers q = some z) : Ctr l D I (zK ad) 168 (shK I) ad yX10_receivers cX10_receivers 1 (some .int) rm_K_receivers [.ref (ad 0)] q (some z) q :=
  ctr_ofI (by decide) (Nat.le_of_ble_eq_true rfl) (fun p e s m args below meth c Q H0 X hX C hret => by subst hX; exact w_K_receivers C ⟨rfl, rfl, rfl⟩ hret h)
abbrev rm_K_hasLeft : Room := { frames := 1, cells := 0, slots := 0, locals := 21 }
def K_hasLeft (q : St) (v1 : Int32) : Option (Int32) :=
  b1 (K_isAdded q v1) fun x1 =>
  if x1 = (0 : Int32) then
    some (0 : Int32)
  else
    b1 (rd 21 q 24 v1) fun x3 =>
    if x3 = (0 : Int32) then
      some (0 : Int32)
    else
      some (1 : Int32)
theorem w_K_hasLeft {X : Cv} (C : Cx X cX10_hasLeft RX10 rm_K_hasLeft 2) (S : IsK X) {q : St} {z : Int32} (hret : RokI X cX10_hasLeft .boolean z q) (v1 : Int32) (h : K_hasLeft q v1 = some z) : At X 0 [(0, .ref (adOf X 0)), (1, .int v1)] [] q := by
  unfold K_hasLeft at h
  refine a_aload_n C 0 rfl rfl dX10_hasLeft_0 ?_
  refine a_iload_n C 1 rfl rfl dX10_hasLeft_1 ?_
  obtain ⟨x1, e_x1, h⟩ := b1s h
  refine kK_10_235 C S e_x1 ⟨(Nat.le_of_ble_eq_true rfl), (Nat.le_of_ble_eq_true rfl)⟩ (Nat.le_of_ble_eq_true rfl) dX10_hasLeft_2 ?_
  refine a_if_eq C 24 (by decide) dX10_hasLeft_5 (fun c2 => ?_) (fun c2 => ?_)
  · replace h := ifp c2 h
    refine a_iconst (v := 0) C (by decide) dX10_hasLeft_24 ?_
    exact a_iretR hret h rfl dX10_hasLeft_25
  · replace h := ifn c2 h
    refine a_aload_n C 0 rfl rfl dX10_hasLeft_8 ?_
    refine gK_10_22 C S dX10_hasLeft_9 ?_
    refine gK_10_187 C S (Or.inl rfl) dX10_hasLeft_12 ?_
    refine a_iload_n C 1 rfl rfl dX10_hasLeft_15 ?_
    obtain ⟨x3, e_x3, h⟩ := b1s h
    refine lK_s5 (o := 19) C S (Or.inl rfl) e_x3 dX10_hasLeft_16 ?_
    refine a_if_eq C 24 (by decide) dX10_hasLeft_17 (fun c4 => ?_) (fun c4 => ?_)
    · replace h := ifp c4 h
      refine a_iconst (v := 0) C (by decide) dX10_hasLeft_24 ?_
      exact a_iretR hret h rfl dX10_hasLeft_25
    · replace h := ifn c4 h
      refine a_iconst (v := 1) C (by decide) dX10_hasLeft_20 ?_
      refine a_goto C 25 (by decide) dX10_hasLeft_21 ?_
      exact a_iretR hret h rfl dX10_hasLeft_25
theorem c_K_hasLeft {l : Launch} {D : va_G} {I : ClassId × ClassId × ClassId × ClassId} {ad : Nat → Nat} {q : St} {v1 : Int32} {z : Int32} (h : K_hasLeft q v1 = some z) : Ctr l D I (zK ad) 168 (shK I) ad yX10_hasLeft cX10_hasLeft 2 (some .boolean) rm_K_hasLeft [.ref (ad 0), .int v1] q (some z) q :=
  ctr_ofI (by decide) (Nat.le_of_ble_eq_true rfl) (fun p e s m args below meth c Q H0 X hX C hret => by subst hX; exact w_K_hasLeft C ⟨rfl, rfl, rfl⟩ hret _ h)
abbrev rm_K_level : Room := { frames := 1, cells := 0, slots := 0, locals := 21 }
def K_level (q : St) (v1 : Int32) : Option (Int32) :=
  b1 (K_isAdded q v1) fun x1 =>
  if x1 = (0 : Int32) then
    some (-1 : Int32)
  else
    b1 (rd 21 q 23 v1) fun x3 =>
    some x3
theorem w_K_level {X : Cv} (C : Cx X cX10_level RX10 rm_K_level 2) (S : IsK X) {q : St} {z : Int32} (hret : RokI X cX10_level .int z q) (v1 : Int32) (h : K_level q v1 = some z) : At X 0 [(0, .ref (adOf X 0)), (1, .int v1)] [] q := by
  unfold K_level at h
  refine a_aload_n C 0 rfl rfl dX10_level_0 ?_
  refine a_iload_n C 1 rfl rfl dX10_level_1 ?_
  obtain ⟨x1, e_x1, h⟩ := b1s h
  refine kK_10_235 C S e_x1 ⟨(Nat.le_of_ble_eq_true rfl), (Nat.le_of_ble_eq_true rfl)⟩ (Nat.le_of_ble_eq_true rfl) dX10_level_2 ?_
  refine a_if_eq C 20 (by decide) dX10_level_5 (fun c2 => ?_) (fun c2 => ?_)
  · replace h := ifp c2 h
    refine a_iconst (v := -1) C (by decide) dX10_level_20 ?_
    exact a_iretR hret h rfl dX10_level_21
  · replace h := ifn c2 h
    refine a_aload_n C 0 rfl rfl dX10_level_8 ?_
    refine gK_10_22 C S dX10_level_9 ?_
    refine gK_10_184 C S (Or.inl rfl) dX10_level_12 ?_
    refine a_iload_n C 1 rfl rfl dX10_level_15 ?_
    obtain ⟨x3, e_x3, h⟩ := b1s h
    refine lK_s4 (o := 19) C S (Or.inl rfl) e_x3 dX10_level_16 ?_
    refine a_goto C 21 (by decide) dX10_level_17 ?_
    exact a_iretR hret h rfl dX10_level_21
theorem c_K_level {l : Launch} {D : va_G} {I : ClassId × ClassId × ClassId × ClassId} {ad : Nat → Nat} {q : St} {v1 : Int32} {z : Int32} (h : K_level q v1 = some z) : Ctr l D I (zK ad) 168 (shK I) ad yX10_level cX10_level 2 (some .int) rm_K_level [.ref (ad 0), .int v1] q (some z) q :=
  ctr_ofI (by decide) (Nat.le_of_ble_eq_true rfl) (fun p e s m args below meth c Q H0 X hX C hret => by subst hX; exact w_K_level C ⟨rfl, rfl, rfl⟩ hret _ h)
abbrev rm_K_wanted : Room := { frames := 2, cells := 0, slots := 0, locals := 42 }
def K_wanted (q : St) (v1 : Int32) : Option (Int32) :=
  b1 (K_isPresent q v1) fun x1 =>
  if x1 = (0 : Int32) then
    some (-1 : Int32)
  else
    b1 (rd 21 q 22 v1) fun x3 =>
    some x3
theorem w_K_wanted {X : Cv} (C : Cx X cX10_wanted RX10 rm_K_wanted 2) (S : IsK X) {q : St} {z : Int32} (hret : RokI X cX10_wanted .int z q) (v1 : Int32) (h : K_wanted q v1 = some z) : At X 0 [(0, .ref (adOf X 0)), (1, .int v1)] [] q := by
  unfold K_wanted at h
  refine a_aload_n C 0 rfl rfl dX10_wanted_0 ?_
  refine a_iload_n C 1 rfl rfl dX10_wanted_1 ?_
  obtain ⟨x1, e_x1, h⟩ := b1s h
  refine kK_10_181 C S e_x1 ⟨(Nat.le_of_ble_eq_true rfl), (Nat.le_of_ble_eq_true rfl)⟩ (Nat.le_of_ble_eq_true rfl) dX10_wanted_2 ?_
  refine a_if_eq C 20 (by decide) dX10_wanted_5 (fun c2 => ?_) (fun c2 => ?_)
  · replace h := ifp c2 h
    refine a_iconst (v := -1) C (by decide) dX10_wanted_20 ?_
    exact a_iretR hret h rfl dX10_wanted_21
  · replace h := ifn c2 h
    refine a_aload_n C 0 rfl rfl dX10_wanted_8 ?_
    refine gK_10_22 C S dX10_wanted_9 ?_
    refine gK_10_193 C S (Or.inl rfl) dX10_wanted_12 ?_
    refine a_iload_n C 1 rfl rfl dX10_wanted_15 ?_
    obtain ⟨x3, e_x3, h⟩ := b1s h
    refine lK_s3 (o := 19) C S (Or.inl rfl) e_x3 dX10_wanted_16 ?_
    refine a_goto C 21 (by decide) dX10_wanted_17 ?_
    exact a_iretR hret h rfl dX10_wanted_21
theorem c_K_wanted {l : Launch} {D : va_G} {I : ClassId × ClassId × ClassId × ClassId} {ad : Nat → Nat} {q : St} {v1 : Int32} {z : Int32} (h : K_wanted q v1 = some z) : Ctr l D I (zK ad) 168 (shK I) ad yX10_wanted cX10_wanted 2 (some .int) rm_K_wanted [.ref (ad 0), .int v1] q (some z) q :=
  ctr_ofI (by decide) (Nat.le_of_ble_eq_true rfl) (fun p e s m args below meth c Q H0 X hX C hret => by subst hX; exact w_K_wanted C ⟨rfl, rfl, rfl⟩ hret _ h)
abbrev rm_K_servedAt : Room := { frames := 2, cells := 0, slots := 0, locals := 45 }
def K_servedAt (q : St) (v1 : Int32) : Option (Int32) :=
  b1 (K_isPresent q v1) fun x1 =>
  if x1 = (0 : Int32) then
    some (-1 : Int32)
  else
    b1 (Sp_servingNode q v1) fun x3 =>
    if x3 = (-1 : Int32) then
      some (-2 : Int32)
    else
      some x3
theorem w_K_servedAt {X : Cv} (C : Cx X cX10_servedAt RX10 rm_K_servedAt 3) (S : IsK X) {q : St} {z : Int32} (hret : RokI X cX10_servedAt .int z q) (v1 : Int32) (h : K_servedAt q v1 = some z) : At X 0 [(0, .ref (adOf X 0)), (1, .int v1)] [] q := by
  unfold K_servedAt at h
  refine a_aload_n C 0 rfl rfl dX10_servedAt_0 ?_
  refine a_iload_n C 1 rfl rfl dX10_servedAt_1 ?_
  obtain ⟨x1, e_x1, h⟩ := b1s h
  refine kK_10_181 C S e_x1 ⟨(Nat.le_of_ble_eq_true rfl), (Nat.le_of_ble_eq_true rfl)⟩ (Nat.le_of_ble_eq_true rfl) dX10_servedAt_2 ?_
  refine a_if_ne C 10 (by decide) dX10_servedAt_5 (fun c2 => ?_) (fun c2 => ?_)
  · replace h := ifn c2 h
    refine a_aload_n C 0 rfl rfl dX10_servedAt_10 ?_
    refine gK_10_57 C S dX10_servedAt_11 ?_
    refine a_iload_n C 1 rfl rfl dX10_servedAt_14 ?_
    obtain ⟨x3, e_x3, h⟩ := b1s h
    refine kK_10_238 C S e_x3 ⟨(Nat.le_of_ble_eq_true rfl), (Nat.le_of_ble_eq_true rfl)⟩ (Nat.le_of_ble_eq_true rfl) dX10_servedAt_15 ?_
    refine a_istore_n C [(2, .int x3), (0, .ref (adOf X 0)), (1, .int v1)] rfl (by decide) rfl dX10_servedAt_18 ?_
    refine a_iload_n C 0 rfl rfl dX10_servedAt_19 ?_
    refine a_iconst (v := -1) C (by decide) dX10_servedAt_20 ?_
    refine a_icmp_ne C 29 (by decide) dX10_servedAt_21 (fun c4 => ?_) (fun c4 => ?_)
    · replace h := ifn c4 h
      refine a_iload_n C 0 rfl rfl dX10_servedAt_29 ?_
      exact a_iretR hret h rfl dX10_servedAt_30
    · replace h := ifp c4 h
      refine a_bipush (v := -2) C (by decide) dX10_servedAt_24 ?_
      refine a_goto C 30 (by decide) dX10_servedAt_26 ?_
      exact a_iretR hret h rfl dX10_servedAt_30
  · replace h := ifp c2 h
    refine a_iconst (v := -1) C (by decide) dX10_servedAt_8 ?_
    exact a_iretR hret h rfl dX10_servedAt_9
theorem c_K_servedAt {l : Launch} {D : va_G} {I : ClassId × ClassId × ClassId × ClassId} {ad : Nat → Nat} {q : St} {v1 : Int32} {z : Int32} (h : K_servedAt q v1 = some z) : Ctr l D I (zK ad) 168 (shK I) ad yX10_servedAt cX10_servedAt 3 (some .int) rm_K_servedAt [.ref (ad 0), .int v1] q (some z) q :=
  ctr_ofI (by decide) (Nat.le_of_ble_eq_true rfl) (fun p e s m args below meth c Q H0 X hX C hret => by subst hX; exact w_K_servedAt C ⟨rfl, rfl, rfl⟩ hret _ h)
abbrev rm_K_pathNode : Room := { frames := 2, cells := 0, slots := 0, locals := 42 }
def K_pathNode_B26 (q : St) (k : Int32 → Option (Int32)) (rec : Int32 → Int32 → Int32 → Option (Int32)) (v2 : Int32) (v3 : Int32) (v4 : Int32) : Option (Int32) :=
  if v2 ≤ v4 then
    k v3
  else
    if (16 : Int32) ≤ v4 then
      k v3
    else
      if v3 = (-1 : Int32) then
        k v3
      else
        b1 (rd 16 q 29 v3) fun x8 =>
        rec v2 x8 (v4 + 1)
theorem w_K_pathNode_B26 {X : Cv} (C : Cx X cX10_pathNode RX10 rm_K_pathNode 5) (S : IsK X) (q : St) {z : Int32} (hret : RokI X cX10_pathNode .int z q) (k : Int32 → Option (Int32)) (hk : ∀ (v3 : Int32), k v3 = some z → At X 60 [(0, .ref (adOf X 0)), (3, .int v3)] [] q) (rec : Int32 → Int32 → Int32 → Option (Int32)) (hrec : ∀ (v2 : Int32) (v3 : Int32) (v4 : Int32), rec v2 v3 v4 = some z → At X 26 [(0, .ref (adOf X 0)), (2, .int v2), (3, .int v3), (4, .int v4)] [] q) (v2 : Int32) (v3 : Int32) (v4 : Int32) (h : K_pathNode_B26 q k rec v2 v3 v4 = some z) : At X 26 [(0, .ref (adOf X 0)), (2, .int v2), (3, .int v3), (4, .int v4)] [] q := by
  unfold K_pathNode_B26 at h
  refine a_iload C 3 rfl dX10_pathNode_26 ?_
  refine a_iload_n C 1 rfl rfl dX10_pathNode_28 ?_
  refine a_icmp_ge C 60 (by decide) dX10_pathNode_29 (fun c5 => ?_) (fun c5 => ?_)
  · replace h := ifp c5 h
    exact At.sub [0, 2] rfl (hk _ h)
  · replace h := ifn c5 h
    refine a_iload C 3 rfl dX10_pathNode_32 ?_
    refine a_bipush (v := 16) C (by decide) dX10_pathNode_34 ?_
    refine a_icmp_ge C 60 (by decide) dX10_pathNode_36 (fun c6 => ?_) (fun c6 => ?_)
    · replace h := ifp c6 h
      exact At.sub [0, 2] rfl (hk _ h)
    · replace h := ifn c6 h
      refine a_iload_n C 2 rfl rfl dX10_pathNode_39 ?_
      refine a_iconst (v := -1) C (by decide) dX10_pathNode_40 ?_
      refine a_icmp_eq C 60 (by decide) dX10_pathNode_41 (fun c7 => ?_) (fun c7 => ?_)
      · replace h := ifp c7 h
        exact At.sub [0, 2] rfl (hk _ h)
      · replace h := ifn c7 h
        refine a_aload_n C 0 rfl rfl dX10_pathNode_44 ?_
        refine gK_10_22 C S dX10_pathNode_45 ?_
        refine gK_10_244 C S (Or.inl rfl) dX10_pathNode_48 ?_
        refine a_iload_n C 2 rfl rfl dX10_pathNode_51 ?_
        obtain ⟨x8, e_x8, h⟩ := b1s h
        refine lK_s10 (o := 19) C S (Or.inl rfl) e_x8 dX10_pathNode_52 ?_
        refine a_istore_n C [(3, .int x8), (0, .ref (adOf X 0)), (2, .int v2), (4, .int v4)] rfl (by decide) rfl dX10_pathNode_53 ?_
        refine a_iinc (v := (v4 + 1)) C [(4, .int (v4 + 1)), (3, .int x8), (0, .ref (adOf X 0)), (2, .int v2)] 3 rfl (congrArg (HAdd.hAdd v4) (by decide : Int32.ofInt (1) = (1 : Int32))) (by decide) rfl dX10_pathNode_54 ?_
        refine a_goto C 26 (by decide) dX10_pathNode_57 ?_
        exact At.sub [2, 3, 1, 0] rfl (hrec _ _ _ h)
def K_pathNode_L26 (q : St) (k : Int32 → Option (Int32)) : Nat → Int32 → Int32 → Int32 → Option (Int32)
  | 0, _, _, _ => none
  | n + 1, v2, v3, v4 => K_pathNode_B26 q k (K_pathNode_L26 q k n) v2 v3 v4
theorem w_K_pathNode_L26 {X : Cv} (C : Cx X cX10_pathNode RX10 rm_K_pathNode 5) (S : IsK X) (q : St) {z : Int32} (hret : RokI X cX10_pathNode .int z q) (k : Int32 → Option (Int32)) (hk : ∀ (v3 : Int32), k v3 = some z → At X 60 [(0, .ref (adOf X 0)), (3, .int v3)] [] q) (n : Nat) : ∀ (v2 : Int32) (v3 : Int32) (v4 : Int32), K_pathNode_L26 q k n v2 v3 v4 = some z → At X 26 [(0, .ref (adOf X 0)), (2, .int v2), (3, .int v3), (4, .int v4)] [] q := by
  induction n with
  | zero => intro v2 v3 v4 h; cases h
  | succ n ih => intro v2 v3 v4 h; exact w_K_pathNode_B26 C S _ hret k hk _ ih v2 v3 v4 h
def K_pathNode_J60 (v3 : Int32) (q : St) : Option (Int32) :=
  if v3 = (-1 : Int32) then
    some (-2 : Int32)
  else
    some v3
theorem w_K_pathNode_J60 {X : Cv} (C : Cx X cX10_pathNode RX10 rm_K_pathNode 5) (S : IsK X) {q : St} {z : Int32} (hret : RokI X cX10_pathNode .int z q) (v3 : Int32) (h : K_pathNode_J60 v3 q = some z) : At X 60 [(0, .ref (adOf X 0)), (3, .int v3)] [] q := by
  unfold K_pathNode_J60 at h
  refine a_iload_n C 1 rfl rfl dX10_pathNode_60 ?_
  refine a_iconst (v := -1) C (by decide) dX10_pathNode_61 ?_
  refine a_icmp_ne C 70 (by decide) dX10_pathNode_62 (fun c10 => ?_) (fun c10 => ?_)
  · replace h := ifn c10 h
    refine a_iload_n C 1 rfl rfl dX10_pathNode_70 ?_
    exact a_iretR hret h rfl dX10_pathNode_71
  · replace h := ifp c10 h
    refine a_bipush (v := -2) C (by decide) dX10_pathNode_65 ?_
    refine a_goto C 71 (by decide) dX10_pathNode_67 ?_
    exact a_iretR hret h rfl dX10_pathNode_71
def K_pathNode (q : St) (v1 : Int32) (v2 : Int32) : Option (Int32) :=
  b1 (K_isPresent q v1) fun x1 =>
  if x1 = (0 : Int32) then
    some (-1 : Int32)
  else
    if (0 : Int32) ≤ v2 then
      b1 (Sp_pathStart q v1) fun x4 =>
      K_pathNode_L26 q (fun y9 =>
        K_pathNode_J60 y9 q
        ) FU v2 x4 (0 : Int32)
    else
      some (-1 : Int32)
theorem w_K_pathNode {X : Cv} (C : Cx X cX10_pathNode RX10 rm_K_pathNode 5) (S : IsK X) {q : St} {z : Int32} (hret : RokI X cX10_pathNode .int z q) (v1 : Int32) (v2 : Int32) (h : K_pathNode q v1 v2 = some z) : At X 0 [(0, .ref (adOf X 0)), (1, .int v1), (2, .int v2)] [] q := by
  unfold K_pathNode at h
  refine a_aload_n C 0 rfl rfl dX10_pathNode_0 ?_
  refine a_iload_n C 1 rfl rfl dX10_pathNode_1 ?_
  obtain ⟨x1, e_x1, h⟩ := b1s h
  refine kK_10_181 C S e_x1 ⟨(Nat.le_of_ble_eq_true rfl), (Nat.le_of_ble_eq_true rfl)⟩ (Nat.le_of_ble_eq_true rfl) dX10_pathNode_2 ?_
  refine a_if_eq C 12 (by decide) dX10_pathNode_5 (fun c2 => ?_) (fun c2 => ?_)
  · replace h := ifp c2 h
    refine a_iconst (v := -1) C (by decide) dX10_pathNode_12 ?_
    exact a_iretR hret h rfl dX10_pathNode_13
  · replace h := ifn c2 h
    refine a_iload_n C 2 rfl rfl dX10_pathNode_8 ?_
    refine a_if_ge C 14 (by decide) dX10_pathNode_9 (fun c3 => ?_) (fun c3 => ?_)
    · replace h := ifp c3 h
      refine a_aload_n C 0 rfl rfl dX10_pathNode_14 ?_
      refine gK_10_57 C S dX10_pathNode_15 ?_
      refine a_iload_n C 1 rfl rfl dX10_pathNode_18 ?_
      obtain ⟨x4, e_x4, h⟩ := b1s h
      refine kK_10_241 C S e_x4 ⟨(Nat.le_of_ble_eq_true rfl), (Nat.le_of_ble_eq_true rfl)⟩ (Nat.le_of_ble_eq_true rfl) dX10_pathNode_19 ?_
      refine a_istore_n C [(3, .int x4), (0, .ref (adOf X 0)), (1, .int v1), (2, .int v2)] rfl (by decide) rfl dX10_pathNode_22 ?_
      refine a_iconst (v := 0) C (by decide) dX10_pathNode_23 ?_
      refine a_istore C [(4, .int (0 : Int32)), (3, .int x4), (0, .ref (adOf X 0)), (1, .int v1), (2, .int v2)] (by decide) rfl dX10_pathNode_24 ?_
      refine At.sub [2, 4, 1, 0] rfl (w_K_pathNode_L26 C S _ hret _ ?_ _ _ _ _ h)
      intro y9 h
      exact At.sub [0, 1] rfl (w_K_pathNode_J60 C S hret _ h)
    · replace h := ifn c3 h
      refine a_iconst (v := -1) C (by decide) dX10_pathNode_12 ?_
      exact a_iretR hret h rfl dX10_pathNode_13
theorem c_K_pathNode {l : Launch} {D : va_G} {I : ClassId × ClassId × ClassId × ClassId} {ad : Nat → Nat} {q : St} {v1 : Int32} {v2 : Int32} {z : Int32} (h : K_pathNode q v1 v2 = some z) : Ctr l D I (zK ad) 168 (shK I) ad yX10_pathNode cX10_pathNode 5 (some .int) rm_K_pathNode [.ref (ad 0), .int v1, .int v2] q (some z) q :=
  ctr_ofI (by decide) (Nat.le_of_ble_eq_true rfl) (fun p e s m args below meth c Q H0 X hX C hret => by subst hX; exact w_K_pathNode C ⟨rfl, rfl, rfl⟩ hret _ _ h)
abbrev rm_K_bottleneck : Room := { frames := 3, cells := 0, slots := 0, locals := 71 }
def K_bottleneck_J117 (rec : Int32 → Int32 → Int32 → Int32 → Option (Int32 × St)) (v2 : Int32) (v3 : Int32) (v4 : Int32) (v5 : Int32) (q : St) : Option (Int32 × St) :=
  b1 (rd 16 q 29 v4) fun x9 =>
  rec v2 v3 x9 (v5 + 1)
theorem w_K_bottleneck_J117 {X : Cv} (C : Cx X cX10_bottleneck RX10 rm_K_bottleneck 8) (S : IsK X) {q : St} {z : Int32 × St} (hret : RokI X cX10_bottleneck .int z.1 z.2) (rec : Int32 → Int32 → Int32 → Int32 → Option (Int32 × St)) (hrec : ∀ (v2 : Int32) (v3 : Int32) (v4 : Int32) (v5 : Int32), rec v2 v3 v4 v5 = some z → At X 35 [(0, .ref (adOf X 0)), (2, .int v2), (3, .int v3), (4, .int v4), (5, .int v5)] [] q) (v2 : Int32) (v3 : Int32) (v4 : Int32) (v5 : Int32) (h : K_bottleneck_J117 rec v2 v3 v4 v5 q = some z) : At X 117 [(0, .ref (adOf X 0)), (2, .int v2), (3, .int v3), (4, .int v4), (5, .int v5)] [] q := by
  unfold K_bottleneck_J117 at h
  refine a_aload_n C 0 rfl rfl dX10_bottleneck_117 ?_
  refine gK_10_22 C S dX10_bottleneck_118 ?_
  refine gK_10_244 C S (Or.inl rfl) dX10_bottleneck_121 ?_
  refine a_iload C 3 rfl dX10_bottleneck_124 ?_
  obtain ⟨x9, e_x9, h⟩ := b1s h
  refine lK_s10 (o := 19) C S (Or.inl rfl) e_x9 dX10_bottleneck_126 ?_
  refine a_istore C [(4, .int x9), (0, .ref (adOf X 0)), (2, .int v2), (3, .int v3), (5, .int v5)] (by decide) rfl dX10_bottleneck_127 ?_
  refine a_iinc (v := (v5 + 1)) C [(5, .int (v5 + 1)), (4, .int x9), (0, .ref (adOf X 0)), (2, .int v2), (3, .int v3)] 4 rfl (congrArg (HAdd.hAdd v5) (by decide : Int32.ofInt (1) = (1 : Int32))) (by decide) rfl dX10_bottleneck_129 ?_
  refine a_goto C 35 (by decide) dX10_bottleneck_132 ?_
  exact At.sub [2, 3, 4, 1, 0] rfl (hrec _ _ _ _ h)
def K_bottleneck_J111 (rec : Int32 → Int32 → Int32 → Int32 → Option (Int32 × St)) (v4 : Int32) (v5 : Int32) (v6 : Int32) (v7 : Int32) (q : St) : Option (Int32 × St) :=
  K_bottleneck_J117 rec v6 v7 v4 v5 q
theorem w_K_bottleneck_J111 {X : Cv} (C : Cx X cX10_bottleneck RX10 rm_K_bottleneck 8) (S : IsK X) {q : St} {z : Int32 × St} (hret : RokI X cX10_bottleneck .int z.1 z.2) (rec : Int32 → Int32 → Int32 → Int32 → Option (Int32 × St)) (hrec : ∀ (v2 : Int32) (v3 : Int32) (v4 : Int32) (v5 : Int32), rec v2 v3 v4 v5 = some z → At X 35 [(0, .ref (adOf X 0)), (2, .int v2), (3, .int v3), (4, .int v4), (5, .int v5)] [] q) (v4 : Int32) (v5 : Int32) (v6 : Int32) (v7 : Int32) (h : K_bottleneck_J111 rec v4 v5 v6 v7 q = some z) : At X 111 [(0, .ref (adOf X 0)), (4, .int v4), (5, .int v5), (6, .int v6), (7, .int v7)] [] q := by
  unfold K_bottleneck_J111 at h
  refine a_iload C 3 rfl dX10_bottleneck_111 ?_
  refine a_istore_n C [(2, .int v6), (0, .ref (adOf X 0)), (4, .int v4), (5, .int v5), (6, .int v6), (7, .int v7)] rfl (by decide) rfl dX10_bottleneck_113 ?_
  refine a_iload C 5 rfl dX10_bottleneck_114 ?_
  refine a_istore_n C [(3, .int v7), (2, .int v6), (0, .ref (adOf X 0)), (4, .int v4), (5, .int v5), (6, .int v6), (7, .int v7)] rfl (by decide) rfl dX10_bottleneck_116 ?_
  exact At.sub [2, 1, 0, 3, 4] rfl (w_K_bottleneck_J117 C S hret _ hrec _ _ _ _ h)
def K_bottleneck_B35 (q : St) (rec : Int32 → Int32 → Int32 → Int32 → Option (Int32 × St)) (v2 : Int32) (v3 : Int32) (v4 : Int32) (v5 : Int32) : Option (Int32 × St) :=
  if (16 : Int32) ≤ v5 then
    some (v2, q)
  else
    if v4 ≤ (0 : Int32) then
      some (v2, q)
    else
      b1 (Sp_uplink q v4) fun x7 =>
      if x7 = (-1 : Int32) then
        K_bottleneck_J117 rec v2 v3 v4 v5 q
      else
        b1 (rd 32 q 25 x7) fun x10 =>
        b1 (rd 32 q 159 x7) fun x11 =>
        lt_ (x10 - x11) fun w12 =>
        if v2 = (-2 : Int32) then
          K_bottleneck_J111 rec v4 v5 x7 w12 q
        else
          if w12 < v3 then
            K_bottleneck_J111 rec v4 v5 x7 w12 q
          else
            if w12 = v3 then
              if v2 ≤ x7 then
                K_bottleneck_J117 rec v2 v3 v4 v5 q
              else
                K_bottleneck_J111 rec v4 v5 x7 w12 q
            else
              K_bottleneck_J117 rec v2 v3 v4 v5 q
theorem w_K_bottleneck_B35 {X : Cv} (C : Cx X cX10_bottleneck RX10 rm_K_bottleneck 8) (S : IsK X) (q : St) {z : Int32 × St} (hret : RokI X cX10_bottleneck .int z.1 z.2) (rec : Int32 → Int32 → Int32 → Int32 → Option (Int32 × St)) (hrec : ∀ (v2 : Int32) (v3 : Int32) (v4 : Int32) (v5 : Int32), rec v2 v3 v4 v5 = some z → At X 35 [(0, .ref (adOf X 0)), (2, .int v2), (3, .int v3), (4, .int v4), (5, .int v5)] [] q) (v2 : Int32) (v3 : Int32) (v4 : Int32) (v5 : Int32) (h : K_bottleneck_B35 q rec v2 v3 v4 v5 = some z) : At X 35 [(0, .ref (adOf X 0)), (2, .int v2), (3, .int v3), (4, .int v4), (5, .int v5)] [] q := by
  unfold K_bottleneck_B35 at h
  refine a_iload C 4 rfl dX10_bottleneck_35 ?_
  refine a_bipush (v := 16) C (by decide) dX10_bottleneck_37 ?_
  refine a_icmp_ge C 135 (by decide) dX10_bottleneck_39 (fun c5 => ?_) (fun c5 => ?_)
  · replace h := ifp c5 h
    refine a_iload_n C 1 rfl rfl dX10_bottleneck_135 ?_
    exact a_iret hret h rfl dX10_bottleneck_136
  · replace h := ifn c5 h
    refine a_iload C 3 rfl dX10_bottleneck_42 ?_
    refine a_if_le C 135 (by decide) dX10_bottleneck_44 (fun c6 => ?_) (fun c6 => ?_)
    · replace h := ifp c6 h
      refine a_iload_n C 1 rfl rfl dX10_bottleneck_135 ?_
      exact a_iret hret h rfl dX10_bottleneck_136
    · replace h := ifn c6 h
      refine a_aload_n C 0 rfl rfl dX10_bottleneck_47 ?_
      refine gK_10_57 C S dX10_bottleneck_48 ?_
      refine a_iload C 3 rfl dX10_bottleneck_51 ?_
      obtain ⟨x7, e_x7, h⟩ := b1s h
      refine kK_10_250 C S e_x7 ⟨(Nat.le_of_ble_eq_true rfl), (Nat.le_of_ble_eq_true rfl)⟩ (Nat.le_of_ble_eq_true rfl) dX10_bottleneck_53 ?_
      refine a_istore C [(6, .int x7), (0, .ref (adOf X 0)), (2, .int v2), (3, .int v3), (4, .int v4), (5, .int v5)] (by decide) rfl dX10_bottleneck_56 ?_
      refine a_iload C 0 rfl dX10_bottleneck_58 ?_
      refine a_iconst (v := -1) C (by decide) dX10_bottleneck_60 ?_
      refine a_icmp_eq C 117 (by decide) dX10_bottleneck_61 (fun c8 => ?_) (fun c8 => ?_)
      · replace h := ifp c8 h
        exact At.sub [1, 2, 3, 4, 5] rfl (w_K_bottleneck_J117 C S hret _ hrec _ _ _ _ h)
      · replace h := ifn c8 h
        refine a_aload_n C 1 rfl rfl dX10_bottleneck_64 ?_
        refine gK_10_22 C S dX10_bottleneck_65 ?_
        refine gK_10_159 C S (Or.inl rfl) dX10_bottleneck_68 ?_
        refine a_iload C 0 rfl dX10_bottleneck_71 ?_
        obtain ⟨x10, e_x10, h⟩ := b1s h
        refine lK_s6 (o := 19) C S (Or.inl rfl) e_x10 dX10_bottleneck_73 ?_
        refine a_aload_n C 1 rfl rfl dX10_bottleneck_74 ?_
        refine gK_10_66 C S dX10_bottleneck_75 ?_
        refine gK_10_253 C S dX10_bottleneck_78 ?_
        refine a_iload C 0 rfl dX10_bottleneck_81 ?_
        obtain ⟨x11, e_x11, h⟩ := b1s h
        refine lK_159 C S e_x11 dX10_bottleneck_83 ?_
        refine a_isub C dX10_bottleneck_84 ?_
        obtain ⟨w12, e_w12, h⟩ := lts h
        refine a_top e_w12 ?_
        refine a_istore C [(7, .int w12), (6, .int x7), (0, .ref (adOf X 0)), (2, .int v2), (3, .int v3), (4, .int v4), (5, .int v5)] (by decide) rfl dX10_bottleneck_85 ?_
        refine a_iload_n C 3 rfl rfl dX10_bottleneck_87 ?_
        refine a_bipush (v := -2) C (by decide) dX10_bottleneck_88 ?_
        refine a_icmp_eq C 111 (by decide) dX10_bottleneck_90 (fun c13 => ?_) (fun c13 => ?_)
        · replace h := ifp c13 h
          exact At.sub [2, 5, 6, 1, 0] rfl (w_K_bottleneck_J111 C S hret _ hrec _ _ _ _ h)
        · replace h := ifn c13 h
          refine a_iload C 0 rfl dX10_bottleneck_93 ?_
          refine a_iload_n C 4 rfl rfl dX10_bottleneck_95 ?_
          refine a_icmp_lt C 111 (by decide) dX10_bottleneck_96 (fun c14 => ?_) (fun c14 => ?_)
          · replace h := ifp c14 h
            exact At.sub [2, 5, 6, 1, 0] rfl (w_K_bottleneck_J111 C S hret _ hrec _ _ _ _ h)
          · replace h := ifn c14 h
            refine a_iload C 0 rfl dX10_bottleneck_99 ?_
            refine a_iload_n C 4 rfl rfl dX10_bottleneck_101 ?_
            refine a_icmp_ne C 117 (by decide) dX10_bottleneck_102 (fun c15 => ?_) (fun c15 => ?_)
            · replace h := ifn c15 h
              exact At.sub [2, 3, 4, 5, 6] rfl (w_K_bottleneck_J117 C S hret _ hrec _ _ _ _ h)
            · replace h := ifp c15 h
              refine a_iload C 1 rfl dX10_bottleneck_105 ?_
              refine a_iload_n C 3 rfl rfl dX10_bottleneck_107 ?_
              refine a_icmp_ge C 117 (by decide) dX10_bottleneck_108 (fun c16 => ?_) (fun c16 => ?_)
              · replace h := ifp c16 h
                exact At.sub [2, 3, 4, 5, 6] rfl (w_K_bottleneck_J117 C S hret _ hrec _ _ _ _ h)
              · replace h := ifn c16 h
                exact At.sub [2, 5, 6, 1, 0] rfl (w_K_bottleneck_J111 C S hret _ hrec _ _ _ _ h)
def K_bottleneck_L35 (q : St) : Nat → Int32 → Int32 → Int32 → Int32 → Option (Int32 × St)
  | 0, _, _, _, _ => none
  | n + 1, v2, v3, v4, v5 => K_bottleneck_B35 q (K_bottleneck_L35 q n) v2 v3 v4 v5
theorem w_K_bottleneck_L35 {X : Cv} (C : Cx X cX10_bottleneck RX10 rm_K_bottleneck 8) (S : IsK X) (q : St) {z : Int32 × St} (hret : RokI X cX10_bottleneck .int z.1 z.2) (n : Nat) : ∀ (v2 : Int32) (v3 : Int32) (v4 : Int32) (v5 : Int32), K_bottleneck_L35 q n v2 v3 v4 v5 = some z → At X 35 [(0, .ref (adOf X 0)), (2, .int v2), (3, .int v3), (4, .int v4), (5, .int v5)] [] q := by
  induction n with
  | zero => intro v2 v3 v4 v5 h; cases h
  | succ n ih => intro v2 v3 v4 v5 h; exact w_K_bottleneck_B35 C S _ hret _ ih v2 v3 v4 v5 h
def K_bottleneck (q : St) (v1 : Int32) : Option (Int32 × St) :=
  b1 (K_isPresent q v1) fun x1 =>
  if x1 = (0 : Int32) then
    some ((-1 : Int32), q)
  else
    b1 (Fl_measure q) fun q3 =>
    b1 (Sp_pathStart q3 v1) fun x4 =>
    K_bottleneck_L35 q3 FU (-2 : Int32) (0 : Int32) x4 (0 : Int32)
theorem w_K_bottleneck {X : Cv} (C : Cx X cX10_bottleneck RX10 rm_K_bottleneck 8) (S : IsK X) {z : Int32 × St} (hret : RokI X cX10_bottleneck .int z.1 z.2) (v1 : Int32) (q : St) (h : K_bottleneck q v1 = some z) : At X 0 [(0, .ref (adOf X 0)), (1, .int v1)] [] q := by
  unfold K_bottleneck at h
  refine a_aload_n C 0 rfl rfl dX10_bottleneck_0 ?_
  refine a_iload_n C 1 rfl rfl dX10_bottleneck_1 ?_
  obtain ⟨x1, e_x1, h⟩ := b1s h
  refine kK_10_181 C S e_x1 ⟨(Nat.le_of_ble_eq_true rfl), (Nat.le_of_ble_eq_true rfl)⟩ (Nat.le_of_ble_eq_true rfl) dX10_bottleneck_2 ?_
  refine a_if_ne C 10 (by decide) dX10_bottleneck_5 (fun c2 => ?_) (fun c2 => ?_)
  · replace h := ifn c2 h
    refine a_aload_n C 0 rfl rfl dX10_bottleneck_10 ?_
    refine gK_10_66 C S dX10_bottleneck_11 ?_
    obtain ⟨q3, e_q3, h⟩ := b1s h
    refine kK_10_247 C S e_q3 ⟨(Nat.le_of_ble_eq_true rfl), (Nat.le_of_ble_eq_true rfl)⟩ (Nat.le_of_ble_eq_true rfl) dX10_bottleneck_14 ?_
    refine a_bipush (v := -2) C (by decide) dX10_bottleneck_17 ?_
    refine a_istore_n C [(2, .int (-2 : Int32)), (0, .ref (adOf X 0)), (1, .int v1)] rfl (by decide) rfl dX10_bottleneck_19 ?_
    refine a_iconst (v := 0) C (by decide) dX10_bottleneck_20 ?_
    refine a_istore_n C [(3, .int (0 : Int32)), (2, .int (-2 : Int32)), (0, .ref (adOf X 0)), (1, .int v1)] rfl (by decide) rfl dX10_bottleneck_21 ?_
    refine a_aload_n C 2 rfl rfl dX10_bottleneck_22 ?_
    refine gK_10_57 C S dX10_bottleneck_23 ?_
    refine a_iload_n C 3 rfl rfl dX10_bottleneck_26 ?_
    obtain ⟨x4, e_x4, h⟩ := b1s h
    refine kK_10_241 C S e_x4 ⟨(Nat.le_of_ble_eq_true rfl), (Nat.le_of_ble_eq_true rfl)⟩ (Nat.le_of_ble_eq_true rfl) dX10_bottleneck_27 ?_
    refine a_istore C [(4, .int x4), (3, .int (0 : Int32)), (2, .int (-2 : Int32)), (0, .ref (adOf X 0)), (1, .int v1)] (by decide) rfl dX10_bottleneck_30 ?_
    refine a_iconst (v := 0) C (by decide) dX10_bottleneck_32 ?_
    refine a_istore C [(5, .int (0 : Int32)), (4, .int x4), (3, .int (0 : Int32)), (2, .int (-2 : Int32)), (0, .ref (adOf X 0)), (1, .int v1)] (by decide) rfl dX10_bottleneck_33 ?_
    exact At.sub [4, 3, 2, 1, 0] rfl (w_K_bottleneck_L35 C S _ hret _ _ _ _ _ h)
  · replace h := ifp c2 h
    refine a_iconst (v := -1) C (by decide) dX10_bottleneck_8 ?_
    exact a_iret hret h rfl dX10_bottleneck_9
theorem c_K_bottleneck {l : Launch} {D : va_G} {I : ClassId × ClassId × ClassId × ClassId} {ad : Nat → Nat} {q : St} {v1 : Int32} {z : Int32 × St} (h : K_bottleneck q v1 = some z) : Ctr l D I (zK ad) 168 (shK I) ad yX10_bottleneck cX10_bottleneck 8 (some .int) rm_K_bottleneck [.ref (ad 0), .int v1] q (some z.1) z.2 :=
  ctr_ofI (by decide) (Nat.le_of_ble_eq_true rfl) (fun p e s m args below meth c Q H0 X hX C hret => by subst hX; exact w_K_bottleneck C ⟨rfl, rfl, rfl⟩ hret _ _ h)
