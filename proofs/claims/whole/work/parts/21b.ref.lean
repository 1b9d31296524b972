abbrev rmM_readCpu : Room := { frames := 4, cells := 0, slots := 0, locals := 86 }
def M_readCpu_J79 (v1 : Int32) (v2 : Int32) (z0 : Int32) (q : St) : Option (St) :=
  b1 (M_takes q z0) fun q8 =>
  if (gt q8 0 11) = (0 : Int32) then
    some q8
  else
    b1 (wr 172 q8 3 ((132 : Int32) + v1) v2) fun q10 =>
    lt_ (st q10 0 5 ((gt q10 0 5) ||| ((1 : Int32) <<< (v1 &&& 31)))) fun q11 =>
    some q11
theorem w_M_readCpu_J79 {X : Cv} (C : Cx X cX11_readCpu RX11 rmM_readCpu 3) (S : IsM X) {z : St} (hret : RokV X cX11_readCpu z) (v1 : Int32) (v2 : Int32) (z0 : Int32) (q : St) (h : M_readCpu_J79 v1 v2 z0 q = some z) : At X 79 [(0, .ref (adOf X 0)), (1, .int v1), (2, .int v2)] [.int z0, .ref (adOf X 0)] q := by
  unfold M_readCpu_J79 at h
  obtain ⟨q8, e_q8, h⟩ := b1s h
  refine k_M_takes C S e_q8 ⟨Nat.le_of_ble_eq_true rfl, Nat.le_of_ble_eq_true rfl⟩ (Nat.le_of_ble_eq_true rfl) dX11_readCpu_79 ?_
  refine a_aload_n C 0 rfl rfl dX11_readCpu_82 ?_
  refine gM_fine C S dX11_readCpu_83 ?_
  refine a_if_eq C 112 (by decide) dX11_readCpu_86 (fun c9 => ?_) (fun c9 => ?_)
  · replace h := ifp c9 h
    exact a_vret hret h dX11_readCpu_112
  · replace h := ifn c9 h
    refine a_aload_n C 0 rfl rfl dX11_readCpu_89 ?_
    refine gM_draft C S dX11_readCpu_90 ?_
    refine a_sipush (v := 132) C (by decide) dX11_readCpu_93 ?_
    refine a_iload_n C 1 rfl rfl dX11_readCpu_96 ?_
    refine a_iadd C dX11_readCpu_97 ?_
    refine a_iload_n C 2 rfl rfl dX11_readCpu_98 ?_
    obtain ⟨q10, e_q10, h⟩ := b1s h
    refine sM_draft C S e_q10 dX11_readCpu_99 ?_
    refine a_aload_n C 0 rfl rfl dX11_readCpu_100 ?_
    refine a_dup C rfl dX11_readCpu_101 ?_
    refine gM_told C S dX11_readCpu_102 ?_
    refine a_iconst (v := 1) C (by decide) dX11_readCpu_105 ?_
    refine a_iload_n C 1 rfl rfl dX11_readCpu_106 ?_
    refine a_ishl C dX11_readCpu_107 ?_
    refine a_ior C dX11_readCpu_108 ?_
    obtain ⟨q11, e_q11, h⟩ := lts h
    refine pM_told C S e_q11 dX11_readCpu_109 ?_
    exact a_vret hret h dX11_readCpu_112
def M_readCpu_J53 (v1 : Int32) (z0 : Int32) (q : St) : Option (St) :=
  b1 (M_takes q z0) fun q4 =>
  b2 (M_number q4 (0 : Int32) (999 : Int32)) fun x5 q6 =>
  if (gt q6 0 8) = (3 : Int32) then
    M_readCpu_J79 v1 x5 (1 : Int32) q6
  else
    M_readCpu_J79 v1 x5 (0 : Int32) q6
theorem w_M_readCpu_J53 {X : Cv} (C : Cx X cX11_readCpu RX11 rmM_readCpu 3) (S : IsM X) {z : St} (hret : RokV X cX11_readCpu z) (v1 : Int32) (z0 : Int32) (q : St) (h : M_readCpu_J53 v1 z0 q = some z) : At X 53 [(0, .ref (adOf X 0)), (1, .int v1)] [.int z0, .ref (adOf X 0)] q := by
  unfold M_readCpu_J53 at h
  obtain ⟨q4, e_q4, h⟩ := b1s h
  refine k_M_takes C S e_q4 ⟨Nat.le_of_ble_eq_true rfl, Nat.le_of_ble_eq_true rfl⟩ (Nat.le_of_ble_eq_true rfl) dX11_readCpu_53 ?_
  refine a_aload_n C 0 rfl rfl dX11_readCpu_56 ?_
  refine a_iconst (v := 0) C (by decide) dX11_readCpu_57 ?_
  refine a_sipush (v := 999) C (by decide) dX11_readCpu_58 ?_
  obtain ⟨x5, q6, e_q6, h⟩ := b2s h
  refine k_M_number C S e_q6 ⟨Nat.le_of_ble_eq_true rfl, Nat.le_of_ble_eq_true rfl⟩ (Nat.le_of_ble_eq_true rfl) dX11_readCpu_61 ?_
  refine a_istore_n C [(2, .int x5), (0, .ref (adOf X 0)), (1, .int v1)] rfl (by decide) rfl dX11_readCpu_64 ?_
  refine a_aload_n C 1 rfl rfl dX11_readCpu_65 ?_
  refine a_aload_n C 1 rfl rfl dX11_readCpu_66 ?_
  refine gM_kind C S dX11_readCpu_67 ?_
  refine a_iconst (v := 3) C (by decide) dX11_readCpu_70 ?_
  refine a_icmp_ne C 78 (by decide) dX11_readCpu_71 (fun c7 => ?_) (fun c7 => ?_)
  · replace h := ifn c7 h
    refine a_iconst (v := 0) C (by decide) dX11_readCpu_78 ?_
    exact At.sub [1, 2, 0] rfl (w_M_readCpu_J79 C S hret _ _ _ _ h)
  · replace h := ifp c7 h
    refine a_iconst (v := 1) C (by decide) dX11_readCpu_74 ?_
    refine a_goto C 79 (by decide) dX11_readCpu_75 ?_
    exact At.sub [1, 2, 0] rfl (w_M_readCpu_J79 C S hret _ _ _ _ h)
def M_readCpu_J52 (v1 : Int32) (q : St) : Option (St) :=
  M_readCpu_J53 v1 (0 : Int32) q
theorem w_M_readCpu_J52 {X : Cv} (C : Cx X cX11_readCpu RX11 rmM_readCpu 3) (S : IsM X) {z : St} (hret : RokV X cX11_readCpu z) (v1 : Int32) (q : St) (h : M_readCpu_J52 v1 q = some z) : At X 52 [(0, .ref (adOf X 0)), (1, .int v1)] [.ref (adOf X 0)] q := by
  unfold M_readCpu_J52 at h
  refine a_iconst (v := 0) C (by decide) dX11_readCpu_52 ?_
  exact At.sub [0, 1] rfl (w_M_readCpu_J53 C S hret _ _ _ h)
def M_readCpu (q : St) : Option (St) :=
  b1 (M_takes q (1 : Int32)) fun q1 =>
  lt_ (gt q1 0 9) fun w2 =>
  if (gt q1 0 8) = (2 : Int32) then
    b1 (rd 172 q1 3 (0 : Int32)) fun x12 =>
    b1 (M_in q1 w2.toInt64 (0 : Int64) ((x12 - (1 : Int32))).toInt64) fun x13 =>
    if x13 = (0 : Int32) then
      M_readCpu_J52 w2 q1
    else
      if (((gt q1 0 5) >>> (w2 &&& 31)) &&& (1 : Int32)) = (0 : Int32) then
        M_readCpu_J53 w2 (1 : Int32) q1
      else
        M_readCpu_J52 w2 q1
  else
    M_readCpu_J52 w2 q1
theorem w_M_readCpu {X : Cv} (C : Cx X cX11_readCpu RX11 rmM_readCpu 3) (S : IsM X) {z : St} (hret : RokV X cX11_readCpu z) (q : St) (h : M_readCpu q = some z) : At X 0 [(0, .ref (adOf X 0))] [] q := by
  unfold M_readCpu at h
  refine a_aload_n C 0 rfl rfl dX11_readCpu_0 ?_
  refine a_iconst (v := 1) C (by decide) dX11_readCpu_1 ?_
  obtain ⟨q1, e_q1, h⟩ := b1s h
  refine k_M_takes C S e_q1 ⟨Nat.le_of_ble_eq_true rfl, Nat.le_of_ble_eq_true rfl⟩ (Nat.le_of_ble_eq_true rfl) dX11_readCpu_2 ?_
  refine a_aload_n C 0 rfl rfl dX11_readCpu_5 ?_
  refine gM_value C S dX11_readCpu_6 ?_
  obtain ⟨w2, e_w2, h⟩ := lts h
  refine a_top e_w2 ?_
  refine a_istore_n C [(1, .int w2), (0, .ref (adOf X 0))] rfl (by decide) rfl dX11_readCpu_9 ?_
  refine a_aload_n C 1 rfl rfl dX11_readCpu_10 ?_
  refine a_aload_n C 1 rfl rfl dX11_readCpu_11 ?_
  refine gM_kind C S dX11_readCpu_12 ?_
  refine a_iconst (v := 2) C (by decide) dX11_readCpu_15 ?_
  refine a_icmp_ne C 52 (by decide) dX11_readCpu_16 (fun c3 => ?_) (fun c3 => ?_)
  · replace h := ifn c3 h
    exact At.sub [1, 0] rfl (w_M_readCpu_J52 C S hret _ _ h)
  · replace h := ifp c3 h
    refine a_iload_n C 0 rfl rfl dX11_readCpu_19 ?_
    refine a_i2l C dX11_readCpu_20 ?_
    refine a_lconst (v := 0) C (by decide) dX11_readCpu_21 ?_
    refine a_aload_n C 1 rfl rfl dX11_readCpu_22 ?_
    refine gM_draft C S dX11_readCpu_23 ?_
    refine a_iconst (v := 0) C (by decide) dX11_readCpu_26 ?_
    obtain ⟨x12, e_x12, h⟩ := b1s h
    refine lM_draft C S e_x12 dX11_readCpu_27 ?_
    refine a_iconst (v := 1) C (by decide) dX11_readCpu_28 ?_
    refine a_isub C dX11_readCpu_29 ?_
    refine a_i2l C dX11_readCpu_30 ?_
    obtain ⟨x13, e_x13, h⟩ := b1s h
    refine k_M_in C S e_x13 ⟨Nat.le_of_ble_eq_true rfl, Nat.le_of_ble_eq_true rfl⟩ (Nat.le_of_ble_eq_true rfl) dX11_readCpu_31 ?_
    refine a_if_eq C 52 (by decide) dX11_readCpu_34 (fun c14 => ?_) (fun c14 => ?_)
    · replace h := ifp c14 h
      exact At.sub [1, 0] rfl (w_M_readCpu_J52 C S hret _ _ h)
    · replace h := ifn c14 h
      refine a_aload_n C 1 rfl rfl dX11_readCpu_37 ?_
      refine gM_told C S dX11_readCpu_38 ?_
      refine a_iload_n C 0 rfl rfl dX11_readCpu_41 ?_
      refine a_ishr C dX11_readCpu_42 ?_
      refine a_iconst (v := 1) C (by decide) dX11_readCpu_43 ?_
      refine a_iand C dX11_readCpu_44 ?_
      refine a_if_ne C 52 (by decide) dX11_readCpu_45 (fun c15 => ?_) (fun c15 => ?_)
      · replace h := ifn c15 h
        exact At.sub [1, 0] rfl (w_M_readCpu_J52 C S hret _ _ h)
      · replace h := ifp c15 h
        refine a_iconst (v := 1) C (by decide) dX11_readCpu_48 ?_
        refine a_goto C 53 (by decide) dX11_readCpu_49 ?_
        exact At.sub [1, 0] rfl (w_M_readCpu_J53 C S hret _ _ _ h)
theorem c_M_readCpu {l : Launch} {D : va_G} {I : ClassId × ClassId × ClassId × ClassId} {ad : Nat → Nat} {q : St} {z : St} (h : M_readCpu q = some z) : Ctr l D I zT 18 (shM I) ad yX11_readCpu cX11_readCpu 3 none rmM_readCpu [.ref (ad 0)] q none z :=
  ctr_ofV (by decide) (Nat.le_of_ble_eq_true rfl) (fun p e s m args below meth c Q H0 X hX C hret => by subst hX; exact w_M_readCpu C ⟨rfl, rfl, rfl⟩ hret _ h)
theorem g_M_readCpu : GoodIn lw_tg (wsV RX11 152 RX11 yX11_readCpu (Cond.code yX11_readCpu cX11_readCpu 3 none :: lw_tg)) := gd_V (tg 1378 (by decide +kernel) rfl) (tg 1380 (by decide +kernel) rfl) (tg 59 (by decide +kernel) rfl) (tg 128 (by decide +kernel) rfl) (tg 1381 (by decide +kernel) rfl)
theorem k_M_readCpu {X : Cv} {cc : ByteArray} {rm : Room} {nL1 pc : Nat} {lv : List (Nat × Value)} {sk : List Value} {q : St} {q2 : St} (C : Cx X cc RX11 rm nL1) (S : IsM X) (h : M_readCpu q = some q2) (hz : rmM_readCpu.frames + 1 ≤ rm.frames ∧ 8 + (3 + 11) + rmM_readCpu.locals ≤ rm.locals) (hr : (sk.map fun v => v.category).sum ≤ 8) (hd : decode cc pc = .ok (.invokevirtual 152, 3)) (k : At X (pc + 3) lv sk q2) : At X pc lv (.ref (adOf X 0) :: sk) q := a_callVv (as := []) C (kp := 0) (by rw [S.1]; decide) (by rw [S.2.1]; rfl) rfl (by have hh := c_M_readCpu (l := X.2.1) (D := dOf X) (I := idOf X) (ad := adOf X) h; rw [← S.1, ← S.2.1, ← S.2.2] at hh; exact hh) g_M_readCpu ⟨rfl, rfl, hz.1, hz.2⟩ ⟨by decide, by decide, by show Option.map _ (parseMethodDescriptor yX11_readCpu.desc) = some 0; decide⟩ hr rfl hd k
abbrev rmM_readNative : Room := { frames := 3, cells := 0, slots := 0, locals := 63 }
def M_readNative_J105 (k : St → Option (St)) (rec : Int32 → St → Option (St)) (q : St) : Option (St) :=
  if (gt q 0 8) = (3 : Int32) then
    rec (0 : Int32) q
  else
    rec (1 : Int32) q
theorem w_M_readNative_J105 {X : Cv} (C : Cx X cX11_readNative RX11 rmM_readNative 4) (S : IsM X) {z : St} (hret : RokV X cX11_readNative z) (k : St → Option (St)) (hk : ∀ (q : St), k q = some z → At X 122 [(0, .ref (adOf X 0))] [] q) (rec : Int32 → St → Option (St)) (hrec : ∀ (v1 : Int32) (q : St), rec v1 q = some z → At X 20 [(0, .ref (adOf X 0)), (1, .int v1)] [] q) (q : St) (h : M_readNative_J105 k rec q = some z) : At X 105 [(0, .ref (adOf X 0))] [] q := by
  unfold M_readNative_J105 at h
  refine a_aload_n C 0 rfl rfl dX11_readNative_105 ?_
  refine gM_kind C S dX11_readNative_106 ?_
  refine a_iconst (v := 3) C (by decide) dX11_readNative_109 ?_
  refine a_icmp_eq C 117 (by decide) dX11_readNative_110 (fun c11 => ?_) (fun c11 => ?_)
  · replace h := ifp c11 h
    refine a_iconst (v := 0) C (by decide) dX11_readNative_117 ?_
    refine a_istore_n C [(1, .int (0 : Int32)), (0, .ref (adOf X 0))] rfl (by decide) rfl dX11_readNative_118 ?_
    refine a_goto C 20 (by decide) dX11_readNative_119 ?_
    exact At.sub [1, 0] rfl (hrec _ _ h)
  · replace h := ifn c11 h
    refine a_iconst (v := 1) C (by decide) dX11_readNative_113 ?_
    refine a_goto C 118 (by decide) dX11_readNative_114 ?_
    refine a_istore_n C [(1, .int (1 : Int32)), (0, .ref (adOf X 0))] rfl (by decide) rfl dX11_readNative_118 ?_
    refine a_goto C 20 (by decide) dX11_readNative_119 ?_
    exact At.sub [1, 0] rfl (hrec _ _ h)
def M_readNative_J74 (k : St → Option (St)) (rec : Int32 → St → Option (St)) (v2 : Int32) (v3 : Int32) (z0 : Int32) (q : St) : Option (St) :=
  b1 (M_takes q z0) fun q9 =>
  if (gt q9 0 11) = (0 : Int32) then
    M_readNative_J105 k rec  q9
  else
    b1 (wr 172 q9 3 ((148 : Int32) + v2) v3) fun q12 =>
    b1 (rd 172 q12 3 (3 : Int32)) fun x13 =>
    b1 (wr 172 q12 3 (3 : Int32) (x13 + (1 : Int32))) fun q14 =>
    M_readNative_J105 k rec  q14
theorem w_M_readNative_J74 {X : Cv} (C : Cx X cX11_readNative RX11 rmM_readNative 4) (S : IsM X) {z : St} (hret : RokV X cX11_readNative z) (k : St → Option (St)) (hk : ∀ (q : St), k q = some z → At X 122 [(0, .ref (adOf X 0))] [] q) (rec : Int32 → St → Option (St)) (hrec : ∀ (v1 : Int32) (q : St), rec v1 q = some z → At X 20 [(0, .ref (adOf X 0)), (1, .int v1)] [] q) (v2 : Int32) (v3 : Int32) (z0 : Int32) (q : St) (h : M_readNative_J74 k rec v2 v3 z0 q = some z) : At X 74 [(0, .ref (adOf X 0)), (2, .int v2), (3, .int v3)] [.int z0, .ref (adOf X 0)] q := by
  unfold M_readNative_J74 at h
  obtain ⟨q9, e_q9, h⟩ := b1s h
  refine k_M_takes C S e_q9 ⟨Nat.le_of_ble_eq_true rfl, Nat.le_of_ble_eq_true rfl⟩ (Nat.le_of_ble_eq_true rfl) dX11_readNative_74 ?_
  refine a_aload_n C 0 rfl rfl dX11_readNative_77 ?_
  refine gM_fine C S dX11_readNative_78 ?_
  refine a_if_eq C 105 (by decide) dX11_readNative_81 (fun c10 => ?_) (fun c10 => ?_)
  · replace h := ifp c10 h
    exact At.sub [0] rfl (w_M_readNative_J105 C S hret _ hk _ hrec  _ h)
  · replace h := ifn c10 h
    refine a_aload_n C 0 rfl rfl dX11_readNative_84 ?_
    refine gM_draft C S dX11_readNative_85 ?_
    refine a_sipush (v := 148) C (by decide) dX11_readNative_88 ?_
    refine a_iload_n C 1 rfl rfl dX11_readNative_91 ?_
    refine a_iadd C dX11_readNative_92 ?_
    refine a_iload_n C 2 rfl rfl dX11_readNative_93 ?_
    obtain ⟨q12, e_q12, h⟩ := b1s h
    refine sM_draft C S e_q12 dX11_readNative_94 ?_
    refine a_aload_n C 0 rfl rfl dX11_readNative_95 ?_
    refine gM_draft C S dX11_readNative_96 ?_
    refine a_iconst (v := 3) C (by decide) dX11_readNative_99 ?_
    refine a_dup2 C rfl rfl dX11_readNative_100 ?_
    obtain ⟨x13, e_x13, h⟩ := b1s h
    refine lM_draft C S e_x13 dX11_readNative_101 ?_
    refine a_iconst (v := 1) C (by decide) dX11_readNative_102 ?_
    refine a_iadd C dX11_readNative_103 ?_
    obtain ⟨q14, e_q14, h⟩ := b1s h
    refine sM_draft C S e_q14 dX11_readNative_104 ?_
    exact At.sub [0] rfl (w_M_readNative_J105 C S hret _ hk _ hrec  _ h)
def M_readNative_J73 (k : St → Option (St)) (rec : Int32 → St → Option (St)) (v2 : Int32) (v3 : Int32) (q : St) : Option (St) :=
  M_readNative_J74 k rec v2 v3 (0 : Int32) q
theorem w_M_readNative_J73 {X : Cv} (C : Cx X cX11_readNative RX11 rmM_readNative 4) (S : IsM X) {z : St} (hret : RokV X cX11_readNative z) (k : St → Option (St)) (hk : ∀ (q : St), k q = some z → At X 122 [(0, .ref (adOf X 0))] [] q) (rec : Int32 → St → Option (St)) (hrec : ∀ (v1 : Int32) (q : St), rec v1 q = some z → At X 20 [(0, .ref (adOf X 0)), (1, .int v1)] [] q) (v2 : Int32) (v3 : Int32) (q : St) (h : M_readNative_J73 k rec v2 v3 q = some z) : At X 73 [(0, .ref (adOf X 0)), (2, .int v2), (3, .int v3)] [.ref (adOf X 0)] q := by
  unfold M_readNative_J73 at h
  refine a_iconst (v := 0) C (by decide) dX11_readNative_73 ?_
  exact At.sub [0, 1, 2] rfl (w_M_readNative_J74 C S hret _ hk _ hrec _ _ _ _ h)
def M_readNative_B20 (k : St → Option (St)) (rec : Int32 → St → Option (St)) (v1 : Int32) (q : St) : Option (St) :=
  if (gt q 0 11) = (0 : Int32) then
    k  q
  else
    if v1 = (0 : Int32) then
      k  q
    else
      b1 (rd 172 q 3 (3 : Int32)) fun x6 =>
      lt_ (gt q 0 9) fun w7 =>
      if (gt q 0 8) = (2 : Int32) then
        b1 (M_in q w7.toInt64 (1 : Int64) (999 : Int64)) fun x15 =>
        if x15 = (0 : Int32) then
          M_readNative_J73 k rec x6 w7 q
        else
          if (5 : Int32) ≤ x6 then
            M_readNative_J73 k rec x6 w7 q
          else
            M_readNative_J74 k rec x6 w7 (1 : Int32) q
      else
        M_readNative_J73 k rec x6 w7 q
theorem w_M_readNative_B20 {X : Cv} (C : Cx X cX11_readNative RX11 rmM_readNative 4) (S : IsM X) {z : St} (hret : RokV X cX11_readNative z) (k : St → Option (St)) (hk : ∀ (q : St), k q = some z → At X 122 [(0, .ref (adOf X 0))] [] q) (rec : Int32 → St → Option (St)) (hrec : ∀ (v1 : Int32) (q : St), rec v1 q = some z → At X 20 [(0, .ref (adOf X 0)), (1, .int v1)] [] q) (v1 : Int32) (q : St) (h : M_readNative_B20 k rec v1 q = some z) : At X 20 [(0, .ref (adOf X 0)), (1, .int v1)] [] q := by
  unfold M_readNative_B20 at h
  refine a_aload_n C 0 rfl rfl dX11_readNative_20 ?_
  refine gM_fine C S dX11_readNative_21 ?_
  refine a_if_eq C 122 (by decide) dX11_readNative_24 (fun c4 => ?_) (fun c4 => ?_)
  · replace h := ifp c4 h
    exact At.sub [0] rfl (hk  _ h)
  · replace h := ifn c4 h
    refine a_iload_n C 1 rfl rfl dX11_readNative_27 ?_
    refine a_if_eq C 122 (by decide) dX11_readNative_28 (fun c5 => ?_) (fun c5 => ?_)
    · replace h := ifp c5 h
      exact At.sub [0] rfl (hk  _ h)
    · replace h := ifn c5 h
      refine a_aload_n C 0 rfl rfl dX11_readNative_31 ?_
      refine gM_draft C S dX11_readNative_32 ?_
      refine a_iconst (v := 3) C (by decide) dX11_readNative_35 ?_
      obtain ⟨x6, e_x6, h⟩ := b1s h
      refine lM_draft C S e_x6 dX11_readNative_36 ?_
      refine a_istore_n C [(2, .int x6), (0, .ref (adOf X 0)), (1, .int v1)] rfl (by decide) rfl dX11_readNative_37 ?_
      refine a_aload_n C 1 rfl rfl dX11_readNative_38 ?_
      refine gM_value C S dX11_readNative_39 ?_
      obtain ⟨w7, e_w7, h⟩ := lts h
      refine a_top e_w7 ?_
      refine a_istore_n C [(3, .int w7), (2, .int x6), (0, .ref (adOf X 0)), (1, .int v1)] rfl (by decide) rfl dX11_readNative_42 ?_
      refine a_aload_n C 2 rfl rfl dX11_readNative_43 ?_
      refine a_aload_n C 2 rfl rfl dX11_readNative_44 ?_
      refine gM_kind C S dX11_readNative_45 ?_
      refine a_iconst (v := 2) C (by decide) dX11_readNative_48 ?_
      refine a_icmp_ne C 73 (by decide) dX11_readNative_49 (fun c8 => ?_) (fun c8 => ?_)
      · replace h := ifn c8 h
        exact At.sub [2, 1, 0] rfl (w_M_readNative_J73 C S hret _ hk _ hrec _ _ _ h)
      · replace h := ifp c8 h
        refine a_iload_n C 0 rfl rfl dX11_readNative_52 ?_
        refine a_i2l C dX11_readNative_53 ?_
        refine a_lconst (v := 1) C (by decide) dX11_readNative_54 ?_
        refine a_ldc2 (v := 999) C (tg 1387 (by decide +kernel) rfl) dX11_readNative_55 ?_
        obtain ⟨x15, e_x15, h⟩ := b1s h
        refine k_M_in C S e_x15 ⟨Nat.le_of_ble_eq_true rfl, Nat.le_of_ble_eq_true rfl⟩ (Nat.le_of_ble_eq_true rfl) dX11_readNative_58 ?_
        refine a_if_eq C 73 (by decide) dX11_readNative_61 (fun c16 => ?_) (fun c16 => ?_)
        · replace h := ifp c16 h
          exact At.sub [2, 1, 0] rfl (w_M_readNative_J73 C S hret _ hk _ hrec _ _ _ h)
        · replace h := ifn c16 h
          refine a_iload_n C 1 rfl rfl dX11_readNative_64 ?_
          refine a_iconst (v := 5) C (by decide) dX11_readNative_65 ?_
          refine a_icmp_ge C 73 (by decide) dX11_readNative_66 (fun c17 => ?_) (fun c17 => ?_)
          · replace h := ifp c17 h
            exact At.sub [2, 1, 0] rfl (w_M_readNative_J73 C S hret _ hk _ hrec _ _ _ h)
          · replace h := ifn c17 h
            refine a_iconst (v := 1) C (by decide) dX11_readNative_69 ?_
            refine a_goto C 74 (by decide) dX11_readNative_70 ?_
            exact At.sub [2, 1, 0] rfl (w_M_readNative_J74 C S hret _ hk _ hrec _ _ _ _ h)
def M_readNative_L20 (k : St → Option (St)) : Nat → Int32 → St → Option (St)
  | 0, _, _ => none
  | n + 1, v1, q => M_readNative_B20 k (M_readNative_L20 k n) v1 q
theorem w_M_readNative_L20 {X : Cv} (C : Cx X cX11_readNative RX11 rmM_readNative 4) (S : IsM X) {z : St} (hret : RokV X cX11_readNative z) (k : St → Option (St)) (hk : ∀ (q : St), k q = some z → At X 122 [(0, .ref (adOf X 0))] [] q) (n : Nat) : ∀ (v1 : Int32) (q : St), M_readNative_L20 k n v1 q = some z → At X 20 [(0, .ref (adOf X 0)), (1, .int v1)] [] q := by
  induction n with
  | zero => intro v1 q h; cases h
  | succ n ih => intro v1 q h; exact w_M_readNative_B20 C S hret k hk _ ih v1 q h
def M_readNative_J136 (z0 : Int32) (q : St) : Option (St) :=
  b1 (M_takes q z0) fun q20 =>
  some q20
theorem w_M_readNative_J136 {X : Cv} (C : Cx X cX11_readNative RX11 rmM_readNative 4) (S : IsM X) {z : St} (hret : RokV X cX11_readNative z) (z0 : Int32) (q : St) (h : M_readNative_J136 z0 q = some z) : At X 136 [(0, .ref (adOf X 0))] [.int z0, .ref (adOf X 0)] q := by
  unfold M_readNative_J136 at h
  obtain ⟨q20, e_q20, h⟩ := b1s h
  refine k_M_takes C S e_q20 ⟨Nat.le_of_ble_eq_true rfl, Nat.le_of_ble_eq_true rfl⟩ (Nat.le_of_ble_eq_true rfl) dX11_readNative_136 ?_
  exact a_vret hret h dX11_readNative_139
def M_readNative_J122 (q : St) : Option (St) :=
  if (gt q 0 8) = (3 : Int32) then
    M_readNative_J136 (1 : Int32) q
  else
    M_readNative_J136 (0 : Int32) q
theorem w_M_readNative_J122 {X : Cv} (C : Cx X cX11_readNative RX11 rmM_readNative 4) (S : IsM X) {z : St} (hret : RokV X cX11_readNative z) (q : St) (h : M_readNative_J122 q = some z) : At X 122 [(0, .ref (adOf X 0))] [] q := by
  unfold M_readNative_J122 at h
  refine a_aload_n C 0 rfl rfl dX11_readNative_122 ?_
  refine a_aload_n C 0 rfl rfl dX11_readNative_123 ?_
  refine gM_kind C S dX11_readNative_124 ?_
  refine a_iconst (v := 3) C (by decide) dX11_readNative_127 ?_
  refine a_icmp_ne C 135 (by decide) dX11_readNative_128 (fun c19 => ?_) (fun c19 => ?_)
  · replace h := ifn c19 h
    refine a_iconst (v := 0) C (by decide) dX11_readNative_135 ?_
    exact At.sub [0] rfl (w_M_readNative_J136 C S hret _ _ h)
  · replace h := ifp c19 h
    refine a_iconst (v := 1) C (by decide) dX11_readNative_131 ?_
    refine a_goto C 136 (by decide) dX11_readNative_132 ?_
    exact At.sub [0] rfl (w_M_readNative_J136 C S hret _ _ h)
def M_readNative (q : St) : Option (St) :=
  b1 (M_isWord q (471475909 : Int64)) fun x1 =>
  b1 (M_takes q x1) fun q2 =>
  b1 (wr 172 q2 3 (2 : Int32) (1 : Int32)) fun q3 =>
  M_readNative_L20 (fun q18 =>
    M_readNative_J122  q18
    ) FU (1 : Int32) q3
theorem w_M_readNative {X : Cv} (C : Cx X cX11_readNative RX11 rmM_readNative 4) (S : IsM X) {z : St} (hret : RokV X cX11_readNative z) (q : St) (h : M_readNative q = some z) : At X 0 [(0, .ref (adOf X 0))] [] q := by
  unfold M_readNative at h
  refine a_aload_n C 0 rfl rfl dX11_readNative_0 ?_
  refine a_aload_n C 0 rfl rfl dX11_readNative_1 ?_
  refine a_ldc2 (v := 471475909) C (tg 1386 (by decide +kernel) rfl) dX11_readNative_2 ?_
  obtain ⟨x1, e_x1, h⟩ := b1s h
  refine k_M_isWord C S e_x1 ⟨Nat.le_of_ble_eq_true rfl, Nat.le_of_ble_eq_true rfl⟩ (Nat.le_of_ble_eq_true rfl) dX11_readNative_5 ?_
  obtain ⟨q2, e_q2, h⟩ := b1s h
  refine k_M_takes C S e_q2 ⟨Nat.le_of_ble_eq_true rfl, Nat.le_of_ble_eq_true rfl⟩ (Nat.le_of_ble_eq_true rfl) dX11_readNative_8 ?_
  refine a_aload_n C 0 rfl rfl dX11_readNative_11 ?_
  refine gM_draft C S dX11_readNative_12 ?_
  refine a_iconst (v := 2) C (by decide) dX11_readNative_15 ?_
  refine a_iconst (v := 1) C (by decide) dX11_readNative_16 ?_
  obtain ⟨q3, e_q3, h⟩ := b1s h
  refine sM_draft C S e_q3 dX11_readNative_17 ?_
  refine a_iconst (v := 1) C (by decide) dX11_readNative_18 ?_
  refine a_istore_n C [(1, .int (1 : Int32)), (0, .ref (adOf X 0))] rfl (by decide) rfl dX11_readNative_19 ?_
  refine At.sub [1, 0] rfl (w_M_readNative_L20 C S hret _ ?_ _ _ _ h)
  intro q18 h
  exact At.sub [0] rfl (w_M_readNative_J122 C S hret  _ h)
theorem c_M_readNative {l : Launch} {D : va_G} {I : ClassId × ClassId × ClassId × ClassId} {ad : Nat → Nat} {q : St} {z : St} (h : M_readNative q = some z) : Ctr l D I zT 18 (shM I) ad yX11_readNative cX11_readNative 4 none rmM_readNative [.ref (ad 0)] q none z :=
  ctr_ofV (by decide) (Nat.le_of_ble_eq_true rfl) (fun p e s m args below meth c Q H0 X hX C hret => by subst hX; exact w_M_readNative C ⟨rfl, rfl, rfl⟩ hret _ h)
theorem g_M_readNative : GoodIn lw_tg (wsV RX11 155 RX11 yX11_readNative (Cond.code yX11_readNative cX11_readNative 4 none :: lw_tg)) := gd_V (tg 1382 (by decide +kernel) rfl) (tg 1384 (by decide +kernel) rfl) (tg 60 (by decide +kernel) rfl) (tg 128 (by decide +kernel) rfl) (tg 1385 (by decide +kernel) rfl)
theorem k_M_readNative {X : Cv} {cc : ByteArray} {rm : Room} {nL1 pc : Nat} {lv : List (Nat × Value)} {sk : List Value} {q : St} {q2 : St} (C : Cx X cc RX11 rm nL1) (S : IsM X) (h : M_readNative q = some q2) (hz : rmM_readNative.frames + 1 ≤ rm.frames ∧ 8 + (4 + 11) + rmM_readNative.locals ≤ rm.locals) (hr : (sk.map fun v => v.category).sum ≤ 8) (hd : decode cc pc = .ok (.invokevirtual 155, 3)) (k : At X (pc + 3) lv sk q2) : At X pc lv (.ref (adOf X 0) :: sk) q := a_callVv (as := []) C (kp := 0) (by rw [S.1]; decide) (by rw [S.2.1]; rfl) rfl (by have hh := c_M_readNative (l := X.2.1) (D := dOf X) (I := idOf X) (ad := adOf X) h; rw [← S.1, ← S.2.1, ← S.2.2] at hh; exact hh) g_M_readNative ⟨rfl, rfl, hz.1, hz.2⟩ ⟨by decide, by decide, by show Option.map _ (parseMethodDescriptor yX11_readNative.desc) = some 0; decide⟩ hr rfl hd k
abbrev rmM_readFormat : Room := { frames := 4, cells := 0, slots := 0, locals := 86 }
def M_readFormat_B42 (k : Int32 → Int32 → St → Option (St)) (rec : Int32 → Int32 → Int32 → St → Option (St)) (v1 : Int32) (v2 : Int32) (v3 : Int32) (q : St) : Option (St) :=
  b1 (rd 172 q 3 (3 : Int32)) fun x8 =>
  if x8 ≤ v3 then
    k v1 v2 q
  else
    if (gt q 0 11) = (0 : Int32) then
      k v1 v2 q
    else
      b2 (M_number q (1 : Int32) (999 : Int32)) fun x11 q12 =>
      if (gt q12 0 11) = (0 : Int32) then
        rec v1 v2 (v3 + 1) q12
      else
        b1 (wr 172 q12 3 (((148 : Int32) + ((5 : Int32) * v1)) + v3) x11) fun q14 =>
        rec v1 v2 (v3 + 1) q14
theorem w_M_readFormat_B42 {X : Cv} (C : Cx X cX11_readFormat RX11 rmM_readFormat 5) (S : IsM X) {z : St} (hret : RokV X cX11_readFormat z) (k : Int32 → Int32 → St → Option (St)) (hk : ∀ (v1 : Int32) (v2 : Int32) (q : St), k v1 v2 q = some z → At X 98 [(0, .ref (adOf X 0)), (1, .int v1), (2, .int v2)] [] q) (rec : Int32 → Int32 → Int32 → St → Option (St)) (hrec : ∀ (v1 : Int32) (v2 : Int32) (v3 : Int32) (q : St), rec v1 v2 v3 q = some z → At X 42 [(0, .ref (adOf X 0)), (1, .int v1), (2, .int v2), (3, .int v3)] [] q) (v1 : Int32) (v2 : Int32) (v3 : Int32) (q : St) (h : M_readFormat_B42 k rec v1 v2 v3 q = some z) : At X 42 [(0, .ref (adOf X 0)), (1, .int v1), (2, .int v2), (3, .int v3)] [] q := by
  unfold M_readFormat_B42 at h
  refine a_iload_n C 3 rfl rfl dX11_readFormat_42 ?_
  refine a_aload_n C 0 rfl rfl dX11_readFormat_43 ?_
  refine gM_draft C S dX11_readFormat_44 ?_
  refine a_iconst (v := 3) C (by decide) dX11_readFormat_47 ?_
  obtain ⟨x8, e_x8, h⟩ := b1s h
  refine lM_draft C S e_x8 dX11_readFormat_48 ?_
  refine a_icmp_ge C 98 (by decide) dX11_readFormat_49 (fun c9 => ?_) (fun c9 => ?_)
  · replace h := ifp c9 h
    exact At.sub [0, 1, 2] rfl (hk _ _ _ h)
  · replace h := ifn c9 h
    refine a_aload_n C 0 rfl rfl dX11_readFormat_52 ?_
    refine gM_fine C S dX11_readFormat_53 ?_
    refine a_if_eq C 98 (by decide) dX11_readFormat_56 (fun c10 => ?_) (fun c10 => ?_)
    · replace h := ifp c10 h
      exact At.sub [0, 1, 2] rfl (hk _ _ _ h)
    · replace h := ifn c10 h
      refine a_aload_n C 0 rfl rfl dX11_readFormat_59 ?_
      refine a_iconst (v := 1) C (by decide) dX11_readFormat_60 ?_
      refine a_sipush (v := 999) C (by decide) dX11_readFormat_61 ?_
      obtain ⟨x11, q12, e_q12, h⟩ := b2s h
      refine k_M_number C S e_q12 ⟨Nat.le_of_ble_eq_true rfl, Nat.le_of_ble_eq_true rfl⟩ (Nat.le_of_ble_eq_true rfl) dX11_readFormat_64 ?_
      refine a_istore C [(4, .int x11), (0, .ref (adOf X 0)), (1, .int v1), (2, .int v2), (3, .int v3)] (by decide) rfl dX11_readFormat_67 ?_
      refine a_aload_n C 1 rfl rfl dX11_readFormat_69 ?_
      refine gM_fine C S dX11_readFormat_70 ?_
      refine a_if_eq C 92 (by decide) dX11_readFormat_73 (fun c13 => ?_) (fun c13 => ?_)
      · replace h := ifp c13 h
        refine a_iinc (v := (v3 + 1)) C [(3, .int (v3 + 1)), (4, .int x11), (0, .ref (adOf X 0)), (1, .int v1), (2, .int v2)] 4 rfl (congrArg (HAdd.hAdd v3) (by decide : Int32.ofInt (1) = (1 : Int32))) (by decide) rfl dX11_readFormat_92 ?_
        refine a_goto C 42 (by decide) dX11_readFormat_95 ?_
        exact At.sub [2, 3, 4, 0] rfl (hrec _ _ _ _ h)
      · replace h := ifn c13 h
        refine a_aload_n C 1 rfl rfl dX11_readFormat_76 ?_
        refine gM_draft C S dX11_readFormat_77 ?_
        refine a_sipush (v := 148) C (by decide) dX11_readFormat_80 ?_
        refine a_iconst (v := 5) C (by decide) dX11_readFormat_83 ?_
        refine a_iload_n C 2 rfl rfl dX11_readFormat_84 ?_
        refine a_imul C dX11_readFormat_85 ?_
        refine a_iadd C dX11_readFormat_86 ?_
        refine a_iload_n C 4 rfl rfl dX11_readFormat_87 ?_
        refine a_iadd C dX11_readFormat_88 ?_
        refine a_iload C 0 rfl dX11_readFormat_89 ?_
        obtain ⟨q14, e_q14, h⟩ := b1s h
        refine sM_draft C S e_q14 dX11_readFormat_91 ?_
        refine a_iinc (v := (v3 + 1)) C [(3, .int (v3 + 1)), (4, .int x11), (0, .ref (adOf X 0)), (1, .int v1), (2, .int v2)] 4 rfl (congrArg (HAdd.hAdd v3) (by decide : Int32.ofInt (1) = (1 : Int32))) (by decide) rfl dX11_readFormat_92 ?_
        refine a_goto C 42 (by decide) dX11_readFormat_95 ?_
        exact At.sub [2, 3, 4, 0] rfl (hrec _ _ _ _ h)
def M_readFormat_L42 (k : Int32 → Int32 → St → Option (St)) : Nat → Int32 → Int32 → Int32 → St → Option (St)
  | 0, _, _, _, _ => none
  | n + 1, v1, v2, v3, q => M_readFormat_B42 k (M_readFormat_L42 k n) v1 v2 v3 q
theorem w_M_readFormat_L42 {X : Cv} (C : Cx X cX11_readFormat RX11 rmM_readFormat 5) (S : IsM X) {z : St} (hret : RokV X cX11_readFormat z) (k : Int32 → Int32 → St → Option (St)) (hk : ∀ (v1 : Int32) (v2 : Int32) (q : St), k v1 v2 q = some z → At X 98 [(0, .ref (adOf X 0)), (1, .int v1), (2, .int v2)] [] q) (n : Nat) : ∀ (v1 : Int32) (v2 : Int32) (v3 : Int32) (q : St), M_readFormat_L42 k n v1 v2 v3 q = some z → At X 42 [(0, .ref (adOf X 0)), (1, .int v1), (2, .int v2), (3, .int v3)] [] q := by
  induction n with
  | zero => intro v1 v2 v3 q h; cases h
  | succ n ih => intro v1 v2 v3 q h; exact w_M_readFormat_B42 C S hret k hk _ ih v1 v2 v3 q h
def M_readFormat_J112 (v1 : Int32) (v2 : Int32) (z0 : Int32) (q : St) : Option (St) :=
  b1 (M_takes q z0) fun q19 =>
  if (gt q19 0 11) = (0 : Int32) then
    some q19
  else
    b1 (wr 172 q19 3 ((168 : Int32) + v1) v2) fun q21 =>
    b1 (rd 172 q21 3 (2 : Int32)) fun x22 =>
    b1 (wr 172 q21 3 (2 : Int32) (x22 + (1 : Int32))) fun q23 =>
    some q23
theorem w_M_readFormat_J112 {X : Cv} (C : Cx X cX11_readFormat RX11 rmM_readFormat 5) (S : IsM X) {z : St} (hret : RokV X cX11_readFormat z) (v1 : Int32) (v2 : Int32) (z0 : Int32) (q : St) (h : M_readFormat_J112 v1 v2 z0 q = some z) : At X 112 [(0, .ref (adOf X 0)), (1, .int v1), (2, .int v2)] [.int z0, .ref (adOf X 0)] q := by
  unfold M_readFormat_J112 at h
  obtain ⟨q19, e_q19, h⟩ := b1s h
  refine k_M_takes C S e_q19 ⟨Nat.le_of_ble_eq_true rfl, Nat.le_of_ble_eq_true rfl⟩ (Nat.le_of_ble_eq_true rfl) dX11_readFormat_112 ?_
  refine a_aload_n C 0 rfl rfl dX11_readFormat_115 ?_
  refine gM_fine C S dX11_readFormat_116 ?_
  refine a_if_eq C 143 (by decide) dX11_readFormat_119 (fun c20 => ?_) (fun c20 => ?_)
  · replace h := ifp c20 h
    exact a_vret hret h dX11_readFormat_143
  · replace h := ifn c20 h
    refine a_aload_n C 0 rfl rfl dX11_readFormat_122 ?_
    refine gM_draft C S dX11_readFormat_123 ?_
    refine a_sipush (v := 168) C (by decide) dX11_readFormat_126 ?_
    refine a_iload_n C 1 rfl rfl dX11_readFormat_129 ?_
    refine a_iadd C dX11_readFormat_130 ?_
    refine a_iload_n C 2 rfl rfl dX11_readFormat_131 ?_
    obtain ⟨q21, e_q21, h⟩ := b1s h
    refine sM_draft C S e_q21 dX11_readFormat_132 ?_
    refine a_aload_n C 0 rfl rfl dX11_readFormat_133 ?_
    refine gM_draft C S dX11_readFormat_134 ?_
    refine a_iconst (v := 2) C (by decide) dX11_readFormat_137 ?_
    refine a_dup2 C rfl rfl dX11_readFormat_138 ?_
    obtain ⟨x22, e_x22, h⟩ := b1s h
    refine lM_draft C S e_x22 dX11_readFormat_139 ?_
    refine a_iconst (v := 1) C (by decide) dX11_readFormat_140 ?_
    refine a_iadd C dX11_readFormat_141 ?_
    obtain ⟨q23, e_q23, h⟩ := b1s h
    refine sM_draft C S e_q23 dX11_readFormat_142 ?_
    exact a_vret hret h dX11_readFormat_143
def M_readFormat_J98 (v1 : Int32) (v2 : Int32) (q : St) : Option (St) :=
  if (gt q 0 8) = (3 : Int32) then
    M_readFormat_J112 v1 v2 (1 : Int32) q
  else
    M_readFormat_J112 v1 v2 (0 : Int32) q
theorem w_M_readFormat_J98 {X : Cv} (C : Cx X cX11_readFormat RX11 rmM_readFormat 5) (S : IsM X) {z : St} (hret : RokV X cX11_readFormat z) (v1 : Int32) (v2 : Int32) (q : St) (h : M_readFormat_J98 v1 v2 q = some z) : At X 98 [(0, .ref (adOf X 0)), (1, .int v1), (2, .int v2)] [] q := by
  unfold M_readFormat_J98 at h
  refine a_aload_n C 0 rfl rfl dX11_readFormat_98 ?_
  refine a_aload_n C 0 rfl rfl dX11_readFormat_99 ?_
  refine gM_kind C S dX11_readFormat_100 ?_
  refine a_iconst (v := 3) C (by decide) dX11_readFormat_103 ?_
  refine a_icmp_ne C 111 (by decide) dX11_readFormat_104 (fun c18 => ?_) (fun c18 => ?_)
  · replace h := ifn c18 h
    refine a_iconst (v := 0) C (by decide) dX11_readFormat_111 ?_
    exact At.sub [0, 1, 2] rfl (w_M_readFormat_J112 C S hret _ _ _ _ h)
  · replace h := ifp c18 h
    refine a_iconst (v := 1) C (by decide) dX11_readFormat_107 ?_
    refine a_goto C 112 (by decide) dX11_readFormat_108 ?_
    exact At.sub [0, 1, 2] rfl (w_M_readFormat_J112 C S hret _ _ _ _ h)
def M_readFormat_J18 (v1 : Int32) (z0 : Int32) (q : St) : Option (St) :=
  b1 (M_takes q z0) fun q3 =>
  b2 (M_number q3 (1 : Int32) (99 : Int32)) fun x4 q5 =>
  b1 (M_isWord q5 (18927795 : Int64)) fun x6 =>
  b1 (M_takes q5 x6) fun q7 =>
  M_readFormat_L42 (fun y15 y16 q17 =>
    M_readFormat_J98 y15 y16 q17
    ) FU v1 x4 (0 : Int32) q7
theorem w_M_readFormat_J18 {X : Cv} (C : Cx X cX11_readFormat RX11 rmM_readFormat 5) (S : IsM X) {z : St} (hret : RokV X cX11_readFormat z) (v1 : Int32) (z0 : Int32) (q : St) (h : M_readFormat_J18 v1 z0 q = some z) : At X 18 [(0, .ref (adOf X 0)), (1, .int v1)] [.int z0, .ref (adOf X 0)] q := by
  unfold M_readFormat_J18 at h
  obtain ⟨q3, e_q3, h⟩ := b1s h
  refine k_M_takes C S e_q3 ⟨Nat.le_of_ble_eq_true rfl, Nat.le_of_ble_eq_true rfl⟩ (Nat.le_of_ble_eq_true rfl) dX11_readFormat_18 ?_
  refine a_aload_n C 0 rfl rfl dX11_readFormat_21 ?_
  refine a_iconst (v := 1) C (by decide) dX11_readFormat_22 ?_
  refine a_bipush (v := 99) C (by decide) dX11_readFormat_23 ?_
  obtain ⟨x4, q5, e_q5, h⟩ := b2s h
  refine k_M_number C S e_q5 ⟨Nat.le_of_ble_eq_true rfl, Nat.le_of_ble_eq_true rfl⟩ (Nat.le_of_ble_eq_true rfl) dX11_readFormat_25 ?_
  refine a_istore_n C [(2, .int x4), (0, .ref (adOf X 0)), (1, .int v1)] rfl (by decide) rfl dX11_readFormat_28 ?_
  refine a_aload_n C 1 rfl rfl dX11_readFormat_29 ?_
  refine a_aload_n C 1 rfl rfl dX11_readFormat_30 ?_
  refine a_ldc2 (v := 18927795) C (tg 1393 (by decide +kernel) rfl) dX11_readFormat_31 ?_
  obtain ⟨x6, e_x6, h⟩ := b1s h
  refine k_M_isWord C S e_x6 ⟨Nat.le_of_ble_eq_true rfl, Nat.le_of_ble_eq_true rfl⟩ (Nat.le_of_ble_eq_true rfl) dX11_readFormat_34 ?_
  obtain ⟨q7, e_q7, h⟩ := b1s h
  refine k_M_takes C S e_q7 ⟨Nat.le_of_ble_eq_true rfl, Nat.le_of_ble_eq_true rfl⟩ (Nat.le_of_ble_eq_true rfl) dX11_readFormat_37 ?_
  refine a_iconst (v := 0) C (by decide) dX11_readFormat_40 ?_
  refine a_istore_n C [(3, .int (0 : Int32)), (2, .int x4), (0, .ref (adOf X 0)), (1, .int v1)] rfl (by decide) rfl dX11_readFormat_41 ?_
  refine At.sub [2, 3, 1, 0] rfl (w_M_readFormat_L42 C S hret _ ?_ _ _ _ _ _ h)
  intro y15 y16 q17 h
  exact At.sub [0, 1, 2] rfl (w_M_readFormat_J98 C S hret _ _ _ h)
def M_readFormat (q : St) : Option (St) :=
  b1 (rd 172 q 3 (2 : Int32)) fun x1 =>
  if (4 : Int32) ≤ x1 then
    M_readFormat_J18 x1 (0 : Int32) q
  else
    M_readFormat_J18 x1 (1 : Int32) q
theorem w_M_readFormat {X : Cv} (C : Cx X cX11_readFormat RX11 rmM_readFormat 5) (S : IsM X) {z : St} (hret : RokV X cX11_readFormat z) (q : St) (h : M_readFormat q = some z) : At X 0 [(0, .ref (adOf X 0))] [] q := by
  unfold M_readFormat at h
  refine a_aload_n C 0 rfl rfl dX11_readFormat_0 ?_
  refine gM_draft C S dX11_readFormat_1 ?_
  refine a_iconst (v := 2) C (by decide) dX11_readFormat_4 ?_
  obtain ⟨x1, e_x1, h⟩ := b1s h
  refine lM_draft C S e_x1 dX11_readFormat_5 ?_
  refine a_istore_n C [(1, .int x1), (0, .ref (adOf X 0))] rfl (by decide) rfl dX11_readFormat_6 ?_
  refine a_aload_n C 1 rfl rfl dX11_readFormat_7 ?_
  refine a_iload_n C 0 rfl rfl dX11_readFormat_8 ?_
  refine a_iconst (v := 4) C (by decide) dX11_readFormat_9 ?_
  refine a_icmp_ge C 17 (by decide) dX11_readFormat_10 (fun c2 => ?_) (fun c2 => ?_)
  · replace h := ifp c2 h
    refine a_iconst (v := 0) C (by decide) dX11_readFormat_17 ?_
    exact At.sub [1, 0] rfl (w_M_readFormat_J18 C S hret _ _ _ h)
  · replace h := ifn c2 h
    refine a_iconst (v := 1) C (by decide) dX11_readFormat_13 ?_
    refine a_goto C 18 (by decide) dX11_readFormat_14 ?_
    exact At.sub [1, 0] rfl (w_M_readFormat_J18 C S hret _ _ _ h)
theorem c_M_readFormat {l : Launch} {D : va_G} {I : ClassId × ClassId × ClassId × ClassId} {ad : Nat → Nat} {q : St} {z : St} (h : M_readFormat q = some z) : Ctr l D I zT 18 (shM I) ad yX11_readFormat cX11_readFormat 5 none rmM_readFormat [.ref (ad 0)] q none z :=
  ctr_ofV (by decide) (Nat.le_of_ble_eq_true rfl) (fun p e s m args below meth c Q H0 X hX C hret => by subst hX; exact w_M_readFormat C ⟨rfl, rfl, rfl⟩ hret _ h)
theorem g_M_readFormat : GoodIn lw_tg (wsV RX11 160 RX11 yX11_readFormat (Cond.code yX11_readFormat cX11_readFormat 5 none :: lw_tg)) := gd_V (tg 1389 (by decide +kernel) rfl) (tg 1391 (by decide +kernel) rfl) (tg 61 (by decide +kernel) rfl) (tg 128 (by decide +kernel) rfl) (tg 1392 (by decide +kernel) rfl)
theorem k_M_readFormat {X : Cv} {cc : ByteArray} {rm : Room} {nL1 pc : Nat} {lv : List (Nat × Value)} {sk : List Value} {q : St} {q2 : St} (C : Cx X cc RX11 rm nL1) (S : IsM X) (h : M_readFormat q = some q2) (hz : rmM_readFormat.frames + 1 ≤ rm.frames ∧ 8 + (5 + 11) + rmM_readFormat.locals ≤ rm.locals) (hr : (sk.map fun v => v.category).sum ≤ 8) (hd : decode cc pc = .ok (.invokevirtual 160, 3)) (k : At X (pc + 3) lv sk q2) : At X pc lv (.ref (adOf X 0) :: sk) q := a_callVv (as := []) C (kp := 0) (by rw [S.1]; decide) (by rw [S.2.1]; rfl) rfl (by have hh := c_M_readFormat (l := X.2.1) (D := dOf X) (I := idOf X) (ad := adOf X) h; rw [← S.1, ← S.2.1, ← S.2.2] at hh; exact hh) g_M_readFormat ⟨rfl, rfl, hz.1, hz.2⟩ ⟨by decide, by decide, by show Option.map _ (parseMethodDescriptor yX11_readFormat.desc) = some 0; decide⟩ hr rfl hd k
abbrev rmM_reads : Room := { frames := 6, cells := 0, slots := 0, locals := 135 }
def M_reads_B51 (k : St → Option (St)) (rec : St → Option (St)) (q : St) : Option (St) :=
  b1 (M_isWord q (402891 : Int64)) fun x10 =>
  if x10 = (0 : Int32) then
    k  q
  else
    b1 (M_readLink q) fun q12 =>
    rec  q12
theorem w_M_reads_B51 {X : Cv} (C : Cx X cX11_reads RX11 rmM_reads 1) (S : IsM X) {z : St} (hret : RokV X cX11_reads z) (k : St → Option (St)) (hk : ∀ (q : St), k q = some z → At X 68 [(0, .ref (adOf X 0))] [] q) (rec : St → Option (St)) (hrec : ∀ (q : St), rec q = some z → At X 51 [(0, .ref (adOf X 0))] [] q) (q : St) (h : M_reads_B51 k rec q = some z) : At X 51 [(0, .ref (adOf X 0))] [] q := by
  unfold M_reads_B51 at h
  refine a_aload_n C 0 rfl rfl dX11_reads_51 ?_
  refine a_ldc2 (v := 402891) C (tg 1366 (by decide +kernel) rfl) dX11_reads_52 ?_
  obtain ⟨x10, e_x10, h⟩ := b1s h
  refine k_M_isWord C S e_x10 ⟨Nat.le_of_ble_eq_true rfl, Nat.le_of_ble_eq_true rfl⟩ (Nat.le_of_ble_eq_true rfl) dX11_reads_55 ?_
  refine a_if_eq C 68 (by decide) dX11_reads_58 (fun c11 => ?_) (fun c11 => ?_)
  · replace h := ifp c11 h
    exact At.sub [0] rfl (hk  _ h)
  · replace h := ifn c11 h
    refine a_aload_n C 0 rfl rfl dX11_reads_61 ?_
    obtain ⟨q12, e_q12, h⟩ := b1s h
    refine k_M_readLink C S e_q12 ⟨Nat.le_of_ble_eq_true rfl, Nat.le_of_ble_eq_true rfl⟩ (Nat.le_of_ble_eq_true rfl) dX11_reads_62 ?_
    refine a_goto C 51 (by decide) dX11_reads_65 ?_
    exact At.sub [0] rfl (hrec  _ h)
def M_reads_L51 (k : St → Option (St)) : Nat → St → Option (St)
  | 0, _ => none
  | n + 1, q => M_reads_B51 k (M_reads_L51 k n) q
theorem w_M_reads_L51 {X : Cv} (C : Cx X cX11_reads RX11 rmM_reads 1) (S : IsM X) {z : St} (hret : RokV X cX11_reads z) (k : St → Option (St)) (hk : ∀ (q : St), k q = some z → At X 68 [(0, .ref (adOf X 0))] [] q) (n : Nat) : ∀ (q : St), M_reads_L51 k n q = some z → At X 51 [(0, .ref (adOf X 0))] [] q := by
  induction n with
  | zero => intro q h; cases h
  | succ n ih => intro q h; exact w_M_reads_B51 C S hret k hk _ ih q h
def M_reads_B68 (k : St → Option (St)) (rec : St → Option (St)) (q : St) : Option (St) :=
  b1 (M_isWord q (3605 : Int64)) fun x14 =>
  if x14 = (0 : Int32) then
    k  q
  else
    b1 (M_readCpu q) fun q16 =>
    rec  q16
theorem w_M_reads_B68 {X : Cv} (C : Cx X cX11_reads RX11 rmM_reads 1) (S : IsM X) {z : St} (hret : RokV X cX11_reads z) (k : St → Option (St)) (hk : ∀ (q : St), k q = some z → At X 85 [(0, .ref (adOf X 0))] [] q) (rec : St → Option (St)) (hrec : ∀ (q : St), rec q = some z → At X 68 [(0, .ref (adOf X 0))] [] q) (q : St) (h : M_reads_B68 k rec q = some z) : At X 68 [(0, .ref (adOf X 0))] [] q := by
  unfold M_reads_B68 at h
  refine a_aload_n C 0 rfl rfl dX11_reads_68 ?_
  refine a_ldc2 (v := 3605) C (tg 1377 (by decide +kernel) rfl) dX11_reads_69 ?_
  obtain ⟨x14, e_x14, h⟩ := b1s h
  refine k_M_isWord C S e_x14 ⟨Nat.le_of_ble_eq_true rfl, Nat.le_of_ble_eq_true rfl⟩ (Nat.le_of_ble_eq_true rfl) dX11_reads_72 ?_
  refine a_if_eq C 85 (by decide) dX11_reads_75 (fun c15 => ?_) (fun c15 => ?_)
  · replace h := ifp c15 h
    exact At.sub [0] rfl (hk  _ h)
  · replace h := ifn c15 h
    refine a_aload_n C 0 rfl rfl dX11_reads_78 ?_
    obtain ⟨q16, e_q16, h⟩ := b1s h
    refine k_M_readCpu C S e_q16 ⟨Nat.le_of_ble_eq_true rfl, Nat.le_of_ble_eq_true rfl⟩ (Nat.le_of_ble_eq_true rfl) dX11_reads_79 ?_
    refine a_goto C 68 (by decide) dX11_reads_82 ?_
    exact At.sub [0] rfl (hrec  _ h)
def M_reads_L68 (k : St → Option (St)) : Nat → St → Option (St)
  | 0, _ => none
  | n + 1, q => M_reads_B68 k (M_reads_L68 k n) q
theorem w_M_reads_L68 {X : Cv} (C : Cx X cX11_reads RX11 rmM_reads 1) (S : IsM X) {z : St} (hret : RokV X cX11_reads z) (k : St → Option (St)) (hk : ∀ (q : St), k q = some z → At X 85 [(0, .ref (adOf X 0))] [] q) (n : Nat) : ∀ (q : St), M_reads_L68 k n q = some z → At X 68 [(0, .ref (adOf X 0))] [] q := by
  induction n with
  | zero => intro q h; cases h
  | succ n ih => intro q h; exact w_M_reads_B68 C S hret k hk _ ih q h
def M_reads_B89 (k : St → Option (St)) (rec : St → Option (St)) (q : St) : Option (St) :=
  b1 (M_isWord q (217658420 : Int64)) fun x19 =>
  if x19 = (0 : Int32) then
    k  q
  else
    b1 (M_readFormat q) fun q21 =>
    rec  q21
theorem w_M_reads_B89 {X : Cv} (C : Cx X cX11_reads RX11 rmM_reads 1) (S : IsM X) {z : St} (hret : RokV X cX11_reads z) (k : St → Option (St)) (hk : ∀ (q : St), k q = some z → At X 106 [(0, .ref (adOf X 0))] [] q) (rec : St → Option (St)) (hrec : ∀ (q : St), rec q = some z → At X 89 [(0, .ref (adOf X 0))] [] q) (q : St) (h : M_reads_B89 k rec q = some z) : At X 89 [(0, .ref (adOf X 0))] [] q := by
  unfold M_reads_B89 at h
  refine a_aload_n C 0 rfl rfl dX11_reads_89 ?_
  refine a_ldc2 (v := 217658420) C (tg 1388 (by decide +kernel) rfl) dX11_reads_90 ?_
  obtain ⟨x19, e_x19, h⟩ := b1s h
  refine k_M_isWord C S e_x19 ⟨Nat.le_of_ble_eq_true rfl, Nat.le_of_ble_eq_true rfl⟩ (Nat.le_of_ble_eq_true rfl) dX11_reads_93 ?_
  refine a_if_eq C 106 (by decide) dX11_reads_96 (fun c20 => ?_) (fun c20 => ?_)
  · replace h := ifp c20 h
    exact At.sub [0] rfl (hk  _ h)
  · replace h := ifn c20 h
    refine a_aload_n C 0 rfl rfl dX11_reads_99 ?_
    obtain ⟨q21, e_q21, h⟩ := b1s h
    refine k_M_readFormat C S e_q21 ⟨Nat.le_of_ble_eq_true rfl, Nat.le_of_ble_eq_true rfl⟩ (Nat.le_of_ble_eq_true rfl) dX11_reads_100 ?_
    refine a_goto C 89 (by decide) dX11_reads_103 ?_
    exact At.sub [0] rfl (hrec  _ h)
def M_reads_L89 (k : St → Option (St)) : Nat → St → Option (St)
  | 0, _ => none
  | n + 1, q => M_reads_B89 k (M_reads_L89 k n) q
theorem w_M_reads_L89 {X : Cv} (C : Cx X cX11_reads RX11 rmM_reads 1) (S : IsM X) {z : St} (hret : RokV X cX11_reads z) (k : St → Option (St)) (hk : ∀ (q : St), k q = some z → At X 106 [(0, .ref (adOf X 0))] [] q) (n : Nat) : ∀ (q : St), M_reads_L89 k n q = some z → At X 89 [(0, .ref (adOf X 0))] [] q := by
  induction n with
  | zero => intro q h; cases h
  | succ n ih => intro q h; exact w_M_reads_B89 C S hret k hk _ ih q h
def M_reads_J48 (z0 : Int32) (q : St) : Option (St) :=
  b1 (M_takes q z0) fun q9 =>
  M_reads_L51 (fun q13 =>
    M_reads_L68 (fun q17 =>
      b1 (M_readNative q17) fun q18 =>
      M_reads_L89 (fun q22 =>
        if (gt q22 0 11) = (0 : Int32) then
          some q22
        else
          if (gt q22 0 8) = (0 : Int32) then
            some q22
          else
            lt_ (st q22 0 11 (0 : Int32)) fun q25 =>
            lt_ (st q25 0 2 (gt q25 0 7)) fun q26 =>
            some q26
        ) FU  q18
      ) FU  q13
    ) FU  q9
theorem w_M_reads_J48 {X : Cv} (C : Cx X cX11_reads RX11 rmM_reads 1) (S : IsM X) {z : St} (hret : RokV X cX11_reads z) (z0 : Int32) (q : St) (h : M_reads_J48 z0 q = some z) : At X 48 [(0, .ref (adOf X 0))] [.int z0, .ref (adOf X 0)] q := by
  unfold M_reads_J48 at h
  obtain ⟨q9, e_q9, h⟩ := b1s h
  refine k_M_takes C S e_q9 ⟨Nat.le_of_ble_eq_true rfl, Nat.le_of_ble_eq_true rfl⟩ (Nat.le_of_ble_eq_true rfl) dX11_reads_48 ?_
  refine At.sub [0] rfl (w_M_reads_L51 C S hret _ ?_ _  _ h)
  intro q13 h
  refine At.sub [0] rfl (w_M_reads_L68 C S hret _ ?_ _  _ h)
  intro q17 h
  refine a_aload_n C 0 rfl rfl dX11_reads_85 ?_
  obtain ⟨q18, e_q18, h⟩ := b1s h
  refine k_M_readNative C S e_q18 ⟨Nat.le_of_ble_eq_true rfl, Nat.le_of_ble_eq_true rfl⟩ (Nat.le_of_ble_eq_true rfl) dX11_reads_86 ?_
  refine At.sub [0] rfl (w_M_reads_L89 C S hret _ ?_ _  _ h)
  intro q22 h
  refine a_aload_n C 0 rfl rfl dX11_reads_106 ?_
  refine gM_fine C S dX11_reads_107 ?_
  refine a_if_eq C 133 (by decide) dX11_reads_110 (fun c23 => ?_) (fun c23 => ?_)
  · replace h := ifp c23 h
    exact a_vret hret h dX11_reads_133
  · replace h := ifn c23 h
    refine a_aload_n C 0 rfl rfl dX11_reads_113 ?_
    refine gM_kind C S dX11_reads_114 ?_
    refine a_if_eq C 133 (by decide) dX11_reads_117 (fun c24 => ?_) (fun c24 => ?_)
    · replace h := ifp c24 h
      exact a_vret hret h dX11_reads_133
    · replace h := ifn c24 h
      refine a_aload_n C 0 rfl rfl dX11_reads_120 ?_
      refine a_iconst (v := 0) C (by decide) dX11_reads_121 ?_
      obtain ⟨q25, e_q25, h⟩ := lts h
      refine pM_fine C S e_q25 rfl rfl dX11_reads_122 ?_
      refine a_aload_n C 0 rfl rfl dX11_reads_125 ?_
      refine a_aload_n C 0 rfl rfl dX11_reads_126 ?_
      refine gM_start C S dX11_reads_127 ?_
      obtain ⟨q26, e_q26, h⟩ := lts h
      refine pM_errorAt C S e_q26 dX11_reads_130 ?_
      exact a_vret hret h dX11_reads_133
def M_reads (q : St) : Option (St) :=
  b1 (M_defaults q) fun q1 =>
  lt_ (st q1 0 11 (1 : Int32)) fun q2 =>
  lt_ (st q2 0 6 (0 : Int32)) fun q3 =>
  b1 (M_next q3) fun q4 =>
  b2 (M_numberBehind q4 (15175859 : Int64) (2 : Int32) (16 : Int32)) fun x5 q6 =>
  b1 (wr 172 q6 3 (0 : Int32) x5) fun q7 =>
  if (gt q7 0 8) = (3 : Int32) then
    M_reads_J48 (1 : Int32) q7
  else
    M_reads_J48 (0 : Int32) q7
theorem w_M_reads {X : Cv} (C : Cx X cX11_reads RX11 rmM_reads 1) (S : IsM X) {z : St} (hret : RokV X cX11_reads z) (q : St) (h : M_reads q = some z) : At X 0 [(0, .ref (adOf X 0))] [] q := by
  unfold M_reads at h
  refine a_aload_n C 0 rfl rfl dX11_reads_0 ?_
  obtain ⟨q1, e_q1, h⟩ := b1s h
  refine k_M_defaults C S e_q1 ⟨Nat.le_of_ble_eq_true rfl, Nat.le_of_ble_eq_true rfl⟩ (Nat.le_of_ble_eq_true rfl) dX11_reads_1 ?_
  refine a_aload_n C 0 rfl rfl dX11_reads_4 ?_
  refine a_iconst (v := 1) C (by decide) dX11_reads_5 ?_
  obtain ⟨q2, e_q2, h⟩ := lts h
  refine pM_fine C S e_q2 rfl rfl dX11_reads_6 ?_
  refine a_aload_n C 0 rfl rfl dX11_reads_9 ?_
  refine a_iconst (v := 0) C (by decide) dX11_reads_10 ?_
  obtain ⟨q3, e_q3, h⟩ := lts h
  refine pM_at C S e_q3 dX11_reads_11 ?_
  refine a_aload_n C 0 rfl rfl dX11_reads_14 ?_
  obtain ⟨q4, e_q4, h⟩ := b1s h
  refine k_M_next C S e_q4 ⟨Nat.le_of_ble_eq_true rfl, Nat.le_of_ble_eq_true rfl⟩ (Nat.le_of_ble_eq_true rfl) dX11_reads_15 ?_
  refine a_aload_n C 0 rfl rfl dX11_reads_18 ?_
  refine gM_draft C S dX11_reads_19 ?_
  refine a_iconst (v := 0) C (by decide) dX11_reads_22 ?_
  refine a_aload_n C 0 rfl rfl dX11_reads_23 ?_
  refine a_ldc2 (v := 15175859) C (tg 1349 (by decide +kernel) rfl) dX11_reads_24 ?_
  refine a_iconst (v := 2) C (by decide) dX11_reads_27 ?_
  refine a_bipush (v := 16) C (by decide) dX11_reads_28 ?_
  obtain ⟨x5, q6, e_q6, h⟩ := b2s h
  refine k_M_numberBehind C S e_q6 ⟨Nat.le_of_ble_eq_true rfl, Nat.le_of_ble_eq_true rfl⟩ (Nat.le_of_ble_eq_true rfl) dX11_reads_30 ?_
  obtain ⟨q7, e_q7, h⟩ := b1s h
  refine sM_draft C S e_q7 dX11_reads_33 ?_
  refine a_aload_n C 0 rfl rfl dX11_reads_34 ?_
  refine a_aload_n C 0 rfl rfl dX11_reads_35 ?_
  refine gM_kind C S dX11_reads_36 ?_
  refine a_iconst (v := 3) C (by decide) dX11_reads_39 ?_
  refine a_icmp_ne C 47 (by decide) dX11_reads_40 (fun c8 => ?_) (fun c8 => ?_)
  · replace h := ifn c8 h
    refine a_iconst (v := 0) C (by decide) dX11_reads_47 ?_
    exact At.sub [0] rfl (w_M_reads_J48 C S hret _ _ h)
  · replace h := ifp c8 h
    refine a_iconst (v := 1) C (by decide) dX11_reads_43 ?_
    refine a_goto C 48 (by decide) dX11_reads_44 ?_
    exact At.sub [0] rfl (w_M_reads_J48 C S hret _ _ h)
theorem c_M_reads {l : Launch} {D : va_G} {I : ClassId × ClassId × ClassId × ClassId} {ad : Nat → Nat} {q : St} {z : St} (h : M_reads q = some z) : Ctr l D I zT 18 (shM I) ad yX11_reads cX11_reads 1 none rmM_reads [.ref (ad 0)] q none z :=
  ctr_ofV (by decide) (Nat.le_of_ble_eq_true rfl) (fun p e s m args below meth c Q H0 X hX C hret => by subst hX; exact w_M_reads C ⟨rfl, rfl, rfl⟩ hret _ h)
theorem g_M_reads : GoodIn lw_tg (wsV RX11 167 RX11 yX11_reads (Cond.code yX11_reads cX11_reads 1 none :: lw_tg)) := gd_V (tg 1335 (by decide +kernel) rfl) (tg 1337 (by decide +kernel) rfl) (tg 50 (by decide +kernel) rfl) (tg 128 (by decide +kernel) rfl) (tg 1338 (by decide +kernel) rfl)
theorem k_M_reads {X : Cv} {cc : ByteArray} {rm : Room} {nL1 pc : Nat} {lv : List (Nat × Value)} {sk : List Value} {q : St} {q2 : St} (C : Cx X cc RX11 rm nL1) (S : IsM X) (h : M_reads q = some q2) (hz : rmM_reads.frames + 1 ≤ rm.frames ∧ 8 + (1 + 11) + rmM_reads.locals ≤ rm.locals) (hr : (sk.map fun v => v.category).sum ≤ 8) (hd : decode cc pc = .ok (.invokevirtual 167, 3)) (k : At X (pc + 3) lv sk q2) : At X pc lv (.ref (adOf X 0) :: sk) q := a_callVv (as := []) C (kp := 0) (by rw [S.1]; decide) (by rw [S.2.1]; rfl) rfl (by have hh := c_M_reads (l := X.2.1) (D := dOf X) (I := idOf X) (ad := adOf X) h; rw [← S.1, ← S.2.1, ← S.2.2] at hh; exact hh) g_M_reads ⟨rfl, rfl, hz.1, hz.2⟩ ⟨by decide, by decide, by show Option.map _ (parseMethodDescriptor yX11_reads.desc) = some 0; decide⟩ hr rfl hd k
abbrev rmM_puts : Room := { frames := 0, cells := 0, slots := 0, locals := 0 }
def M_puts_B3 (rec : Int32 → Int32 → St → Option (St)) (v1 : Int32) (v2 : Int32) (q : St) : Option (St) :=
  if v2 < (0 : Int32) then
    some q
  else
    b1 (wr 1400 q 1 (gt q 0 1) (vp_nar .byte ((v1 >>> (v2 &&& 31))).toInt8.toInt32)) fun q2 =>
    lt_ (st q2 0 1 ((gt q2 0 1) + (1 : Int32))) fun q3 =>
    rec v1 (v2 + -8) q3
theorem w_M_puts_B3 {X : Cv} (C : Cx X cX11_puts RX11 rmM_puts 3) (S : IsM X) {z : St} (hret : RokV X cX11_puts z) (rec : Int32 → Int32 → St → Option (St)) (hrec : ∀ (v1 : Int32) (v2 : Int32) (q : St), rec v1 v2 q = some z → At X 3 [(0, .ref (adOf X 0)), (1, .int v1), (2, .int v2)] [] q) (v1 : Int32) (v2 : Int32) (q : St) (h : M_puts_B3 rec v1 v2 q = some z) : At X 3 [(0, .ref (adOf X 0)), (1, .int v1), (2, .int v2)] [] q := by
  unfold M_puts_B3 at h
  refine a_iload_n C 2 rfl rfl dX11_puts_3 ?_
  refine a_if_lt C 36 (by decide) dX11_puts_4 (fun c1 => ?_) (fun c1 => ?_)
  · replace h := ifp c1 h
    exact a_vret hret h dX11_puts_36
  · replace h := ifn c1 h
    refine a_aload_n C 0 rfl rfl dX11_puts_7 ?_
    refine gM_tape C S dX11_puts_8 ?_
    refine a_aload_n C 0 rfl rfl dX11_puts_11 ?_
    refine gM_taped C S dX11_puts_12 ?_
    refine a_iload_n C 1 rfl rfl dX11_puts_15 ?_
    refine a_iload_n C 2 rfl rfl dX11_puts_16 ?_
    refine a_ishr C dX11_puts_17 ?_
    refine a_i2b C dX11_puts_18 ?_
    obtain ⟨q2, e_q2, h⟩ := b1s h
    refine sM_tape C S e_q2 dX11_puts_19 ?_
    refine a_aload_n C 0 rfl rfl dX11_puts_20 ?_
    refine a_dup C rfl dX11_puts_21 ?_
    refine gM_taped C S dX11_puts_22 ?_
    refine a_iconst (v := 1) C (by decide) dX11_puts_25 ?_
    refine a_iadd C dX11_puts_26 ?_
    obtain ⟨q3, e_q3, h⟩ := lts h
    refine pM_taped C S e_q3 dX11_puts_27 ?_
    refine a_iinc (v := (v2 + -8)) C [(2, .int (v2 + -8)), (0, .ref (adOf X 0)), (1, .int v1)] 2 rfl (congrArg (HAdd.hAdd v2) (by decide : Int32.ofInt (-8) = (-8 : Int32))) (by decide) rfl dX11_puts_30 ?_
    refine a_goto C 3 (by decide) dX11_puts_33 ?_
    exact At.sub [1, 2, 0] rfl (hrec _ _ _ h)
def M_puts_L3 : Nat → Int32 → Int32 → St → Option (St)
  | 0, _, _, _ => none
  | n + 1, v1, v2, q => M_puts_B3 (M_puts_L3 n) v1 v2 q
theorem w_M_puts_L3 {X : Cv} (C : Cx X cX11_puts RX11 rmM_puts 3) (S : IsM X) {z : St} (hret : RokV X cX11_puts z) (n : Nat) : ∀ (v1 : Int32) (v2 : Int32) (q : St), M_puts_L3 n v1 v2 q = some z → At X 3 [(0, .ref (adOf X 0)), (1, .int v1), (2, .int v2)] [] q := by
  induction n with
  | zero => intro v1 v2 q h; cases h
  | succ n ih => intro v1 v2 q h; exact w_M_puts_B3 C S hret _ ih v1 v2 q h
def M_puts (q : St) (v1 : Int32) : Option (St) :=
  M_puts_L3 FU v1 (24 : Int32) q
theorem w_M_puts {X : Cv} (C : Cx X cX11_puts RX11 rmM_puts 3) (S : IsM X) {z : St} (hret : RokV X cX11_puts z) (v1 : Int32) (q : St) (h : M_puts q v1 = some z) : At X 0 [(0, .ref (adOf X 0)), (1, .int v1)] [] q := by
  unfold M_puts at h
  refine a_bipush (v := 24) C (by decide) dX11_puts_0 ?_
  refine a_istore_n C [(2, .int (24 : Int32)), (0, .ref (adOf X 0)), (1, .int v1)] rfl (by decide) rfl dX11_puts_2 ?_
  exact At.sub [1, 2, 0] rfl (w_M_puts_L3 C S hret _ _ _ _ h)
theorem c_M_puts {l : Launch} {D : va_G} {I : ClassId × ClassId × ClassId × ClassId} {ad : Nat → Nat} {q : St} {v1 : Int32} {z : St} (h : M_puts q v1 = some z) : Ctr l D I zT 18 (shM I) ad yX11_puts cX11_puts 3 none rmM_puts [.ref (ad 0), .int v1] q none z :=
  ctr_ofV (by decide) (Nat.le_of_ble_eq_true rfl) (fun p e s m args below meth c Q H0 X hX C hret => by subst hX; exact w_M_puts C ⟨rfl, rfl, rfl⟩ hret _ _ h)
theorem g_M_puts : GoodIn lw_tg (wsV RX11 163 RX11 yX11_puts (Cond.code yX11_puts cX11_puts 3 none :: lw_tg)) := gd_V (tg 1320 (by decide +kernel) rfl) (tg 1322 (by decide +kernel) rfl) (tg 49 (by decide +kernel) rfl) (tg 128 (by decide +kernel) rfl) (tg 1323 (by decide +kernel) rfl)
theorem k_M_puts {X : Cv} {cc : ByteArray} {rm : Room} {nL1 pc : Nat} {lv : List (Nat × Value)} {sk : List Value} {q : St} {v1 : Int32} {q2 : St} (C : Cx X cc RX11 rm nL1) (S : IsM X) (h : M_puts q v1 = some q2) (hz : rmM_puts.frames + 1 ≤ rm.frames ∧ 8 + (3 + 11) + rmM_puts.locals ≤ rm.locals) (hr : (sk.map fun v => v.category).sum ≤ 8) (hd : decode cc pc = .ok (.invokevirtual 163, 3)) (k : At X (pc + 3) lv sk q2) : At X pc lv (.int v1 :: .ref (adOf X 0) :: sk) q := a_callVv (as := [.int v1]) C (kp := 0) (by rw [S.1]; decide) (by rw [S.2.1]; rfl) rfl (by have hh := c_M_puts (l := X.2.1) (D := dOf X) (I := idOf X) (ad := adOf X) h; rw [← S.1, ← S.2.1, ← S.2.2] at hh; exact hh) g_M_puts ⟨rfl, rfl, hz.1, hz.2⟩ ⟨by decide, by decide, by show Option.map _ (parseMethodDescriptor yX11_puts.desc) = some 1; decide⟩ hr rfl hd k
abbrev rmM_append : Room := { frames := 1, cells := 0, slots := 0, locals := 22 }
def M_append (q : St) (v1 : Int32) (v2 : Int32) (v3 : Int32) (v4 : Int32) (v5 : Int32) : Option (Int32 × St) :=
  if ((gt q 0 1) + (20 : Int32)) ≤ (1400 : Int32) then
    b1 (M_puts q v1) fun q2 =>
    b1 (M_puts q2 v2) fun q3 =>
    b1 (M_puts q3 v3) fun q4 =>
    b1 (M_puts q4 v4) fun q5 =>
    b1 (M_puts q5 v5) fun q6 =>
    some ((gt q6 0 1), q6)
  else
    some ((-1 : Int32), q)
theorem w_M_append {X : Cv} (C : Cx X cX11_append RX11 rmM_append 6) (S : IsM X) {z : Int32 × St} (hret : RokI X cX11_append .int z.1 z.2) (v1 : Int32) (v2 : Int32) (v3 : Int32) (v4 : Int32) (v5 : Int32) (q : St) (h : M_append q v1 v2 v3 v4 v5 = some z) : At X 0 [(0, .ref (adOf X 0)), (1, .int v1), (2, .int v2), (3, .int v3), (4, .int v4), (5, .int v5)] [] q := by
  unfold M_append at h
  refine a_aload_n C 0 rfl rfl dX11_append_0 ?_
  refine gM_taped C S dX11_append_1 ?_
  refine a_bipush (v := 20) C (by decide) dX11_append_4 ?_
  refine a_iadd C dX11_append_6 ?_
  refine a_sipush (v := 1400) C (by decide) dX11_append_7 ?_
  refine a_icmp_le C 15 (by decide) dX11_append_10 (fun c1 => ?_) (fun c1 => ?_)
  · replace h := ifp c1 h
    refine a_aload_n C 0 rfl rfl dX11_append_15 ?_
    refine a_iload_n C 1 rfl rfl dX11_append_16 ?_
    obtain ⟨q2, e_q2, h⟩ := b1s h
    refine k_M_puts C S e_q2 ⟨Nat.le_of_ble_eq_true rfl, Nat.le_of_ble_eq_true rfl⟩ (Nat.le_of_ble_eq_true rfl) dX11_append_17 ?_
    refine a_aload_n C 0 rfl rfl dX11_append_20 ?_
    refine a_iload_n C 2 rfl rfl dX11_append_21 ?_
    obtain ⟨q3, e_q3, h⟩ := b1s h
    refine k_M_puts C S e_q3 ⟨Nat.le_of_ble_eq_true rfl, Nat.le_of_ble_eq_true rfl⟩ (Nat.le_of_ble_eq_true rfl) dX11_append_22 ?_
    refine a_aload_n C 0 rfl rfl dX11_append_25 ?_
    refine a_iload_n C 3 rfl rfl dX11_append_26 ?_
    obtain ⟨q4, e_q4, h⟩ := b1s h
    refine k_M_puts C S e_q4 ⟨Nat.le_of_ble_eq_true rfl, Nat.le_of_ble_eq_true rfl⟩ (Nat.le_of_ble_eq_true rfl) dX11_append_27 ?_
    refine a_aload_n C 0 rfl rfl dX11_append_30 ?_
    refine a_iload C 4 rfl dX11_append_31 ?_
    obtain ⟨q5, e_q5, h⟩ := b1s h
    refine k_M_puts C S e_q5 ⟨Nat.le_of_ble_eq_true rfl, Nat.le_of_ble_eq_true rfl⟩ (Nat.le_of_ble_eq_true rfl) dX11_append_33 ?_
    refine a_aload_n C 0 rfl rfl dX11_append_36 ?_
    refine a_iload C 5 rfl dX11_append_37 ?_
    obtain ⟨q6, e_q6, h⟩ := b1s h
    refine k_M_puts C S e_q6 ⟨Nat.le_of_ble_eq_true rfl, Nat.le_of_ble_eq_true rfl⟩ (Nat.le_of_ble_eq_true rfl) dX11_append_39 ?_
    refine a_aload_n C 0 rfl rfl dX11_append_42 ?_
    refine gM_taped C S dX11_append_43 ?_
    exact a_iret hret h rfl dX11_append_46
  · replace h := ifn c1 h
    refine a_iconst (v := -1) C (by decide) dX11_append_13 ?_
    exact a_iret hret h rfl dX11_append_14
theorem c_M_append {l : Launch} {D : va_G} {I : ClassId × ClassId × ClassId × ClassId} {ad : Nat → Nat} {q : St} {v1 : Int32} {v2 : Int32} {v3 : Int32} {v4 : Int32} {v5 : Int32} {z : Int32 × St} (h : M_append q v1 v2 v3 v4 v5 = some z) : Ctr l D I zT 18 (shM I) ad yX11_append cX11_append 6 (some .int) rmM_append [.ref (ad 0), .int v1, .int v2, .int v3, .int v4, .int v5] q (some z.1) z.2 :=
  ctr_ofI (by decide) (Nat.le_of_ble_eq_true rfl) (fun p e s m args below meth c Q H0 X hX C hret => by subst hX; exact w_M_append C ⟨rfl, rfl, rfl⟩ hret _ _ _ _ _ _ h)
abbrev rmM_truncate : Room := { frames := 1, cells := 0, slots := 0, locals := 25 }
def M_truncate (q : St) (v1 : Int32) : Option (Int32 × St) :=
  b1 (M_in q v1.toInt64 (0 : Int64) ((gt q 0 1)).toInt64) fun x1 =>
  if x1 = (0 : Int32) then
    some ((-1 : Int32), q)
  else
    lt_ (st q 0 1 ((gt q 0 1) - v1)) fun q3 =>
    some ((gt q3 0 1), q3)
theorem w_M_truncate {X : Cv} (C : Cx X cX11_truncate RX11 rmM_truncate 2) (S : IsM X) {z : Int32 × St} (hret : RokI X cX11_truncate .int z.1 z.2) (v1 : Int32) (q : St) (h : M_truncate q v1 = some z) : At X 0 [(0, .ref (adOf X 0)), (1, .int v1)] [] q := by
  unfold M_truncate at h
  refine a_iload_n C 1 rfl rfl dX11_truncate_0 ?_
  refine a_i2l C dX11_truncate_1 ?_
  refine a_lconst (v := 0) C (by decide) dX11_truncate_2 ?_
  refine a_aload_n C 0 rfl rfl dX11_truncate_3 ?_
  refine gM_taped C S dX11_truncate_4 ?_
  refine a_i2l C dX11_truncate_7 ?_
  obtain ⟨x1, e_x1, h⟩ := b1s h
  refine k_M_in C S e_x1 ⟨Nat.le_of_ble_eq_true rfl, Nat.le_of_ble_eq_true rfl⟩ (Nat.le_of_ble_eq_true rfl) dX11_truncate_8 ?_
  refine a_if_ne C 16 (by decide) dX11_truncate_11 (fun c2 => ?_) (fun c2 => ?_)
  · replace h := ifn c2 h
    refine a_aload_n C 0 rfl rfl dX11_truncate_16 ?_
    refine a_dup C rfl dX11_truncate_17 ?_
    refine gM_taped C S dX11_truncate_18 ?_
    refine a_iload_n C 1 rfl rfl dX11_truncate_21 ?_
    refine a_isub C dX11_truncate_22 ?_
    obtain ⟨q3, e_q3, h⟩ := lts h
    refine pM_taped C S e_q3 dX11_truncate_23 ?_
    refine a_aload_n C 0 rfl rfl dX11_truncate_26 ?_
    refine gM_taped C S dX11_truncate_27 ?_
    exact a_iret hret h rfl dX11_truncate_30
  · replace h := ifp c2 h
    refine a_iconst (v := -1) C (by decide) dX11_truncate_14 ?_
    exact a_iret hret h rfl dX11_truncate_15
theorem c_M_truncate {l : Launch} {D : va_G} {I : ClassId × ClassId × ClassId × ClassId} {ad : Nat → Nat} {q : St} {v1 : Int32} {z : Int32 × St} (h : M_truncate q v1 = some z) : Ctr l D I zT 18 (shM I) ad yX11_truncate cX11_truncate 2 (some .int) rmM_truncate [.ref (ad 0), .int v1] q (some z.1) z.2 :=
  ctr_ofI (by decide) (Nat.le_of_ble_eq_true rfl) (fun p e s m args below meth c Q H0 X hX C hret => by subst hX; exact w_M_truncate C ⟨rfl, rfl, rfl⟩ hret _ _ h)
abbrev rmM_emptiesTree : Room := { frames := 0, cells := 0, slots := 0, locals := 0 }
def M_emptiesTree_B2 (rec : Int32 → St → Option (St)) (v1 : Int32) (q : St) : Option (St) :=
  if (16 : Int32) ≤ v1 then
    some q
  else
    if v1 = (0 : Int32) then
      b1 (wr 202 q 4 ((80 : Int32) + v1) (-2 : Int32)) fun q4 =>
      rec (v1 + 1) q4
    else
      b1 (wr 202 q 4 ((80 : Int32) + v1) (-1 : Int32)) fun q3 =>
      rec (v1 + 1) q3
theorem w_M_emptiesTree_B2 {X : Cv} (C : Cx X cX11_emptiesTree RX11 rmM_emptiesTree 2) (S : IsM X) {z : St} (hret : RokV X cX11_emptiesTree z) (rec : Int32 → St → Option (St)) (hrec : ∀ (v1 : Int32) (q : St), rec v1 q = some z → At X 2 [(0, .ref (adOf X 0)), (1, .int v1)] [] q) (v1 : Int32) (q : St) (h : M_emptiesTree_B2 rec v1 q = some z) : At X 2 [(0, .ref (adOf X 0)), (1, .int v1)] [] q := by
  unfold M_emptiesTree_B2 at h
  refine a_iload_n C 1 rfl rfl dX11_emptiesTree_2 ?_
  refine a_bipush (v := 16) C (by decide) dX11_emptiesTree_3 ?_
  refine a_icmp_ge C 33 (by decide) dX11_emptiesTree_5 (fun c1 => ?_) (fun c1 => ?_)
  · replace h := ifp c1 h
    exact a_vret hret h dX11_emptiesTree_33
  · replace h := ifn c1 h
    refine a_aload_n C 0 rfl rfl dX11_emptiesTree_8 ?_
    refine gM_world C S dX11_emptiesTree_9 ?_
    refine a_bipush (v := 80) C (by decide) dX11_emptiesTree_12 ?_
    refine a_iload_n C 1 rfl rfl dX11_emptiesTree_14 ?_
    refine a_iadd C dX11_emptiesTree_15 ?_
    refine a_iload_n C 1 rfl rfl dX11_emptiesTree_16 ?_
    refine a_if_ne C 25 (by decide) dX11_emptiesTree_17 (fun c2 => ?_) (fun c2 => ?_)
    · replace h := ifn c2 h
      refine a_iconst (v := -1) C (by decide) dX11_emptiesTree_25 ?_
      obtain ⟨q3, e_q3, h⟩ := b1s h
      refine sM_world C S e_q3 dX11_emptiesTree_26 ?_
      refine a_iinc (v := (v1 + 1)) C [(1, .int (v1 + 1)), (0, .ref (adOf X 0))] 1 rfl (congrArg (HAdd.hAdd v1) (by decide : Int32.ofInt (1) = (1 : Int32))) (by decide) rfl dX11_emptiesTree_27 ?_
      refine a_goto C 2 (by decide) dX11_emptiesTree_30 ?_
      exact At.sub [1, 0] rfl (hrec _ _ h)
    · replace h := ifp c2 h
      refine a_bipush (v := -2) C (by decide) dX11_emptiesTree_20 ?_
      refine a_goto C 26 (by decide) dX11_emptiesTree_22 ?_
      obtain ⟨q4, e_q4, h⟩ := b1s h
      refine sM_world C S e_q4 dX11_emptiesTree_26 ?_
      refine a_iinc (v := (v1 + 1)) C [(1, .int (v1 + 1)), (0, .ref (adOf X 0))] 1 rfl (congrArg (HAdd.hAdd v1) (by decide : Int32.ofInt (1) = (1 : Int32))) (by decide) rfl dX11_emptiesTree_27 ?_
      refine a_goto C 2 (by decide) dX11_emptiesTree_30 ?_
      exact At.sub [1, 0] rfl (hrec _ _ h)
def M_emptiesTree_L2 : Nat → Int32 → St → Option (St)
  | 0, _, _ => none
  | n + 1, v1, q => M_emptiesTree_B2 (M_emptiesTree_L2 n) v1 q
theorem w_M_emptiesTree_L2 {X : Cv} (C : Cx X cX11_emptiesTree RX11 rmM_emptiesTree 2) (S : IsM X) {z : St} (hret : RokV X cX11_emptiesTree z) (n : Nat) : ∀ (v1 : Int32) (q : St), M_emptiesTree_L2 n v1 q = some z → At X 2 [(0, .ref (adOf X 0)), (1, .int v1)] [] q := by
  induction n with
  | zero => intro v1 q h; cases h
  | succ n ih => intro v1 q h; exact w_M_emptiesTree_B2 C S hret _ ih v1 q h
def M_emptiesTree (q : St) : Option (St) :=
  M_emptiesTree_L2 FU (0 : Int32) q
theorem w_M_emptiesTree {X : Cv} (C : Cx X cX11_emptiesTree RX11 rmM_emptiesTree 2) (S : IsM X) {z : St} (hret : RokV X cX11_emptiesTree z) (q : St) (h : M_emptiesTree q = some z) : At X 0 [(0, .ref (adOf X 0))] [] q := by
  unfold M_emptiesTree at h
  refine a_iconst (v := 0) C (by decide) dX11_emptiesTree_0 ?_
  refine a_istore_n C [(1, .int (0 : Int32)), (0, .ref (adOf X 0))] rfl (by decide) rfl dX11_emptiesTree_1 ?_
  exact At.sub [1, 0] rfl (w_M_emptiesTree_L2 C S hret _ _ _ h)
theorem c_M_emptiesTree {l : Launch} {D : va_G} {I : ClassId × ClassId × ClassId × ClassId} {ad : Nat → Nat} {q : St} {z : St} (h : M_emptiesTree q = some z) : Ctr l D I zT 18 (shM I) ad yX11_emptiesTree cX11_emptiesTree 2 none rmM_emptiesTree [.ref (ad 0)] q none z :=
  ctr_ofV (by decide) (Nat.le_of_ble_eq_true rfl) (fun p e s m args below meth c Q H0 X hX C hret => by subst hX; exact w_M_emptiesTree C ⟨rfl, rfl, rfl⟩ hret _ h)
theorem g_M_emptiesTree : GoodIn lw_tg (wsV RX11 170 RX11 yX11_emptiesTree (Cond.code yX11_emptiesTree cX11_emptiesTree 2 none :: lw_tg)) := gd_V (tg 1224 (by decide +kernel) rfl) (tg 1226 (by decide +kernel) rfl) (tg 48 (by decide +kernel) rfl) (tg 128 (by decide +kernel) rfl) (tg 1227 (by decide +kernel) rfl)
theorem k_M_emptiesTree {X : Cv} {cc : ByteArray} {rm : Room} {nL1 pc : Nat} {lv : List (Nat × Value)} {sk : List Value} {q : St} {q2 : St} (C : Cx X cc RX11 rm nL1) (S : IsM X) (h : M_emptiesTree q = some q2) (hz : rmM_emptiesTree.frames + 1 ≤ rm.frames ∧ 8 + (2 + 11) + rmM_emptiesTree.locals ≤ rm.locals) (hr : (sk.map fun v => v.category).sum ≤ 8) (hd : decode cc pc = .ok (.invokevirtual 170, 3)) (k : At X (pc + 3) lv sk q2) : At X pc lv (.ref (adOf X 0) :: sk) q := a_callVv (as := []) C (kp := 0) (by rw [S.1]; decide) (by rw [S.2.1]; rfl) rfl (by have hh := c_M_emptiesTree (l := X.2.1) (D := dOf X) (I := idOf X) (ad := adOf X) h; rw [← S.1, ← S.2.1, ← S.2.2] at hh; exact hh) g_M_emptiesTree ⟨rfl, rfl, hz.1, hz.2⟩ ⟨by decide, by decide, by show Option.map _ (parseMethodDescriptor yX11_emptiesTree.desc) = some 0; decide⟩ hr rfl hd k
abbrev rmM_takesDraft : Room := { frames := 1, cells := 0, slots := 0, locals := 21 }
def M_takesDraft_B2 (k : St → Option (St)) (rec : Int32 → St → Option (St)) (v1 : Int32) (q : St) : Option (St) :=
  if (172 : Int32) ≤ v1 then
    k  q
  else
    b1 (rd 172 q 3 v1) fun x2 =>
    b1 (wr 172 q 2 v1 x2) fun q3 =>
    rec (v1 + 1) q3
theorem w_M_takesDraft_B2 {X : Cv} (C : Cx X cX11_takesDraft RX11 rmM_takesDraft 2) (S : IsM X) {z : St} (hret : RokV X cX11_takesDraft z) (k : St → Option (St)) (hk : ∀ (q : St), k q = some z → At X 27 [(0, .ref (adOf X 0))] [] q) (rec : Int32 → St → Option (St)) (hrec : ∀ (v1 : Int32) (q : St), rec v1 q = some z → At X 2 [(0, .ref (adOf X 0)), (1, .int v1)] [] q) (v1 : Int32) (q : St) (h : M_takesDraft_B2 k rec v1 q = some z) : At X 2 [(0, .ref (adOf X 0)), (1, .int v1)] [] q := by
  unfold M_takesDraft_B2 at h
  refine a_iload_n C 1 rfl rfl dX11_takesDraft_2 ?_
  refine a_sipush (v := 172) C (by decide) dX11_takesDraft_3 ?_
  refine a_icmp_ge C 27 (by decide) dX11_takesDraft_6 (fun c1 => ?_) (fun c1 => ?_)
  · replace h := ifp c1 h
    exact At.sub [0] rfl (hk  _ h)
  · replace h := ifn c1 h
    refine a_aload_n C 0 rfl rfl dX11_takesDraft_9 ?_
    refine gM_setup C S dX11_takesDraft_10 ?_
    refine a_iload_n C 1 rfl rfl dX11_takesDraft_13 ?_
    refine a_aload_n C 0 rfl rfl dX11_takesDraft_14 ?_
    refine gM_draft C S dX11_takesDraft_15 ?_
    refine a_iload_n C 1 rfl rfl dX11_takesDraft_18 ?_
    obtain ⟨x2, e_x2, h⟩ := b1s h
    refine lM_draft C S e_x2 dX11_takesDraft_19 ?_
    obtain ⟨q3, e_q3, h⟩ := b1s h
    refine sM_setup C S e_q3 dX11_takesDraft_20 ?_
    refine a_iinc (v := (v1 + 1)) C [(1, .int (v1 + 1)), (0, .ref (adOf X 0))] 1 rfl (congrArg (HAdd.hAdd v1) (by decide : Int32.ofInt (1) = (1 : Int32))) (by decide) rfl dX11_takesDraft_21 ?_
    refine a_goto C 2 (by decide) dX11_takesDraft_24 ?_
    exact At.sub [1, 0] rfl (hrec _ _ h)
def M_takesDraft_L2 (k : St → Option (St)) : Nat → Int32 → St → Option (St)
  | 0, _, _ => none
  | n + 1, v1, q => M_takesDraft_B2 k (M_takesDraft_L2 k n) v1 q
theorem w_M_takesDraft_L2 {X : Cv} (C : Cx X cX11_takesDraft RX11 rmM_takesDraft 2) (S : IsM X) {z : St} (hret : RokV X cX11_takesDraft z) (k : St → Option (St)) (hk : ∀ (q : St), k q = some z → At X 27 [(0, .ref (adOf X 0))] [] q) (n : Nat) : ∀ (v1 : Int32) (q : St), M_takesDraft_L2 k n v1 q = some z → At X 2 [(0, .ref (adOf X 0)), (1, .int v1)] [] q := by
  induction n with
  | zero => intro v1 q h; cases h
  | succ n ih => intro v1 q h; exact w_M_takesDraft_B2 C S hret k hk _ ih v1 q h
def M_takesDraft_B29 (k : St → Option (St)) (rec : Int32 → St → Option (St)) (v1 : Int32) (q : St) : Option (St) :=
  if (202 : Int32) ≤ v1 then
    k  q
  else
    b1 (wr 202 q 4 v1 (0 : Int32)) fun q6 =>
    rec (v1 + 1) q6
theorem w_M_takesDraft_B29 {X : Cv} (C : Cx X cX11_takesDraft RX11 rmM_takesDraft 2) (S : IsM X) {z : St} (hret : RokV X cX11_takesDraft z) (k : St → Option (St)) (hk : ∀ (q : St), k q = some z → At X 49 [(0, .ref (adOf X 0))] [] q) (rec : Int32 → St → Option (St)) (hrec : ∀ (v1 : Int32) (q : St), rec v1 q = some z → At X 29 [(0, .ref (adOf X 0)), (1, .int v1)] [] q) (v1 : Int32) (q : St) (h : M_takesDraft_B29 k rec v1 q = some z) : At X 29 [(0, .ref (adOf X 0)), (1, .int v1)] [] q := by
  unfold M_takesDraft_B29 at h
  refine a_iload_n C 1 rfl rfl dX11_takesDraft_29 ?_
  refine a_sipush (v := 202) C (by decide) dX11_takesDraft_30 ?_
  refine a_icmp_ge C 49 (by decide) dX11_takesDraft_33 (fun c5 => ?_) (fun c5 => ?_)
  · replace h := ifp c5 h
    exact At.sub [0] rfl (hk  _ h)
  · replace h := ifn c5 h
    refine a_aload_n C 0 rfl rfl dX11_takesDraft_36 ?_
    refine gM_world C S dX11_takesDraft_37 ?_
    refine a_iload_n C 1 rfl rfl dX11_takesDraft_40 ?_
    refine a_iconst (v := 0) C (by decide) dX11_takesDraft_41 ?_
    obtain ⟨q6, e_q6, h⟩ := b1s h
    refine sM_world C S e_q6 dX11_takesDraft_42 ?_
    refine a_iinc (v := (v1 + 1)) C [(1, .int (v1 + 1)), (0, .ref (adOf X 0))] 1 rfl (congrArg (HAdd.hAdd v1) (by decide : Int32.ofInt (1) = (1 : Int32))) (by decide) rfl dX11_takesDraft_43 ?_
    refine a_goto C 29 (by decide) dX11_takesDraft_46 ?_
    exact At.sub [1, 0] rfl (hrec _ _ h)
def M_takesDraft_L29 (k : St → Option (St)) : Nat → Int32 → St → Option (St)
  | 0, _, _ => none
  | n + 1, v1, q => M_takesDraft_B29 k (M_takesDraft_L29 k n) v1 q
theorem w_M_takesDraft_L29 {X : Cv} (C : Cx X cX11_takesDraft RX11 rmM_takesDraft 2) (S : IsM X) {z : St} (hret : RokV X cX11_takesDraft z) (k : St → Option (St)) (hk : ∀ (q : St), k q = some z → At X 49 [(0, .ref (adOf X 0))] [] q) (n : Nat) : ∀ (v1 : Int32) (q : St), M_takesDraft_L29 k n v1 q = some z → At X 29 [(0, .ref (adOf X 0)), (1, .int v1)] [] q := by
  induction n with
  | zero => intro v1 q h; cases h
  | succ n ih => intro v1 q h; exact w_M_takesDraft_B29 C S hret k hk _ ih v1 q h
def M_takesDraft_B51 (k : St → Option (St)) (rec : Int32 → St → Option (St)) (v1 : Int32) (q : St) : Option (St) :=
  b1 (rd 172 q 2 (1 : Int32)) fun x8 =>
  if x8 ≤ v1 then
    k  q
  else
    b1 (rd 172 q 2 (((4 : Int32) + ((4 : Int32) * v1)) + (2 : Int32))) fun x10 =>
    b1 (wr 202 q 4 ((0 : Int32) + v1) x10) fun q11 =>
    b1 (wr 202 q11 4 ((32 : Int32) + v1) (1 : Int32)) fun q12 =>
    rec (v1 + 1) q12
theorem w_M_takesDraft_B51 {X : Cv} (C : Cx X cX11_takesDraft RX11 rmM_takesDraft 2) (S : IsM X) {z : St} (hret : RokV X cX11_takesDraft z) (k : St → Option (St)) (hk : ∀ (q : St), k q = some z → At X 97 [(0, .ref (adOf X 0))] [] q) (rec : Int32 → St → Option (St)) (hrec : ∀ (v1 : Int32) (q : St), rec v1 q = some z → At X 51 [(0, .ref (adOf X 0)), (1, .int v1)] [] q) (v1 : Int32) (q : St) (h : M_takesDraft_B51 k rec v1 q = some z) : At X 51 [(0, .ref (adOf X 0)), (1, .int v1)] [] q := by
  unfold M_takesDraft_B51 at h
  refine a_iload_n C 1 rfl rfl dX11_takesDraft_51 ?_
  refine a_aload_n C 0 rfl rfl dX11_takesDraft_52 ?_
  refine gM_setup C S dX11_takesDraft_53 ?_
  refine a_iconst (v := 1) C (by decide) dX11_takesDraft_56 ?_
  obtain ⟨x8, e_x8, h⟩ := b1s h
  refine lM_setup C S e_x8 dX11_takesDraft_57 ?_
  refine a_icmp_ge C 97 (by decide) dX11_takesDraft_58 (fun c9 => ?_) (fun c9 => ?_)
  · replace h := ifp c9 h
    exact At.sub [0] rfl (hk  _ h)
  · replace h := ifn c9 h
    refine a_aload_n C 0 rfl rfl dX11_takesDraft_61 ?_
    refine gM_world C S dX11_takesDraft_62 ?_
    refine a_iconst (v := 0) C (by decide) dX11_takesDraft_65 ?_
    refine a_iload_n C 1 rfl rfl dX11_takesDraft_66 ?_
    refine a_iadd C dX11_takesDraft_67 ?_
    refine a_aload_n C 0 rfl rfl dX11_takesDraft_68 ?_
    refine gM_setup C S dX11_takesDraft_69 ?_
    refine a_iconst (v := 4) C (by decide) dX11_takesDraft_72 ?_
    refine a_iconst (v := 4) C (by decide) dX11_takesDraft_73 ?_
    refine a_iload_n C 1 rfl rfl dX11_takesDraft_74 ?_
    refine a_imul C dX11_takesDraft_75 ?_
    refine a_iadd C dX11_takesDraft_76 ?_
    refine a_iconst (v := 2) C (by decide) dX11_takesDraft_77 ?_
    refine a_iadd C dX11_takesDraft_78 ?_
    obtain ⟨x10, e_x10, h⟩ := b1s h
    refine lM_setup C S e_x10 dX11_takesDraft_79 ?_
    obtain ⟨q11, e_q11, h⟩ := b1s h
    refine sM_world C S e_q11 dX11_takesDraft_80 ?_
    refine a_aload_n C 0 rfl rfl dX11_takesDraft_81 ?_
    refine gM_world C S dX11_takesDraft_82 ?_
    refine a_bipush (v := 32) C (by decide) dX11_takesDraft_85 ?_
    refine a_iload_n C 1 rfl rfl dX11_takesDraft_87 ?_
    refine a_iadd C dX11_takesDraft_88 ?_
    refine a_iconst (v := 1) C (by decide) dX11_takesDraft_89 ?_
    obtain ⟨q12, e_q12, h⟩ := b1s h
    refine sM_world C S e_q12 dX11_takesDraft_90 ?_
    refine a_iinc (v := (v1 + 1)) C [(1, .int (v1 + 1)), (0, .ref (adOf X 0))] 1 rfl (congrArg (HAdd.hAdd v1) (by decide : Int32.ofInt (1) = (1 : Int32))) (by decide) rfl dX11_takesDraft_91 ?_
    refine a_goto C 51 (by decide) dX11_takesDraft_94 ?_
    exact At.sub [1, 0] rfl (hrec _ _ h)
def M_takesDraft_L51 (k : St → Option (St)) : Nat → Int32 → St → Option (St)
  | 0, _, _ => none
  | n + 1, v1, q => M_takesDraft_B51 k (M_takesDraft_L51 k n) v1 q
theorem w_M_takesDraft_L51 {X : Cv} (C : Cx X cX11_takesDraft RX11 rmM_takesDraft 2) (S : IsM X) {z : St} (hret : RokV X cX11_takesDraft z) (k : St → Option (St)) (hk : ∀ (q : St), k q = some z → At X 97 [(0, .ref (adOf X 0))] [] q) (n : Nat) : ∀ (v1 : Int32) (q : St), M_takesDraft_L51 k n v1 q = some z → At X 51 [(0, .ref (adOf X 0)), (1, .int v1)] [] q := by
  induction n with
  | zero => intro v1 q h; cases h
  | succ n ih => intro v1 q h; exact w_M_takesDraft_B51 C S hret k hk _ ih v1 q h
def M_takesDraft (q : St) : Option (St) :=
  M_takesDraft_L2 (fun q4 =>
    M_takesDraft_L29 (fun q7 =>
      M_takesDraft_L51 (fun q13 =>
        b1 (M_emptiesTree q13) fun q14 =>
        lt_ (st q14 0 15 (0 : Int32)) fun q15 =>
        some q15
        ) FU (0 : Int32) q7
      ) FU (0 : Int32) q4
    ) FU (0 : Int32) q
theorem w_M_takesDraft {X : Cv} (C : Cx X cX11_takesDraft RX11 rmM_takesDraft 2) (S : IsM X) {z : St} (hret : RokV X cX11_takesDraft z) (q : St) (h : M_takesDraft q = some z) : At X 0 [(0, .ref (adOf X 0))] [] q := by
  unfold M_takesDraft at h
  refine a_iconst (v := 0) C (by decide) dX11_takesDraft_0 ?_
  refine a_istore_n C [(1, .int (0 : Int32)), (0, .ref (adOf X 0))] rfl (by decide) rfl dX11_takesDraft_1 ?_
  refine At.sub [1, 0] rfl (w_M_takesDraft_L2 C S hret _ ?_ _ _ _ h)
  intro q4 h
  refine a_iconst (v := 0) C (by decide) dX11_takesDraft_27 ?_
  refine a_istore_n C [(1, .int (0 : Int32)), (0, .ref (adOf X 0))] rfl (by decide) rfl dX11_takesDraft_28 ?_
  refine At.sub [1, 0] rfl (w_M_takesDraft_L29 C S hret _ ?_ _ _ _ h)
  intro q7 h
  refine a_iconst (v := 0) C (by decide) dX11_takesDraft_49 ?_
  refine a_istore_n C [(1, .int (0 : Int32)), (0, .ref (adOf X 0))] rfl (by decide) rfl dX11_takesDraft_50 ?_
  refine At.sub [1, 0] rfl (w_M_takesDraft_L51 C S hret _ ?_ _ _ _ h)
  intro q13 h
  refine a_aload_n C 0 rfl rfl dX11_takesDraft_97 ?_
  obtain ⟨q14, e_q14, h⟩ := b1s h
  refine k_M_emptiesTree C S e_q14 ⟨Nat.le_of_ble_eq_true rfl, Nat.le_of_ble_eq_true rfl⟩ (Nat.le_of_ble_eq_true rfl) dX11_takesDraft_98 ?_
  refine a_aload_n C 0 rfl rfl dX11_takesDraft_101 ?_
  refine a_iconst (v := 0) C (by decide) dX11_takesDraft_102 ?_
  obtain ⟨q15, e_q15, h⟩ := lts h
  refine pM_undos C S e_q15 dX11_takesDraft_103 ?_
  exact a_vret hret h dX11_takesDraft_106
theorem c_M_takesDraft {l : Launch} {D : va_G} {I : ClassId × ClassId × ClassId × ClassId} {ad : Nat → Nat} {q : St} {z : St} (h : M_takesDraft q = some z) : Ctr l D I zT 18 (shM I) ad yX11_takesDraft cX11_takesDraft 2 none rmM_takesDraft [.ref (ad 0)] q none z :=
  ctr_ofV (by decide) (Nat.le_of_ble_eq_true rfl) (fun p e s m args below meth c Q H0 X hX C hret => by subst hX; exact w_M_takesDraft C ⟨rfl, rfl, rfl⟩ hret _ h)
theorem g_M_takesDraft : GoodIn lw_tg (wsV RX11 70 RX11 yX11_takesDraft (Cond.code yX11_takesDraft cX11_takesDraft 2 none :: lw_tg)) := gd_V (tg 1220 (by decide +kernel) rfl) (tg 1222 (by decide +kernel) rfl) (tg 47 (by decide +kernel) rfl) (tg 128 (by decide +kernel) rfl) (tg 1223 (by decide +kernel) rfl)
theorem k_M_takesDraft {X : Cv} {cc : ByteArray} {rm : Room} {nL1 pc : Nat} {lv : List (Nat × Value)} {sk : List Value} {q : St} {q2 : St} (C : Cx X cc RX11 rm nL1) (S : IsM X) (h : M_takesDraft q = some q2) (hz : rmM_takesDraft.frames + 1 ≤ rm.frames ∧ 8 + (2 + 11) + rmM_takesDraft.locals ≤ rm.locals) (hr : (sk.map fun v => v.category).sum ≤ 8) (hd : decode cc pc = .ok (.invokevirtual 70, 3)) (k : At X (pc + 3) lv sk q2) : At X pc lv (.ref (adOf X 0) :: sk) q := a_callVv (as := []) C (kp := 0) (by rw [S.1]; decide) (by rw [S.2.1]; rfl) rfl (by have hh := c_M_takesDraft (l := X.2.1) (D := dOf X) (I := idOf X) (ad := adOf X) h; rw [← S.1, ← S.2.1, ← S.2.2] at hh; exact hh) g_M_takesDraft ⟨rfl, rfl, hz.1, hz.2⟩ ⟨by decide, by decide, by show Option.map _ (parseMethodDescriptor yX11_takesDraft.desc) = some 0; decide⟩ hr rfl hd k
abbrev rmM_load : Room := { frames := 7, cells := 0, slots := 0, locals := 155 }
def M_load (q : St) : Option (Int32 × St) :=
  lt_ (st q 0 2 (-2 : Int32)) fun q1 =>
  b1 (M_reads q1) fun q2 =>
  lt_ (st q2 0 1 (0 : Int32)) fun q3 =>
  if (gt q3 0 11) = (0 : Int32) then
    some ((-1 : Int32), q3)
  else
    b1 (M_takesDraft q3) fun q5 =>
    b1 (rd 172 q5 2 (0 : Int32)) fun x6 =>
    some (x6, q5)
theorem w_M_load {X : Cv} (C : Cx X cX11_load RX11 rmM_load 1) (S : IsM X) {z : Int32 × St} (hret : RokI X cX11_load .int z.1 z.2) (q : St) (h : M_load q = some z) : At X 0 [(0, .ref (adOf X 0))] [] q := by
  unfold M_load at h
  refine a_aload_n C 0 rfl rfl dX11_load_0 ?_
  refine a_bipush (v := -2) C (by decide) dX11_load_1 ?_
  obtain ⟨q1, e_q1, h⟩ := lts h
  refine pM_errorAt C S e_q1 dX11_load_3 ?_
  refine a_aload_n C 0 rfl rfl dX11_load_6 ?_
  obtain ⟨q2, e_q2, h⟩ := b1s h
  refine k_M_reads C S e_q2 ⟨Nat.le_of_ble_eq_true rfl, Nat.le_of_ble_eq_true rfl⟩ (Nat.le_of_ble_eq_true rfl) dX11_load_7 ?_
  refine a_aload_n C 0 rfl rfl dX11_load_10 ?_
  refine a_iconst (v := 0) C (by decide) dX11_load_11 ?_
  obtain ⟨q3, e_q3, h⟩ := lts h
  refine pM_taped C S e_q3 dX11_load_12 ?_
  refine a_aload_n C 0 rfl rfl dX11_load_15 ?_
  refine gM_fine C S dX11_load_16 ?_
  refine a_if_ne C 24 (by decide) dX11_load_19 (fun c4 => ?_) (fun c4 => ?_)
  · replace h := ifn c4 h
    refine a_aload_n C 0 rfl rfl dX11_load_24 ?_
    obtain ⟨q5, e_q5, h⟩ := b1s h
    refine k_M_takesDraft C S e_q5 ⟨Nat.le_of_ble_eq_true rfl, Nat.le_of_ble_eq_true rfl⟩ (Nat.le_of_ble_eq_true rfl) dX11_load_25 ?_
    refine a_aload_n C 0 rfl rfl dX11_load_28 ?_
    refine gM_setup C S dX11_load_29 ?_
    refine a_iconst (v := 0) C (by decide) dX11_load_32 ?_
    obtain ⟨x6, e_x6, h⟩ := b1s h
    refine lM_setup C S e_x6 dX11_load_33 ?_
    exact a_iret hret h rfl dX11_load_34
  · replace h := ifp c4 h
    refine a_iconst (v := -1) C (by decide) dX11_load_22 ?_
    exact a_iret hret h rfl dX11_load_23
theorem c_M_load {l : Launch} {D : va_G} {I : ClassId × ClassId × ClassId × ClassId} {ad : Nat → Nat} {q : St} {z : Int32 × St} (h : M_load q = some z) : Ctr l D I zT 18 (shM I) ad yX11_load cX11_load 1 (some .int) rmM_load [.ref (ad 0)] q (some z.1) z.2 :=
  ctr_ofI (by decide) (Nat.le_of_ble_eq_true rfl) (fun p e s m args below meth c Q H0 X hX C hret => by subst hX; exact w_M_load C ⟨rfl, rfl, rfl⟩ hret _ h)
