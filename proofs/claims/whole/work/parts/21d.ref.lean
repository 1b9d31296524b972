abbrev rmM_wrong : Room := { frames := 4, cells := 0, slots := 0, locals := 91 }
def M_wrong_B6 (q : St) (k : Option (Int32 × St)) (rec : Int32 → Option (Int32 × St)) (v1 : Int32) : Option (Int32 × St) :=
  b1 (rd 172 q 2 (1 : Int32)) fun x2 =>
  if x2 ≤ v1 then
    k
  else
    b1 (rd 32 q 9 v1) fun x4 =>
    b1 (rd 202 q 4 ((0 : Int32) + v1)) fun x5 =>
    if x4 ≤ x5 then
      rec (v1 + 1)
    else
      some (((0 : Int32) + v1), q)
theorem w_M_wrong_B6 {X : Cv} (C : Cx X cX11_wrong RX11 rmM_wrong 2) (S : IsM X) (q : St) {z : Int32 × St} (hret : RokI X cX11_wrong .int z.1 z.2) (k : Option (Int32 × St)) (hk : k = some z → At X 43 [(0, .ref (adOf X 0))] [] q) (rec : Int32 → Option (Int32 × St)) (hrec : ∀ (v1 : Int32), rec v1 = some z → At X 6 [(0, .ref (adOf X 0)), (1, .int v1)] [] q) (v1 : Int32) (h : M_wrong_B6 q k rec v1 = some z) : At X 6 [(0, .ref (adOf X 0)), (1, .int v1)] [] q := by
  unfold M_wrong_B6 at h
  refine a_iload_n C 1 rfl rfl dX11_wrong_6 ?_
  refine a_aload_n C 0 rfl rfl dX11_wrong_7 ?_
  refine gM_setup C S dX11_wrong_8 ?_
  refine a_iconst (v := 1) C (by decide) dX11_wrong_11 ?_
  obtain ⟨x2, e_x2, h⟩ := b1s h
  refine lM_setup C S e_x2 dX11_wrong_12 ?_
  refine a_icmp_ge C 43 (by decide) dX11_wrong_13 (fun c3 => ?_) (fun c3 => ?_)
  · replace h := ifp c3 h
    exact At.sub [0] rfl (hk  h)
  · replace h := ifn c3 h
    refine a_aload_n C 0 rfl rfl dX11_wrong_16 ?_
    refine gM_linkLoads C S dX11_wrong_17 ?_
    refine a_iload_n C 1 rfl rfl dX11_wrong_20 ?_
    obtain ⟨x4, e_x4, h⟩ := b1s h
    refine lM_linkLoads C S e_x4 dX11_wrong_21 ?_
    refine a_aload_n C 0 rfl rfl dX11_wrong_22 ?_
    refine gM_world C S dX11_wrong_23 ?_
    refine a_iconst (v := 0) C (by decide) dX11_wrong_26 ?_
    refine a_iload_n C 1 rfl rfl dX11_wrong_27 ?_
    refine a_iadd C dX11_wrong_28 ?_
    obtain ⟨x5, e_x5, h⟩ := b1s h
    refine lM_world C S e_x5 dX11_wrong_29 ?_
    refine a_icmp_le C 37 (by decide) dX11_wrong_30 (fun c6 => ?_) (fun c6 => ?_)
    · replace h := ifp c6 h
      refine a_iinc (v := (v1 + 1)) C [(1, .int (v1 + 1)), (0, .ref (adOf X 0))] 1 rfl (congrArg (HAdd.hAdd v1) (by decide : Int32.ofInt (1) = (1 : Int32))) (by decide) rfl dX11_wrong_37 ?_
      refine a_goto C 6 (by decide) dX11_wrong_40 ?_
      exact At.sub [1, 0] rfl (hrec _ h)
    · replace h := ifn c6 h
      refine a_iconst (v := 0) C (by decide) dX11_wrong_33 ?_
      refine a_iload_n C 1 rfl rfl dX11_wrong_34 ?_
      refine a_iadd C dX11_wrong_35 ?_
      exact a_iret hret h rfl dX11_wrong_36
def M_wrong_L6 (q : St) (k : Option (Int32 × St)) : Nat → Int32 → Option (Int32 × St)
  | 0, _ => none
  | n + 1, v1 => M_wrong_B6 q k (M_wrong_L6 q k n) v1
theorem w_M_wrong_L6 {X : Cv} (C : Cx X cX11_wrong RX11 rmM_wrong 2) (S : IsM X) (q : St) {z : Int32 × St} (hret : RokI X cX11_wrong .int z.1 z.2) (k : Option (Int32 × St)) (hk : k = some z → At X 43 [(0, .ref (adOf X 0))] [] q) (n : Nat) : ∀ (v1 : Int32), M_wrong_L6 q k n v1 = some z → At X 6 [(0, .ref (adOf X 0)), (1, .int v1)] [] q := by
  induction n with
  | zero => intro v1 h; cases h
  | succ n ih => intro v1 h; exact w_M_wrong_B6 C S _ hret k hk _ ih v1 h
def M_wrong_B45 (q : St) (k : Option (Int32 × St)) (rec : Int32 → Option (Int32 × St)) (v1 : Int32) : Option (Int32 × St) :=
  b1 (rd 172 q 2 (0 : Int32)) fun x7 =>
  if x7 ≤ v1 then
    k
  else
    b1 (rd 16 q 10 v1) fun x9 =>
    b1 (rd 172 q 2 ((132 : Int32) + v1)) fun x10 =>
    if x9 ≤ x10 then
      rec (v1 + 1)
    else
      some (((100 : Int32) + v1), q)
theorem w_M_wrong_B45 {X : Cv} (C : Cx X cX11_wrong RX11 rmM_wrong 2) (S : IsM X) (q : St) {z : Int32 × St} (hret : RokI X cX11_wrong .int z.1 z.2) (k : Option (Int32 × St)) (hk : k = some z → At X 85 [(0, .ref (adOf X 0))] [] q) (rec : Int32 → Option (Int32 × St)) (hrec : ∀ (v1 : Int32), rec v1 = some z → At X 45 [(0, .ref (adOf X 0)), (1, .int v1)] [] q) (v1 : Int32) (h : M_wrong_B45 q k rec v1 = some z) : At X 45 [(0, .ref (adOf X 0)), (1, .int v1)] [] q := by
  unfold M_wrong_B45 at h
  refine a_iload_n C 1 rfl rfl dX11_wrong_45 ?_
  refine a_aload_n C 0 rfl rfl dX11_wrong_46 ?_
  refine gM_setup C S dX11_wrong_47 ?_
  refine a_iconst (v := 0) C (by decide) dX11_wrong_50 ?_
  obtain ⟨x7, e_x7, h⟩ := b1s h
  refine lM_setup C S e_x7 dX11_wrong_51 ?_
  refine a_icmp_ge C 85 (by decide) dX11_wrong_52 (fun c8 => ?_) (fun c8 => ?_)
  · replace h := ifp c8 h
    exact At.sub [0] rfl (hk  h)
  · replace h := ifn c8 h
    refine a_aload_n C 0 rfl rfl dX11_wrong_55 ?_
    refine gM_cpuLoads C S dX11_wrong_56 ?_
    refine a_iload_n C 1 rfl rfl dX11_wrong_59 ?_
    obtain ⟨x9, e_x9, h⟩ := b1s h
    refine lM_cpuLoads C S e_x9 dX11_wrong_60 ?_
    refine a_aload_n C 0 rfl rfl dX11_wrong_61 ?_
    refine gM_setup C S dX11_wrong_62 ?_
    refine a_sipush (v := 132) C (by decide) dX11_wrong_65 ?_
    refine a_iload_n C 1 rfl rfl dX11_wrong_68 ?_
    refine a_iadd C dX11_wrong_69 ?_
    obtain ⟨x10, e_x10, h⟩ := b1s h
    refine lM_setup C S e_x10 dX11_wrong_70 ?_
    refine a_icmp_le C 79 (by decide) dX11_wrong_71 (fun c11 => ?_) (fun c11 => ?_)
    · replace h := ifp c11 h
      refine a_iinc (v := (v1 + 1)) C [(1, .int (v1 + 1)), (0, .ref (adOf X 0))] 1 rfl (congrArg (HAdd.hAdd v1) (by decide : Int32.ofInt (1) = (1 : Int32))) (by decide) rfl dX11_wrong_79 ?_
      refine a_goto C 45 (by decide) dX11_wrong_82 ?_
      exact At.sub [1, 0] rfl (hrec _ h)
    · replace h := ifn c11 h
      refine a_bipush (v := 100) C (by decide) dX11_wrong_74 ?_
      refine a_iload_n C 1 rfl rfl dX11_wrong_76 ?_
      refine a_iadd C dX11_wrong_77 ?_
      exact a_iret hret h rfl dX11_wrong_78
def M_wrong_L45 (q : St) (k : Option (Int32 × St)) : Nat → Int32 → Option (Int32 × St)
  | 0, _ => none
  | n + 1, v1 => M_wrong_B45 q k (M_wrong_L45 q k n) v1
theorem w_M_wrong_L45 {X : Cv} (C : Cx X cX11_wrong RX11 rmM_wrong 2) (S : IsM X) (q : St) {z : Int32 × St} (hret : RokI X cX11_wrong .int z.1 z.2) (k : Option (Int32 × St)) (hk : k = some z → At X 85 [(0, .ref (adOf X 0))] [] q) (n : Nat) : ∀ (v1 : Int32), M_wrong_L45 q k n v1 = some z → At X 45 [(0, .ref (adOf X 0)), (1, .int v1)] [] q := by
  induction n with
  | zero => intro v1 h; cases h
  | succ n ih => intro v1 h; exact w_M_wrong_B45 C S _ hret k hk _ ih v1 h
def M_wrong_B87 (q : St) (rec : Int32 → Option (Int32 × St)) (v1 : Int32) : Option (Int32 × St) :=
  b1 (rd 172 q 2 (2 : Int32)) fun x12 =>
  if x12 ≤ v1 then
    some ((-2 : Int32), q)
  else
    b1 (rd 64 q 8 v1) fun x14 =>
    if x14 ≤ (0 : Int32) then
      rec (v1 + 1)
    else
      some (((200 : Int32) + v1), q)
theorem w_M_wrong_B87 {X : Cv} (C : Cx X cX11_wrong RX11 rmM_wrong 2) (S : IsM X) (q : St) {z : Int32 × St} (hret : RokI X cX11_wrong .int z.1 z.2) (rec : Int32 → Option (Int32 × St)) (hrec : ∀ (v1 : Int32), rec v1 = some z → At X 87 [(0, .ref (adOf X 0)), (1, .int v1)] [] q) (v1 : Int32) (h : M_wrong_B87 q rec v1 = some z) : At X 87 [(0, .ref (adOf X 0)), (1, .int v1)] [] q := by
  unfold M_wrong_B87 at h
  refine a_iload_n C 1 rfl rfl dX11_wrong_87 ?_
  refine a_aload_n C 0 rfl rfl dX11_wrong_88 ?_
  refine gM_setup C S dX11_wrong_89 ?_
  refine a_iconst (v := 2) C (by decide) dX11_wrong_92 ?_
  obtain ⟨x12, e_x12, h⟩ := b1s h
  refine lM_setup C S e_x12 dX11_wrong_93 ?_
  refine a_icmp_ge C 118 (by decide) dX11_wrong_94 (fun c13 => ?_) (fun c13 => ?_)
  · replace h := ifp c13 h
    refine a_bipush (v := -2) C (by decide) dX11_wrong_118 ?_
    exact a_iret hret h rfl dX11_wrong_120
  · replace h := ifn c13 h
    refine a_aload_n C 0 rfl rfl dX11_wrong_97 ?_
    refine gM_asks C S dX11_wrong_98 ?_
    refine a_iload_n C 1 rfl rfl dX11_wrong_101 ?_
    obtain ⟨x14, e_x14, h⟩ := b1s h
    refine lM_asks C S e_x14 dX11_wrong_102 ?_
    refine a_if_le C 112 (by decide) dX11_wrong_103 (fun c15 => ?_) (fun c15 => ?_)
    · replace h := ifp c15 h
      refine a_iinc (v := (v1 + 1)) C [(1, .int (v1 + 1)), (0, .ref (adOf X 0))] 1 rfl (congrArg (HAdd.hAdd v1) (by decide : Int32.ofInt (1) = (1 : Int32))) (by decide) rfl dX11_wrong_112 ?_
      refine a_goto C 87 (by decide) dX11_wrong_115 ?_
      exact At.sub [1, 0] rfl (hrec _ h)
    · replace h := ifn c15 h
      refine a_sipush (v := 200) C (by decide) dX11_wrong_106 ?_
      refine a_iload_n C 1 rfl rfl dX11_wrong_109 ?_
      refine a_iadd C dX11_wrong_110 ?_
      exact a_iret hret h rfl dX11_wrong_111
def M_wrong_L87 (q : St) : Nat → Int32 → Option (Int32 × St)
  | 0, _ => none
  | n + 1, v1 => M_wrong_B87 q (M_wrong_L87 q n) v1
theorem w_M_wrong_L87 {X : Cv} (C : Cx X cX11_wrong RX11 rmM_wrong 2) (S : IsM X) (q : St) {z : Int32 × St} (hret : RokI X cX11_wrong .int z.1 z.2) (n : Nat) : ∀ (v1 : Int32), M_wrong_L87 q n v1 = some z → At X 87 [(0, .ref (adOf X 0)), (1, .int v1)] [] q := by
  induction n with
  | zero => intro v1 h; cases h
  | succ n ih => intro v1 h; exact w_M_wrong_B87 C S _ hret _ ih v1 h
def M_wrong (q : St) : Option (Int32 × St) :=
  b1 (M_measures q) fun q1 =>
  M_wrong_L6 q1 (
    M_wrong_L45 q1 (
      M_wrong_L87 q1 FU (1 : Int32)
      ) FU (0 : Int32)
    ) FU (0 : Int32)
theorem w_M_wrong {X : Cv} (C : Cx X cX11_wrong RX11 rmM_wrong 2) (S : IsM X) {z : Int32 × St} (hret : RokI X cX11_wrong .int z.1 z.2) (q : St) (h : M_wrong q = some z) : At X 0 [(0, .ref (adOf X 0))] [] q := by
  unfold M_wrong at h
  refine a_aload_n C 0 rfl rfl dX11_wrong_0 ?_
  obtain ⟨q1, e_q1, h⟩ := b1s h
  refine k_M_measures C S e_q1 ⟨Nat.le_of_ble_eq_true rfl, Nat.le_of_ble_eq_true rfl⟩ (Nat.le_of_ble_eq_true rfl) dX11_wrong_1 ?_
  refine a_iconst (v := 0) C (by decide) dX11_wrong_4 ?_
  refine a_istore_n C [(1, .int (0 : Int32)), (0, .ref (adOf X 0))] rfl (by decide) rfl dX11_wrong_5 ?_
  refine At.sub [1, 0] rfl (w_M_wrong_L6 C S _ hret _ ?_ _ _ h)
  intro  h
  refine a_iconst (v := 0) C (by decide) dX11_wrong_43 ?_
  refine a_istore_n C [(1, .int (0 : Int32)), (0, .ref (adOf X 0))] rfl (by decide) rfl dX11_wrong_44 ?_
  refine At.sub [1, 0] rfl (w_M_wrong_L45 C S _ hret _ ?_ _ _ h)
  intro  h
  refine a_iconst (v := 1) C (by decide) dX11_wrong_85 ?_
  refine a_istore_n C [(1, .int (1 : Int32)), (0, .ref (adOf X 0))] rfl (by decide) rfl dX11_wrong_86 ?_
  exact At.sub [1, 0] rfl (w_M_wrong_L87 C S _ hret _ _ h)
theorem c_M_wrong {l : Launch} {D : va_G} {I : ClassId × ClassId × ClassId × ClassId} {ad : Nat → Nat} {q : St} {z : Int32 × St} (h : M_wrong q = some z) : Ctr l D I zT 18 (shM I) ad yX11_wrong cX11_wrong 2 (some .int) rmM_wrong [.ref (ad 0)] q (some z.1) z.2 :=
  ctr_ofI (by decide) (Nat.le_of_ble_eq_true rfl) (fun p e s m args below meth c Q H0 X hX C hret => by subst hX; exact w_M_wrong C ⟨rfl, rfl, rfl⟩ hret _ h)
theorem g_M_wrong : GoodIn lw_tg (wsV RX11 247 RX11 yX11_wrong (Cond.code yX11_wrong cX11_wrong 2 (some .int) :: lw_tg)) := gd_V (tg 1491 (by decide +kernel) rfl) (tg 1493 (by decide +kernel) rfl) (tg 83 (by decide +kernel) rfl) (tg 128 (by decide +kernel) rfl) (tg 1494 (by decide +kernel) rfl)
theorem k_M_wrong {X : Cv} {cc : ByteArray} {rm : Room} {nL1 pc : Nat} {lv : List (Nat × Value)} {sk : List Value} {q : St} {z : Int32} {q2 : St} (C : Cx X cc RX11 rm nL1) (S : IsM X) (h : M_wrong q = some (z, q2)) (hz : rmM_wrong.frames + 1 ≤ rm.frames ∧ 8 + (2 + 11) + rmM_wrong.locals ≤ rm.locals) (hr : (sk.map fun v => v.category).sum ≤ 8) (hd : decode cc pc = .ok (.invokevirtual 247, 3)) (k : At X (pc + 3) lv (.int z :: sk) q2) : At X pc lv (.ref (adOf X 0) :: sk) q := a_callVi (as := []) C (kp := 0) (by rw [S.1]; decide) (by rw [S.2.1]; rfl) rfl (by have hh := c_M_wrong (l := X.2.1) (D := dOf X) (I := idOf X) (ad := adOf X) h; rw [← S.1, ← S.2.1, ← S.2.2] at hh; exact hh) g_M_wrong ⟨rfl, rfl, hz.1, hz.2⟩ ⟨by decide, by decide, by show Option.map _ (parseMethodDescriptor yX11_wrong.desc) = some 0; decide⟩ hr rfl hd k
abbrev rmM_isBare : Room := { frames := 1, cells := 0, slots := 0, locals := 22 }
def M_isBare_B2 (q : St) (k : Int32 → Option (Int32)) (rec : Int32 → Int32 → Option (Int32)) (v1 : Int32) (v2 : Int32) : Option (Int32) :=
  b1 (rd 172 q 2 (0 : Int32)) fun x1 =>
  if x1 ≤ v2 then
    k v1
  else
    if v2 ≤ (0 : Int32) then
      rec v1 (v2 + 1)
    else
      b1 (M_isIn q v2) fun x4 =>
      if x4 = (0 : Int32) then
        rec v1 (v2 + 1)
      else
        b1 (M_up q v2) fun x6 =>
        if x6 = v1 then
          some (0 : Int32)
        else
          rec v1 (v2 + 1)
theorem w_M_isBare_B2 {X : Cv} (C : Cx X cX11_isBare RX11 rmM_isBare 3) (S : IsM X) (q : St) {z : Int32} (hret : RokI X cX11_isBare .boolean z q) (k : Int32 → Option (Int32)) (hk : ∀ (v1 : Int32), k v1 = some z → At X 41 [(0, .ref (adOf X 0)), (1, .int v1)] [] q) (rec : Int32 → Int32 → Option (Int32)) (hrec : ∀ (v1 : Int32) (v2 : Int32), rec v1 v2 = some z → At X 2 [(0, .ref (adOf X 0)), (1, .int v1), (2, .int v2)] [] q) (v1 : Int32) (v2 : Int32) (h : M_isBare_B2 q k rec v1 v2 = some z) : At X 2 [(0, .ref (adOf X 0)), (1, .int v1), (2, .int v2)] [] q := by
  unfold M_isBare_B2 at h
  refine a_iload_n C 2 rfl rfl dX11_isBare_2 ?_
  refine a_aload_n C 0 rfl rfl dX11_isBare_3 ?_
  refine gM_setup C S dX11_isBare_4 ?_
  refine a_iconst (v := 0) C (by decide) dX11_isBare_7 ?_
  obtain ⟨x1, e_x1, h⟩ := b1s h
  refine lM_setup C S e_x1 dX11_isBare_8 ?_
  refine a_icmp_ge C 41 (by decide) dX11_isBare_9 (fun c2 => ?_) (fun c2 => ?_)
  · replace h := ifp c2 h
    exact At.sub [0, 1] rfl (hk _ h)
  · replace h := ifn c2 h
    refine a_iload_n C 2 rfl rfl dX11_isBare_12 ?_
    refine a_if_le C 35 (by decide) dX11_isBare_13 (fun c3 => ?_) (fun c3 => ?_)
    · replace h := ifp c3 h
      refine a_iinc (v := (v2 + 1)) C [(2, .int (v2 + 1)), (0, .ref (adOf X 0)), (1, .int v1)] 2 rfl (congrArg (HAdd.hAdd v2) (by decide : Int32.ofInt (1) = (1 : Int32))) (by decide) rfl dX11_isBare_35 ?_
      refine a_goto C 2 (by decide) dX11_isBare_38 ?_
      exact At.sub [1, 2, 0] rfl (hrec _ _ h)
    · replace h := ifn c3 h
      refine a_aload_n C 0 rfl rfl dX11_isBare_16 ?_
      refine a_iload_n C 2 rfl rfl dX11_isBare_17 ?_
      obtain ⟨x4, e_x4, h⟩ := b1s h
      refine k_M_isIn C S e_x4 ⟨Nat.le_of_ble_eq_true rfl, Nat.le_of_ble_eq_true rfl⟩ (Nat.le_of_ble_eq_true rfl) dX11_isBare_18 ?_
      refine a_if_eq C 35 (by decide) dX11_isBare_21 (fun c5 => ?_) (fun c5 => ?_)
      · replace h := ifp c5 h
        refine a_iinc (v := (v2 + 1)) C [(2, .int (v2 + 1)), (0, .ref (adOf X 0)), (1, .int v1)] 2 rfl (congrArg (HAdd.hAdd v2) (by decide : Int32.ofInt (1) = (1 : Int32))) (by decide) rfl dX11_isBare_35 ?_
        refine a_goto C 2 (by decide) dX11_isBare_38 ?_
        exact At.sub [1, 2, 0] rfl (hrec _ _ h)
      · replace h := ifn c5 h
        refine a_aload_n C 0 rfl rfl dX11_isBare_24 ?_
        refine a_iload_n C 2 rfl rfl dX11_isBare_25 ?_
        obtain ⟨x6, e_x6, h⟩ := b1s h
        refine k_M_up C S e_x6 ⟨Nat.le_of_ble_eq_true rfl, Nat.le_of_ble_eq_true rfl⟩ (Nat.le_of_ble_eq_true rfl) dX11_isBare_26 ?_
        refine a_iload_n C 1 rfl rfl dX11_isBare_29 ?_
        refine a_icmp_ne C 35 (by decide) dX11_isBare_30 (fun c7 => ?_) (fun c7 => ?_)
        · replace h := ifn c7 h
          refine a_iinc (v := (v2 + 1)) C [(2, .int (v2 + 1)), (0, .ref (adOf X 0)), (1, .int v1)] 2 rfl (congrArg (HAdd.hAdd v2) (by decide : Int32.ofInt (1) = (1 : Int32))) (by decide) rfl dX11_isBare_35 ?_
          refine a_goto C 2 (by decide) dX11_isBare_38 ?_
          exact At.sub [1, 2, 0] rfl (hrec _ _ h)
        · replace h := ifp c7 h
          refine a_iconst (v := 0) C (by decide) dX11_isBare_33 ?_
          exact a_iretR hret h rfl dX11_isBare_34
def M_isBare_L2 (q : St) (k : Int32 → Option (Int32)) : Nat → Int32 → Int32 → Option (Int32)
  | 0, _, _ => none
  | n + 1, v1, v2 => M_isBare_B2 q k (M_isBare_L2 q k n) v1 v2
theorem w_M_isBare_L2 {X : Cv} (C : Cx X cX11_isBare RX11 rmM_isBare 3) (S : IsM X) (q : St) {z : Int32} (hret : RokI X cX11_isBare .boolean z q) (k : Int32 → Option (Int32)) (hk : ∀ (v1 : Int32), k v1 = some z → At X 41 [(0, .ref (adOf X 0)), (1, .int v1)] [] q) (n : Nat) : ∀ (v1 : Int32) (v2 : Int32), M_isBare_L2 q k n v1 v2 = some z → At X 2 [(0, .ref (adOf X 0)), (1, .int v1), (2, .int v2)] [] q := by
  induction n with
  | zero => intro v1 v2 h; cases h
  | succ n ih => intro v1 v2 h; exact w_M_isBare_B2 C S _ hret k hk _ ih v1 v2 h
def M_isBare_B43 (q : St) (rec : Int32 → Int32 → Option (Int32)) (v1 : Int32) (v2 : Int32) : Option (Int32) :=
  if (20 : Int32) < v2 then
    some (1 : Int32)
  else
    b1 (M_of q v2 (3 : Int32)) fun x10 =>
    if x10 ≤ (0 : Int32) then
      rec v1 (v2 + 1)
    else
      b1 (M_of q v2 (0 : Int32)) fun x12 =>
      if x12 = v1 then
        some (0 : Int32)
      else
        rec v1 (v2 + 1)
theorem w_M_isBare_B43 {X : Cv} (C : Cx X cX11_isBare RX11 rmM_isBare 3) (S : IsM X) (q : St) {z : Int32} (hret : RokI X cX11_isBare .boolean z q) (rec : Int32 → Int32 → Option (Int32)) (hrec : ∀ (v1 : Int32) (v2 : Int32), rec v1 v2 = some z → At X 43 [(0, .ref (adOf X 0)), (1, .int v1), (2, .int v2)] [] q) (v1 : Int32) (v2 : Int32) (h : M_isBare_B43 q rec v1 v2 = some z) : At X 43 [(0, .ref (adOf X 0)), (1, .int v1), (2, .int v2)] [] q := by
  unfold M_isBare_B43 at h
  refine a_iload_n C 2 rfl rfl dX11_isBare_43 ?_
  refine a_bipush (v := 20) C (by decide) dX11_isBare_44 ?_
  refine a_icmp_gt C 76 (by decide) dX11_isBare_46 (fun c9 => ?_) (fun c9 => ?_)
  · replace h := ifp c9 h
    refine a_iconst (v := 1) C (by decide) dX11_isBare_76 ?_
    exact a_iretR hret h rfl dX11_isBare_77
  · replace h := ifn c9 h
    refine a_aload_n C 0 rfl rfl dX11_isBare_49 ?_
    refine a_iload_n C 2 rfl rfl dX11_isBare_50 ?_
    refine a_iconst (v := 3) C (by decide) dX11_isBare_51 ?_
    obtain ⟨x10, e_x10, h⟩ := b1s h
    refine k_M_of C S e_x10 ⟨Nat.le_of_ble_eq_true rfl, Nat.le_of_ble_eq_true rfl⟩ (Nat.le_of_ble_eq_true rfl) dX11_isBare_52 ?_
    refine a_if_le C 70 (by decide) dX11_isBare_55 (fun c11 => ?_) (fun c11 => ?_)
    · replace h := ifp c11 h
      refine a_iinc (v := (v2 + 1)) C [(2, .int (v2 + 1)), (0, .ref (adOf X 0)), (1, .int v1)] 2 rfl (congrArg (HAdd.hAdd v2) (by decide : Int32.ofInt (1) = (1 : Int32))) (by decide) rfl dX11_isBare_70 ?_
      refine a_goto C 43 (by decide) dX11_isBare_73 ?_
      exact At.sub [1, 2, 0] rfl (hrec _ _ h)
    · replace h := ifn c11 h
      refine a_aload_n C 0 rfl rfl dX11_isBare_58 ?_
      refine a_iload_n C 2 rfl rfl dX11_isBare_59 ?_
      refine a_iconst (v := 0) C (by decide) dX11_isBare_60 ?_
      obtain ⟨x12, e_x12, h⟩ := b1s h
      refine k_M_of C S e_x12 ⟨Nat.le_of_ble_eq_true rfl, Nat.le_of_ble_eq_true rfl⟩ (Nat.le_of_ble_eq_true rfl) dX11_isBare_61 ?_
      refine a_iload_n C 1 rfl rfl dX11_isBare_64 ?_
      refine a_icmp_ne C 70 (by decide) dX11_isBare_65 (fun c13 => ?_) (fun c13 => ?_)
      · replace h := ifn c13 h
        refine a_iinc (v := (v2 + 1)) C [(2, .int (v2 + 1)), (0, .ref (adOf X 0)), (1, .int v1)] 2 rfl (congrArg (HAdd.hAdd v2) (by decide : Int32.ofInt (1) = (1 : Int32))) (by decide) rfl dX11_isBare_70 ?_
        refine a_goto C 43 (by decide) dX11_isBare_73 ?_
        exact At.sub [1, 2, 0] rfl (hrec _ _ h)
      · replace h := ifp c13 h
        refine a_iconst (v := 0) C (by decide) dX11_isBare_68 ?_
        exact a_iretR hret h rfl dX11_isBare_69
def M_isBare_L43 (q : St) : Nat → Int32 → Int32 → Option (Int32)
  | 0, _, _ => none
  | n + 1, v1, v2 => M_isBare_B43 q (M_isBare_L43 q n) v1 v2
theorem w_M_isBare_L43 {X : Cv} (C : Cx X cX11_isBare RX11 rmM_isBare 3) (S : IsM X) (q : St) {z : Int32} (hret : RokI X cX11_isBare .boolean z q) (n : Nat) : ∀ (v1 : Int32) (v2 : Int32), M_isBare_L43 q n v1 v2 = some z → At X 43 [(0, .ref (adOf X 0)), (1, .int v1), (2, .int v2)] [] q := by
  induction n with
  | zero => intro v1 v2 h; cases h
  | succ n ih => intro v1 v2 h; exact w_M_isBare_B43 C S _ hret _ ih v1 v2 h
def M_isBare (q : St) (v1 : Int32) : Option (Int32) :=
  M_isBare_L2 q (fun y8 =>
    M_isBare_L43 q FU y8 (0 : Int32)
    ) FU v1 (0 : Int32)
theorem w_M_isBare {X : Cv} (C : Cx X cX11_isBare RX11 rmM_isBare 3) (S : IsM X) {q : St} {z : Int32} (hret : RokI X cX11_isBare .boolean z q) (v1 : Int32) (h : M_isBare q v1 = some z) : At X 0 [(0, .ref (adOf X 0)), (1, .int v1)] [] q := by
  unfold M_isBare at h
  refine a_iconst (v := 0) C (by decide) dX11_isBare_0 ?_
  refine a_istore_n C [(2, .int (0 : Int32)), (0, .ref (adOf X 0)), (1, .int v1)] rfl (by decide) rfl dX11_isBare_1 ?_
  refine At.sub [1, 2, 0] rfl (w_M_isBare_L2 C S _ hret _ ?_ _ _ _ h)
  intro y8 h
  refine a_iconst (v := 0) C (by decide) dX11_isBare_41 ?_
  refine a_istore_n C [(2, .int (0 : Int32)), (0, .ref (adOf X 0)), (1, .int y8)] rfl (by decide) rfl dX11_isBare_42 ?_
  exact At.sub [1, 2, 0] rfl (w_M_isBare_L43 C S _ hret _ _ _ h)
theorem c_M_isBare {l : Launch} {D : va_G} {I : ClassId × ClassId × ClassId × ClassId} {ad : Nat → Nat} {q : St} {v1 : Int32} {z : Int32} (h : M_isBare q v1 = some z) : Ctr l D I zT 18 (shM I) ad yX11_isBare cX11_isBare 3 (some .boolean) rmM_isBare [.ref (ad 0), .int v1] q (some z) q :=
  ctr_ofI (by decide) (Nat.le_of_ble_eq_true rfl) (fun p e s m args below meth c Q H0 X hX C hret => by subst hX; exact w_M_isBare C ⟨rfl, rfl, rfl⟩ hret _ h)
theorem g_M_isBare : GoodIn lw_tg (wsV RX11 218 RX11 yX11_isBare (Cond.code yX11_isBare cX11_isBare 3 (some .boolean) :: lw_tg)) := gd_V (tg 1530 (by decide +kernel) rfl) (tg 1532 (by decide +kernel) rfl) (tg 91 (by decide +kernel) rfl) (tg 128 (by decide +kernel) rfl) (tg 1533 (by decide +kernel) rfl)
theorem k_M_isBare {X : Cv} {cc : ByteArray} {rm : Room} {nL1 pc : Nat} {lv : List (Nat × Value)} {sk : List Value} {q : St} {v1 : Int32} {z : Int32} (C : Cx X cc RX11 rm nL1) (S : IsM X) (h : M_isBare q v1 = some z) (hz : rmM_isBare.frames + 1 ≤ rm.frames ∧ 8 + (3 + 11) + rmM_isBare.locals ≤ rm.locals) (hr : (sk.map fun v => v.category).sum ≤ 8) (hd : decode cc pc = .ok (.invokevirtual 218, 3)) (k : At X (pc + 3) lv (.int z :: sk) q) : At X pc lv (.int v1 :: .ref (adOf X 0) :: sk) q := a_callVi (as := [.int v1]) C (kp := 0) (by rw [S.1]; decide) (by rw [S.2.1]; rfl) rfl (by have hh := c_M_isBare (l := X.2.1) (D := dOf X) (I := idOf X) (ad := adOf X) h; rw [← S.1, ← S.2.1, ← S.2.2] at hh; exact hh) g_M_isBare ⟨rfl, rfl, hz.1, hz.2⟩ ⟨by decide, by decide, by show Option.map _ (parseMethodDescriptor yX11_isBare.desc) = some 1; decide⟩ hr rfl hd k
abbrev rmM_prunes : Room := { frames := 2, cells := 0, slots := 0, locals := 44 }
def M_prunes_B10 (k : Int32 → St → Option (St)) (rec : Int32 → Int32 → St → Option (St)) (v1 : Int32) (v2 : Int32) (q : St) : Option (St) :=
  b1 (rd 172 q 2 (0 : Int32)) fun x2 =>
  if x2 ≤ v2 then
    k v1 q
  else
    b1 (M_isIn q v2) fun x4 =>
    if x4 = (0 : Int32) then
      rec v1 (v2 + 1) q
    else
      b1 (M_isBare q v2) fun x6 =>
      if x6 = (0 : Int32) then
        rec v1 (v2 + 1) q
      else
        b1 (wr 202 q 4 ((80 : Int32) + v2) (-1 : Int32)) fun q8 =>
        rec (1 : Int32) (v2 + 1) q8
theorem w_M_prunes_B10 {X : Cv} (C : Cx X cX11_prunes RX11 rmM_prunes 3) (S : IsM X) {z : St} (hret : RokV X cX11_prunes z) (k : Int32 → St → Option (St)) (hk : ∀ (v1 : Int32) (q : St), k v1 q = some z → At X 54 [(0, .ref (adOf X 0)), (1, .int v1)] [] q) (rec : Int32 → Int32 → St → Option (St)) (hrec : ∀ (v1 : Int32) (v2 : Int32) (q : St), rec v1 v2 q = some z → At X 10 [(0, .ref (adOf X 0)), (1, .int v1), (2, .int v2)] [] q) (v1 : Int32) (v2 : Int32) (q : St) (h : M_prunes_B10 k rec v1 v2 q = some z) : At X 10 [(0, .ref (adOf X 0)), (1, .int v1), (2, .int v2)] [] q := by
  unfold M_prunes_B10 at h
  refine a_iload_n C 2 rfl rfl dX11_prunes_10 ?_
  refine a_aload_n C 0 rfl rfl dX11_prunes_11 ?_
  refine gM_setup C S dX11_prunes_12 ?_
  refine a_iconst (v := 0) C (by decide) dX11_prunes_15 ?_
  obtain ⟨x2, e_x2, h⟩ := b1s h
  refine lM_setup C S e_x2 dX11_prunes_16 ?_
  refine a_icmp_ge C 54 (by decide) dX11_prunes_17 (fun c3 => ?_) (fun c3 => ?_)
  · replace h := ifp c3 h
    exact At.sub [0, 1] rfl (hk _ _ h)
  · replace h := ifn c3 h
    refine a_aload_n C 0 rfl rfl dX11_prunes_20 ?_
    refine a_iload_n C 2 rfl rfl dX11_prunes_21 ?_
    obtain ⟨x4, e_x4, h⟩ := b1s h
    refine k_M_isIn C S e_x4 ⟨Nat.le_of_ble_eq_true rfl, Nat.le_of_ble_eq_true rfl⟩ (Nat.le_of_ble_eq_true rfl) dX11_prunes_22 ?_
    refine a_if_eq C 48 (by decide) dX11_prunes_25 (fun c5 => ?_) (fun c5 => ?_)
    · replace h := ifp c5 h
      refine a_iinc (v := (v2 + 1)) C [(2, .int (v2 + 1)), (0, .ref (adOf X 0)), (1, .int v1)] 2 rfl (congrArg (HAdd.hAdd v2) (by decide : Int32.ofInt (1) = (1 : Int32))) (by decide) rfl dX11_prunes_48 ?_
      refine a_goto C 10 (by decide) dX11_prunes_51 ?_
      exact At.sub [1, 2, 0] rfl (hrec _ _ _ h)
    · replace h := ifn c5 h
      refine a_aload_n C 0 rfl rfl dX11_prunes_28 ?_
      refine a_iload_n C 2 rfl rfl dX11_prunes_29 ?_
      obtain ⟨x6, e_x6, h⟩ := b1s h
      refine k_M_isBare C S e_x6 ⟨Nat.le_of_ble_eq_true rfl, Nat.le_of_ble_eq_true rfl⟩ (Nat.le_of_ble_eq_true rfl) dX11_prunes_30 ?_
      refine a_if_eq C 48 (by decide) dX11_prunes_33 (fun c7 => ?_) (fun c7 => ?_)
      · replace h := ifp c7 h
        refine a_iinc (v := (v2 + 1)) C [(2, .int (v2 + 1)), (0, .ref (adOf X 0)), (1, .int v1)] 2 rfl (congrArg (HAdd.hAdd v2) (by decide : Int32.ofInt (1) = (1 : Int32))) (by decide) rfl dX11_prunes_48 ?_
        refine a_goto C 10 (by decide) dX11_prunes_51 ?_
        exact At.sub [1, 2, 0] rfl (hrec _ _ _ h)
      · replace h := ifn c7 h
        refine a_aload_n C 0 rfl rfl dX11_prunes_36 ?_
        refine gM_world C S dX11_prunes_37 ?_
        refine a_bipush (v := 80) C (by decide) dX11_prunes_40 ?_
        refine a_iload_n C 2 rfl rfl dX11_prunes_42 ?_
        refine a_iadd C dX11_prunes_43 ?_
        refine a_iconst (v := -1) C (by decide) dX11_prunes_44 ?_
        obtain ⟨q8, e_q8, h⟩ := b1s h
        refine sM_world C S e_q8 dX11_prunes_45 ?_
        refine a_iconst (v := 1) C (by decide) dX11_prunes_46 ?_
        refine a_istore_n C [(1, .int (1 : Int32)), (0, .ref (adOf X 0)), (2, .int v2)] rfl (by decide) rfl dX11_prunes_47 ?_
        refine a_iinc (v := (v2 + 1)) C [(2, .int (v2 + 1)), (1, .int (1 : Int32)), (0, .ref (adOf X 0))] 2 rfl (congrArg (HAdd.hAdd v2) (by decide : Int32.ofInt (1) = (1 : Int32))) (by decide) rfl dX11_prunes_48 ?_
        refine a_goto C 10 (by decide) dX11_prunes_51 ?_
        exact At.sub [2, 1, 0] rfl (hrec _ _ _ h)
def M_prunes_L10 (k : Int32 → St → Option (St)) : Nat → Int32 → Int32 → St → Option (St)
  | 0, _, _, _ => none
  | n + 1, v1, v2, q => M_prunes_B10 k (M_prunes_L10 k n) v1 v2 q
theorem w_M_prunes_L10 {X : Cv} (C : Cx X cX11_prunes RX11 rmM_prunes 3) (S : IsM X) {z : St} (hret : RokV X cX11_prunes z) (k : Int32 → St → Option (St)) (hk : ∀ (v1 : Int32) (q : St), k v1 q = some z → At X 54 [(0, .ref (adOf X 0)), (1, .int v1)] [] q) (n : Nat) : ∀ (v1 : Int32) (v2 : Int32) (q : St), M_prunes_L10 k n v1 v2 q = some z → At X 10 [(0, .ref (adOf X 0)), (1, .int v1), (2, .int v2)] [] q := by
  induction n with
  | zero => intro v1 v2 q h; cases h
  | succ n ih => intro v1 v2 q h; exact w_M_prunes_B10 C S hret k hk _ ih v1 v2 q h
def M_prunes_B2 (rec : Int32 → St → Option (St)) (v1 : Int32) (q : St) : Option (St) :=
  if v1 = (0 : Int32) then
    some q
  else
    M_prunes_L10 (fun y9 q10 =>
      rec y9 q10
      ) FU (0 : Int32) (1 : Int32) q
theorem w_M_prunes_B2 {X : Cv} (C : Cx X cX11_prunes RX11 rmM_prunes 3) (S : IsM X) {z : St} (hret : RokV X cX11_prunes z) (rec : Int32 → St → Option (St)) (hrec : ∀ (v1 : Int32) (q : St), rec v1 q = some z → At X 2 [(0, .ref (adOf X 0)), (1, .int v1)] [] q) (v1 : Int32) (q : St) (h : M_prunes_B2 rec v1 q = some z) : At X 2 [(0, .ref (adOf X 0)), (1, .int v1)] [] q := by
  unfold M_prunes_B2 at h
  refine a_iload_n C 1 rfl rfl dX11_prunes_2 ?_
  refine a_if_eq C 57 (by decide) dX11_prunes_3 (fun c1 => ?_) (fun c1 => ?_)
  · replace h := ifp c1 h
    exact a_vret hret h dX11_prunes_57
  · replace h := ifn c1 h
    refine a_iconst (v := 0) C (by decide) dX11_prunes_6 ?_
    refine a_istore_n C [(1, .int (0 : Int32)), (0, .ref (adOf X 0))] rfl (by decide) rfl dX11_prunes_7 ?_
    refine a_iconst (v := 1) C (by decide) dX11_prunes_8 ?_
    refine a_istore_n C [(2, .int (1 : Int32)), (1, .int (0 : Int32)), (0, .ref (adOf X 0))] rfl (by decide) rfl dX11_prunes_9 ?_
    refine At.sub [2, 1, 0] rfl (w_M_prunes_L10 C S hret _ ?_ _ _ _ _ h)
    intro y9 q10 h
    refine a_goto C 2 (by decide) dX11_prunes_54 ?_
    exact At.sub [0, 1] rfl (hrec _ _ h)
def M_prunes_L2 : Nat → Int32 → St → Option (St)
  | 0, _, _ => none
  | n + 1, v1, q => M_prunes_B2 (M_prunes_L2 n) v1 q
theorem w_M_prunes_L2 {X : Cv} (C : Cx X cX11_prunes RX11 rmM_prunes 3) (S : IsM X) {z : St} (hret : RokV X cX11_prunes z) (n : Nat) : ∀ (v1 : Int32) (q : St), M_prunes_L2 n v1 q = some z → At X 2 [(0, .ref (adOf X 0)), (1, .int v1)] [] q := by
  induction n with
  | zero => intro v1 q h; cases h
  | succ n ih => intro v1 q h; exact w_M_prunes_B2 C S hret _ ih v1 q h
def M_prunes (q : St) : Option (St) :=
  M_prunes_L2 FU (1 : Int32) q
theorem w_M_prunes {X : Cv} (C : Cx X cX11_prunes RX11 rmM_prunes 3) (S : IsM X) {z : St} (hret : RokV X cX11_prunes z) (q : St) (h : M_prunes q = some z) : At X 0 [(0, .ref (adOf X 0))] [] q := by
  unfold M_prunes at h
  refine a_iconst (v := 1) C (by decide) dX11_prunes_0 ?_
  refine a_istore_n C [(1, .int (1 : Int32)), (0, .ref (adOf X 0))] rfl (by decide) rfl dX11_prunes_1 ?_
  exact At.sub [1, 0] rfl (w_M_prunes_L2 C S hret _ _ _ h)
theorem c_M_prunes {l : Launch} {D : va_G} {I : ClassId × ClassId × ClassId × ClassId} {ad : Nat → Nat} {q : St} {z : St} (h : M_prunes q = some z) : Ctr l D I zT 18 (shM I) ad yX11_prunes cX11_prunes 3 none rmM_prunes [.ref (ad 0)] q none z :=
  ctr_ofV (by decide) (Nat.le_of_ble_eq_true rfl) (fun p e s m args below meth c Q H0 X hX C hret => by subst hX; exact w_M_prunes C ⟨rfl, rfl, rfl⟩ hret _ h)
theorem g_M_prunes : GoodIn lw_tg (wsV RX11 263 RX11 yX11_prunes (Cond.code yX11_prunes cX11_prunes 3 none :: lw_tg)) := gd_V (tg 1526 (by decide +kernel) rfl) (tg 1528 (by decide +kernel) rfl) (tg 90 (by decide +kernel) rfl) (tg 128 (by decide +kernel) rfl) (tg 1529 (by decide +kernel) rfl)
theorem k_M_prunes {X : Cv} {cc : ByteArray} {rm : Room} {nL1 pc : Nat} {lv : List (Nat × Value)} {sk : List Value} {q : St} {q2 : St} (C : Cx X cc RX11 rm nL1) (S : IsM X) (h : M_prunes q = some q2) (hz : rmM_prunes.frames + 1 ≤ rm.frames ∧ 8 + (3 + 11) + rmM_prunes.locals ≤ rm.locals) (hr : (sk.map fun v => v.category).sum ≤ 8) (hd : decode cc pc = .ok (.invokevirtual 263, 3)) (k : At X (pc + 3) lv sk q2) : At X pc lv (.ref (adOf X 0) :: sk) q := a_callVv (as := []) C (kp := 0) (by rw [S.1]; decide) (by rw [S.2.1]; rfl) rfl (by have hh := c_M_prunes (l := X.2.1) (D := dOf X) (I := idOf X) (ad := adOf X) h; rw [← S.1, ← S.2.1, ← S.2.2] at hh; exact hh) g_M_prunes ⟨rfl, rfl, hz.1, hz.2⟩ ⟨by decide, by decide, by show Option.map _ (parseMethodDescriptor yX11_prunes.desc) = some 0; decide⟩ hr rfl hd k
abbrev rmM_isFit : Room := { frames := 0, cells := 0, slots := 0, locals := 0 }
def M_isFit (q : St) (v1 : Int32) (v2 : Int32) : Option (Int32) :=
  b1 (rd 202 q 4 ((32 : Int32) + v1)) fun x1 =>
  if x1 = (1 : Int32) then
    b1 (rd 202 q 4 ((0 : Int32) + v1)) fun x3 =>
    if x3 < v2 then
      some (0 : Int32)
    else
      some (1 : Int32)
  else
    some (0 : Int32)
theorem w_M_isFit {X : Cv} (C : Cx X cX11_isFit RX11 rmM_isFit 3) (S : IsM X) {q : St} {z : Int32} (hret : RokI X cX11_isFit .boolean z q) (v1 : Int32) (v2 : Int32) (h : M_isFit q v1 v2 = some z) : At X 0 [(0, .ref (adOf X 0)), (1, .int v1), (2, .int v2)] [] q := by
  unfold M_isFit at h
  refine a_aload_n C 0 rfl rfl dX11_isFit_0 ?_
  refine gM_world C S dX11_isFit_1 ?_
  refine a_bipush (v := 32) C (by decide) dX11_isFit_4 ?_
  refine a_iload_n C 1 rfl rfl dX11_isFit_6 ?_
  refine a_iadd C dX11_isFit_7 ?_
  obtain ⟨x1, e_x1, h⟩ := b1s h
  refine lM_world C S e_x1 dX11_isFit_8 ?_
  refine a_iconst (v := 1) C (by decide) dX11_isFit_9 ?_
  refine a_icmp_ne C 29 (by decide) dX11_isFit_10 (fun c2 => ?_) (fun c2 => ?_)
  · replace h := ifn c2 h
    refine a_iconst (v := 0) C (by decide) dX11_isFit_29 ?_
    exact a_iretR hret h rfl dX11_isFit_30
  · replace h := ifp c2 h
    refine a_aload_n C 0 rfl rfl dX11_isFit_13 ?_
    refine gM_world C S dX11_isFit_14 ?_
    refine a_iconst (v := 0) C (by decide) dX11_isFit_17 ?_
    refine a_iload_n C 1 rfl rfl dX11_isFit_18 ?_
    refine a_iadd C dX11_isFit_19 ?_
    obtain ⟨x3, e_x3, h⟩ := b1s h
    refine lM_world C S e_x3 dX11_isFit_20 ?_
    refine a_iload_n C 2 rfl rfl dX11_isFit_21 ?_
    refine a_icmp_lt C 29 (by decide) dX11_isFit_22 (fun c4 => ?_) (fun c4 => ?_)
    · replace h := ifp c4 h
      refine a_iconst (v := 0) C (by decide) dX11_isFit_29 ?_
      exact a_iretR hret h rfl dX11_isFit_30
    · replace h := ifn c4 h
      refine a_iconst (v := 1) C (by decide) dX11_isFit_25 ?_
      refine a_goto C 30 (by decide) dX11_isFit_26 ?_
      exact a_iretR hret h rfl dX11_isFit_30
theorem c_M_isFit {l : Launch} {D : va_G} {I : ClassId × ClassId × ClassId × ClassId} {ad : Nat → Nat} {q : St} {v1 : Int32} {v2 : Int32} {z : Int32} (h : M_isFit q v1 v2 = some z) : Ctr l D I zT 18 (shM I) ad yX11_isFit cX11_isFit 3 (some .boolean) rmM_isFit [.ref (ad 0), .int v1, .int v2] q (some z) q :=
  ctr_ofI (by decide) (Nat.le_of_ble_eq_true rfl) (fun p e s m args below meth c Q H0 X hX C hret => by subst hX; exact w_M_isFit C ⟨rfl, rfl, rfl⟩ hret _ _ h)
theorem g_M_isFit : GoodIn lw_tg (wsV RX11 222 RX11 yX11_isFit (Cond.code yX11_isFit cX11_isFit 3 (some .boolean) :: lw_tg)) := gd_V (tg 1463 (by decide +kernel) rfl) (tg 1465 (by decide +kernel) rfl) (tg 76 (by decide +kernel) rfl) (tg 128 (by decide +kernel) rfl) (tg 1466 (by decide +kernel) rfl)
theorem k_M_isFit {X : Cv} {cc : ByteArray} {rm : Room} {nL1 pc : Nat} {lv : List (Nat × Value)} {sk : List Value} {q : St} {v1 : Int32} {v2 : Int32} {z : Int32} (C : Cx X cc RX11 rm nL1) (S : IsM X) (h : M_isFit q v1 v2 = some z) (hz : rmM_isFit.frames + 1 ≤ rm.frames ∧ 8 + (3 + 11) + rmM_isFit.locals ≤ rm.locals) (hr : (sk.map fun v => v.category).sum ≤ 8) (hd : decode cc pc = .ok (.invokevirtual 222, 3)) (k : At X (pc + 3) lv (.int z :: sk) q) : At X pc lv (.int v2 :: .int v1 :: .ref (adOf X 0) :: sk) q := a_callVi (as := [.int v1, .int v2]) C (kp := 0) (by rw [S.1]; decide) (by rw [S.2.1]; rfl) rfl (by have hh := c_M_isFit (l := X.2.1) (D := dOf X) (I := idOf X) (ad := adOf X) h; rw [← S.1, ← S.2.1, ← S.2.2] at hh; exact hh) g_M_isFit ⟨rfl, rfl, hz.1, hz.2⟩ ⟨by decide, by decide, by show Option.map _ (parseMethodDescriptor yX11_isFit.desc) = some 2; decide⟩ hr rfl hd k
abbrev rmM_reaches : Room := { frames := 1, cells := 0, slots := 0, locals := 22 }
def M_reaches_B2 (k : Int32 → St → Option (St)) (rec : Int32 → Int32 → Int32 → St → Option (St)) (v1 : Int32) (v2 : Int32) (v3 : Int32) (q : St) : Option (St) :=
  if (16 : Int32) ≤ v3 then
    k v2 q
  else
    if v3 = v1 then
      b1 (wr 16 q 12 v3 (0 : Int32)) fun q4 =>
      rec v1 v2 (v3 + 1) q4
    else
      b1 (wr 16 q 12 v3 (1000000000 : Int32)) fun q3 =>
      rec v1 v2 (v3 + 1) q3
theorem w_M_reaches_B2 {X : Cv} (C : Cx X cX11_reaches RX11 rmM_reaches 8) (S : IsM X) {z : St} (hret : RokV X cX11_reaches z) (k : Int32 → St → Option (St)) (hk : ∀ (v2 : Int32) (q : St), k v2 q = some z → At X 31 [(0, .ref (adOf X 0)), (2, .int v2)] [] q) (rec : Int32 → Int32 → Int32 → St → Option (St)) (hrec : ∀ (v1 : Int32) (v2 : Int32) (v3 : Int32) (q : St), rec v1 v2 v3 q = some z → At X 2 [(0, .ref (adOf X 0)), (1, .int v1), (2, .int v2), (3, .int v3)] [] q) (v1 : Int32) (v2 : Int32) (v3 : Int32) (q : St) (h : M_reaches_B2 k rec v1 v2 v3 q = some z) : At X 2 [(0, .ref (adOf X 0)), (1, .int v1), (2, .int v2), (3, .int v3)] [] q := by
  unfold M_reaches_B2 at h
  refine a_iload_n C 3 rfl rfl dX11_reaches_2 ?_
  refine a_bipush (v := 16) C (by decide) dX11_reaches_3 ?_
  refine a_icmp_ge C 31 (by decide) dX11_reaches_5 (fun c1 => ?_) (fun c1 => ?_)
  · replace h := ifp c1 h
    exact At.sub [0, 2] rfl (hk _ _ h)
  · replace h := ifn c1 h
    refine a_aload_n C 0 rfl rfl dX11_reaches_8 ?_
    refine gM_cost C S dX11_reaches_9 ?_
    refine a_iload_n C 3 rfl rfl dX11_reaches_12 ?_
    refine a_iload_n C 3 rfl rfl dX11_reaches_13 ?_
    refine a_iload_n C 1 rfl rfl dX11_reaches_14 ?_
    refine a_icmp_ne C 22 (by decide) dX11_reaches_15 (fun c2 => ?_) (fun c2 => ?_)
    · replace h := ifn c2 h
      refine a_ldc (v := 1000000000) C (tg 1458 (by decide +kernel) rfl) dX11_reaches_22 ?_
      obtain ⟨q3, e_q3, h⟩ := b1s h
      refine sM_cost C S e_q3 dX11_reaches_24 ?_
      refine a_iinc (v := (v3 + 1)) C [(3, .int (v3 + 1)), (0, .ref (adOf X 0)), (1, .int v1), (2, .int v2)] 3 rfl (congrArg (HAdd.hAdd v3) (by decide : Int32.ofInt (1) = (1 : Int32))) (by decide) rfl dX11_reaches_25 ?_
      refine a_goto C 2 (by decide) dX11_reaches_28 ?_
      exact At.sub [1, 2, 3, 0] rfl (hrec _ _ _ _ h)
    · replace h := ifp c2 h
      refine a_iconst (v := 0) C (by decide) dX11_reaches_18 ?_
      refine a_goto C 24 (by decide) dX11_reaches_19 ?_
      obtain ⟨q4, e_q4, h⟩ := b1s h
      refine sM_cost C S e_q4 dX11_reaches_24 ?_
      refine a_iinc (v := (v3 + 1)) C [(3, .int (v3 + 1)), (0, .ref (adOf X 0)), (1, .int v1), (2, .int v2)] 3 rfl (congrArg (HAdd.hAdd v3) (by decide : Int32.ofInt (1) = (1 : Int32))) (by decide) rfl dX11_reaches_25 ?_
      refine a_goto C 2 (by decide) dX11_reaches_28 ?_
      exact At.sub [1, 2, 3, 0] rfl (hrec _ _ _ _ h)
def M_reaches_L2 (k : Int32 → St → Option (St)) : Nat → Int32 → Int32 → Int32 → St → Option (St)
  | 0, _, _, _, _ => none
  | n + 1, v1, v2, v3, q => M_reaches_B2 k (M_reaches_L2 k n) v1 v2 v3 q
theorem w_M_reaches_L2 {X : Cv} (C : Cx X cX11_reaches RX11 rmM_reaches 8) (S : IsM X) {z : St} (hret : RokV X cX11_reaches z) (k : Int32 → St → Option (St)) (hk : ∀ (v2 : Int32) (q : St), k v2 q = some z → At X 31 [(0, .ref (adOf X 0)), (2, .int v2)] [] q) (n : Nat) : ∀ (v1 : Int32) (v2 : Int32) (v3 : Int32) (q : St), M_reaches_L2 k n v1 v2 v3 q = some z → At X 2 [(0, .ref (adOf X 0)), (1, .int v1), (2, .int v2), (3, .int v3)] [] q := by
  induction n with
  | zero => intro v1 v2 v3 q h; cases h
  | succ n ih => intro v1 v2 v3 q h; exact w_M_reaches_B2 C S hret k hk _ ih v1 v2 v3 q h
def M_reaches_J161 (k : Int32 → Int32 → St → Option (St)) (rec : Int32 → Int32 → Int32 → St → Option (St)) (v2 : Int32) (v3 : Int32) (v4 : Int32) (v5 : Int32) (v6 : Int32) (v7 : Int32) (z0 : Int32) (z1 : Int32) (q : St) : Option (St) :=
  b1 (wr 16 q 12 z1 z0) fun q24 =>
  b1 (rd 16 q24 12 v5) fun x25 =>
  b1 (rd 16 q24 12 v6) fun x26 =>
  if x26 ≤ (x25 + v7) then
    b1 (rd 16 q24 12 v6) fun x28 =>
    b1 (wr 16 q24 12 v6 x28) fun q29 =>
    rec v2 v3 (v4 + 1) q29
  else
    b1 (rd 16 q24 12 v5) fun x30 =>
    b1 (wr 16 q24 12 v6 (x30 + v7)) fun q31 =>
    rec v2 v3 (v4 + 1) q31
theorem w_M_reaches_J161 {X : Cv} (C : Cx X cX11_reaches RX11 rmM_reaches 8) (S : IsM X) {z : St} (hret : RokV X cX11_reaches z) (k : Int32 → Int32 → St → Option (St)) (hk : ∀ (v2 : Int32) (v3 : Int32) (q : St), k v2 v3 q = some z → At X 215 [(0, .ref (adOf X 0)), (2, .int v2), (3, .int v3)] [] q) (rec : Int32 → Int32 → Int32 → St → Option (St)) (hrec : ∀ (v2 : Int32) (v3 : Int32) (v4 : Int32) (q : St), rec v2 v3 v4 q = some z → At X 42 [(0, .ref (adOf X 0)), (2, .int v2), (3, .int v3), (4, .int v4)] [] q) (v2 : Int32) (v3 : Int32) (v4 : Int32) (v5 : Int32) (v6 : Int32) (v7 : Int32) (z0 : Int32) (z1 : Int32) (q : St) (h : M_reaches_J161 k rec v2 v3 v4 v5 v6 v7 z0 z1 q = some z) : At X 161 [(0, .ref (adOf X 0)), (2, .int v2), (3, .int v3), (4, .int v4), (5, .int v5), (6, .int v6), (7, .int v7)] [.int z0, .int z1, .ref (adOf X 12)] q := by
  unfold M_reaches_J161 at h
  obtain ⟨q24, e_q24, h⟩ := b1s h
  refine sM_cost C S e_q24 dX11_reaches_161 ?_
  refine a_aload_n C 0 rfl rfl dX11_reaches_162 ?_
  refine gM_cost C S dX11_reaches_163 ?_
  refine a_iload C 5 rfl dX11_reaches_166 ?_
  refine a_aload_n C 0 rfl rfl dX11_reaches_168 ?_
  refine gM_cost C S dX11_reaches_169 ?_
  refine a_iload C 4 rfl dX11_reaches_172 ?_
  obtain ⟨x25, e_x25, h⟩ := b1s h
  refine lM_cost C S e_x25 dX11_reaches_174 ?_
  refine a_iload C 6 rfl dX11_reaches_175 ?_
  refine a_iadd C dX11_reaches_177 ?_
  refine a_aload_n C 0 rfl rfl dX11_reaches_178 ?_
  refine gM_cost C S dX11_reaches_179 ?_
  refine a_iload C 5 rfl dX11_reaches_182 ?_
  obtain ⟨x26, e_x26, h⟩ := b1s h
  refine lM_cost C S e_x26 dX11_reaches_184 ?_
  refine a_icmp_ge C 201 (by decide) dX11_reaches_185 (fun c27 => ?_) (fun c27 => ?_)
  · replace h := ifp c27 h
    refine a_aload_n C 0 rfl rfl dX11_reaches_201 ?_
    refine gM_cost C S dX11_reaches_202 ?_
    refine a_iload C 5 rfl dX11_reaches_205 ?_
    obtain ⟨x28, e_x28, h⟩ := b1s h
    refine lM_cost C S e_x28 dX11_reaches_207 ?_
    obtain ⟨q29, e_q29, h⟩ := b1s h
    refine sM_cost C S e_q29 dX11_reaches_208 ?_
    refine a_iinc (v := (v4 + 1)) C [(4, .int (v4 + 1)), (0, .ref (adOf X 0)), (2, .int v2), (3, .int v3), (5, .int v5), (6, .int v6), (7, .int v7)] 3 rfl (congrArg (HAdd.hAdd v4) (by decide : Int32.ofInt (1) = (1 : Int32))) (by decide) rfl dX11_reaches_209 ?_
    refine a_goto C 42 (by decide) dX11_reaches_212 ?_
    exact At.sub [1, 2, 3, 0] rfl (hrec _ _ _ _ h)
  · replace h := ifn c27 h
    refine a_aload_n C 0 rfl rfl dX11_reaches_188 ?_
    refine gM_cost C S dX11_reaches_189 ?_
    refine a_iload C 4 rfl dX11_reaches_192 ?_
    obtain ⟨x30, e_x30, h⟩ := b1s h
    refine lM_cost C S e_x30 dX11_reaches_194 ?_
    refine a_iload C 6 rfl dX11_reaches_195 ?_
    refine a_iadd C dX11_reaches_197 ?_
    refine a_goto C 208 (by decide) dX11_reaches_198 ?_
    obtain ⟨q31, e_q31, h⟩ := b1s h
    refine sM_cost C S e_q31 dX11_reaches_208 ?_
    refine a_iinc (v := (v4 + 1)) C [(4, .int (v4 + 1)), (0, .ref (adOf X 0)), (2, .int v2), (3, .int v3), (5, .int v5), (6, .int v6), (7, .int v7)] 3 rfl (congrArg (HAdd.hAdd v4) (by decide : Int32.ofInt (1) = (1 : Int32))) (by decide) rfl dX11_reaches_209 ?_
    refine a_goto C 42 (by decide) dX11_reaches_212 ?_
    exact At.sub [1, 2, 3, 0] rfl (hrec _ _ _ _ h)
def M_reaches_B42 (k : Int32 → Int32 → St → Option (St)) (rec : Int32 → Int32 → Int32 → St → Option (St)) (v2 : Int32) (v3 : Int32) (v4 : Int32) (q : St) : Option (St) :=
  b1 (rd 172 q 2 (1 : Int32)) fun x8 =>
  if x8 ≤ v4 then
    k v2 v3 q
  else
    b1 (M_end q v4 (0 : Int32)) fun x10 =>
    b1 (M_end q v4 (1 : Int32)) fun x11 =>
    b1 (M_isFit q v4 v2) fun x12 =>
    if x12 = (0 : Int32) then
      rec v2 v3 (v4 + 1) q
    else
      b1 (M_isIn q x10) fun x14 =>
      if x14 = (0 : Int32) then
        b1 (M_isIn q x11) fun x16 =>
        if x16 = (0 : Int32) then
          b1 (M_delayOf q v4) fun x18 =>
          lt_ (((100 : Int32) * x18) + (1 : Int32)) fun w19 =>
          b1 (rd 16 q 12 x11) fun x20 =>
          b1 (rd 16 q 12 x10) fun x21 =>
          if x21 ≤ (x20 + w19) then
            b1 (rd 16 q 12 x10) fun x23 =>
            M_reaches_J161 k rec v2 v3 v4 x10 x11 w19 x23 x10 q
          else
            b1 (rd 16 q 12 x11) fun x32 =>
            M_reaches_J161 k rec v2 v3 v4 x10 x11 w19 (x32 + w19) x10 q
        else
          rec v2 v3 (v4 + 1) q
      else
        rec v2 v3 (v4 + 1) q
theorem w_M_reaches_B42 {X : Cv} (C : Cx X cX11_reaches RX11 rmM_reaches 8) (S : IsM X) {z : St} (hret : RokV X cX11_reaches z) (k : Int32 → Int32 → St → Option (St)) (hk : ∀ (v2 : Int32) (v3 : Int32) (q : St), k v2 v3 q = some z → At X 215 [(0, .ref (adOf X 0)), (2, .int v2), (3, .int v3)] [] q) (rec : Int32 → Int32 → Int32 → St → Option (St)) (hrec : ∀ (v2 : Int32) (v3 : Int32) (v4 : Int32) (q : St), rec v2 v3 v4 q = some z → At X 42 [(0, .ref (adOf X 0)), (2, .int v2), (3, .int v3), (4, .int v4)] [] q) (v2 : Int32) (v3 : Int32) (v4 : Int32) (q : St) (h : M_reaches_B42 k rec v2 v3 v4 q = some z) : At X 42 [(0, .ref (adOf X 0)), (2, .int v2), (3, .int v3), (4, .int v4)] [] q := by
  unfold M_reaches_B42 at h
  refine a_iload C 3 rfl dX11_reaches_42 ?_
  refine a_aload_n C 0 rfl rfl dX11_reaches_44 ?_
  refine gM_setup C S dX11_reaches_45 ?_
  refine a_iconst (v := 1) C (by decide) dX11_reaches_48 ?_
  obtain ⟨x8, e_x8, h⟩ := b1s h
  refine lM_setup C S e_x8 dX11_reaches_49 ?_
  refine a_icmp_ge C 215 (by decide) dX11_reaches_50 (fun c9 => ?_) (fun c9 => ?_)
  · replace h := ifp c9 h
    exact At.sub [0, 1, 2] rfl (hk _ _ _ h)
  · replace h := ifn c9 h
    refine a_aload_n C 0 rfl rfl dX11_reaches_53 ?_
    refine a_iload C 3 rfl dX11_reaches_54 ?_
    refine a_iconst (v := 0) C (by decide) dX11_reaches_56 ?_
    obtain ⟨x10, e_x10, h⟩ := b1s h
    refine k_M_end C S e_x10 ⟨Nat.le_of_ble_eq_true rfl, Nat.le_of_ble_eq_true rfl⟩ (Nat.le_of_ble_eq_true rfl) dX11_reaches_57 ?_
    refine a_istore C [(5, .int x10), (0, .ref (adOf X 0)), (2, .int v2), (3, .int v3), (4, .int v4)] (by decide) rfl dX11_reaches_60 ?_
    refine a_aload_n C 1 rfl rfl dX11_reaches_62 ?_
    refine a_iload C 4 rfl dX11_reaches_63 ?_
    refine a_iconst (v := 1) C (by decide) dX11_reaches_65 ?_
    obtain ⟨x11, e_x11, h⟩ := b1s h
    refine k_M_end C S e_x11 ⟨Nat.le_of_ble_eq_true rfl, Nat.le_of_ble_eq_true rfl⟩ (Nat.le_of_ble_eq_true rfl) dX11_reaches_66 ?_
    refine a_istore C [(6, .int x11), (5, .int x10), (0, .ref (adOf X 0)), (2, .int v2), (3, .int v3), (4, .int v4)] (by decide) rfl dX11_reaches_69 ?_
    refine a_aload_n C 2 rfl rfl dX11_reaches_71 ?_
    refine a_iload C 5 rfl dX11_reaches_72 ?_
    refine a_iload_n C 3 rfl rfl dX11_reaches_74 ?_
    obtain ⟨x12, e_x12, h⟩ := b1s h
    refine k_M_isFit C S e_x12 ⟨Nat.le_of_ble_eq_true rfl, Nat.le_of_ble_eq_true rfl⟩ (Nat.le_of_ble_eq_true rfl) dX11_reaches_75 ?_
    refine a_if_eq C 209 (by decide) dX11_reaches_78 (fun c13 => ?_) (fun c13 => ?_)
    · replace h := ifp c13 h
      refine a_iinc (v := (v4 + 1)) C [(4, .int (v4 + 1)), (6, .int x11), (5, .int x10), (0, .ref (adOf X 0)), (2, .int v2), (3, .int v3)] 5 rfl (congrArg (HAdd.hAdd v4) (by decide : Int32.ofInt (1) = (1 : Int32))) (by decide) rfl dX11_reaches_209 ?_
      refine a_goto C 42 (by decide) dX11_reaches_212 ?_
      exact At.sub [3, 4, 5, 0] rfl (hrec _ _ _ _ h)
    · replace h := ifn c13 h
      refine a_aload_n C 2 rfl rfl dX11_reaches_81 ?_
      refine a_iload C 1 rfl dX11_reaches_82 ?_
      obtain ⟨x14, e_x14, h⟩ := b1s h
      refine k_M_isIn C S e_x14 ⟨Nat.le_of_ble_eq_true rfl, Nat.le_of_ble_eq_true rfl⟩ (Nat.le_of_ble_eq_true rfl) dX11_reaches_84 ?_
      refine a_if_ne C 209 (by decide) dX11_reaches_87 (fun c15 => ?_) (fun c15 => ?_)
      · replace h := ifn c15 h
        refine a_iinc (v := (v4 + 1)) C [(4, .int (v4 + 1)), (6, .int x11), (5, .int x10), (0, .ref (adOf X 0)), (2, .int v2), (3, .int v3)] 5 rfl (congrArg (HAdd.hAdd v4) (by decide : Int32.ofInt (1) = (1 : Int32))) (by decide) rfl dX11_reaches_209 ?_
        refine a_goto C 42 (by decide) dX11_reaches_212 ?_
        exact At.sub [3, 4, 5, 0] rfl (hrec _ _ _ _ h)
      · replace h := ifp c15 h
        refine a_aload_n C 2 rfl rfl dX11_reaches_90 ?_
        refine a_iload C 0 rfl dX11_reaches_91 ?_
        obtain ⟨x16, e_x16, h⟩ := b1s h
        refine k_M_isIn C S e_x16 ⟨Nat.le_of_ble_eq_true rfl, Nat.le_of_ble_eq_true rfl⟩ (Nat.le_of_ble_eq_true rfl) dX11_reaches_93 ?_
        refine a_if_eq C 102 (by decide) dX11_reaches_96 (fun c17 => ?_) (fun c17 => ?_)
        · replace h := ifp c17 h
          refine a_bipush (v := 100) C (by decide) dX11_reaches_102 ?_
          refine a_aload_n C 2 rfl rfl dX11_reaches_104 ?_
          refine a_iload C 5 rfl dX11_reaches_105 ?_
          obtain ⟨x18, e_x18, h⟩ := b1s h
          refine k_M_delayOf C S e_x18 ⟨Nat.le_of_ble_eq_true rfl, Nat.le_of_ble_eq_true rfl⟩ (Nat.le_of_ble_eq_true rfl) dX11_reaches_107 ?_
          refine a_imul C dX11_reaches_110 ?_
          refine a_iconst (v := 1) C (by decide) dX11_reaches_111 ?_
          refine a_iadd C dX11_reaches_112 ?_
          obtain ⟨w19, e_w19, h⟩ := lts h
          refine a_top e_w19 ?_
          refine a_istore C [(7, .int w19), (6, .int x11), (5, .int x10), (0, .ref (adOf X 0)), (2, .int v2), (3, .int v3), (4, .int v4)] (by decide) rfl dX11_reaches_113 ?_
          refine a_aload_n C 3 rfl rfl dX11_reaches_115 ?_
          refine gM_cost C S dX11_reaches_116 ?_
          refine a_iload C 2 rfl dX11_reaches_119 ?_
          refine a_aload_n C 3 rfl rfl dX11_reaches_121 ?_
          refine gM_cost C S dX11_reaches_122 ?_
          refine a_iload C 1 rfl dX11_reaches_125 ?_
          obtain ⟨x20, e_x20, h⟩ := b1s h
          refine lM_cost C S e_x20 dX11_reaches_127 ?_
          refine a_iload C 0 rfl dX11_reaches_128 ?_
          refine a_iadd C dX11_reaches_130 ?_
          refine a_aload_n C 3 rfl rfl dX11_reaches_131 ?_
          refine gM_cost C S dX11_reaches_132 ?_
          refine a_iload C 2 rfl dX11_reaches_135 ?_
          obtain ⟨x21, e_x21, h⟩ := b1s h
          refine lM_cost C S e_x21 dX11_reaches_137 ?_
          refine a_icmp_ge C 154 (by decide) dX11_reaches_138 (fun c22 => ?_) (fun c22 => ?_)
          · replace h := ifp c22 h
            refine a_aload_n C 3 rfl rfl dX11_reaches_154 ?_
            refine gM_cost C S dX11_reaches_155 ?_
            refine a_iload C 2 rfl dX11_reaches_158 ?_
            obtain ⟨x23, e_x23, h⟩ := b1s h
            refine lM_cost C S e_x23 dX11_reaches_160 ?_
            exact At.sub [3, 4, 5, 6, 2, 1, 0] rfl (w_M_reaches_J161 C S hret _ hk _ hrec _ _ _ _ _ _ _ _ _ h)
          · replace h := ifn c22 h
            refine a_aload_n C 3 rfl rfl dX11_reaches_141 ?_
            refine gM_cost C S dX11_reaches_142 ?_
            refine a_iload C 1 rfl dX11_reaches_145 ?_
            obtain ⟨x32, e_x32, h⟩ := b1s h
            refine lM_cost C S e_x32 dX11_reaches_147 ?_
            refine a_iload C 0 rfl dX11_reaches_148 ?_
            refine a_iadd C dX11_reaches_150 ?_
            refine a_goto C 161 (by decide) dX11_reaches_151 ?_
            exact At.sub [3, 4, 5, 6, 2, 1, 0] rfl (w_M_reaches_J161 C S hret _ hk _ hrec _ _ _ _ _ _ _ _ _ h)
        · replace h := ifn c17 h
          refine a_goto C 209 (by decide) dX11_reaches_99 ?_
          refine a_iinc (v := (v4 + 1)) C [(4, .int (v4 + 1)), (6, .int x11), (5, .int x10), (0, .ref (adOf X 0)), (2, .int v2), (3, .int v3)] 5 rfl (congrArg (HAdd.hAdd v4) (by decide : Int32.ofInt (1) = (1 : Int32))) (by decide) rfl dX11_reaches_209 ?_
          refine a_goto C 42 (by decide) dX11_reaches_212 ?_
          exact At.sub [3, 4, 5, 0] rfl (hrec _ _ _ _ h)
def M_reaches_L42 (k : Int32 → Int32 → St → Option (St)) : Nat → Int32 → Int32 → Int32 → St → Option (St)
  | 0, _, _, _, _ => none
  | n + 1, v2, v3, v4, q => M_reaches_B42 k (M_reaches_L42 k n) v2 v3 v4 q
theorem w_M_reaches_L42 {X : Cv} (C : Cx X cX11_reaches RX11 rmM_reaches 8) (S : IsM X) {z : St} (hret : RokV X cX11_reaches z) (k : Int32 → Int32 → St → Option (St)) (hk : ∀ (v2 : Int32) (v3 : Int32) (q : St), k v2 v3 q = some z → At X 215 [(0, .ref (adOf X 0)), (2, .int v2), (3, .int v3)] [] q) (n : Nat) : ∀ (v2 : Int32) (v3 : Int32) (v4 : Int32) (q : St), M_reaches_L42 k n v2 v3 v4 q = some z → At X 42 [(0, .ref (adOf X 0)), (2, .int v2), (3, .int v3), (4, .int v4)] [] q := by
  induction n with
  | zero => intro v2 v3 v4 q h; cases h
  | succ n ih => intro v2 v3 v4 q h; exact w_M_reaches_B42 C S hret k hk _ ih v2 v3 v4 q h
def M_reaches_B33 (rec : Int32 → Int32 → St → Option (St)) (v2 : Int32) (v3 : Int32) (q : St) : Option (St) :=
  if (16 : Int32) ≤ v3 then
    some q
  else
    M_reaches_L42 (fun y33 y34 q35 =>
      rec y33 (y34 + 1) q35
      ) FU v2 v3 (0 : Int32) q
theorem w_M_reaches_B33 {X : Cv} (C : Cx X cX11_reaches RX11 rmM_reaches 8) (S : IsM X) {z : St} (hret : RokV X cX11_reaches z) (rec : Int32 → Int32 → St → Option (St)) (hrec : ∀ (v2 : Int32) (v3 : Int32) (q : St), rec v2 v3 q = some z → At X 33 [(0, .ref (adOf X 0)), (2, .int v2), (3, .int v3)] [] q) (v2 : Int32) (v3 : Int32) (q : St) (h : M_reaches_B33 rec v2 v3 q = some z) : At X 33 [(0, .ref (adOf X 0)), (2, .int v2), (3, .int v3)] [] q := by
  unfold M_reaches_B33 at h
  refine a_iload_n C 2 rfl rfl dX11_reaches_33 ?_
  refine a_bipush (v := 16) C (by decide) dX11_reaches_34 ?_
  refine a_icmp_ge C 221 (by decide) dX11_reaches_36 (fun c7 => ?_) (fun c7 => ?_)
  · replace h := ifp c7 h
    exact a_vret hret h dX11_reaches_221
  · replace h := ifn c7 h
    refine a_iconst (v := 0) C (by decide) dX11_reaches_39 ?_
    refine a_istore C [(4, .int (0 : Int32)), (0, .ref (adOf X 0)), (2, .int v2), (3, .int v3)] (by decide) rfl dX11_reaches_40 ?_
    refine At.sub [1, 2, 3, 0] rfl (w_M_reaches_L42 C S hret _ ?_ _ _ _ _ _ h)
    intro y33 y34 q35 h
    refine a_iinc (v := (y34 + 1)) C [(3, .int (y34 + 1)), (0, .ref (adOf X 0)), (2, .int y33)] 2 rfl (congrArg (HAdd.hAdd y34) (by decide : Int32.ofInt (1) = (1 : Int32))) (by decide) rfl dX11_reaches_215 ?_
    refine a_goto C 33 (by decide) dX11_reaches_218 ?_
    exact At.sub [1, 2, 0] rfl (hrec _ _ _ h)
def M_reaches_L33 : Nat → Int32 → Int32 → St → Option (St)
  | 0, _, _, _ => none
  | n + 1, v2, v3, q => M_reaches_B33 (M_reaches_L33 n) v2 v3 q
theorem w_M_reaches_L33 {X : Cv} (C : Cx X cX11_reaches RX11 rmM_reaches 8) (S : IsM X) {z : St} (hret : RokV X cX11_reaches z) (n : Nat) : ∀ (v2 : Int32) (v3 : Int32) (q : St), M_reaches_L33 n v2 v3 q = some z → At X 33 [(0, .ref (adOf X 0)), (2, .int v2), (3, .int v3)] [] q := by
  induction n with
  | zero => intro v2 v3 q h; cases h
  | succ n ih => intro v2 v3 q h; exact w_M_reaches_B33 C S hret _ ih v2 v3 q h
def M_reaches (q : St) (v1 : Int32) (v2 : Int32) : Option (St) :=
  M_reaches_L2 (fun y5 q6 =>
    M_reaches_L33 FU y5 (0 : Int32) q6
    ) FU v1 v2 (0 : Int32) q
theorem w_M_reaches {X : Cv} (C : Cx X cX11_reaches RX11 rmM_reaches 8) (S : IsM X) {z : St} (hret : RokV X cX11_reaches z) (v1 : Int32) (v2 : Int32) (q : St) (h : M_reaches q v1 v2 = some z) : At X 0 [(0, .ref (adOf X 0)), (1, .int v1), (2, .int v2)] [] q := by
  unfold M_reaches at h
  refine a_iconst (v := 0) C (by decide) dX11_reaches_0 ?_
  refine a_istore_n C [(3, .int (0 : Int32)), (0, .ref (adOf X 0)), (1, .int v1), (2, .int v2)] rfl (by decide) rfl dX11_reaches_1 ?_
  refine At.sub [1, 2, 3, 0] rfl (w_M_reaches_L2 C S hret _ ?_ _ _ _ _ _ h)
  intro y5 q6 h
  refine a_iconst (v := 0) C (by decide) dX11_reaches_31 ?_
  refine a_istore_n C [(3, .int (0 : Int32)), (0, .ref (adOf X 0)), (2, .int y5)] rfl (by decide) rfl dX11_reaches_32 ?_
  exact At.sub [1, 2, 0] rfl (w_M_reaches_L33 C S hret _ _ _ _ h)
theorem c_M_reaches {l : Launch} {D : va_G} {I : ClassId × ClassId × ClassId × ClassId} {ad : Nat → Nat} {q : St} {v1 : Int32} {v2 : Int32} {z : St} (h : M_reaches q v1 v2 = some z) : Ctr l D I zT 18 (shM I) ad yX11_reaches cX11_reaches 8 none rmM_reaches [.ref (ad 0), .int v1, .int v2] q none z :=
  ctr_ofV (by decide) (Nat.le_of_ble_eq_true rfl) (fun p e s m args below meth c Q H0 X hX C hret => by subst hX; exact w_M_reaches C ⟨rfl, rfl, rfl⟩ hret _ _ _ h)
theorem g_M_reaches : GoodIn lw_tg (wsV RX11 225 RX11 yX11_reaches (Cond.code yX11_reaches cX11_reaches 8 none :: lw_tg)) := gd_V (tg 1454 (by decide +kernel) rfl) (tg 1456 (by decide +kernel) rfl) (tg 74 (by decide +kernel) rfl) (tg 128 (by decide +kernel) rfl) (tg 1457 (by decide +kernel) rfl)
theorem k_M_reaches {X : Cv} {cc : ByteArray} {rm : Room} {nL1 pc : Nat} {lv : List (Nat × Value)} {sk : List Value} {q : St} {v1 : Int32} {v2 : Int32} {q2 : St} (C : Cx X cc RX11 rm nL1) (S : IsM X) (h : M_reaches q v1 v2 = some q2) (hz : rmM_reaches.frames + 1 ≤ rm.frames ∧ 8 + (8 + 11) + rmM_reaches.locals ≤ rm.locals) (hr : (sk.map fun v => v.category).sum ≤ 8) (hd : decode cc pc = .ok (.invokevirtual 225, 3)) (k : At X (pc + 3) lv sk q2) : At X pc lv (.int v2 :: .int v1 :: .ref (adOf X 0) :: sk) q := a_callVv (as := [.int v1, .int v2]) C (kp := 0) (by rw [S.1]; decide) (by rw [S.2.1]; rfl) rfl (by have hh := c_M_reaches (l := X.2.1) (D := dOf X) (I := idOf X) (ad := adOf X) h; rw [← S.1, ← S.2.1, ← S.2.2] at hh; exact hh) g_M_reaches ⟨rfl, rfl, hz.1, hz.2⟩ ⟨by decide, by decide, by show Option.map _ (parseMethodDescriptor yX11_reaches.desc) = some 2; decide⟩ hr rfl hd k
abbrev rmM_onward : Room := { frames := 2, cells := 0, slots := 0, locals := 45 }
def M_onward_J42 (rec : Int32 → Int32 → Int32 → Int32 → Int32 → Option (Int32)) (v1 : Int32) (v2 : Int32) (v3 : Int32) (v4 : Int32) (v5 : Int32) (z0 : Int32) (q : St) : Option (Int32) :=
  if z0 < (0 : Int32) then
    rec v1 v2 v3 v4 (v5 + 1)
  else
    b1 (M_isFit q z0 v2) fun x7 =>
    if x7 = (0 : Int32) then
      rec v1 v2 v3 v4 (v5 + 1)
    else
      b1 (rd 16 q 12 v5) fun x9 =>
      if (1000000000 : Int32) ≤ x9 then
        rec v1 v2 v3 v4 (v5 + 1)
      else
        b1 (rd 16 q 12 v5) fun x11 =>
        b1 (M_delayOf q z0) fun x12 =>
        if v4 ≤ ((x11 + ((100 : Int32) * x12)) + (1 : Int32)) then
          rec v1 v2 v3 v4 (v5 + 1)
        else
          b1 (rd 16 q 12 v5) fun x14 =>
          b1 (M_delayOf q z0) fun x15 =>
          lt_ ((x14 + ((100 : Int32) * x15)) + (1 : Int32)) fun w16 =>
          rec v1 v2 v5 w16 (v5 + 1)
theorem w_M_onward_J42 {X : Cv} (C : Cx X cX11_onward RX11 rmM_onward 7) (S : IsM X) {q : St} {z : Int32} (hret : RokI X cX11_onward .int z q) (rec : Int32 → Int32 → Int32 → Int32 → Int32 → Option (Int32)) (hrec : ∀ (v1 : Int32) (v2 : Int32) (v3 : Int32) (v4 : Int32) (v5 : Int32), rec v1 v2 v3 v4 v5 = some z → At X 10 [(0, .ref (adOf X 0)), (1, .int v1), (2, .int v2), (3, .int v3), (4, .int v4), (5, .int v5)] [] q) (v1 : Int32) (v2 : Int32) (v3 : Int32) (v4 : Int32) (v5 : Int32) (z0 : Int32) (h : M_onward_J42 rec v1 v2 v3 v4 v5 z0 q = some z) : At X 42 [(0, .ref (adOf X 0)), (1, .int v1), (2, .int v2), (3, .int v3), (4, .int v4), (5, .int v5)] [.int z0] q := by
  unfold M_onward_J42 at h
  refine a_istore C [(6, .int z0), (0, .ref (adOf X 0)), (1, .int v1), (2, .int v2), (3, .int v3), (4, .int v4), (5, .int v5)] (by decide) rfl dX11_onward_42 ?_
  refine a_iload C 0 rfl dX11_onward_44 ?_
  refine a_if_lt C 119 (by decide) dX11_onward_46 (fun c6 => ?_) (fun c6 => ?_)
  · replace h := ifp c6 h
    refine a_iinc (v := (v5 + 1)) C [(5, .int (v5 + 1)), (6, .int z0), (0, .ref (adOf X 0)), (1, .int v1), (2, .int v2), (3, .int v3), (4, .int v4)] 6 rfl (congrArg (HAdd.hAdd v5) (by decide : Int32.ofInt (1) = (1 : Int32))) (by decide) rfl dX11_onward_119 ?_
    refine a_goto C 10 (by decide) dX11_onward_122 ?_
    exact At.sub [2, 3, 4, 5, 6, 0] rfl (hrec _ _ _ _ _ h)
  · replace h := ifn c6 h
    refine a_aload_n C 1 rfl rfl dX11_onward_49 ?_
    refine a_iload C 0 rfl dX11_onward_50 ?_
    refine a_iload_n C 3 rfl rfl dX11_onward_52 ?_
    obtain ⟨x7, e_x7, h⟩ := b1s h
    refine k_M_isFit C S e_x7 ⟨Nat.le_of_ble_eq_true rfl, Nat.le_of_ble_eq_true rfl⟩ (Nat.le_of_ble_eq_true rfl) dX11_onward_53 ?_
    refine a_if_eq C 119 (by decide) dX11_onward_56 (fun c8 => ?_) (fun c8 => ?_)
    · replace h := ifp c8 h
      refine a_iinc (v := (v5 + 1)) C [(5, .int (v5 + 1)), (6, .int z0), (0, .ref (adOf X 0)), (1, .int v1), (2, .int v2), (3, .int v3), (4, .int v4)] 6 rfl (congrArg (HAdd.hAdd v5) (by decide : Int32.ofInt (1) = (1 : Int32))) (by decide) rfl dX11_onward_119 ?_
      refine a_goto C 10 (by decide) dX11_onward_122 ?_
      exact At.sub [2, 3, 4, 5, 6, 0] rfl (hrec _ _ _ _ _ h)
    · replace h := ifn c8 h
      refine a_aload_n C 1 rfl rfl dX11_onward_59 ?_
      refine gM_cost C S dX11_onward_60 ?_
      refine a_iload C 6 rfl dX11_onward_63 ?_
      obtain ⟨x9, e_x9, h⟩ := b1s h
      refine lM_cost C S e_x9 dX11_onward_65 ?_
      refine a_ldc (v := 1000000000) C (tg 1458 (by decide +kernel) rfl) dX11_onward_66 ?_
      refine a_icmp_ge C 119 (by decide) dX11_onward_68 (fun c10 => ?_) (fun c10 => ?_)
      · replace h := ifp c10 h
        refine a_iinc (v := (v5 + 1)) C [(5, .int (v5 + 1)), (6, .int z0), (0, .ref (adOf X 0)), (1, .int v1), (2, .int v2), (3, .int v3), (4, .int v4)] 6 rfl (congrArg (HAdd.hAdd v5) (by decide : Int32.ofInt (1) = (1 : Int32))) (by decide) rfl dX11_onward_119 ?_
        refine a_goto C 10 (by decide) dX11_onward_122 ?_
        exact At.sub [2, 3, 4, 5, 6, 0] rfl (hrec _ _ _ _ _ h)
      · replace h := ifn c10 h
        refine a_aload_n C 1 rfl rfl dX11_onward_71 ?_
        refine gM_cost C S dX11_onward_72 ?_
        refine a_iload C 6 rfl dX11_onward_75 ?_
        obtain ⟨x11, e_x11, h⟩ := b1s h
        refine lM_cost C S e_x11 dX11_onward_77 ?_
        refine a_bipush (v := 100) C (by decide) dX11_onward_78 ?_
        refine a_aload_n C 1 rfl rfl dX11_onward_80 ?_
        refine a_iload C 0 rfl dX11_onward_81 ?_
        obtain ⟨x12, e_x12, h⟩ := b1s h
        refine k_M_delayOf C S e_x12 ⟨Nat.le_of_ble_eq_true rfl, Nat.le_of_ble_eq_true rfl⟩ (Nat.le_of_ble_eq_true rfl) dX11_onward_83 ?_
        refine a_imul C dX11_onward_86 ?_
        refine a_iadd C dX11_onward_87 ?_
        refine a_iconst (v := 1) C (by decide) dX11_onward_88 ?_
        refine a_iadd C dX11_onward_89 ?_
        refine a_iload C 5 rfl dX11_onward_90 ?_
        refine a_icmp_ge C 119 (by decide) dX11_onward_92 (fun c13 => ?_) (fun c13 => ?_)
        · replace h := ifp c13 h
          refine a_iinc (v := (v5 + 1)) C [(5, .int (v5 + 1)), (6, .int z0), (0, .ref (adOf X 0)), (1, .int v1), (2, .int v2), (3, .int v3), (4, .int v4)] 6 rfl (congrArg (HAdd.hAdd v5) (by decide : Int32.ofInt (1) = (1 : Int32))) (by decide) rfl dX11_onward_119 ?_
          refine a_goto C 10 (by decide) dX11_onward_122 ?_
          exact At.sub [2, 3, 4, 5, 6, 0] rfl (hrec _ _ _ _ _ h)
        · replace h := ifn c13 h
          refine a_iload C 6 rfl dX11_onward_95 ?_
          refine a_istore_n C [(3, .int v5), (6, .int z0), (0, .ref (adOf X 0)), (1, .int v1), (2, .int v2), (4, .int v4), (5, .int v5)] rfl (by decide) rfl dX11_onward_97 ?_
          refine a_aload_n C 2 rfl rfl dX11_onward_98 ?_
          refine gM_cost C S dX11_onward_99 ?_
          refine a_iload C 6 rfl dX11_onward_102 ?_
          obtain ⟨x14, e_x14, h⟩ := b1s h
          refine lM_cost C S e_x14 dX11_onward_104 ?_
          refine a_bipush (v := 100) C (by decide) dX11_onward_105 ?_
          refine a_aload_n C 2 rfl rfl dX11_onward_107 ?_
          refine a_iload C 1 rfl dX11_onward_108 ?_
          obtain ⟨x15, e_x15, h⟩ := b1s h
          refine k_M_delayOf C S e_x15 ⟨Nat.le_of_ble_eq_true rfl, Nat.le_of_ble_eq_true rfl⟩ (Nat.le_of_ble_eq_true rfl) dX11_onward_110 ?_
          refine a_imul C dX11_onward_113 ?_
          refine a_iadd C dX11_onward_114 ?_
          refine a_iconst (v := 1) C (by decide) dX11_onward_115 ?_
          refine a_iadd C dX11_onward_116 ?_
          obtain ⟨w16, e_w16, h⟩ := lts h
          refine a_top e_w16 ?_
          refine a_istore C [(4, .int w16), (3, .int v5), (6, .int z0), (0, .ref (adOf X 0)), (1, .int v1), (2, .int v2), (5, .int v5)] (by decide) rfl dX11_onward_117 ?_
          refine a_iinc (v := (v5 + 1)) C [(5, .int (v5 + 1)), (4, .int w16), (3, .int v5), (6, .int z0), (0, .ref (adOf X 0)), (1, .int v1), (2, .int v2)] 6 rfl (congrArg (HAdd.hAdd v5) (by decide : Int32.ofInt (1) = (1 : Int32))) (by decide) rfl dX11_onward_119 ?_
          refine a_goto C 10 (by decide) dX11_onward_122 ?_
          exact At.sub [4, 5, 6, 2, 1, 0] rfl (hrec _ _ _ _ _ h)
def M_onward_B10 (q : St) (rec : Int32 → Int32 → Int32 → Int32 → Int32 → Option (Int32)) (v1 : Int32) (v2 : Int32) (v3 : Int32) (v4 : Int32) (v5 : Int32) : Option (Int32) :=
  b1 (rd 172 q 2 (0 : Int32)) fun x1 =>
  if x1 ≤ v5 then
    some v3
  else
    b1 (M_isIn q v5) fun x3 =>
    if x3 = (0 : Int32) then
      b1 (M_linkAt q v1 v5) fun x5 =>
      M_onward_J42 rec v1 v2 v3 v4 v5 x5 q
    else
      M_onward_J42 rec v1 v2 v3 v4 v5 (-2 : Int32) q
theorem w_M_onward_B10 {X : Cv} (C : Cx X cX11_onward RX11 rmM_onward 7) (S : IsM X) (q : St) {z : Int32} (hret : RokI X cX11_onward .int z q) (rec : Int32 → Int32 → Int32 → Int32 → Int32 → Option (Int32)) (hrec : ∀ (v1 : Int32) (v2 : Int32) (v3 : Int32) (v4 : Int32) (v5 : Int32), rec v1 v2 v3 v4 v5 = some z → At X 10 [(0, .ref (adOf X 0)), (1, .int v1), (2, .int v2), (3, .int v3), (4, .int v4), (5, .int v5)] [] q) (v1 : Int32) (v2 : Int32) (v3 : Int32) (v4 : Int32) (v5 : Int32) (h : M_onward_B10 q rec v1 v2 v3 v4 v5 = some z) : At X 10 [(0, .ref (adOf X 0)), (1, .int v1), (2, .int v2), (3, .int v3), (4, .int v4), (5, .int v5)] [] q := by
  unfold M_onward_B10 at h
  refine a_iload C 5 rfl dX11_onward_10 ?_
  refine a_aload_n C 0 rfl rfl dX11_onward_12 ?_
  refine gM_setup C S dX11_onward_13 ?_
  refine a_iconst (v := 0) C (by decide) dX11_onward_16 ?_
  obtain ⟨x1, e_x1, h⟩ := b1s h
  refine lM_setup C S e_x1 dX11_onward_17 ?_
  refine a_icmp_ge C 125 (by decide) dX11_onward_18 (fun c2 => ?_) (fun c2 => ?_)
  · replace h := ifp c2 h
    refine a_iload_n C 3 rfl rfl dX11_onward_125 ?_
    exact a_iretR hret h rfl dX11_onward_126
  · replace h := ifn c2 h
    refine a_aload_n C 0 rfl rfl dX11_onward_21 ?_
    refine a_iload C 5 rfl dX11_onward_22 ?_
    obtain ⟨x3, e_x3, h⟩ := b1s h
    refine k_M_isIn C S e_x3 ⟨Nat.le_of_ble_eq_true rfl, Nat.le_of_ble_eq_true rfl⟩ (Nat.le_of_ble_eq_true rfl) dX11_onward_24 ?_
    refine a_if_eq C 35 (by decide) dX11_onward_27 (fun c4 => ?_) (fun c4 => ?_)
    · replace h := ifp c4 h
      refine a_aload_n C 0 rfl rfl dX11_onward_35 ?_
      refine a_iload_n C 1 rfl rfl dX11_onward_36 ?_
      refine a_iload C 5 rfl dX11_onward_37 ?_
      obtain ⟨x5, e_x5, h⟩ := b1s h
      refine k_M_linkAt C S e_x5 ⟨Nat.le_of_ble_eq_true rfl, Nat.le_of_ble_eq_true rfl⟩ (Nat.le_of_ble_eq_true rfl) dX11_onward_39 ?_
      exact At.sub [0, 1, 2, 3, 4, 5] rfl (w_M_onward_J42 C S hret _ hrec _ _ _ _ _ _ h)
    · replace h := ifn c4 h
      refine a_bipush (v := -2) C (by decide) dX11_onward_30 ?_
      refine a_goto C 42 (by decide) dX11_onward_32 ?_
      exact At.sub [0, 1, 2, 3, 4, 5] rfl (w_M_onward_J42 C S hret _ hrec _ _ _ _ _ _ h)
def M_onward_L10 (q : St) : Nat → Int32 → Int32 → Int32 → Int32 → Int32 → Option (Int32)
  | 0, _, _, _, _, _ => none
  | n + 1, v1, v2, v3, v4, v5 => M_onward_B10 q (M_onward_L10 q n) v1 v2 v3 v4 v5
theorem w_M_onward_L10 {X : Cv} (C : Cx X cX11_onward RX11 rmM_onward 7) (S : IsM X) (q : St) {z : Int32} (hret : RokI X cX11_onward .int z q) (n : Nat) : ∀ (v1 : Int32) (v2 : Int32) (v3 : Int32) (v4 : Int32) (v5 : Int32), M_onward_L10 q n v1 v2 v3 v4 v5 = some z → At X 10 [(0, .ref (adOf X 0)), (1, .int v1), (2, .int v2), (3, .int v3), (4, .int v4), (5, .int v5)] [] q := by
  induction n with
  | zero => intro v1 v2 v3 v4 v5 h; cases h
  | succ n ih => intro v1 v2 v3 v4 v5 h; exact w_M_onward_B10 C S _ hret _ ih v1 v2 v3 v4 v5 h
def M_onward (q : St) (v1 : Int32) (v2 : Int32) : Option (Int32) :=
  M_onward_L10 q FU v1 v2 (-2 : Int32) (1000000000 : Int32) (0 : Int32)
theorem w_M_onward {X : Cv} (C : Cx X cX11_onward RX11 rmM_onward 7) (S : IsM X) {q : St} {z : Int32} (hret : RokI X cX11_onward .int z q) (v1 : Int32) (v2 : Int32) (h : M_onward q v1 v2 = some z) : At X 0 [(0, .ref (adOf X 0)), (1, .int v1), (2, .int v2)] [] q := by
  unfold M_onward at h
  refine a_bipush (v := -2) C (by decide) dX11_onward_0 ?_
  refine a_istore_n C [(3, .int (-2 : Int32)), (0, .ref (adOf X 0)), (1, .int v1), (2, .int v2)] rfl (by decide) rfl dX11_onward_2 ?_
  refine a_ldc (v := 1000000000) C (tg 1458 (by decide +kernel) rfl) dX11_onward_3 ?_
  refine a_istore C [(4, .int (1000000000 : Int32)), (3, .int (-2 : Int32)), (0, .ref (adOf X 0)), (1, .int v1), (2, .int v2)] (by decide) rfl dX11_onward_5 ?_
  refine a_iconst (v := 0) C (by decide) dX11_onward_7 ?_
  refine a_istore C [(5, .int (0 : Int32)), (4, .int (1000000000 : Int32)), (3, .int (-2 : Int32)), (0, .ref (adOf X 0)), (1, .int v1), (2, .int v2)] (by decide) rfl dX11_onward_8 ?_
  exact At.sub [3, 4, 5, 2, 1, 0] rfl (w_M_onward_L10 C S _ hret _ _ _ _ _ _ h)
theorem c_M_onward {l : Launch} {D : va_G} {I : ClassId × ClassId × ClassId × ClassId} {ad : Nat → Nat} {q : St} {v1 : Int32} {v2 : Int32} {z : Int32} (h : M_onward q v1 v2 = some z) : Ctr l D I zT 18 (shM I) ad yX11_onward cX11_onward 7 (some .int) rmM_onward [.ref (ad 0), .int v1, .int v2] q (some z) q :=
  ctr_ofI (by decide) (Nat.le_of_ble_eq_true rfl) (fun p e s m args below meth c Q H0 X hX C hret => by subst hX; exact w_M_onward C ⟨rfl, rfl, rfl⟩ hret _ _ h)
theorem g_M_onward : GoodIn lw_tg (wsV RX11 232 RX11 yX11_onward (Cond.code yX11_onward cX11_onward 7 (some .int) :: lw_tg)) := gd_V (tg 1471 (by decide +kernel) rfl) (tg 1473 (by decide +kernel) rfl) (tg 78 (by decide +kernel) rfl) (tg 128 (by decide +kernel) rfl) (tg 1474 (by decide +kernel) rfl)
theorem k_M_onward {X : Cv} {cc : ByteArray} {rm : Room} {nL1 pc : Nat} {lv : List (Nat × Value)} {sk : List Value} {q : St} {v1 : Int32} {v2 : Int32} {z : Int32} (C : Cx X cc RX11 rm nL1) (S : IsM X) (h : M_onward q v1 v2 = some z) (hz : rmM_onward.frames + 1 ≤ rm.frames ∧ 8 + (7 + 11) + rmM_onward.locals ≤ rm.locals) (hr : (sk.map fun v => v.category).sum ≤ 8) (hd : decode cc pc = .ok (.invokevirtual 232, 3)) (k : At X (pc + 3) lv (.int z :: sk) q) : At X pc lv (.int v2 :: .int v1 :: .ref (adOf X 0) :: sk) q := a_callVi (as := [.int v1, .int v2]) C (kp := 0) (by rw [S.1]; decide) (by rw [S.2.1]; rfl) rfl (by have hh := c_M_onward (l := X.2.1) (D := dOf X) (I := idOf X) (ad := adOf X) h; rw [← S.1, ← S.2.1, ← S.2.2] at hh; exact hh) g_M_onward ⟨rfl, rfl, hz.1, hz.2⟩ ⟨by decide, by decide, by show Option.map _ (parseMethodDescriptor yX11_onward.desc) = some 2; decide⟩ hr rfl hd k
abbrev rmM_costBy : Room := { frames := 2, cells := 0, slots := 0, locals := 45 }
def M_costBy (q : St) (v1 : Int32) (v2 : Int32) : Option (Int32) :=
  b1 (rd 16 q 12 v2) fun x1 =>
  b1 (M_linkAt q v1 v2) fun x2 =>
  b1 (M_delayOf q x2) fun x3 =>
  some ((x1 + ((100 : Int32) * x3)) + (1 : Int32))
theorem w_M_costBy {X : Cv} (C : Cx X cX11_costBy RX11 rmM_costBy 3) (S : IsM X) {q : St} {z : Int32} (hret : RokI X cX11_costBy .int z q) (v1 : Int32) (v2 : Int32) (h : M_costBy q v1 v2 = some z) : At X 0 [(0, .ref (adOf X 0)), (1, .int v1), (2, .int v2)] [] q := by
  unfold M_costBy at h
  refine a_aload_n C 0 rfl rfl dX11_costBy_0 ?_
  refine gM_cost C S dX11_costBy_1 ?_
  refine a_iload_n C 2 rfl rfl dX11_costBy_4 ?_
  obtain ⟨x1, e_x1, h⟩ := b1s h
  refine lM_cost C S e_x1 dX11_costBy_5 ?_
  refine a_bipush (v := 100) C (by decide) dX11_costBy_6 ?_
  refine a_aload_n C 0 rfl rfl dX11_costBy_8 ?_
  refine a_aload_n C 0 rfl rfl dX11_costBy_9 ?_
  refine a_iload_n C 1 rfl rfl dX11_costBy_10 ?_
  refine a_iload_n C 2 rfl rfl dX11_costBy_11 ?_
  obtain ⟨x2, e_x2, h⟩ := b1s h
  refine k_M_linkAt C S e_x2 ⟨Nat.le_of_ble_eq_true rfl, Nat.le_of_ble_eq_true rfl⟩ (Nat.le_of_ble_eq_true rfl) dX11_costBy_12 ?_
  obtain ⟨x3, e_x3, h⟩ := b1s h
  refine k_M_delayOf C S e_x3 ⟨Nat.le_of_ble_eq_true rfl, Nat.le_of_ble_eq_true rfl⟩ (Nat.le_of_ble_eq_true rfl) dX11_costBy_15 ?_
  refine a_imul C dX11_costBy_18 ?_
  refine a_iadd C dX11_costBy_19 ?_
  refine a_iconst (v := 1) C (by decide) dX11_costBy_20 ?_
  refine a_iadd C dX11_costBy_21 ?_
  exact a_iretR hret h rfl dX11_costBy_22
theorem c_M_costBy {l : Launch} {D : va_G} {I : ClassId × ClassId × ClassId × ClassId} {ad : Nat → Nat} {q : St} {v1 : Int32} {v2 : Int32} {z : Int32} (h : M_costBy q v1 v2 = some z) : Ctr l D I zT 18 (shM I) ad yX11_costBy cX11_costBy 3 (some .int) rmM_costBy [.ref (ad 0), .int v1, .int v2] q (some z) q :=
  ctr_ofI (by decide) (Nat.le_of_ble_eq_true rfl) (fun p e s m args below meth c Q H0 X hX C hret => by subst hX; exact w_M_costBy C ⟨rfl, rfl, rfl⟩ hret _ _ h)
theorem g_M_costBy : GoodIn lw_tg (wsV RX11 238 RX11 yX11_costBy (Cond.code yX11_costBy cX11_costBy 3 (some .int) :: lw_tg)) := gd_V (tg 1487 (by decide +kernel) rfl) (tg 1489 (by decide +kernel) rfl) (tg 82 (by decide +kernel) rfl) (tg 128 (by decide +kernel) rfl) (tg 1490 (by decide +kernel) rfl)
theorem k_M_costBy {X : Cv} {cc : ByteArray} {rm : Room} {nL1 pc : Nat} {lv : List (Nat × Value)} {sk : List Value} {q : St} {v1 : Int32} {v2 : Int32} {z : Int32} (C : Cx X cc RX11 rm nL1) (S : IsM X) (h : M_costBy q v1 v2 = some z) (hz : rmM_costBy.frames + 1 ≤ rm.frames ∧ 8 + (3 + 11) + rmM_costBy.locals ≤ rm.locals) (hr : (sk.map fun v => v.category).sum ≤ 8) (hd : decode cc pc = .ok (.invokevirtual 238, 3)) (k : At X (pc + 3) lv (.int z :: sk) q) : At X pc lv (.int v2 :: .int v1 :: .ref (adOf X 0) :: sk) q := a_callVi (as := [.int v1, .int v2]) C (kp := 0) (by rw [S.1]; decide) (by rw [S.2.1]; rfl) rfl (by have hh := c_M_costBy (l := X.2.1) (D := dOf X) (I := idOf X) (ad := adOf X) h; rw [← S.1, ← S.2.1, ← S.2.2] at hh; exact hh) g_M_costBy ⟨rfl, rfl, hz.1, hz.2⟩ ⟨by decide, by decide, by show Option.map _ (parseMethodDescriptor yX11_costBy.desc) = some 2; decide⟩ hr rfl hd k
abbrev rmM_lays : Room := { frames := 3, cells := 0, slots := 0, locals := 71 }
def M_lays_J53 (k : Int32 → Int32 → Int32 → Option (Int32 × St)) (rec : Int32 → Int32 → Int32 → Int32 → Int32 → Option (Int32 × St)) (v1 : Int32) (v2 : Int32) (v3 : Int32) (v4 : Int32) (v5 : Int32) (z0 : Int32) (q : St) : Option (Int32 × St) :=
  if z0 < (0 : Int32) then
    rec v1 v2 v3 v4 (v5 + 1)
  else
    b1 (M_delayTo q v5) fun x8 =>
    b1 (M_costBy q v5 z0) fun x9 =>
    if v4 ≤ (((100 : Int32) * x8) + x9) then
      rec v1 v2 v3 v4 (v5 + 1)
    else
      b1 (M_delayTo q v5) fun x11 =>
      b1 (M_costBy q v5 z0) fun x12 =>
      lt_ (((100 : Int32) * x11) + x12) fun w13 =>
      rec v1 v2 v5 w13 (v5 + 1)
theorem w_M_lays_J53 {X : Cv} (C : Cx X cX11_lays RX11 rmM_lays 7) (S : IsM X) {q : St} {z : Int32 × St} (hret : RokI X cX11_lays .boolean z.1 z.2) (k : Int32 → Int32 → Int32 → Option (Int32 × St)) (hk : ∀ (v1 : Int32) (v2 : Int32) (v3 : Int32), k v1 v2 v3 = some z → At X 112 [(0, .ref (adOf X 0)), (1, .int v1), (2, .int v2), (3, .int v3)] [] q) (rec : Int32 → Int32 → Int32 → Int32 → Int32 → Option (Int32 × St)) (hrec : ∀ (v1 : Int32) (v2 : Int32) (v3 : Int32) (v4 : Int32) (v5 : Int32), rec v1 v2 v3 v4 v5 = some z → At X 21 [(0, .ref (adOf X 0)), (1, .int v1), (2, .int v2), (3, .int v3), (4, .int v4), (5, .int v5)] [] q) (v1 : Int32) (v2 : Int32) (v3 : Int32) (v4 : Int32) (v5 : Int32) (z0 : Int32) (h : M_lays_J53 k rec v1 v2 v3 v4 v5 z0 q = some z) : At X 53 [(0, .ref (adOf X 0)), (1, .int v1), (2, .int v2), (3, .int v3), (4, .int v4), (5, .int v5)] [.int z0] q := by
  unfold M_lays_J53 at h
  refine a_istore C [(6, .int z0), (0, .ref (adOf X 0)), (1, .int v1), (2, .int v2), (3, .int v3), (4, .int v4), (5, .int v5)] (by decide) rfl dX11_lays_53 ?_
  refine a_iload C 0 rfl dX11_lays_55 ?_
  refine a_if_lt C 106 (by decide) dX11_lays_57 (fun c7 => ?_) (fun c7 => ?_)
  · replace h := ifp c7 h
    refine a_iinc (v := (v5 + 1)) C [(5, .int (v5 + 1)), (6, .int z0), (0, .ref (adOf X 0)), (1, .int v1), (2, .int v2), (3, .int v3), (4, .int v4)] 6 rfl (congrArg (HAdd.hAdd v5) (by decide : Int32.ofInt (1) = (1 : Int32))) (by decide) rfl dX11_lays_106 ?_
    refine a_goto C 21 (by decide) dX11_lays_109 ?_
    exact At.sub [2, 3, 4, 5, 6, 0] rfl (hrec _ _ _ _ _ h)
  · replace h := ifn c7 h
    refine a_bipush (v := 100) C (by decide) dX11_lays_60 ?_
    refine a_aload_n C 1 rfl rfl dX11_lays_62 ?_
    refine a_iload C 6 rfl dX11_lays_63 ?_
    obtain ⟨x8, e_x8, h⟩ := b1s h
    refine k_M_delayTo C S e_x8 ⟨Nat.le_of_ble_eq_true rfl, Nat.le_of_ble_eq_true rfl⟩ (Nat.le_of_ble_eq_true rfl) dX11_lays_65 ?_
    refine a_imul C dX11_lays_68 ?_
    refine a_aload_n C 1 rfl rfl dX11_lays_69 ?_
    refine a_iload C 6 rfl dX11_lays_70 ?_
    refine a_iload C 0 rfl dX11_lays_72 ?_
    obtain ⟨x9, e_x9, h⟩ := b1s h
    refine k_M_costBy C S e_x9 ⟨Nat.le_of_ble_eq_true rfl, Nat.le_of_ble_eq_true rfl⟩ (Nat.le_of_ble_eq_true rfl) dX11_lays_74 ?_
    refine a_iadd C dX11_lays_77 ?_
    refine a_iload C 5 rfl dX11_lays_78 ?_
    refine a_icmp_ge C 106 (by decide) dX11_lays_80 (fun c10 => ?_) (fun c10 => ?_)
    · replace h := ifp c10 h
      refine a_iinc (v := (v5 + 1)) C [(5, .int (v5 + 1)), (6, .int z0), (0, .ref (adOf X 0)), (1, .int v1), (2, .int v2), (3, .int v3), (4, .int v4)] 6 rfl (congrArg (HAdd.hAdd v5) (by decide : Int32.ofInt (1) = (1 : Int32))) (by decide) rfl dX11_lays_106 ?_
      refine a_goto C 21 (by decide) dX11_lays_109 ?_
      exact At.sub [2, 3, 4, 5, 6, 0] rfl (hrec _ _ _ _ _ h)
    · replace h := ifn c10 h
      refine a_iload C 6 rfl dX11_lays_83 ?_
      refine a_istore_n C [(3, .int v5), (6, .int z0), (0, .ref (adOf X 0)), (1, .int v1), (2, .int v2), (4, .int v4), (5, .int v5)] rfl (by decide) rfl dX11_lays_85 ?_
      refine a_bipush (v := 100) C (by decide) dX11_lays_86 ?_
      refine a_aload_n C 2 rfl rfl dX11_lays_88 ?_
      refine a_iload C 6 rfl dX11_lays_89 ?_
      obtain ⟨x11, e_x11, h⟩ := b1s h
      refine k_M_delayTo C S e_x11 ⟨Nat.le_of_ble_eq_true rfl, Nat.le_of_ble_eq_true rfl⟩ (Nat.le_of_ble_eq_true rfl) dX11_lays_91 ?_
      refine a_imul C dX11_lays_94 ?_
      refine a_aload_n C 2 rfl rfl dX11_lays_95 ?_
      refine a_iload C 6 rfl dX11_lays_96 ?_
      refine a_iload C 1 rfl dX11_lays_98 ?_
      obtain ⟨x12, e_x12, h⟩ := b1s h
      refine k_M_costBy C S e_x12 ⟨Nat.le_of_ble_eq_true rfl, Nat.le_of_ble_eq_true rfl⟩ (Nat.le_of_ble_eq_true rfl) dX11_lays_100 ?_
      refine a_iadd C dX11_lays_103 ?_
      obtain ⟨w13, e_w13, h⟩ := lts h
      refine a_top e_w13 ?_
      refine a_istore C [(4, .int w13), (3, .int v5), (6, .int z0), (0, .ref (adOf X 0)), (1, .int v1), (2, .int v2), (5, .int v5)] (by decide) rfl dX11_lays_104 ?_
      refine a_iinc (v := (v5 + 1)) C [(5, .int (v5 + 1)), (4, .int w13), (3, .int v5), (6, .int z0), (0, .ref (adOf X 0)), (1, .int v1), (2, .int v2)] 6 rfl (congrArg (HAdd.hAdd v5) (by decide : Int32.ofInt (1) = (1 : Int32))) (by decide) rfl dX11_lays_106 ?_
      refine a_goto C 21 (by decide) dX11_lays_109 ?_
      exact At.sub [4, 5, 6, 2, 1, 0] rfl (hrec _ _ _ _ _ h)
def M_lays_B21 (q : St) (k : Int32 → Int32 → Int32 → Option (Int32 × St)) (rec : Int32 → Int32 → Int32 → Int32 → Int32 → Option (Int32 × St)) (v1 : Int32) (v2 : Int32) (v3 : Int32) (v4 : Int32) (v5 : Int32) : Option (Int32 × St) :=
  b1 (rd 172 q 2 (0 : Int32)) fun x3 =>
  if x3 ≤ v5 then
    k v1 v2 v3
  else
    b1 (M_isIn q v5) fun x5 =>
    if x5 = (0 : Int32) then
      M_lays_J53 k rec v1 v2 v3 v4 v5 (-2 : Int32) q
    else
      b1 (M_onward q v5 v2) fun x14 =>
      M_lays_J53 k rec v1 v2 v3 v4 v5 x14 q
theorem w_M_lays_B21 {X : Cv} (C : Cx X cX11_lays RX11 rmM_lays 7) (S : IsM X) (q : St) {z : Int32 × St} (hret : RokI X cX11_lays .boolean z.1 z.2) (k : Int32 → Int32 → Int32 → Option (Int32 × St)) (hk : ∀ (v1 : Int32) (v2 : Int32) (v3 : Int32), k v1 v2 v3 = some z → At X 112 [(0, .ref (adOf X 0)), (1, .int v1), (2, .int v2), (3, .int v3)] [] q) (rec : Int32 → Int32 → Int32 → Int32 → Int32 → Option (Int32 × St)) (hrec : ∀ (v1 : Int32) (v2 : Int32) (v3 : Int32) (v4 : Int32) (v5 : Int32), rec v1 v2 v3 v4 v5 = some z → At X 21 [(0, .ref (adOf X 0)), (1, .int v1), (2, .int v2), (3, .int v3), (4, .int v4), (5, .int v5)] [] q) (v1 : Int32) (v2 : Int32) (v3 : Int32) (v4 : Int32) (v5 : Int32) (h : M_lays_B21 q k rec v1 v2 v3 v4 v5 = some z) : At X 21 [(0, .ref (adOf X 0)), (1, .int v1), (2, .int v2), (3, .int v3), (4, .int v4), (5, .int v5)] [] q := by
  unfold M_lays_B21 at h
  refine a_iload C 5 rfl dX11_lays_21 ?_
  refine a_aload_n C 0 rfl rfl dX11_lays_23 ?_
  refine gM_setup C S dX11_lays_24 ?_
  refine a_iconst (v := 0) C (by decide) dX11_lays_27 ?_
  obtain ⟨x3, e_x3, h⟩ := b1s h
  refine lM_setup C S e_x3 dX11_lays_28 ?_
  refine a_icmp_ge C 112 (by decide) dX11_lays_29 (fun c4 => ?_) (fun c4 => ?_)
  · replace h := ifp c4 h
    exact At.sub [0, 1, 2, 3] rfl (hk _ _ _ h)
  · replace h := ifn c4 h
    refine a_aload_n C 0 rfl rfl dX11_lays_32 ?_
    refine a_iload C 5 rfl dX11_lays_33 ?_
    obtain ⟨x5, e_x5, h⟩ := b1s h
    refine k_M_isIn C S e_x5 ⟨Nat.le_of_ble_eq_true rfl, Nat.le_of_ble_eq_true rfl⟩ (Nat.le_of_ble_eq_true rfl) dX11_lays_35 ?_
    refine a_if_eq C 51 (by decide) dX11_lays_38 (fun c6 => ?_) (fun c6 => ?_)
    · replace h := ifp c6 h
      refine a_bipush (v := -2) C (by decide) dX11_lays_51 ?_
      exact At.sub [0, 1, 2, 3, 4, 5] rfl (w_M_lays_J53 C S hret _ hk _ hrec _ _ _ _ _ _ h)
    · replace h := ifn c6 h
      refine a_aload_n C 0 rfl rfl dX11_lays_41 ?_
      refine a_iload C 5 rfl dX11_lays_42 ?_
      refine a_iload_n C 2 rfl rfl dX11_lays_44 ?_
      obtain ⟨x14, e_x14, h⟩ := b1s h
      refine k_M_onward C S e_x14 ⟨Nat.le_of_ble_eq_true rfl, Nat.le_of_ble_eq_true rfl⟩ (Nat.le_of_ble_eq_true rfl) dX11_lays_45 ?_
      refine a_goto C 53 (by decide) dX11_lays_48 ?_
      exact At.sub [0, 1, 2, 3, 4, 5] rfl (w_M_lays_J53 C S hret _ hk _ hrec _ _ _ _ _ _ h)
def M_lays_L21 (q : St) (k : Int32 → Int32 → Int32 → Option (Int32 × St)) : Nat → Int32 → Int32 → Int32 → Int32 → Int32 → Option (Int32 × St)
  | 0, _, _, _, _, _ => none
  | n + 1, v1, v2, v3, v4, v5 => M_lays_B21 q k (M_lays_L21 q k n) v1 v2 v3 v4 v5
theorem w_M_lays_L21 {X : Cv} (C : Cx X cX11_lays RX11 rmM_lays 7) (S : IsM X) (q : St) {z : Int32 × St} (hret : RokI X cX11_lays .boolean z.1 z.2) (k : Int32 → Int32 → Int32 → Option (Int32 × St)) (hk : ∀ (v1 : Int32) (v2 : Int32) (v3 : Int32), k v1 v2 v3 = some z → At X 112 [(0, .ref (adOf X 0)), (1, .int v1), (2, .int v2), (3, .int v3)] [] q) (n : Nat) : ∀ (v1 : Int32) (v2 : Int32) (v3 : Int32) (v4 : Int32) (v5 : Int32), M_lays_L21 q k n v1 v2 v3 v4 v5 = some z → At X 21 [(0, .ref (adOf X 0)), (1, .int v1), (2, .int v2), (3, .int v3), (4, .int v4), (5, .int v5)] [] q := by
  induction n with
  | zero => intro v1 v2 v3 v4 v5 h; cases h
  | succ n ih => intro v1 v2 v3 v4 v5 h; exact w_M_lays_B21 C S _ hret k hk _ ih v1 v2 v3 v4 v5 h
def M_lays_B133 (rec : Int32 → Int32 → Int32 → St → Option (Int32 × St)) (v1 : Int32) (v2 : Int32) (v5 : Int32) (q : St) : Option (Int32 × St) :=
  if v5 = v1 then
    some ((1 : Int32), q)
  else
    b1 (M_onward q v5 v2) fun x22 =>
    b1 (wr 17 q 13 (gt q 0 23) x22) fun q23 =>
    lt_ (st q23 0 23 ((gt q23 0 23) + (1 : Int32))) fun q24 =>
    rec v1 v2 x22 q24
theorem w_M_lays_B133 {X : Cv} (C : Cx X cX11_lays RX11 rmM_lays 7) (S : IsM X) {z : Int32 × St} (hret : RokI X cX11_lays .boolean z.1 z.2) (rec : Int32 → Int32 → Int32 → St → Option (Int32 × St)) (hrec : ∀ (v1 : Int32) (v2 : Int32) (v5 : Int32) (q : St), rec v1 v2 v5 q = some z → At X 133 [(0, .ref (adOf X 0)), (1, .int v1), (2, .int v2), (5, .int v5)] [] q) (v1 : Int32) (v2 : Int32) (v5 : Int32) (q : St) (h : M_lays_B133 rec v1 v2 v5 q = some z) : At X 133 [(0, .ref (adOf X 0)), (1, .int v1), (2, .int v2), (5, .int v5)] [] q := by
  unfold M_lays_B133 at h
  refine a_iload C 3 rfl dX11_lays_133 ?_
  refine a_iload_n C 1 rfl rfl dX11_lays_135 ?_
  refine a_icmp_eq C 172 (by decide) dX11_lays_136 (fun c21 => ?_) (fun c21 => ?_)
  · replace h := ifp c21 h
    refine a_iconst (v := 1) C (by decide) dX11_lays_172 ?_
    exact a_iret hret h rfl dX11_lays_173
  · replace h := ifn c21 h
    refine a_aload_n C 0 rfl rfl dX11_lays_139 ?_
    refine a_iload C 3 rfl dX11_lays_140 ?_
    refine a_iload_n C 2 rfl rfl dX11_lays_142 ?_
    obtain ⟨x22, e_x22, h⟩ := b1s h
    refine k_M_onward C S e_x22 ⟨Nat.le_of_ble_eq_true rfl, Nat.le_of_ble_eq_true rfl⟩ (Nat.le_of_ble_eq_true rfl) dX11_lays_143 ?_
    refine a_istore C [(5, .int x22), (0, .ref (adOf X 0)), (1, .int v1), (2, .int v2)] (by decide) rfl dX11_lays_146 ?_
    refine a_aload_n C 1 rfl rfl dX11_lays_148 ?_
    refine gM_path C S dX11_lays_149 ?_
    refine a_aload_n C 1 rfl rfl dX11_lays_152 ?_
    refine gM_pathMany C S dX11_lays_153 ?_
    refine a_iload C 0 rfl dX11_lays_156 ?_
    obtain ⟨q23, e_q23, h⟩ := b1s h
    refine sM_path C S e_q23 dX11_lays_158 ?_
    refine a_aload_n C 1 rfl rfl dX11_lays_159 ?_
    refine a_dup C rfl dX11_lays_160 ?_
    refine gM_pathMany C S dX11_lays_161 ?_
    refine a_iconst (v := 1) C (by decide) dX11_lays_164 ?_
    refine a_iadd C dX11_lays_165 ?_
    obtain ⟨q24, e_q24, h⟩ := lts h
    refine pM_pathMany C S e_q24 dX11_lays_166 ?_
    refine a_goto C 133 (by decide) dX11_lays_169 ?_
    exact At.sub [1, 2, 3, 0] rfl (hrec _ _ _ _ h)
def M_lays_L133 : Nat → Int32 → Int32 → Int32 → St → Option (Int32 × St)
  | 0, _, _, _, _ => none
  | n + 1, v1, v2, v5, q => M_lays_B133 (M_lays_L133 n) v1 v2 v5 q
theorem w_M_lays_L133 {X : Cv} (C : Cx X cX11_lays RX11 rmM_lays 7) (S : IsM X) {z : Int32 × St} (hret : RokI X cX11_lays .boolean z.1 z.2) (n : Nat) : ∀ (v1 : Int32) (v2 : Int32) (v5 : Int32) (q : St), M_lays_L133 n v1 v2 v5 q = some z → At X 133 [(0, .ref (adOf X 0)), (1, .int v1), (2, .int v2), (5, .int v5)] [] q := by
  induction n with
  | zero => intro v1 v2 v5 q h; cases h
  | succ n ih => intro v1 v2 v5 q h; exact w_M_lays_B133 C S hret _ ih v1 v2 v5 q h
def M_lays (q : St) (v1 : Int32) (v2 : Int32) : Option (Int32 × St) :=
  b1 (M_reaches q v1 v2) fun q1 =>
  lt_ (st q1 0 23 (0 : Int32)) fun q2 =>
  M_lays_L21 q2 (fun y15 y16 y17 =>
    if (0 : Int32) ≤ y17 then
      b1 (wr 17 q2 13 (0 : Int32) y17) fun q19 =>
      lt_ (st q19 0 23 (1 : Int32)) fun q20 =>
      M_lays_L133 FU y15 y16 y17 q20
    else
      some ((0 : Int32), q2)
    ) FU v1 v2 (-2 : Int32) (1000000000 : Int32) (0 : Int32)
theorem w_M_lays {X : Cv} (C : Cx X cX11_lays RX11 rmM_lays 7) (S : IsM X) {z : Int32 × St} (hret : RokI X cX11_lays .boolean z.1 z.2) (v1 : Int32) (v2 : Int32) (q : St) (h : M_lays q v1 v2 = some z) : At X 0 [(0, .ref (adOf X 0)), (1, .int v1), (2, .int v2)] [] q := by
  unfold M_lays at h
  refine a_aload_n C 0 rfl rfl dX11_lays_0 ?_
  refine a_iload_n C 1 rfl rfl dX11_lays_1 ?_
  refine a_iload_n C 2 rfl rfl dX11_lays_2 ?_
  obtain ⟨q1, e_q1, h⟩ := b1s h
  refine k_M_reaches C S e_q1 ⟨Nat.le_of_ble_eq_true rfl, Nat.le_of_ble_eq_true rfl⟩ (Nat.le_of_ble_eq_true rfl) dX11_lays_3 ?_
  refine a_aload_n C 0 rfl rfl dX11_lays_6 ?_
  refine a_iconst (v := 0) C (by decide) dX11_lays_7 ?_
  obtain ⟨q2, e_q2, h⟩ := lts h
  refine pM_pathMany C S e_q2 dX11_lays_8 ?_
  refine a_bipush (v := -2) C (by decide) dX11_lays_11 ?_
  refine a_istore_n C [(3, .int (-2 : Int32)), (0, .ref (adOf X 0)), (1, .int v1), (2, .int v2)] rfl (by decide) rfl dX11_lays_13 ?_
  refine a_ldc (v := 1000000000) C (tg 1458 (by decide +kernel) rfl) dX11_lays_14 ?_
  refine a_istore C [(4, .int (1000000000 : Int32)), (3, .int (-2 : Int32)), (0, .ref (adOf X 0)), (1, .int v1), (2, .int v2)] (by decide) rfl dX11_lays_16 ?_
  refine a_iconst (v := 0) C (by decide) dX11_lays_18 ?_
  refine a_istore C [(5, .int (0 : Int32)), (4, .int (1000000000 : Int32)), (3, .int (-2 : Int32)), (0, .ref (adOf X 0)), (1, .int v1), (2, .int v2)] (by decide) rfl dX11_lays_19 ?_
  refine At.sub [3, 4, 5, 2, 1, 0] rfl (w_M_lays_L21 C S _ hret _ ?_ _ _ _ _ _ _ h)
  intro y15 y16 y17 h
  refine a_iload_n C 3 rfl rfl dX11_lays_112 ?_
  refine a_if_ge C 118 (by decide) dX11_lays_113 (fun c18 => ?_) (fun c18 => ?_)
  · replace h := ifp c18 h
    refine a_aload_n C 0 rfl rfl dX11_lays_118 ?_
    refine gM_path C S dX11_lays_119 ?_
    refine a_iconst (v := 0) C (by decide) dX11_lays_122 ?_
    refine a_iload_n C 3 rfl rfl dX11_lays_123 ?_
    obtain ⟨q19, e_q19, h⟩ := b1s h
    refine sM_path C S e_q19 dX11_lays_124 ?_
    refine a_aload_n C 0 rfl rfl dX11_lays_125 ?_
    refine a_iconst (v := 1) C (by decide) dX11_lays_126 ?_
    obtain ⟨q20, e_q20, h⟩ := lts h
    refine pM_pathMany C S e_q20 dX11_lays_127 ?_
    refine a_iload_n C 3 rfl rfl dX11_lays_130 ?_
    refine a_istore C [(5, .int y17), (0, .ref (adOf X 0)), (1, .int y15), (2, .int y16), (3, .int y17)] (by decide) rfl dX11_lays_131 ?_
    exact At.sub [1, 2, 3, 0] rfl (w_M_lays_L133 C S hret _ _ _ _ _ h)
  · replace h := ifn c18 h
    refine a_iconst (v := 0) C (by decide) dX11_lays_116 ?_
    exact a_iret hret h rfl dX11_lays_117
theorem c_M_lays {l : Launch} {D : va_G} {I : ClassId × ClassId × ClassId × ClassId} {ad : Nat → Nat} {q : St} {v1 : Int32} {v2 : Int32} {z : Int32 × St} (h : M_lays q v1 v2 = some z) : Ctr l D I zT 18 (shM I) ad yX11_lays cX11_lays 7 (some .boolean) rmM_lays [.ref (ad 0), .int v1, .int v2] q (some z.1) z.2 :=
  ctr_ofI (by decide) (Nat.le_of_ble_eq_true rfl) (fun p e s m args below meth c Q H0 X hX C hret => by subst hX; exact w_M_lays C ⟨rfl, rfl, rfl⟩ hret _ _ _ h)
theorem g_M_lays : GoodIn lw_tg (wsV RX11 241 RX11 yX11_lays (Cond.code yX11_lays cX11_lays 7 (some .boolean) :: lw_tg)) := gd_V (tg 1450 (by decide +kernel) rfl) (tg 1452 (by decide +kernel) rfl) (tg 73 (by decide +kernel) rfl) (tg 128 (by decide +kernel) rfl) (tg 1453 (by decide +kernel) rfl)
theorem k_M_lays {X : Cv} {cc : ByteArray} {rm : Room} {nL1 pc : Nat} {lv : List (Nat × Value)} {sk : List Value} {q : St} {v1 : Int32} {v2 : Int32} {z : Int32} {q2 : St} (C : Cx X cc RX11 rm nL1) (S : IsM X) (h : M_lays q v1 v2 = some (z, q2)) (hz : rmM_lays.frames + 1 ≤ rm.frames ∧ 8 + (7 + 11) + rmM_lays.locals ≤ rm.locals) (hr : (sk.map fun v => v.category).sum ≤ 8) (hd : decode cc pc = .ok (.invokevirtual 241, 3)) (k : At X (pc + 3) lv (.int z :: sk) q2) : At X pc lv (.int v2 :: .int v1 :: .ref (adOf X 0) :: sk) q := a_callVi (as := [.int v1, .int v2]) C (kp := 0) (by rw [S.1]; decide) (by rw [S.2.1]; rfl) rfl (by have hh := c_M_lays (l := X.2.1) (D := dOf X) (I := idOf X) (ad := adOf X) h; rw [← S.1, ← S.2.1, ← S.2.2] at hh; exact hh) g_M_lays ⟨rfl, rfl, hz.1, hz.2⟩ ⟨by decide, by decide, by show Option.map _ (parseMethodDescriptor yX11_lays.desc) = some 2; decide⟩ hr rfl hd k
