abbrev rm_Gr_spread : Room := { frames := 1, cells := 0, slots := 0, locals := 23 }
def Gr_spread_B4 (rec : Int32 → Int32 → St → Option (Int32 × St)) (v1 : Int32) (v2 : Int32) (q : St) : Option (Int32 × St) :=
  if (gt q 1 1) ≤ v2 then
    bz v1 <|
    some (v1, q)
  else
    b1 (rd 32 q 162 v2) fun x3 =>
    if (16777216 : Int32) ≤ x3 then
      rec v1 (v2 + 1) q
    else
      b1 (rd 32 q 2 v2) fun x5 =>
      b1 (rd 32 q 3 v2) fun x6 =>
      b1 (rd 32 q 162 v2) fun x7 =>
      b2 (Gr_shorten q x5 x6 x7) fun x8 q9 =>
      lt_ (v1 ||| x8) fun w10 =>
      b1 (rd 32 q9 162 v2) fun x11 =>
      b2 (Gr_shorten q9 x6 x5 x11) fun x12 q13 =>
      lt_ (w10 ||| x12) fun w14 =>
      rec w14 (v2 + 1) q13
theorem w_Gr_spread_B4 {X : Cv} (C : Cx X cX1_spread RX1 rm_Gr_spread 5) (S : IsK X) {z : Int32 × St} (hret : RokI X cX1_spread .boolean z.1 z.2) (rec : Int32 → Int32 → St → Option (Int32 × St)) (hrec : ∀ (v1 : Int32) (v2 : Int32) (q : St), rec v1 v2 q = some z → At X 4 [(0, .ref (adOf X 161)), (1, .int v1), (2, .int v2)] [] q) (v1 : Int32) (v2 : Int32) (q : St) (h : Gr_spread_B4 rec v1 v2 q = some z) : At X 4 [(0, .ref (adOf X 161)), (1, .int v1), (2, .int v2)] [] q := by
  unfold Gr_spread_B4 at h
  refine a_iload_n C 2 rfl rfl dX1_spread_4 ?_
  refine a_aload_n C 0 rfl rfl dX1_spread_5 ?_
  refine gK_1_21 C S dX1_spread_6 ?_
  refine gK_1_60 C S (Or.inl rfl) dX1_spread_9 ?_
  refine a_icmp_ge C 85 (by decide) dX1_spread_12 (fun c1 => ?_) (fun c1 => ?_)
  · replace h := ifp c1 h
    refine a_iload_n C 1 rfl rfl dX1_spread_85 ?_
    obtain ⟨n2, h⟩ := bzs h
    exact a_iret hret h n2 dX1_spread_86
  · replace h := ifn c1 h
    refine a_aload_n C 0 rfl rfl dX1_spread_15 ?_
    refine gK_1_9 C S dX1_spread_16 ?_
    refine a_iload_n C 2 rfl rfl dX1_spread_19 ?_
    obtain ⟨x3, e_x3, h⟩ := b1s h
    refine lK_162 C S e_x3 dX1_spread_20 ?_
    refine a_ldc (v := 16777216) C (tg 802 (by decide +kernel) rfl) dX1_spread_21 ?_
    refine a_icmp_ge C 79 (by decide) dX1_spread_23 (fun c4 => ?_) (fun c4 => ?_)
    · replace h := ifp c4 h
      refine a_iinc (v := (v2 + 1)) C [(2, .int (v2 + 1)), (0, .ref (adOf X 161)), (1, .int v1)] 2 rfl (congrArg (HAdd.hAdd v2) (by decide : Int32.ofInt (1) = (1 : Int32))) (by decide) rfl dX1_spread_79 ?_
      refine a_goto C 4 (by decide) dX1_spread_82 ?_
      exact At.sub [1, 2, 0] rfl (hrec _ _ _ h)
    · replace h := ifn c4 h
      refine a_aload_n C 0 rfl rfl dX1_spread_26 ?_
      refine gK_1_21 C S dX1_spread_27 ?_
      refine gK_1_77 C S (Or.inl rfl) dX1_spread_30 ?_
      refine a_iload_n C 2 rfl rfl dX1_spread_33 ?_
      obtain ⟨x5, e_x5, h⟩ := b1s h
      refine lK_u1 (o := 1) C S (Or.inl rfl) e_x5 dX1_spread_34 ?_
      refine a_istore_n C [(3, .int x5), (0, .ref (adOf X 161)), (1, .int v1), (2, .int v2)] rfl (by decide) rfl dX1_spread_35 ?_
      refine a_aload_n C 1 rfl rfl dX1_spread_36 ?_
      refine gK_1_21 C S dX1_spread_37 ?_
      refine gK_1_80 C S (Or.inl rfl) dX1_spread_40 ?_
      refine a_iload_n C 3 rfl rfl dX1_spread_43 ?_
      obtain ⟨x6, e_x6, h⟩ := b1s h
      refine lK_u2 (o := 1) C S (Or.inl rfl) e_x6 dX1_spread_44 ?_
      refine a_istore C [(4, .int x6), (3, .int x5), (0, .ref (adOf X 161)), (1, .int v1), (2, .int v2)] (by decide) rfl dX1_spread_45 ?_
      refine a_iload_n C 3 rfl rfl dX1_spread_47 ?_
      refine a_aload_n C 2 rfl rfl dX1_spread_48 ?_
      refine a_iload_n C 1 rfl rfl dX1_spread_49 ?_
      refine a_iload C 0 rfl dX1_spread_50 ?_
      refine a_aload_n C 2 rfl rfl dX1_spread_52 ?_
      refine gK_1_9 C S dX1_spread_53 ?_
      refine a_iload_n C 4 rfl rfl dX1_spread_56 ?_
      obtain ⟨x7, e_x7, h⟩ := b1s h
      refine lK_162 C S e_x7 dX1_spread_57 ?_
      obtain ⟨x8, q9, e_q9, h⟩ := b2s h
      refine kK_1_83 C S e_q9 ⟨(Nat.le_of_ble_eq_true rfl), (Nat.le_of_ble_eq_true rfl)⟩ (Nat.le_of_ble_eq_true rfl) dX1_spread_58 ?_
      refine a_ior C dX1_spread_61 ?_
      obtain ⟨w10, e_w10, h⟩ := lts h
      refine a_top e_w10 ?_
      refine a_istore_n C [(1, .int w10), (4, .int x6), (3, .int x5), (0, .ref (adOf X 161)), (2, .int v2)] rfl (by decide) rfl dX1_spread_62 ?_
      refine a_iload_n C 0 rfl rfl dX1_spread_63 ?_
      refine a_aload_n C 3 rfl rfl dX1_spread_64 ?_
      refine a_iload C 1 rfl dX1_spread_65 ?_
      refine a_iload_n C 2 rfl rfl dX1_spread_67 ?_
      refine a_aload_n C 3 rfl rfl dX1_spread_68 ?_
      refine gK_1_9 C S dX1_spread_69 ?_
      refine a_iload_n C 4 rfl rfl dX1_spread_72 ?_
      obtain ⟨x11, e_x11, h⟩ := b1s h
      refine lK_162 C S e_x11 dX1_spread_73 ?_
      obtain ⟨x12, q13, e_q13, h⟩ := b2s h
      refine kK_1_83 C S e_q13 ⟨(Nat.le_of_ble_eq_true rfl), (Nat.le_of_ble_eq_true rfl)⟩ (Nat.le_of_ble_eq_true rfl) dX1_spread_74 ?_
      refine a_ior C dX1_spread_77 ?_
      obtain ⟨w14, e_w14, h⟩ := lts h
      refine a_top e_w14 ?_
      refine a_istore_n C [(1, .int w14), (4, .int x6), (3, .int x5), (0, .ref (adOf X 161)), (2, .int v2)] rfl (by decide) rfl dX1_spread_78 ?_
      refine a_iinc (v := (v2 + 1)) C [(2, .int (v2 + 1)), (1, .int w14), (4, .int x6), (3, .int x5), (0, .ref (adOf X 161))] 4 rfl (congrArg (HAdd.hAdd v2) (by decide : Int32.ofInt (1) = (1 : Int32))) (by decide) rfl dX1_spread_79 ?_
      refine a_goto C 4 (by decide) dX1_spread_82 ?_
      exact At.sub [4, 1, 0] rfl (hrec _ _ _ h)
def Gr_spread_L4 : Nat → Int32 → Int32 → St → Option (Int32 × St)
  | 0, _, _, _ => none
  | n + 1, v1, v2, q => Gr_spread_B4 (Gr_spread_L4 n) v1 v2 q
theorem w_Gr_spread_L4 {X : Cv} (C : Cx X cX1_spread RX1 rm_Gr_spread 5) (S : IsK X) {z : Int32 × St} (hret : RokI X cX1_spread .boolean z.1 z.2) (n : Nat) : ∀ (v1 : Int32) (v2 : Int32) (q : St), Gr_spread_L4 n v1 v2 q = some z → At X 4 [(0, .ref (adOf X 161)), (1, .int v1), (2, .int v2)] [] q := by
  induction n with
  | zero => intro v1 v2 q h; cases h
  | succ n ih => intro v1 v2 q h; exact w_Gr_spread_B4 C S hret _ ih v1 v2 q h
def Gr_spread (q : St) : Option (Int32 × St) :=
  Gr_spread_L4 FU (0 : Int32) (0 : Int32) q
theorem w_Gr_spread {X : Cv} (C : Cx X cX1_spread RX1 rm_Gr_spread 5) (S : IsK X) {z : Int32 × St} (hret : RokI X cX1_spread .boolean z.1 z.2) (q : St) (h : Gr_spread q = some z) : At X 0 [(0, .ref (adOf X 161))] [] q := by
  unfold Gr_spread at h
  refine a_iconst (v := 0) C (by decide) dX1_spread_0 ?_
  refine a_istore_n C [(1, .int (0 : Int32)), (0, .ref (adOf X 161))] rfl (by decide) rfl dX1_spread_1 ?_
  refine a_iconst (v := 0) C (by decide) dX1_spread_2 ?_
  refine a_istore_n C [(2, .int (0 : Int32)), (1, .int (0 : Int32)), (0, .ref (adOf X 161))] rfl (by decide) rfl dX1_spread_3 ?_
  exact At.sub [2, 1, 0] rfl (w_Gr_spread_L4 C S hret _ _ _ _ h)
theorem c_Gr_spread {l : Launch} {D : va_G} {I : ClassId × ClassId × ClassId × ClassId} {ad : Nat → Nat} {q : St} {z : Int32 × St} (h : Gr_spread q = some z) : Ctr l D I (zK ad) 168 (shK I) ad yX1_spread cX1_spread 5 (some .boolean) rm_Gr_spread [.ref (ad 161)] q (some z.1) z.2 :=
  ctr_ofI (by decide) (Nat.le_of_ble_eq_true rfl) (fun p e s m args below meth c Q H0 X hX C hret => by subst hX; exact w_Gr_spread C ⟨rfl, rfl, rfl⟩ hret _ h)
theorem kK_1_44 {X : Cv} {cc : ByteArray} {rm : Room} {nL1 pc : Nat} {lv : List (Nat × Value)} {sk : List Value} {q : St} {z : Int32} {q2 : St} (C : Cx X cc RX1 rm nL1) (S : IsK X) (h : Gr_spread q = some (z, q2)) (hz : rm_Gr_spread.frames + 1 ≤ rm.frames ∧ 8 + (5 + 11) + rm_Gr_spread.locals ≤ rm.locals) (hr : (sk.map fun v => v.category).sum ≤ 8) (hd : decode cc pc = .ok (.invokevirtual 44, 3)) (k : At X (pc + 3) lv (.int z :: sk) q2) : At X pc lv (.ref (adOf X 161) :: sk) q := a_callVi (as := []) C (kp := 161) (kLt S (by decide)) (by rw [S.2.1]; rfl) rfl (by have hh := c_Gr_spread (l := X.2.1) (D := dOf X) (I := idOf X) (ad := adOf X) h; rw [← S.1, ← S.2.1, ← S.2.2] at hh; exact hh) (gd_V (tg 804 (by decide +kernel) rfl) (tg 806 (by decide +kernel) rfl) (tg 21 (by decide +kernel) rfl) (tg 123 (by decide +kernel) rfl) (tg 807 (by decide +kernel) rfl)) ⟨rfl, rfl, hz.1, hz.2⟩ ⟨by decide, by decide, by show Option.map _ (parseMethodDescriptor yX1_spread.desc) = some 0; decide⟩ hr rfl hd k
abbrev rm_Sp_delayTo : Room := { frames := 0, cells := 0, slots := 0, locals := 0 }
def Sp_delayTo_J54 (rec : Int32 → Int32 → Int32 → Option (Int32)) (v2 : Int32) (v4 : Int32) (v5 : Int32) (z0 : Int32) (q : St) : Option (Int32) :=
  if z0 = (-1 : Int32) then
    lt_ (v2 + (0 : Int32)) fun w9 =>
    rec w9 v5 (v4 + 1)
  else
    b1 (rd 32 q 5 z0) fun x7 =>
    lt_ (v2 + x7) fun w8 =>
    rec w8 v5 (v4 + 1)
theorem w_Sp_delayTo_J54 {X : Cv} (C : Cx X cX6_delayTo RX6 rm_Sp_delayTo 7) (S : IsK X) {q : St} {z : Int32} (hret : RokI X cX6_delayTo .int z q) (rec : Int32 → Int32 → Int32 → Option (Int32)) (hrec : ∀ (v2 : Int32) (v3 : Int32) (v4 : Int32), rec v2 v3 v4 = some z → At X 7 [(0, .ref (adOf X 156)), (2, .int v2), (3, .int v3), (4, .int v4)] [] q) (v2 : Int32) (v4 : Int32) (v5 : Int32) (z0 : Int32) (h : Sp_delayTo_J54 rec v2 v4 v5 z0 q = some z) : At X 54 [(0, .ref (adOf X 156)), (2, .int v2), (4, .int v4), (5, .int v5)] [.int z0] q := by
  unfold Sp_delayTo_J54 at h
  refine a_istore C [(6, .int z0), (0, .ref (adOf X 156)), (2, .int v2), (4, .int v4), (5, .int v5)] (by decide) rfl dX6_delayTo_54 ?_
  refine a_iload_n C 2 rfl rfl dX6_delayTo_56 ?_
  refine a_iload C 0 rfl dX6_delayTo_57 ?_
  refine a_iconst (v := -1) C (by decide) dX6_delayTo_59 ?_
  refine a_icmp_ne C 67 (by decide) dX6_delayTo_60 (fun c6 => ?_) (fun c6 => ?_)
  · replace h := ifn c6 h
    refine a_aload_n C 1 rfl rfl dX6_delayTo_67 ?_
    refine gK_6_9 C S dX6_delayTo_68 ?_
    refine gK_6_30 C S (Or.inl rfl) dX6_delayTo_71 ?_
    refine a_iload C 0 rfl dX6_delayTo_74 ?_
    obtain ⟨x7, e_x7, h⟩ := b1s h
    refine lK_u4 (o := 1) C S (Or.inl rfl) e_x7 dX6_delayTo_76 ?_
    refine a_iadd C dX6_delayTo_77 ?_
    obtain ⟨w8, e_w8, h⟩ := lts h
    refine a_top e_w8 ?_
    refine a_istore_n C [(2, .int w8), (6, .int z0), (0, .ref (adOf X 156)), (4, .int v4), (5, .int v5)] rfl (by decide) rfl dX6_delayTo_78 ?_
    refine a_iload C 4 rfl dX6_delayTo_79 ?_
    refine a_istore_n C [(3, .int v5), (2, .int w8), (6, .int z0), (0, .ref (adOf X 156)), (4, .int v4), (5, .int v5)] rfl (by decide) rfl dX6_delayTo_81 ?_
    refine a_iinc (v := (v4 + 1)) C [(4, .int (v4 + 1)), (3, .int v5), (2, .int w8), (6, .int z0), (0, .ref (adOf X 156)), (5, .int v5)] 4 rfl (congrArg (HAdd.hAdd v4) (by decide : Int32.ofInt (1) = (1 : Int32))) (by decide) rfl dX6_delayTo_82 ?_
    refine a_goto C 7 (by decide) dX6_delayTo_85 ?_
    exact At.sub [4, 2, 1, 0] rfl (hrec _ _ _ h)
  · replace h := ifp c6 h
    refine a_iconst (v := 0) C (by decide) dX6_delayTo_63 ?_
    refine a_goto C 77 (by decide) dX6_delayTo_64 ?_
    refine a_iadd C dX6_delayTo_77 ?_
    obtain ⟨w9, e_w9, h⟩ := lts h
    refine a_top e_w9 ?_
    refine a_istore_n C [(2, .int w9), (6, .int z0), (0, .ref (adOf X 156)), (4, .int v4), (5, .int v5)] rfl (by decide) rfl dX6_delayTo_78 ?_
    refine a_iload C 4 rfl dX6_delayTo_79 ?_
    refine a_istore_n C [(3, .int v5), (2, .int w9), (6, .int z0), (0, .ref (adOf X 156)), (4, .int v4), (5, .int v5)] rfl (by decide) rfl dX6_delayTo_81 ?_
    refine a_iinc (v := (v4 + 1)) C [(4, .int (v4 + 1)), (3, .int v5), (2, .int w9), (6, .int z0), (0, .ref (adOf X 156)), (5, .int v5)] 4 rfl (congrArg (HAdd.hAdd v4) (by decide : Int32.ofInt (1) = (1 : Int32))) (by decide) rfl dX6_delayTo_82 ?_
    refine a_goto C 7 (by decide) dX6_delayTo_85 ?_
    exact At.sub [4, 2, 1, 0] rfl (hrec _ _ _ h)
def Sp_delayTo_B7 (q : St) (rec : Int32 → Int32 → Int32 → Option (Int32)) (v2 : Int32) (v3 : Int32) (v4 : Int32) : Option (Int32) :=
  if (16 : Int32) ≤ v4 then
    some v2
  else
    if v3 ≤ (0 : Int32) then
      some v2
    else
      b1 (rd 16 q 29 v3) fun x3 =>
      if x3 = (-1 : Int32) then
        Sp_delayTo_J54 rec v2 v4 x3 (-1 : Int32) q
      else
        b1 (rd 256 q 6 ((x3 * (16 : Int32)) + v3)) fun x5 =>
        Sp_delayTo_J54 rec v2 v4 x3 x5 q
theorem w_Sp_delayTo_B7 {X : Cv} (C : Cx X cX6_delayTo RX6 rm_Sp_delayTo 7) (S : IsK X) (q : St) {z : Int32} (hret : RokI X cX6_delayTo .int z q) (rec : Int32 → Int32 → Int32 → Option (Int32)) (hrec : ∀ (v2 : Int32) (v3 : Int32) (v4 : Int32), rec v2 v3 v4 = some z → At X 7 [(0, .ref (adOf X 156)), (2, .int v2), (3, .int v3), (4, .int v4)] [] q) (v2 : Int32) (v3 : Int32) (v4 : Int32) (h : Sp_delayTo_B7 q rec v2 v3 v4 = some z) : At X 7 [(0, .ref (adOf X 156)), (2, .int v2), (3, .int v3), (4, .int v4)] [] q := by
  unfold Sp_delayTo_B7 at h
  refine a_iload C 3 rfl dX6_delayTo_7 ?_
  refine a_bipush (v := 16) C (by decide) dX6_delayTo_9 ?_
  refine a_icmp_ge C 88 (by decide) dX6_delayTo_11 (fun c1 => ?_) (fun c1 => ?_)
  · replace h := ifp c1 h
    refine a_iload_n C 1 rfl rfl dX6_delayTo_88 ?_
    exact a_iretR hret h rfl dX6_delayTo_89
  · replace h := ifn c1 h
    refine a_iload_n C 2 rfl rfl dX6_delayTo_14 ?_
    refine a_if_le C 88 (by decide) dX6_delayTo_15 (fun c2 => ?_) (fun c2 => ?_)
    · replace h := ifp c2 h
      refine a_iload_n C 1 rfl rfl dX6_delayTo_88 ?_
      exact a_iretR hret h rfl dX6_delayTo_89
    · replace h := ifn c2 h
      refine a_aload_n C 0 rfl rfl dX6_delayTo_18 ?_
      refine gK_6_15 C S dX6_delayTo_19 ?_
      refine gK_6_19 C S (Or.inl rfl) dX6_delayTo_22 ?_
      refine a_iload_n C 2 rfl rfl dX6_delayTo_25 ?_
      obtain ⟨x3, e_x3, h⟩ := b1s h
      refine lK_s10 (o := 19) C S (Or.inl rfl) e_x3 dX6_delayTo_26 ?_
      refine a_istore C [(5, .int x3), (0, .ref (adOf X 156)), (2, .int v2), (3, .int v3), (4, .int v4)] (by decide) rfl dX6_delayTo_27 ?_
      refine a_iload C 0 rfl dX6_delayTo_29 ?_
      refine a_iconst (v := -1) C (by decide) dX6_delayTo_31 ?_
      refine a_icmp_ne C 39 (by decide) dX6_delayTo_32 (fun c4 => ?_) (fun c4 => ?_)
      · replace h := ifn c4 h
        refine a_aload_n C 1 rfl rfl dX6_delayTo_39 ?_
        refine gK_6_9 C S dX6_delayTo_40 ?_
        refine gK_6_25 C S (Or.inl rfl) dX6_delayTo_43 ?_
        refine a_iload C 0 rfl dX6_delayTo_46 ?_
        refine a_bipush (v := 16) C (by decide) dX6_delayTo_48 ?_
        refine a_imul C dX6_delayTo_50 ?_
        refine a_iload_n C 3 rfl rfl dX6_delayTo_51 ?_
        refine a_iadd C dX6_delayTo_52 ?_
        obtain ⟨x5, e_x5, h⟩ := b1s h
        refine lK_u5 (o := 1) C S (Or.inl rfl) e_x5 dX6_delayTo_53 ?_
        exact At.sub [1, 2, 4, 0] rfl (w_Sp_delayTo_J54 C S hret _ hrec _ _ _ _ h)
      · replace h := ifp c4 h
        refine a_iconst (v := -1) C (by decide) dX6_delayTo_35 ?_
        refine a_goto C 54 (by decide) dX6_delayTo_36 ?_
        exact At.sub [1, 2, 4, 0] rfl (w_Sp_delayTo_J54 C S hret _ hrec _ _ _ _ h)
def Sp_delayTo_L7 (q : St) : Nat → Int32 → Int32 → Int32 → Option (Int32)
  | 0, _, _, _ => none
  | n + 1, v2, v3, v4 => Sp_delayTo_B7 q (Sp_delayTo_L7 q n) v2 v3 v4
theorem w_Sp_delayTo_L7 {X : Cv} (C : Cx X cX6_delayTo RX6 rm_Sp_delayTo 7) (S : IsK X) (q : St) {z : Int32} (hret : RokI X cX6_delayTo .int z q) (n : Nat) : ∀ (v2 : Int32) (v3 : Int32) (v4 : Int32), Sp_delayTo_L7 q n v2 v3 v4 = some z → At X 7 [(0, .ref (adOf X 156)), (2, .int v2), (3, .int v3), (4, .int v4)] [] q := by
  induction n with
  | zero => intro v2 v3 v4 h; cases h
  | succ n ih => intro v2 v3 v4 h; exact w_Sp_delayTo_B7 C S _ hret _ ih v2 v3 v4 h
def Sp_delayTo (q : St) (v1 : Int32) : Option (Int32) :=
  Sp_delayTo_L7 q FU (0 : Int32) v1 (0 : Int32)
theorem w_Sp_delayTo {X : Cv} (C : Cx X cX6_delayTo RX6 rm_Sp_delayTo 7) (S : IsK X) {q : St} {z : Int32} (hret : RokI X cX6_delayTo .int z q) (v1 : Int32) (h : Sp_delayTo q v1 = some z) : At X 0 [(0, .ref (adOf X 156)), (1, .int v1)] [] q := by
  unfold Sp_delayTo at h
  refine a_iconst (v := 0) C (by decide) dX6_delayTo_0 ?_
  refine a_istore_n C [(2, .int (0 : Int32)), (0, .ref (adOf X 156)), (1, .int v1)] rfl (by decide) rfl dX6_delayTo_1 ?_
  refine a_iload_n C 2 rfl rfl dX6_delayTo_2 ?_
  refine a_istore_n C [(3, .int v1), (2, .int (0 : Int32)), (0, .ref (adOf X 156)), (1, .int v1)] rfl (by decide) rfl dX6_delayTo_3 ?_
  refine a_iconst (v := 0) C (by decide) dX6_delayTo_4 ?_
  refine a_istore C [(4, .int (0 : Int32)), (3, .int v1), (2, .int (0 : Int32)), (0, .ref (adOf X 156)), (1, .int v1)] (by decide) rfl dX6_delayTo_5 ?_
  exact At.sub [3, 2, 1, 0] rfl (w_Sp_delayTo_L7 C S _ hret _ _ _ _ h)
theorem c_Sp_delayTo {l : Launch} {D : va_G} {I : ClassId × ClassId × ClassId × ClassId} {ad : Nat → Nat} {q : St} {v1 : Int32} {z : Int32} (h : Sp_delayTo q v1 = some z) : Ctr l D I (zK ad) 168 (shK I) ad yX6_delayTo cX6_delayTo 7 (some .int) rm_Sp_delayTo [.ref (ad 156), .int v1] q (some z) q :=
  ctr_ofI (by decide) (Nat.le_of_ble_eq_true rfl) (fun p e s m args below meth c Q H0 X hX C hret => by subst hX; exact w_Sp_delayTo C ⟨rfl, rfl, rfl⟩ hret _ h)
theorem kK_1_93 {X : Cv} {cc : ByteArray} {rm : Room} {nL1 pc : Nat} {lv : List (Nat × Value)} {sk : List Value} {q : St} {v1 : Int32} {z : Int32} (C : Cx X cc RX1 rm nL1) (S : IsK X) (h : Sp_delayTo q v1 = some z) (hz : rm_Sp_delayTo.frames + 1 ≤ rm.frames ∧ 8 + (7 + 11) + rm_Sp_delayTo.locals ≤ rm.locals) (hr : (sk.map fun v => v.category).sum ≤ 8) (hd : decode cc pc = .ok (.invokevirtual 93, 3)) (k : At X (pc + 3) lv (.int z :: sk) q) : At X pc lv (.int v1 :: .ref (adOf X 156) :: sk) q := a_callVi (as := [.int v1]) C (kp := 156) (kLt S (by decide)) (by rw [S.2.1]; rfl) rfl (by have hh := c_Sp_delayTo (l := X.2.1) (D := dOf X) (I := idOf X) (ad := adOf X) h; rw [← S.1, ← S.2.1, ← S.2.2] at hh; exact hh) (gd_V (tg 816 (by decide +kernel) rfl) (tg 817 (by decide +kernel) rfl) (tg 818 (by decide +kernel) rfl) (tg 121 (by decide +kernel) rfl) (tg 819 (by decide +kernel) rfl)) ⟨rfl, rfl, hz.1, hz.2⟩ ⟨by decide, by decide, by show Option.map _ (parseMethodDescriptor yX6_delayTo.desc) = some 1; decide⟩ hr rfl hd k
theorem kK_10_267 {X : Cv} {cc : ByteArray} {rm : Room} {nL1 pc : Nat} {lv : List (Nat × Value)} {sk : List Value} {q : St} {v1 : Int32} {z : Int32} (C : Cx X cc RX10 rm nL1) (S : IsK X) (h : Sp_delayTo q v1 = some z) (hz : rm_Sp_delayTo.frames + 1 ≤ rm.frames ∧ 8 + (7 + 11) + rm_Sp_delayTo.locals ≤ rm.locals) (hr : (sk.map fun v => v.category).sum ≤ 8) (hd : decode cc pc = .ok (.invokevirtual 267, 3)) (k : At X (pc + 3) lv (.int z :: sk) q) : At X pc lv (.int v1 :: .ref (adOf X 156) :: sk) q := a_callVi (as := [.int v1]) C (kp := 156) (kLt S (by decide)) (by rw [S.2.1]; rfl) rfl (by have hh := c_Sp_delayTo (l := X.2.1) (D := dOf X) (I := idOf X) (ad := adOf X) h; rw [← S.1, ← S.2.1, ← S.2.2] at hh; exact hh) (gd_V (tg 1086 (by decide +kernel) rfl) (tg 817 (by decide +kernel) rfl) (tg 818 (by decide +kernel) rfl) (tg 121 (by decide +kernel) rfl) (tg 819 (by decide +kernel) rfl)) ⟨rfl, rfl, hz.1, hz.2⟩ ⟨by decide, by decide, by show Option.map _ (parseMethodDescriptor yX6_delayTo.desc) = some 1; decide⟩ hr rfl hd k
theorem kK_6_37 {X : Cv} {cc : ByteArray} {rm : Room} {nL1 pc : Nat} {lv : List (Nat × Value)} {sk : List Value} {q : St} {v1 : Int32} {z : Int32} (C : Cx X cc RX6 rm nL1) (S : IsK X) (h : Sp_delayTo q v1 = some z) (hz : rm_Sp_delayTo.frames + 1 ≤ rm.frames ∧ 8 + (7 + 11) + rm_Sp_delayTo.locals ≤ rm.locals) (hr : (sk.map fun v => v.category).sum ≤ 8) (hd : decode cc pc = .ok (.invokevirtual 37, 3)) (k : At X (pc + 3) lv (.int z :: sk) q) : At X pc lv (.int v1 :: .ref (adOf X 156) :: sk) q := a_callVi (as := [.int v1]) C (kp := 156) (kLt S (by decide)) (by rw [S.2.1]; rfl) rfl (by have hh := c_Sp_delayTo (l := X.2.1) (D := dOf X) (I := idOf X) (ad := adOf X) h; rw [← S.1, ← S.2.1, ← S.2.2] at hh; exact hh) (gd_V (tg 1130 (by decide +kernel) rfl) (tg 817 (by decide +kernel) rfl) (tg 818 (by decide +kernel) rfl) (tg 121 (by decide +kernel) rfl) (tg 819 (by decide +kernel) rfl)) ⟨rfl, rfl, hz.1, hz.2⟩ ⟨by decide, by decide, by show Option.map _ (parseMethodDescriptor yX6_delayTo.desc) = some 1; decide⟩ hr rfl hd k
abbrev rm_Gr_firstNode : Room := { frames := 1, cells := 0, slots := 0, locals := 26 }
def Gr_firstNode_B7 (q : St) (rec : Int32 → Int32 → Int32 → Option (Int32)) (v1 : Int32) (v2 : Int32) (v3 : Int32) : Option (Int32) :=
  if (gt q 1 0) ≤ v3 then
    some v1
  else
    b1 (rd 16 q 28 v3) fun x2 =>
    if x2 = (0 : Int32) then
      rec v1 v2 (v3 + 1)
    else
      b1 (rd 16 q 163 v3) fun x4 =>
      if (16777216 : Int32) ≤ x4 then
        rec v1 v2 (v3 + 1)
      else
        b1 (Sp_delayTo q v3) fun x6 =>
        b1 (rd 16 q 163 v3) fun x7 =>
        lt_ ((x6 * (64 : Int32)) + x7) fun w8 =>
        if v2 ≤ w8 then
          rec v1 v2 (v3 + 1)
        else
          rec v3 w8 (v3 + 1)
theorem w_Gr_firstNode_B7 {X : Cv} (C : Cx X cX1_firstNode RX1 rm_Gr_firstNode 5) (S : IsK X) (q : St) {z : Int32} (hret : RokI X cX1_firstNode .int z q) (rec : Int32 → Int32 → Int32 → Option (Int32)) (hrec : ∀ (v1 : Int32) (v2 : Int32) (v3 : Int32), rec v1 v2 v3 = some z → At X 7 [(0, .ref (adOf X 161)), (1, .int v1), (2, .int v2), (3, .int v3)] [] q) (v1 : Int32) (v2 : Int32) (v3 : Int32) (h : Gr_firstNode_B7 q rec v1 v2 v3 = some z) : At X 7 [(0, .ref (adOf X 161)), (1, .int v1), (2, .int v2), (3, .int v3)] [] q := by
  unfold Gr_firstNode_B7 at h
  refine a_iload_n C 3 rfl rfl dX1_firstNode_7 ?_
  refine a_aload_n C 0 rfl rfl dX1_firstNode_8 ?_
  refine gK_1_21 C S dX1_firstNode_9 ?_
  refine gK_1_90 C S (Or.inl rfl) dX1_firstNode_12 ?_
  refine a_icmp_ge C 78 (by decide) dX1_firstNode_15 (fun c1 => ?_) (fun c1 => ?_)
  · replace h := ifp c1 h
    refine a_iload_n C 1 rfl rfl dX1_firstNode_78 ?_
    exact a_iretR hret h rfl dX1_firstNode_79
  · replace h := ifn c1 h
    refine a_aload_n C 0 rfl rfl dX1_firstNode_18 ?_
    refine gK_1_25 C S dX1_firstNode_19 ?_
    refine gK_1_87 C S (Or.inl rfl) dX1_firstNode_22 ?_
    refine a_iload_n C 3 rfl rfl dX1_firstNode_25 ?_
    obtain ⟨x2, e_x2, h⟩ := b1s h
    refine lK_s9 (o := 19) C S (Or.inl rfl) e_x2 dX1_firstNode_26 ?_
    refine a_if_eq C 72 (by decide) dX1_firstNode_27 (fun c3 => ?_) (fun c3 => ?_)
    · replace h := ifp c3 h
      refine a_iinc (v := (v3 + 1)) C [(3, .int (v3 + 1)), (0, .ref (adOf X 161)), (1, .int v1), (2, .int v2)] 3 rfl (congrArg (HAdd.hAdd v3) (by decide : Int32.ofInt (1) = (1 : Int32))) (by decide) rfl dX1_firstNode_72 ?_
      refine a_goto C 7 (by decide) dX1_firstNode_75 ?_
      exact At.sub [1, 2, 3, 0] rfl (hrec _ _ _ h)
    · replace h := ifn c3 h
      refine a_aload_n C 0 rfl rfl dX1_firstNode_30 ?_
      refine gK_1_15 C S dX1_firstNode_31 ?_
      refine a_iload_n C 3 rfl rfl dX1_firstNode_34 ?_
      obtain ⟨x4, e_x4, h⟩ := b1s h
      refine lK_163 C S e_x4 dX1_firstNode_35 ?_
      refine a_ldc (v := 16777216) C (tg 802 (by decide +kernel) rfl) dX1_firstNode_36 ?_
      refine a_icmp_ge C 72 (by decide) dX1_firstNode_38 (fun c5 => ?_) (fun c5 => ?_)
      · replace h := ifp c5 h
        refine a_iinc (v := (v3 + 1)) C [(3, .int (v3 + 1)), (0, .ref (adOf X 161)), (1, .int v1), (2, .int v2)] 3 rfl (congrArg (HAdd.hAdd v3) (by decide : Int32.ofInt (1) = (1 : Int32))) (by decide) rfl dX1_firstNode_72 ?_
        refine a_goto C 7 (by decide) dX1_firstNode_75 ?_
        exact At.sub [1, 2, 3, 0] rfl (hrec _ _ _ h)
      · replace h := ifn c5 h
        refine a_aload_n C 0 rfl rfl dX1_firstNode_41 ?_
        refine gK_1_29 C S dX1_firstNode_42 ?_
        refine a_iload_n C 3 rfl rfl dX1_firstNode_45 ?_
        obtain ⟨x6, e_x6, h⟩ := b1s h
        refine kK_1_93 C S e_x6 ⟨(Nat.le_of_ble_eq_true rfl), (Nat.le_of_ble_eq_true rfl)⟩ (Nat.le_of_ble_eq_true rfl) dX1_firstNode_46 ?_
        refine a_bipush (v := 64) C (by decide) dX1_firstNode_49 ?_
        refine a_imul C dX1_firstNode_51 ?_
        refine a_aload_n C 0 rfl rfl dX1_firstNode_52 ?_
        refine gK_1_15 C S dX1_firstNode_53 ?_
        refine a_iload_n C 3 rfl rfl dX1_firstNode_56 ?_
        obtain ⟨x7, e_x7, h⟩ := b1s h
        refine lK_163 C S e_x7 dX1_firstNode_57 ?_
        refine a_iadd C dX1_firstNode_58 ?_
        obtain ⟨w8, e_w8, h⟩ := lts h
        refine a_top e_w8 ?_
        refine a_istore C [(4, .int w8), (0, .ref (adOf X 161)), (1, .int v1), (2, .int v2), (3, .int v3)] (by decide) rfl dX1_firstNode_59 ?_
        refine a_iload C 0 rfl dX1_firstNode_61 ?_
        refine a_iload_n C 3 rfl rfl dX1_firstNode_63 ?_
        refine a_icmp_ge C 72 (by decide) dX1_firstNode_64 (fun c9 => ?_) (fun c9 => ?_)
        · replace h := ifp c9 h
          refine a_iinc (v := (v3 + 1)) C [(3, .int (v3 + 1)), (4, .int w8), (0, .ref (adOf X 161)), (1, .int v1), (2, .int v2)] 4 rfl (congrArg (HAdd.hAdd v3) (by decide : Int32.ofInt (1) = (1 : Int32))) (by decide) rfl dX1_firstNode_72 ?_
          refine a_goto C 7 (by decide) dX1_firstNode_75 ?_
          exact At.sub [2, 3, 4, 0] rfl (hrec _ _ _ h)
        · replace h := ifn c9 h
          refine a_iload_n C 4 rfl rfl dX1_firstNode_67 ?_
          refine a_istore_n C [(1, .int v3), (4, .int w8), (0, .ref (adOf X 161)), (2, .int v2), (3, .int v3)] rfl (by decide) rfl dX1_firstNode_68 ?_
          refine a_iload C 1 rfl dX1_firstNode_69 ?_
          refine a_istore_n C [(2, .int w8), (1, .int v3), (4, .int w8), (0, .ref (adOf X 161)), (3, .int v3)] rfl (by decide) rfl dX1_firstNode_71 ?_
          refine a_iinc (v := (v3 + 1)) C [(3, .int (v3 + 1)), (2, .int w8), (1, .int v3), (4, .int w8), (0, .ref (adOf X 161))] 4 rfl (congrArg (HAdd.hAdd v3) (by decide : Int32.ofInt (1) = (1 : Int32))) (by decide) rfl dX1_firstNode_72 ?_
          refine a_goto C 7 (by decide) dX1_firstNode_75 ?_
          exact At.sub [4, 2, 1, 0] rfl (hrec _ _ _ h)
def Gr_firstNode_L7 (q : St) : Nat → Int32 → Int32 → Int32 → Option (Int32)
  | 0, _, _, _ => none
  | n + 1, v1, v2, v3 => Gr_firstNode_B7 q (Gr_firstNode_L7 q n) v1 v2 v3
theorem w_Gr_firstNode_L7 {X : Cv} (C : Cx X cX1_firstNode RX1 rm_Gr_firstNode 5) (S : IsK X) (q : St) {z : Int32} (hret : RokI X cX1_firstNode .int z q) (n : Nat) : ∀ (v1 : Int32) (v2 : Int32) (v3 : Int32), Gr_firstNode_L7 q n v1 v2 v3 = some z → At X 7 [(0, .ref (adOf X 161)), (1, .int v1), (2, .int v2), (3, .int v3)] [] q := by
  induction n with
  | zero => intro v1 v2 v3 h; cases h
  | succ n ih => intro v1 v2 v3 h; exact w_Gr_firstNode_B7 C S _ hret _ ih v1 v2 v3 h
def Gr_firstNode (q : St) : Option (Int32) :=
  Gr_firstNode_L7 q FU (-1 : Int32) (16777216 : Int32) (0 : Int32)
theorem w_Gr_firstNode {X : Cv} (C : Cx X cX1_firstNode RX1 rm_Gr_firstNode 5) (S : IsK X) {q : St} {z : Int32} (hret : RokI X cX1_firstNode .int z q) (h : Gr_firstNode q = some z) : At X 0 [(0, .ref (adOf X 161))] [] q := by
  unfold Gr_firstNode at h
  refine a_iconst (v := -1) C (by decide) dX1_firstNode_0 ?_
  refine a_istore_n C [(1, .int (-1 : Int32)), (0, .ref (adOf X 161))] rfl (by decide) rfl dX1_firstNode_1 ?_
  refine a_ldc (v := 16777216) C (tg 802 (by decide +kernel) rfl) dX1_firstNode_2 ?_
  refine a_istore_n C [(2, .int (16777216 : Int32)), (1, .int (-1 : Int32)), (0, .ref (adOf X 161))] rfl (by decide) rfl dX1_firstNode_4 ?_
  refine a_iconst (v := 0) C (by decide) dX1_firstNode_5 ?_
  refine a_istore_n C [(3, .int (0 : Int32)), (2, .int (16777216 : Int32)), (1, .int (-1 : Int32)), (0, .ref (adOf X 161))] rfl (by decide) rfl dX1_firstNode_6 ?_
  exact At.sub [3, 2, 1, 0] rfl (w_Gr_firstNode_L7 C S _ hret _ _ _ _ h)
theorem c_Gr_firstNode {l : Launch} {D : va_G} {I : ClassId × ClassId × ClassId × ClassId} {ad : Nat → Nat} {q : St} {z : Int32} (h : Gr_firstNode q = some z) : Ctr l D I (zK ad) 168 (shK I) ad yX1_firstNode cX1_firstNode 5 (some .int) rm_Gr_firstNode [.ref (ad 161)] q (some z) q :=
  ctr_ofI (by decide) (Nat.le_of_ble_eq_true rfl) (fun p e s m args below meth c Q H0 X hX C hret => by subst hX; exact w_Gr_firstNode C ⟨rfl, rfl, rfl⟩ hret h)
theorem kK_1_52 {X : Cv} {cc : ByteArray} {rm : Room} {nL1 pc : Nat} {lv : List (Nat × Value)} {sk : List Value} {q : St} {z : Int32} (C : Cx X cc RX1 rm nL1) (S : IsK X) (h : Gr_firstNode q = some z) (hz : rm_Gr_firstNode.frames + 1 ≤ rm.frames ∧ 8 + (5 + 11) + rm_Gr_firstNode.locals ≤ rm.locals) (hr : (sk.map fun v => v.category).sum ≤ 8) (hd : decode cc pc = .ok (.invokevirtual 52, 3)) (k : At X (pc + 3) lv (.int z :: sk) q) : At X pc lv (.ref (adOf X 161) :: sk) q := a_callVi (as := []) C (kp := 161) (kLt S (by decide)) (by rw [S.2.1]; rfl) rfl (by have hh := c_Gr_firstNode (l := X.2.1) (D := dOf X) (I := idOf X) (ad := adOf X) h; rw [← S.1, ← S.2.1, ← S.2.2] at hh; exact hh) (gd_V (tg 812 (by decide +kernel) rfl) (tg 814 (by decide +kernel) rfl) (tg 23 (by decide +kernel) rfl) (tg 123 (by decide +kernel) rfl) (tg 815 (by decide +kernel) rfl)) ⟨rfl, rfl, hz.1, hz.2⟩ ⟨by decide, by decide, by show Option.map _ (parseMethodDescriptor yX1_firstNode.desc) = some 0; decide⟩ hr rfl hd k
abbrev rm_Gr_nextNode : Room := { frames := 0, cells := 0, slots := 0, locals := 0 }
def Gr_nextNode_B2 (q : St) (rec : Int32 → Int32 → Option (Int32)) (v1 : Int32) (v2 : Int32) : Option (Int32) :=
  if (gt q 1 0) ≤ v2 then
    some (-1 : Int32)
  else
    b1 (rd 256 q 6 ((v1 * (16 : Int32)) + v2)) fun x2 =>
    if x2 = (-1 : Int32) then
      rec v1 (v2 + 1)
    else
      b1 (rd 16 q 28 v2) fun x4 =>
      if x4 = (0 : Int32) then
        b1 (rd 16 q 163 v2) fun x6 =>
        b1 (rd 32 q 162 x2) fun x7 =>
        b1 (rd 16 q 163 v1) fun x8 =>
        if (x6 + x7) = x8 then
          some v2
        else
          rec v1 (v2 + 1)
      else
        rec v1 (v2 + 1)
theorem w_Gr_nextNode_B2 {X : Cv} (C : Cx X cX1_nextNode RX1 rm_Gr_nextNode 4) (S : IsK X) (q : St) {z : Int32} (hret : RokI X cX1_nextNode .int z q) (rec : Int32 → Int32 → Option (Int32)) (hrec : ∀ (v1 : Int32) (v2 : Int32), rec v1 v2 = some z → At X 2 [(0, .ref (adOf X 161)), (1, .int v1), (2, .int v2)] [] q) (v1 : Int32) (v2 : Int32) (h : Gr_nextNode_B2 q rec v1 v2 = some z) : At X 2 [(0, .ref (adOf X 161)), (1, .int v1), (2, .int v2)] [] q := by
  unfold Gr_nextNode_B2 at h
  refine a_iload_n C 2 rfl rfl dX1_nextNode_2 ?_
  refine a_aload_n C 0 rfl rfl dX1_nextNode_3 ?_
  refine gK_1_21 C S dX1_nextNode_4 ?_
  refine gK_1_90 C S (Or.inl rfl) dX1_nextNode_7 ?_
  refine a_icmp_ge C 75 (by decide) dX1_nextNode_10 (fun c1 => ?_) (fun c1 => ?_)
  · replace h := ifp c1 h
    refine a_iconst (v := -1) C (by decide) dX1_nextNode_75 ?_
    exact a_iretR hret h rfl dX1_nextNode_76
  · replace h := ifn c1 h
    refine a_aload_n C 0 rfl rfl dX1_nextNode_13 ?_
    refine gK_1_21 C S dX1_nextNode_14 ?_
    refine gK_1_98 C S (Or.inl rfl) dX1_nextNode_17 ?_
    refine a_iload_n C 1 rfl rfl dX1_nextNode_20 ?_
    refine a_bipush (v := 16) C (by decide) dX1_nextNode_21 ?_
    refine a_imul C dX1_nextNode_23 ?_
    refine a_iload_n C 2 rfl rfl dX1_nextNode_24 ?_
    refine a_iadd C dX1_nextNode_25 ?_
    obtain ⟨x2, e_x2, h⟩ := b1s h
    refine lK_u5 (o := 1) C S (Or.inl rfl) e_x2 dX1_nextNode_26 ?_
    refine a_istore_n C [(3, .int x2), (0, .ref (adOf X 161)), (1, .int v1), (2, .int v2)] rfl (by decide) rfl dX1_nextNode_27 ?_
    refine a_iload_n C 0 rfl rfl dX1_nextNode_28 ?_
    refine a_iconst (v := -1) C (by decide) dX1_nextNode_29 ?_
    refine a_icmp_eq C 69 (by decide) dX1_nextNode_30 (fun c3 => ?_) (fun c3 => ?_)
    · replace h := ifp c3 h
      refine a_iinc (v := (v2 + 1)) C [(2, .int (v2 + 1)), (3, .int x2), (0, .ref (adOf X 161)), (1, .int v1)] 3 rfl (congrArg (HAdd.hAdd v2) (by decide : Int32.ofInt (1) = (1 : Int32))) (by decide) rfl dX1_nextNode_69 ?_
      refine a_goto C 2 (by decide) dX1_nextNode_72 ?_
      exact At.sub [2, 3, 0] rfl (hrec _ _ h)
    · replace h := ifn c3 h
      refine a_aload_n C 1 rfl rfl dX1_nextNode_33 ?_
      refine gK_1_25 C S dX1_nextNode_34 ?_
      refine gK_1_87 C S (Or.inl rfl) dX1_nextNode_37 ?_
      refine a_iload_n C 3 rfl rfl dX1_nextNode_40 ?_
      obtain ⟨x4, e_x4, h⟩ := b1s h
      refine lK_s9 (o := 19) C S (Or.inl rfl) e_x4 dX1_nextNode_41 ?_
      refine a_if_ne C 69 (by decide) dX1_nextNode_42 (fun c5 => ?_) (fun c5 => ?_)
      · replace h := ifn c5 h
        refine a_iinc (v := (v2 + 1)) C [(2, .int (v2 + 1)), (3, .int x2), (0, .ref (adOf X 161)), (1, .int v1)] 3 rfl (congrArg (HAdd.hAdd v2) (by decide : Int32.ofInt (1) = (1 : Int32))) (by decide) rfl dX1_nextNode_69 ?_
        refine a_goto C 2 (by decide) dX1_nextNode_72 ?_
        exact At.sub [2, 3, 0] rfl (hrec _ _ h)
      · replace h := ifp c5 h
        refine a_aload_n C 1 rfl rfl dX1_nextNode_45 ?_
        refine gK_1_15 C S dX1_nextNode_46 ?_
        refine a_iload_n C 3 rfl rfl dX1_nextNode_49 ?_
        obtain ⟨x6, e_x6, h⟩ := b1s h
        refine lK_163 C S e_x6 dX1_nextNode_50 ?_
        refine a_aload_n C 1 rfl rfl dX1_nextNode_51 ?_
        refine gK_1_9 C S dX1_nextNode_52 ?_
        refine a_iload_n C 0 rfl rfl dX1_nextNode_55 ?_
        obtain ⟨x7, e_x7, h⟩ := b1s h
        refine lK_162 C S e_x7 dX1_nextNode_56 ?_
        refine a_iadd C dX1_nextNode_57 ?_
        refine a_aload_n C 1 rfl rfl dX1_nextNode_58 ?_
        refine gK_1_15 C S dX1_nextNode_59 ?_
        refine a_iload_n C 2 rfl rfl dX1_nextNode_62 ?_
        obtain ⟨x8, e_x8, h⟩ := b1s h
        refine lK_163 C S e_x8 dX1_nextNode_63 ?_
        refine a_icmp_ne C 69 (by decide) dX1_nextNode_64 (fun c9 => ?_) (fun c9 => ?_)
        · replace h := ifn c9 h
          refine a_iinc (v := (v2 + 1)) C [(2, .int (v2 + 1)), (3, .int x2), (0, .ref (adOf X 161)), (1, .int v1)] 3 rfl (congrArg (HAdd.hAdd v2) (by decide : Int32.ofInt (1) = (1 : Int32))) (by decide) rfl dX1_nextNode_69 ?_
          refine a_goto C 2 (by decide) dX1_nextNode_72 ?_
          exact At.sub [2, 3, 0] rfl (hrec _ _ h)
        · replace h := ifp c9 h
          refine a_iload_n C 3 rfl rfl dX1_nextNode_67 ?_
          exact a_iretR hret h rfl dX1_nextNode_68
def Gr_nextNode_L2 (q : St) : Nat → Int32 → Int32 → Option (Int32)
  | 0, _, _ => none
  | n + 1, v1, v2 => Gr_nextNode_B2 q (Gr_nextNode_L2 q n) v1 v2
theorem w_Gr_nextNode_L2 {X : Cv} (C : Cx X cX1_nextNode RX1 rm_Gr_nextNode 4) (S : IsK X) (q : St) {z : Int32} (hret : RokI X cX1_nextNode .int z q) (n : Nat) : ∀ (v1 : Int32) (v2 : Int32), Gr_nextNode_L2 q n v1 v2 = some z → At X 2 [(0, .ref (adOf X 161)), (1, .int v1), (2, .int v2)] [] q := by
  induction n with
  | zero => intro v1 v2 h; cases h
  | succ n ih => intro v1 v2 h; exact w_Gr_nextNode_B2 C S _ hret _ ih v1 v2 h
def Gr_nextNode (q : St) (v1 : Int32) : Option (Int32) :=
  Gr_nextNode_L2 q FU v1 (0 : Int32)
theorem w_Gr_nextNode {X : Cv} (C : Cx X cX1_nextNode RX1 rm_Gr_nextNode 4) (S : IsK X) {q : St} {z : Int32} (hret : RokI X cX1_nextNode .int z q) (v1 : Int32) (h : Gr_nextNode q v1 = some z) : At X 0 [(0, .ref (adOf X 161)), (1, .int v1)] [] q := by
  unfold Gr_nextNode at h
  refine a_iconst (v := 0) C (by decide) dX1_nextNode_0 ?_
  refine a_istore_n C [(2, .int (0 : Int32)), (0, .ref (adOf X 161)), (1, .int v1)] rfl (by decide) rfl dX1_nextNode_1 ?_
  exact At.sub [1, 2, 0] rfl (w_Gr_nextNode_L2 C S _ hret _ _ _ h)
theorem c_Gr_nextNode {l : Launch} {D : va_G} {I : ClassId × ClassId × ClassId × ClassId} {ad : Nat → Nat} {q : St} {v1 : Int32} {z : Int32} (h : Gr_nextNode q v1 = some z) : Ctr l D I (zK ad) 168 (shK I) ad yX1_nextNode cX1_nextNode 4 (some .int) rm_Gr_nextNode [.ref (ad 161), .int v1] q (some z) q :=
  ctr_ofI (by decide) (Nat.le_of_ble_eq_true rfl) (fun p e s m args below meth c Q H0 X hX C hret => by subst hX; exact w_Gr_nextNode C ⟨rfl, rfl, rfl⟩ hret _ h)
theorem kK_1_56 {X : Cv} {cc : ByteArray} {rm : Room} {nL1 pc : Nat} {lv : List (Nat × Value)} {sk : List Value} {q : St} {v1 : Int32} {z : Int32} (C : Cx X cc RX1 rm nL1) (S : IsK X) (h : Gr_nextNode q v1 = some z) (hz : rm_Gr_nextNode.frames + 1 ≤ rm.frames ∧ 8 + (4 + 11) + rm_Gr_nextNode.locals ≤ rm.locals) (hr : (sk.map fun v => v.category).sum ≤ 8) (hd : decode cc pc = .ok (.invokevirtual 56, 3)) (k : At X (pc + 3) lv (.int z :: sk) q) : At X pc lv (.int v1 :: .ref (adOf X 161) :: sk) q := a_callVi (as := [.int v1]) C (kp := 161) (kLt S (by decide)) (by rw [S.2.1]; rfl) rfl (by have hh := c_Gr_nextNode (l := X.2.1) (D := dOf X) (I := idOf X) (ad := adOf X) h; rw [← S.1, ← S.2.1, ← S.2.2] at hh; exact hh) (gd_V (tg 820 (by decide +kernel) rfl) (tg 822 (by decide +kernel) rfl) (tg 24 (by decide +kernel) rfl) (tg 123 (by decide +kernel) rfl) (tg 823 (by decide +kernel) rfl)) ⟨rfl, rfl, hz.1, hz.2⟩ ⟨by decide, by decide, by show Option.map _ (parseMethodDescriptor yX1_nextNode.desc) = some 1; decide⟩ hr rfl hd k
abbrev rm_Gr_findPath : Room := { frames := 2, cells := 0, slots := 0, locals := 50 }
def Gr_findPath_B26 (k : Int32 → St → Option (Int32 × St)) (rec : Int32 → Int32 → Int32 → St → Option (Int32 × St)) (v1 : Int32) (v3 : Int32) (v4 : Int32) (q : St) : Option (Int32 × St) :=
  if (16 : Int32) ≤ v4 then
    k v1 q
  else
    if v3 = (0 : Int32) then
      k v1 q
    else
      b2 (Gr_spread q) fun x6 q7 =>
      rec v1 x6 (v4 + 1) q7
theorem w_Gr_findPath_B26 {X : Cv} (C : Cx X cX1_findPath RX1 rm_Gr_findPath 6) (S : IsK X) {z : Int32 × St} (hret : RokI X cX1_findPath .boolean z.1 z.2) (k : Int32 → St → Option (Int32 × St)) (hk : ∀ (v1 : Int32) (q : St), k v1 q = some z → At X 48 [(0, .ref (adOf X 161)), (1, .int v1)] [] q) (rec : Int32 → Int32 → Int32 → St → Option (Int32 × St)) (hrec : ∀ (v1 : Int32) (v3 : Int32) (v4 : Int32) (q : St), rec v1 v3 v4 q = some z → At X 26 [(0, .ref (adOf X 161)), (1, .int v1), (3, .int v3), (4, .int v4)] [] q) (v1 : Int32) (v3 : Int32) (v4 : Int32) (q : St) (h : Gr_findPath_B26 k rec v1 v3 v4 q = some z) : At X 26 [(0, .ref (adOf X 161)), (1, .int v1), (3, .int v3), (4, .int v4)] [] q := by
  unfold Gr_findPath_B26 at h
  refine a_iload C 3 rfl dX1_findPath_26 ?_
  refine a_bipush (v := 16) C (by decide) dX1_findPath_28 ?_
  refine a_icmp_ge C 48 (by decide) dX1_findPath_30 (fun c4 => ?_) (fun c4 => ?_)
  · replace h := ifp c4 h
    exact At.sub [0, 1] rfl (hk _ _ h)
  · replace h := ifn c4 h
    refine a_iload_n C 2 rfl rfl dX1_findPath_33 ?_
    refine a_if_eq C 48 (by decide) dX1_findPath_34 (fun c5 => ?_) (fun c5 => ?_)
    · replace h := ifp c5 h
      exact At.sub [0, 1] rfl (hk _ _ h)
    · replace h := ifn c5 h
      refine a_aload_n C 0 rfl rfl dX1_findPath_37 ?_
      obtain ⟨x6, q7, e_q7, h⟩ := b2s h
      refine kK_1_44 C S e_q7 ⟨(Nat.le_of_ble_eq_true rfl), (Nat.le_of_ble_eq_true rfl)⟩ (Nat.le_of_ble_eq_true rfl) dX1_findPath_38 ?_
      refine a_istore_n C [(3, .int x6), (0, .ref (adOf X 161)), (1, .int v1), (4, .int v4)] rfl (by decide) rfl dX1_findPath_41 ?_
      refine a_iinc (v := (v4 + 1)) C [(4, .int (v4 + 1)), (3, .int x6), (0, .ref (adOf X 161)), (1, .int v1)] 3 rfl (congrArg (HAdd.hAdd v4) (by decide : Int32.ofInt (1) = (1 : Int32))) (by decide) rfl dX1_findPath_42 ?_
      refine a_goto C 26 (by decide) dX1_findPath_45 ?_
      exact At.sub [2, 3, 1, 0] rfl (hrec _ _ _ _ h)
def Gr_findPath_L26 (k : Int32 → St → Option (Int32 × St)) : Nat → Int32 → Int32 → Int32 → St → Option (Int32 × St)
  | 0, _, _, _, _ => none
  | n + 1, v1, v3, v4, q => Gr_findPath_B26 k (Gr_findPath_L26 k n) v1 v3 v4 q
theorem w_Gr_findPath_L26 {X : Cv} (C : Cx X cX1_findPath RX1 rm_Gr_findPath 6) (S : IsK X) {z : Int32 × St} (hret : RokI X cX1_findPath .boolean z.1 z.2) (k : Int32 → St → Option (Int32 × St)) (hk : ∀ (v1 : Int32) (q : St), k v1 q = some z → At X 48 [(0, .ref (adOf X 161)), (1, .int v1)] [] q) (n : Nat) : ∀ (v1 : Int32) (v3 : Int32) (v4 : Int32) (q : St), Gr_findPath_L26 k n v1 v3 v4 q = some z → At X 26 [(0, .ref (adOf X 161)), (1, .int v1), (3, .int v3), (4, .int v4)] [] q := by
  induction n with
  | zero => intro v1 v3 v4 q h; cases h
  | succ n ih => intro v1 v3 v4 q h; exact w_Gr_findPath_B26 C S hret k hk _ ih v1 v3 v4 q h
def Gr_findPath_B62 (k : St → Option (Int32 × St)) (rec : Int32 → Int32 → Int32 → St → Option (Int32 × St)) (v1 : Int32) (v4 : Int32) (v5 : Int32) (q : St) : Option (Int32 × St) :=
  if (16 : Int32) ≤ v5 then
    k  q
  else
    if v4 = (-1 : Int32) then
      k  q
    else
      b1 (wr 16 q 164 v5 v4) fun q14 =>
      lt_ (st q14 161 6 (v5 + (1 : Int32))) fun q15 =>
      if v4 = v1 then
        rec v1 (-1 : Int32) (v5 + 1) q15
      else
        b1 (Gr_nextNode q15 v4) fun x17 =>
        rec v1 x17 (v5 + 1) q15
theorem w_Gr_findPath_B62 {X : Cv} (C : Cx X cX1_findPath RX1 rm_Gr_findPath 6) (S : IsK X) {z : Int32 × St} (hret : RokI X cX1_findPath .boolean z.1 z.2) (k : St → Option (Int32 × St)) (hk : ∀ (q : St), k q = some z → At X 116 [(0, .ref (adOf X 161))] [] q) (rec : Int32 → Int32 → Int32 → St → Option (Int32 × St)) (hrec : ∀ (v1 : Int32) (v4 : Int32) (v5 : Int32) (q : St), rec v1 v4 v5 q = some z → At X 62 [(0, .ref (adOf X 161)), (1, .int v1), (4, .int v4), (5, .int v5)] [] q) (v1 : Int32) (v4 : Int32) (v5 : Int32) (q : St) (h : Gr_findPath_B62 k rec v1 v4 v5 q = some z) : At X 62 [(0, .ref (adOf X 161)), (1, .int v1), (4, .int v4), (5, .int v5)] [] q := by
  unfold Gr_findPath_B62 at h
  refine a_iload C 3 rfl dX1_findPath_62 ?_
  refine a_bipush (v := 16) C (by decide) dX1_findPath_64 ?_
  refine a_icmp_ge C 116 (by decide) dX1_findPath_66 (fun c12 => ?_) (fun c12 => ?_)
  · replace h := ifp c12 h
    exact At.sub [0] rfl (hk  _ h)
  · replace h := ifn c12 h
    refine a_iload C 2 rfl dX1_findPath_69 ?_
    refine a_iconst (v := -1) C (by decide) dX1_findPath_71 ?_
    refine a_icmp_eq C 116 (by decide) dX1_findPath_72 (fun c13 => ?_) (fun c13 => ?_)
    · replace h := ifp c13 h
      exact At.sub [0] rfl (hk  _ h)
    · replace h := ifn c13 h
      refine a_aload_n C 0 rfl rfl dX1_findPath_75 ?_
      refine gK_1_18 C S dX1_findPath_76 ?_
      refine a_iload C 3 rfl dX1_findPath_79 ?_
      refine a_iload C 2 rfl dX1_findPath_81 ?_
      obtain ⟨q14, e_q14, h⟩ := b1s h
      refine sK_164 C S e_q14 dX1_findPath_83 ?_
      refine a_aload_n C 0 rfl rfl dX1_findPath_84 ?_
      refine a_iload C 3 rfl dX1_findPath_85 ?_
      refine a_iconst (v := 1) C (by decide) dX1_findPath_87 ?_
      refine a_iadd C dX1_findPath_88 ?_
      obtain ⟨q15, e_q15, h⟩ := lts h
      refine pK_1_48 C S e_q15 dX1_findPath_89 ?_
      refine a_iload C 2 rfl dX1_findPath_92 ?_
      refine a_iload_n C 1 rfl rfl dX1_findPath_94 ?_
      refine a_icmp_ne C 102 (by decide) dX1_findPath_95 (fun c16 => ?_) (fun c16 => ?_)
      · replace h := ifn c16 h
        refine a_aload_n C 0 rfl rfl dX1_findPath_102 ?_
        refine a_iload C 2 rfl dX1_findPath_103 ?_
        obtain ⟨x17, e_x17, h⟩ := b1s h
        refine kK_1_56 C S e_x17 ⟨(Nat.le_of_ble_eq_true rfl), (Nat.le_of_ble_eq_true rfl)⟩ (Nat.le_of_ble_eq_true rfl) dX1_findPath_105 ?_
        refine a_istore C [(4, .int x17), (0, .ref (adOf X 161)), (1, .int v1), (5, .int v5)] (by decide) rfl dX1_findPath_108 ?_
        refine a_iinc (v := (v5 + 1)) C [(5, .int (v5 + 1)), (4, .int x17), (0, .ref (adOf X 161)), (1, .int v1)] 3 rfl (congrArg (HAdd.hAdd v5) (by decide : Int32.ofInt (1) = (1 : Int32))) (by decide) rfl dX1_findPath_110 ?_
        refine a_goto C 62 (by decide) dX1_findPath_113 ?_
        exact At.sub [2, 3, 1, 0] rfl (hrec _ _ _ _ h)
      · replace h := ifp c16 h
        refine a_iconst (v := -1) C (by decide) dX1_findPath_98 ?_
        refine a_goto C 108 (by decide) dX1_findPath_99 ?_
        refine a_istore C [(4, .int (-1 : Int32)), (0, .ref (adOf X 161)), (1, .int v1), (5, .int v5)] (by decide) rfl dX1_findPath_108 ?_
        refine a_iinc (v := (v5 + 1)) C [(5, .int (v5 + 1)), (4, .int (-1 : Int32)), (0, .ref (adOf X 161)), (1, .int v1)] 3 rfl (congrArg (HAdd.hAdd v5) (by decide : Int32.ofInt (1) = (1 : Int32))) (by decide) rfl dX1_findPath_110 ?_
        refine a_goto C 62 (by decide) dX1_findPath_113 ?_
        exact At.sub [2, 3, 1, 0] rfl (hrec _ _ _ _ h)
def Gr_findPath_L62 (k : St → Option (Int32 × St)) : Nat → Int32 → Int32 → Int32 → St → Option (Int32 × St)
  | 0, _, _, _, _ => none
  | n + 1, v1, v4, v5, q => Gr_findPath_B62 k (Gr_findPath_L62 k n) v1 v4 v5 q
theorem w_Gr_findPath_L62 {X : Cv} (C : Cx X cX1_findPath RX1 rm_Gr_findPath 6) (S : IsK X) {z : Int32 × St} (hret : RokI X cX1_findPath .boolean z.1 z.2) (k : St → Option (Int32 × St)) (hk : ∀ (q : St), k q = some z → At X 116 [(0, .ref (adOf X 161))] [] q) (n : Nat) : ∀ (v1 : Int32) (v4 : Int32) (v5 : Int32) (q : St), Gr_findPath_L62 k n v1 v4 v5 q = some z → At X 62 [(0, .ref (adOf X 161)), (1, .int v1), (4, .int v4), (5, .int v5)] [] q := by
  induction n with
  | zero => intro v1 v4 v5 q h; cases h
  | succ n ih => intro v1 v4 v5 q h; exact w_Gr_findPath_B62 C S hret k hk _ ih v1 v4 v5 q h
def Gr_findPath_J116 (q : St) : Option (Int32 × St) :=
  if (gt q 161 6) ≤ (0 : Int32) then
    some ((0 : Int32), q)
  else
    some ((1 : Int32), q)
theorem w_Gr_findPath_J116 {X : Cv} (C : Cx X cX1_findPath RX1 rm_Gr_findPath 6) (S : IsK X) {z : Int32 × St} (hret : RokI X cX1_findPath .boolean z.1 z.2) (q : St) (h : Gr_findPath_J116 q = some z) : At X 116 [(0, .ref (adOf X 161))] [] q := by
  unfold Gr_findPath_J116 at h
  refine a_aload_n C 0 rfl rfl dX1_findPath_116 ?_
  refine gK_1_48 C S dX1_findPath_117 ?_
  refine a_if_le C 127 (by decide) dX1_findPath_120 (fun c19 => ?_) (fun c19 => ?_)
  · replace h := ifp c19 h
    refine a_iconst (v := 0) C (by decide) dX1_findPath_127 ?_
    exact a_iret hret h rfl dX1_findPath_128
  · replace h := ifn c19 h
    refine a_iconst (v := 1) C (by decide) dX1_findPath_123 ?_
    refine a_goto C 128 (by decide) dX1_findPath_124 ?_
    exact a_iret hret h rfl dX1_findPath_128
def Gr_findPath_J48 (v1 : Int32) (q : St) : Option (Int32 × St) :=
  lt_ (st q 161 6 (0 : Int32)) fun q10 =>
  b1 (Gr_firstNode q10) fun x11 =>
  Gr_findPath_L62 (fun q18 =>
    Gr_findPath_J116  q18
    ) FU v1 x11 (0 : Int32) q10
theorem w_Gr_findPath_J48 {X : Cv} (C : Cx X cX1_findPath RX1 rm_Gr_findPath 6) (S : IsK X) {z : Int32 × St} (hret : RokI X cX1_findPath .boolean z.1 z.2) (v1 : Int32) (q : St) (h : Gr_findPath_J48 v1 q = some z) : At X 48 [(0, .ref (adOf X 161)), (1, .int v1)] [] q := by
  unfold Gr_findPath_J48 at h
  refine a_aload_n C 0 rfl rfl dX1_findPath_48 ?_
  refine a_iconst (v := 0) C (by decide) dX1_findPath_49 ?_
  obtain ⟨q10, e_q10, h⟩ := lts h
  refine pK_1_48 C S e_q10 dX1_findPath_50 ?_
  refine a_aload_n C 0 rfl rfl dX1_findPath_53 ?_
  obtain ⟨x11, e_x11, h⟩ := b1s h
  refine kK_1_52 C S e_x11 ⟨(Nat.le_of_ble_eq_true rfl), (Nat.le_of_ble_eq_true rfl)⟩ (Nat.le_of_ble_eq_true rfl) dX1_findPath_54 ?_
  refine a_istore C [(4, .int x11), (0, .ref (adOf X 161)), (1, .int v1)] (by decide) rfl dX1_findPath_57 ?_
  refine a_iconst (v := 0) C (by decide) dX1_findPath_59 ?_
  refine a_istore C [(5, .int (0 : Int32)), (4, .int x11), (0, .ref (adOf X 161)), (1, .int v1)] (by decide) rfl dX1_findPath_60 ?_
  refine At.sub [2, 3, 1, 0] rfl (w_Gr_findPath_L62 C S hret _ ?_ _ _ _ _ _ h)
  intro q18 h
  exact At.sub [0] rfl (w_Gr_findPath_J116 C S hret  _ h)
def Gr_findPath (q : St) (v1 : Int32) (v2 : Int32) : Option (Int32 × St) :=
  b1 (Gr_weighLinks q v2) fun q1 =>
  b1 (J_fill 16 163 q1 (16777216 : Int32)) fun q2 =>
  b1 (wr 16 q2 163 v1 (0 : Int32)) fun q3 =>
  Gr_findPath_L26 (fun y8 q9 =>
    Gr_findPath_J48 y8 q9
    ) FU v1 (1 : Int32) (0 : Int32) q3
theorem w_Gr_findPath {X : Cv} (C : Cx X cX1_findPath RX1 rm_Gr_findPath 6) (S : IsK X) {z : Int32 × St} (hret : RokI X cX1_findPath .boolean z.1 z.2) (v1 : Int32) (v2 : Int32) (q : St) (h : Gr_findPath q v1 v2 = some z) : At X 0 [(0, .ref (adOf X 161)), (1, .int v1), (2, .int v2)] [] q := by
  unfold Gr_findPath at h
  refine a_aload_n C 0 rfl rfl dX1_findPath_0 ?_
  refine a_iload_n C 2 rfl rfl dX1_findPath_1 ?_
  obtain ⟨q1, e_q1, h⟩ := b1s h
  refine kK_1_33 C S e_q1 ⟨(Nat.le_of_ble_eq_true rfl), (Nat.le_of_ble_eq_true rfl)⟩ (Nat.le_of_ble_eq_true rfl) dX1_findPath_2 ?_
  refine a_aload_n C 0 rfl rfl dX1_findPath_5 ?_
  refine gK_1_15 C S dX1_findPath_6 ?_
  refine a_ldc (v := 16777216) C (tg 802 (by decide +kernel) rfl) dX1_findPath_9 ?_
  obtain ⟨q2, e_q2, h⟩ := b1s h
  refine k_J_fill C (p := 163) (kLt S (by decide)) (by rw [S.2.1]; intro f w; rfl) e_q2 (tg 803 (by decide +kernel) rfl) ⟨(Nat.le_of_ble_eq_true rfl), (Nat.le_of_ble_eq_true rfl)⟩ (Nat.le_of_ble_eq_true rfl) dX1_findPath_11 ?_
  refine a_aload_n C 0 rfl rfl dX1_findPath_14 ?_
  refine gK_1_15 C S dX1_findPath_15 ?_
  refine a_iload_n C 1 rfl rfl dX1_findPath_18 ?_
  refine a_iconst (v := 0) C (by decide) dX1_findPath_19 ?_
  obtain ⟨q3, e_q3, h⟩ := b1s h
  refine sK_163 C S e_q3 dX1_findPath_20 ?_
  refine a_iconst (v := 1) C (by decide) dX1_findPath_21 ?_
  refine a_istore_n C [(3, .int (1 : Int32)), (0, .ref (adOf X 161)), (1, .int v1), (2, .int v2)] rfl (by decide) rfl dX1_findPath_22 ?_
  refine a_iconst (v := 0) C (by decide) dX1_findPath_23 ?_
  refine a_istore C [(4, .int (0 : Int32)), (3, .int (1 : Int32)), (0, .ref (adOf X 161)), (1, .int v1), (2, .int v2)] (by decide) rfl dX1_findPath_24 ?_
  refine At.sub [2, 3, 1, 0] rfl (w_Gr_findPath_L26 C S hret _ ?_ _ _ _ _ _ h)
  intro y8 q9 h
  exact At.sub [0, 1] rfl (w_Gr_findPath_J48 C S hret _ _ h)
theorem c_Gr_findPath {l : Launch} {D : va_G} {I : ClassId × ClassId × ClassId × ClassId} {ad : Nat → Nat} {q : St} {v1 : Int32} {v2 : Int32} {z : Int32 × St} (h : Gr_findPath q v1 v2 = some z) : Ctr l D I (zK ad) 168 (shK I) ad yX1_findPath cX1_findPath 6 (some .boolean) rm_Gr_findPath [.ref (ad 161), .int v1, .int v2] q (some z.1) z.2 :=
  ctr_ofI (by decide) (Nat.le_of_ble_eq_true rfl) (fun p e s m args below meth c Q H0 X hX C hret => by subst hX; exact w_Gr_findPath C ⟨rfl, rfl, rfl⟩ hret _ _ _ h)
theorem kK_9_60 {X : Cv} {cc : ByteArray} {rm : Room} {nL1 pc : Nat} {lv : List (Nat × Value)} {sk : List Value} {q : St} {v1 : Int32} {v2 : Int32} {z : Int32} {q2 : St} (C : Cx X cc RX9 rm nL1) (S : IsK X) (h : Gr_findPath q v1 v2 = some (z, q2)) (hz : rm_Gr_findPath.frames + 1 ≤ rm.frames ∧ 8 + (6 + 11) + rm_Gr_findPath.locals ≤ rm.locals) (hr : (sk.map fun v => v.category).sum ≤ 8) (hd : decode cc pc = .ok (.invokevirtual 60, 3)) (k : At X (pc + 3) lv (.int z :: sk) q2) : At X pc lv (.int v2 :: .int v1 :: .ref (adOf X 161) :: sk) q := a_callVi (as := [.int v1, .int v2]) C (kp := 161) (kLt S (by decide)) (by rw [S.2.1]; rfl) rfl (by have hh := c_Gr_findPath (l := X.2.1) (D := dOf X) (I := idOf X) (ad := adOf X) h; rw [← S.1, ← S.2.1, ← S.2.2] at hh; exact hh) (gd_V (tg 794 (by decide +kernel) rfl) (tg 795 (by decide +kernel) rfl) (tg 796 (by decide +kernel) rfl) (tg 123 (by decide +kernel) rfl) (tg 797 (by decide +kernel) rfl)) ⟨rfl, rfl, hz.1, hz.2⟩ ⟨by decide, by decide, by show Option.map _ (parseMethodDescriptor yX1_findPath.desc) = some 2; decide⟩ hr rfl hd k
theorem kK_10_303 {X : Cv} {cc : ByteArray} {rm : Room} {nL1 pc : Nat} {lv : List (Nat × Value)} {sk : List Value} {q : St} {v1 : Int32} {v2 : Int32} {z : Int32} {q2 : St} (C : Cx X cc RX10 rm nL1) (S : IsK X) (h : Gr_findPath q v1 v2 = some (z, q2)) (hz : rm_Gr_findPath.frames + 1 ≤ rm.frames ∧ 8 + (6 + 11) + rm_Gr_findPath.locals ≤ rm.locals) (hr : (sk.map fun v => v.category).sum ≤ 8) (hd : decode cc pc = .ok (.invokevirtual 303, 3)) (k : At X (pc + 3) lv (.int z :: sk) q2) : At X pc lv (.int v2 :: .int v1 :: .ref (adOf X 161) :: sk) q := a_callVi (as := [.int v1, .int v2]) C (kp := 161) (kLt S (by decide)) (by rw [S.2.1]; rfl) rfl (by have hh := c_Gr_findPath (l := X.2.1) (D := dOf X) (I := idOf X) (ad := adOf X) h; rw [← S.1, ← S.2.1, ← S.2.2] at hh; exact hh) (gd_V (tg 1162 (by decide +kernel) rfl) (tg 795 (by decide +kernel) rfl) (tg 796 (by decide +kernel) rfl) (tg 123 (by decide +kernel) rfl) (tg 797 (by decide +kernel) rfl)) ⟨rfl, rfl, hz.1, hz.2⟩ ⟨by decide, by decide, by show Option.map _ (parseMethodDescriptor yX1_findPath.desc) = some 2; decide⟩ hr rfl hd k
abbrev rm_Sp_attach : Room := { frames := 0, cells := 0, slots := 0, locals := 0 }
def Sp_attach (q : St) (v1 : Int32) (v2 : Int32) : Option (St) :=
  b1 (wr 16 q 28 v1 (vp_nar .boolean (1 : Int32))) fun q1 =>
  b1 (wr 16 q1 29 v1 v2) fun q2 =>
  some q2
theorem w_Sp_attach {X : Cv} (C : Cx X cX6_attach RX6 rm_Sp_attach 3) (S : IsK X) {z : St} (hret : RokV X cX6_attach z) (v1 : Int32) (v2 : Int32) (q : St) (h : Sp_attach q v1 v2 = some z) : At X 0 [(0, .ref (adOf X 156)), (1, .int v1), (2, .int v2)] [] q := by
  unfold Sp_attach at h
  refine a_aload_n C 0 rfl rfl dX6_attach_0 ?_
  refine gK_6_15 C S dX6_attach_1 ?_
  refine gK_6_59 C S (Or.inl rfl) dX6_attach_4 ?_
  refine a_iload_n C 1 rfl rfl dX6_attach_7 ?_
  refine a_iconst (v := 1) C (by decide) dX6_attach_8 ?_
  obtain ⟨q1, e_q1, h⟩ := b1s h
  refine sK_s9 (o := 19) C S (Or.inl rfl) e_q1 dX6_attach_9 ?_
  refine a_aload_n C 0 rfl rfl dX6_attach_10 ?_
  refine gK_6_15 C S dX6_attach_11 ?_
  refine gK_6_19 C S (Or.inl rfl) dX6_attach_14 ?_
  refine a_iload_n C 1 rfl rfl dX6_attach_17 ?_
  refine a_iload_n C 2 rfl rfl dX6_attach_18 ?_
  obtain ⟨q2, e_q2, h⟩ := b1s h
  refine sK_s10 (o := 19) C S (Or.inl rfl) e_q2 dX6_attach_19 ?_
  exact a_vret hret h dX6_attach_20
theorem c_Sp_attach {l : Launch} {D : va_G} {I : ClassId × ClassId × ClassId × ClassId} {ad : Nat → Nat} {q : St} {v1 : Int32} {v2 : Int32} {z : St} (h : Sp_attach q v1 v2 = some z) : Ctr l D I (zK ad) 168 (shK I) ad yX6_attach cX6_attach 3 none rm_Sp_attach [.ref (ad 156), .int v1, .int v2] q none z :=
  ctr_ofV (by decide) (Nat.le_of_ble_eq_true rfl) (fun p e s m args below meth c Q H0 X hX C hret => by subst hX; exact w_Sp_attach C ⟨rfl, rfl, rfl⟩ hret _ _ _ h)
theorem kK_1_101 {X : Cv} {cc : ByteArray} {rm : Room} {nL1 pc : Nat} {lv : List (Nat × Value)} {sk : List Value} {q : St} {v1 : Int32} {v2 : Int32} {q2 : St} (C : Cx X cc RX1 rm nL1) (S : IsK X) (h : Sp_attach q v1 v2 = some q2) (hz : rm_Sp_attach.frames + 1 ≤ rm.frames ∧ 8 + (3 + 11) + rm_Sp_attach.locals ≤ rm.locals) (hr : (sk.map fun v => v.category).sum ≤ 8) (hd : decode cc pc = .ok (.invokevirtual 101, 3)) (k : At X (pc + 3) lv sk q2) : At X pc lv (.int v2 :: .int v1 :: .ref (adOf X 156) :: sk) q := a_callVv (as := [.int v1, .int v2]) C (kp := 156) (kLt S (by decide)) (by rw [S.2.1]; rfl) rfl (by have hh := c_Sp_attach (l := X.2.1) (D := dOf X) (I := idOf X) (ad := adOf X) h; rw [← S.1, ← S.2.1, ← S.2.2] at hh; exact hh) (gd_V (tg 828 (by decide +kernel) rfl) (tg 829 (by decide +kernel) rfl) (tg 830 (by decide +kernel) rfl) (tg 121 (by decide +kernel) rfl) (tg 831 (by decide +kernel) rfl)) ⟨rfl, rfl, hz.1, hz.2⟩ ⟨by decide, by decide, by show Option.map _ (parseMethodDescriptor yX6_attach.desc) = some 2; decide⟩ hr rfl hd k
abbrev rm_Gr_attachPath : Room := { frames := 1, cells := 0, slots := 0, locals := 22 }
def Gr_attachPath_B2 (rec : Int32 → St → Option (St)) (v1 : Int32) (q : St) : Option (St) :=
  if (gt q 161 6) ≤ v1 then
    some q
  else
    b1 (rd 16 q 164 v1) fun x2 =>
    b1 (rd 16 q 164 (v1 - (1 : Int32))) fun x3 =>
    b1 (Sp_attach q x2 x3) fun q4 =>
    rec (v1 + 1) q4
theorem w_Gr_attachPath_B2 {X : Cv} (C : Cx X cX1_attachPath RX1 rm_Gr_attachPath 2) (S : IsK X) {z : St} (hret : RokV X cX1_attachPath z) (rec : Int32 → St → Option (St)) (hrec : ∀ (v1 : Int32) (q : St), rec v1 q = some z → At X 2 [(0, .ref (adOf X 161)), (1, .int v1)] [] q) (v1 : Int32) (q : St) (h : Gr_attachPath_B2 rec v1 q = some z) : At X 2 [(0, .ref (adOf X 161)), (1, .int v1)] [] q := by
  unfold Gr_attachPath_B2 at h
  refine a_iload_n C 1 rfl rfl dX1_attachPath_2 ?_
  refine a_aload_n C 0 rfl rfl dX1_attachPath_3 ?_
  refine gK_1_48 C S dX1_attachPath_4 ?_
  refine a_icmp_ge C 37 (by decide) dX1_attachPath_7 (fun c1 => ?_) (fun c1 => ?_)
  · replace h := ifp c1 h
    exact a_vret hret h dX1_attachPath_37
  · replace h := ifn c1 h
    refine a_aload_n C 0 rfl rfl dX1_attachPath_10 ?_
    refine gK_1_29 C S dX1_attachPath_11 ?_
    refine a_aload_n C 0 rfl rfl dX1_attachPath_14 ?_
    refine gK_1_18 C S dX1_attachPath_15 ?_
    refine a_iload_n C 1 rfl rfl dX1_attachPath_18 ?_
    obtain ⟨x2, e_x2, h⟩ := b1s h
    refine lK_164 C S e_x2 dX1_attachPath_19 ?_
    refine a_aload_n C 0 rfl rfl dX1_attachPath_20 ?_
    refine gK_1_18 C S dX1_attachPath_21 ?_
    refine a_iload_n C 1 rfl rfl dX1_attachPath_24 ?_
    refine a_iconst (v := 1) C (by decide) dX1_attachPath_25 ?_
    refine a_isub C dX1_attachPath_26 ?_
    obtain ⟨x3, e_x3, h⟩ := b1s h
    refine lK_164 C S e_x3 dX1_attachPath_27 ?_
    obtain ⟨q4, e_q4, h⟩ := b1s h
    refine kK_1_101 C S e_q4 ⟨(Nat.le_of_ble_eq_true rfl), (Nat.le_of_ble_eq_true rfl)⟩ (Nat.le_of_ble_eq_true rfl) dX1_attachPath_28 ?_
    refine a_iinc (v := (v1 + 1)) C [(1, .int (v1 + 1)), (0, .ref (adOf X 161))] 1 rfl (congrArg (HAdd.hAdd v1) (by decide : Int32.ofInt (1) = (1 : Int32))) (by decide) rfl dX1_attachPath_31 ?_
    refine a_goto C 2 (by decide) dX1_attachPath_34 ?_
    exact At.sub [1, 0] rfl (hrec _ _ h)
def Gr_attachPath_L2 : Nat → Int32 → St → Option (St)
  | 0, _, _ => none
  | n + 1, v1, q => Gr_attachPath_B2 (Gr_attachPath_L2 n) v1 q
theorem w_Gr_attachPath_L2 {X : Cv} (C : Cx X cX1_attachPath RX1 rm_Gr_attachPath 2) (S : IsK X) {z : St} (hret : RokV X cX1_attachPath z) (n : Nat) : ∀ (v1 : Int32) (q : St), Gr_attachPath_L2 n v1 q = some z → At X 2 [(0, .ref (adOf X 161)), (1, .int v1)] [] q := by
  induction n with
  | zero => intro v1 q h; cases h
  | succ n ih => intro v1 q h; exact w_Gr_attachPath_B2 C S hret _ ih v1 q h
def Gr_attachPath (q : St) : Option (St) :=
  Gr_attachPath_L2 FU (1 : Int32) q
theorem w_Gr_attachPath {X : Cv} (C : Cx X cX1_attachPath RX1 rm_Gr_attachPath 2) (S : IsK X) {z : St} (hret : RokV X cX1_attachPath z) (q : St) (h : Gr_attachPath q = some z) : At X 0 [(0, .ref (adOf X 161))] [] q := by
  unfold Gr_attachPath at h
  refine a_iconst (v := 1) C (by decide) dX1_attachPath_0 ?_
  refine a_istore_n C [(1, .int (1 : Int32)), (0, .ref (adOf X 161))] rfl (by decide) rfl dX1_attachPath_1 ?_
  exact At.sub [1, 0] rfl (w_Gr_attachPath_L2 C S hret _ _ _ h)
theorem c_Gr_attachPath {l : Launch} {D : va_G} {I : ClassId × ClassId × ClassId × ClassId} {ad : Nat → Nat} {q : St} {z : St} (h : Gr_attachPath q = some z) : Ctr l D I (zK ad) 168 (shK I) ad yX1_attachPath cX1_attachPath 2 none rm_Gr_attachPath [.ref (ad 161)] q none z :=
  ctr_ofV (by decide) (Nat.le_of_ble_eq_true rfl) (fun p e s m args below meth c Q H0 X hX C hret => by subst hX; exact w_Gr_attachPath C ⟨rfl, rfl, rfl⟩ hret _ h)
theorem kK_9_65 {X : Cv} {cc : ByteArray} {rm : Room} {nL1 pc : Nat} {lv : List (Nat × Value)} {sk : List Value} {q : St} {q2 : St} (C : Cx X cc RX9 rm nL1) (S : IsK X) (h : Gr_attachPath q = some q2) (hz : rm_Gr_attachPath.frames + 1 ≤ rm.frames ∧ 8 + (2 + 11) + rm_Gr_attachPath.locals ≤ rm.locals) (hr : (sk.map fun v => v.category).sum ≤ 8) (hd : decode cc pc = .ok (.invokevirtual 65, 3)) (k : At X (pc + 3) lv sk q2) : At X pc lv (.ref (adOf X 161) :: sk) q := a_callVv (as := []) C (kp := 161) (kLt S (by decide)) (by rw [S.2.1]; rfl) rfl (by have hh := c_Gr_attachPath (l := X.2.1) (D := dOf X) (I := idOf X) (ad := adOf X) h; rw [← S.1, ← S.2.1, ← S.2.2] at hh; exact hh) (gd_V (tg 824 (by decide +kernel) rfl) (tg 825 (by decide +kernel) rfl) (tg 826 (by decide +kernel) rfl) (tg 123 (by decide +kernel) rfl) (tg 827 (by decide +kernel) rfl)) ⟨rfl, rfl, hz.1, hz.2⟩ ⟨by decide, by decide, by show Option.map _ (parseMethodDescriptor yX1_attachPath.desc) = some 0; decide⟩ hr rfl hd k
abbrev rm_Sp_pathStart : Room := { frames := 0, cells := 0, slots := 0, locals := 0 }
def Sp_pathStart (q : St) (v1 : Int32) : Option (Int32) :=
  b1 (rd 21 q 23 v1) fun x1 =>
  if x1 ≤ (0 : Int32) then
    some (-1 : Int32)
  else
    b1 (rd 21 q 20 v1) fun x3 =>
    some x3
theorem w_Sp_pathStart {X : Cv} (C : Cx X cX6_pathStart RX6 rm_Sp_pathStart 2) (S : IsK X) {q : St} {z : Int32} (hret : RokI X cX6_pathStart .int z q) (v1 : Int32) (h : Sp_pathStart q v1 = some z) : At X 0 [(0, .ref (adOf X 156)), (1, .int v1)] [] q := by
  unfold Sp_pathStart at h
  refine a_aload_n C 0 rfl rfl dX6_pathStart_0 ?_
  refine gK_6_15 C S dX6_pathStart_1 ?_
  refine gK_6_47 C S (Or.inl rfl) dX6_pathStart_4 ?_
  refine a_iload_n C 1 rfl rfl dX6_pathStart_7 ?_
  obtain ⟨x1, e_x1, h⟩ := b1s h
  refine lK_s4 (o := 19) C S (Or.inl rfl) e_x1 dX6_pathStart_8 ?_
  refine a_if_le C 24 (by decide) dX6_pathStart_9 (fun c2 => ?_) (fun c2 => ?_)
  · replace h := ifp c2 h
    refine a_iconst (v := -1) C (by decide) dX6_pathStart_24 ?_
    exact a_iretR hret h rfl dX6_pathStart_25
  · replace h := ifn c2 h
    refine a_aload_n C 0 rfl rfl dX6_pathStart_12 ?_
    refine gK_6_15 C S dX6_pathStart_13 ?_
    refine gK_6_50 C S (Or.inl rfl) dX6_pathStart_16 ?_
    refine a_iload_n C 1 rfl rfl dX6_pathStart_19 ?_
    obtain ⟨x3, e_x3, h⟩ := b1s h
    refine lK_s1 (o := 19) C S (Or.inl rfl) e_x3 dX6_pathStart_20 ?_
    refine a_goto C 25 (by decide) dX6_pathStart_21 ?_
    exact a_iretR hret h rfl dX6_pathStart_25
theorem c_Sp_pathStart {l : Launch} {D : va_G} {I : ClassId × ClassId × ClassId × ClassId} {ad : Nat → Nat} {q : St} {v1 : Int32} {z : Int32} (h : Sp_pathStart q v1 = some z) : Ctr l D I (zK ad) 168 (shK I) ad yX6_pathStart cX6_pathStart 2 (some .int) rm_Sp_pathStart [.ref (ad 156), .int v1] q (some z) q :=
  ctr_ofI (by decide) (Nat.le_of_ble_eq_true rfl) (fun p e s m args below meth c Q H0 X hX C hret => by subst hX; exact w_Sp_pathStart C ⟨rfl, rfl, rfl⟩ hret _ h)
theorem kK_0_60 {X : Cv} {cc : ByteArray} {rm : Room} {nL1 pc : Nat} {lv : List (Nat × Value)} {sk : List Value} {q : St} {v1 : Int32} {z : Int32} (C : Cx X cc RX0 rm nL1) (S : IsK X) (h : Sp_pathStart q v1 = some z) (hz : rm_Sp_pathStart.frames + 1 ≤ rm.frames ∧ 8 + (2 + 11) + rm_Sp_pathStart.locals ≤ rm.locals) (hr : (sk.map fun v => v.category).sum ≤ 8) (hd : decode cc pc = .ok (.invokevirtual 60, 3)) (k : At X (pc + 3) lv (.int z :: sk) q) : At X pc lv (.int v1 :: .ref (adOf X 156) :: sk) q := a_callVi (as := [.int v1]) C (kp := 156) (kLt S (by decide)) (by rw [S.2.1]; rfl) rfl (by have hh := c_Sp_pathStart (l := X.2.1) (D := dOf X) (I := idOf X) (ad := adOf X) h; rw [← S.1, ← S.2.1, ← S.2.2] at hh; exact hh) (gd_V (tg 841 (by decide +kernel) rfl) (tg 842 (by decide +kernel) rfl) (tg 843 (by decide +kernel) rfl) (tg 121 (by decide +kernel) rfl) (tg 844 (by decide +kernel) rfl)) ⟨rfl, rfl, hz.1, hz.2⟩ ⟨by decide, by decide, by show Option.map _ (parseMethodDescriptor yX6_pathStart.desc) = some 1; decide⟩ hr rfl hd k
theorem kK_6_53 {X : Cv} {cc : ByteArray} {rm : Room} {nL1 pc : Nat} {lv : List (Nat × Value)} {sk : List Value} {q : St} {v1 : Int32} {z : Int32} (C : Cx X cc RX6 rm nL1) (S : IsK X) (h : Sp_pathStart q v1 = some z) (hz : rm_Sp_pathStart.frames + 1 ≤ rm.frames ∧ 8 + (2 + 11) + rm_Sp_pathStart.locals ≤ rm.locals) (hr : (sk.map fun v => v.category).sum ≤ 8) (hd : decode cc pc = .ok (.invokevirtual 53, 3)) (k : At X (pc + 3) lv (.int z :: sk) q) : At X pc lv (.int v1 :: .ref (adOf X 156) :: sk) q := a_callVi (as := [.int v1]) C (kp := 156) (kLt S (by decide)) (by rw [S.2.1]; rfl) rfl (by have hh := c_Sp_pathStart (l := X.2.1) (D := dOf X) (I := idOf X) (ad := adOf X) h; rw [← S.1, ← S.2.1, ← S.2.2] at hh; exact hh) (gd_V (tg 906 (by decide +kernel) rfl) (tg 842 (by decide +kernel) rfl) (tg 843 (by decide +kernel) rfl) (tg 121 (by decide +kernel) rfl) (tg 844 (by decide +kernel) rfl)) ⟨rfl, rfl, hz.1, hz.2⟩ ⟨by decide, by decide, by show Option.map _ (parseMethodDescriptor yX6_pathStart.desc) = some 1; decide⟩ hr rfl hd k
theorem kK_10_241 {X : Cv} {cc : ByteArray} {rm : Room} {nL1 pc : Nat} {lv : List (Nat × Value)} {sk : List Value} {q : St} {v1 : Int32} {z : Int32} (C : Cx X cc RX10 rm nL1) (S : IsK X) (h : Sp_pathStart q v1 = some z) (hz : rm_Sp_pathStart.frames + 1 ≤ rm.frames ∧ 8 + (2 + 11) + rm_Sp_pathStart.locals ≤ rm.locals) (hr : (sk.map fun v => v.category).sum ≤ 8) (hd : decode cc pc = .ok (.invokevirtual 241, 3)) (k : At X (pc + 3) lv (.int z :: sk) q) : At X pc lv (.int v1 :: .ref (adOf X 156) :: sk) q := a_callVi (as := [.int v1]) C (kp := 156) (kLt S (by decide)) (by rw [S.2.1]; rfl) rfl (by have hh := c_Sp_pathStart (l := X.2.1) (D := dOf X) (I := idOf X) (ad := adOf X) h; rw [← S.1, ← S.2.1, ← S.2.2] at hh; exact hh) (gd_V (tg 1052 (by decide +kernel) rfl) (tg 842 (by decide +kernel) rfl) (tg 843 (by decide +kernel) rfl) (tg 121 (by decide +kernel) rfl) (tg 844 (by decide +kernel) rfl)) ⟨rfl, rfl, hz.1, hz.2⟩ ⟨by decide, by decide, by show Option.map _ (parseMethodDescriptor yX6_pathStart.desc) = some 1; decide⟩ hr rfl hd k
abbrev rm_Fl_need : Room := { frames := 0, cells := 0, slots := 0, locals := 0 }
def Fl_need (q : St) (v1 : Int32) (v2 : Int32) (v3 : Int32) : Option (St) :=
  lt_ ((v1 * (4 : Int32)) + v2) fun w1 =>
  b1 (rd 64 q 158 w1) fun x2 =>
  if v3 ≤ x2 then
    some q
  else
    b1 (wr 64 q 158 w1 v3) fun q4 =>
    some q4
theorem w_Fl_need {X : Cv} (C : Cx X cX0_need RX0 rm_Fl_need 5) (S : IsK X) {z : St} (hret : RokV X cX0_need z) (v1 : Int32) (v2 : Int32) (v3 : Int32) (q : St) (h : Fl_need q v1 v2 v3 = some z) : At X 0 [(0, .ref (adOf X 157)), (1, .int v1), (2, .int v2), (3, .int v3)] [] q := by
  unfold Fl_need at h
  refine a_iload_n C 1 rfl rfl dX0_need_0 ?_
  refine a_iconst (v := 4) C (by decide) dX0_need_1 ?_
  refine a_imul C dX0_need_2 ?_
  refine a_iload_n C 2 rfl rfl dX0_need_3 ?_
  refine a_iadd C dX0_need_4 ?_
  obtain ⟨w1, e_w1, h⟩ := lts h
  refine a_top e_w1 ?_
  refine a_istore C [(4, .int w1), (0, .ref (adOf X 157)), (1, .int v1), (2, .int v2), (3, .int v3)] (by decide) rfl dX0_need_5 ?_
  refine a_aload_n C 1 rfl rfl dX0_need_7 ?_
  refine gK_0_9 C S dX0_need_8 ?_
  refine a_iload C 0 rfl dX0_need_11 ?_
  obtain ⟨x2, e_x2, h⟩ := b1s h
  refine lK_158 C S e_x2 dX0_need_13 ?_
  refine a_iload_n C 4 rfl rfl dX0_need_14 ?_
  refine a_icmp_ge C 26 (by decide) dX0_need_15 (fun c3 => ?_) (fun c3 => ?_)
  · replace h := ifp c3 h
    exact a_vret hret h dX0_need_26
  · replace h := ifn c3 h
    refine a_aload_n C 1 rfl rfl dX0_need_18 ?_
    refine gK_0_9 C S dX0_need_19 ?_
    refine a_iload C 0 rfl dX0_need_22 ?_
    refine a_iload_n C 4 rfl rfl dX0_need_24 ?_
    obtain ⟨q4, e_q4, h⟩ := b1s h
    refine sK_158 C S e_q4 dX0_need_25 ?_
    exact a_vret hret h dX0_need_26
theorem c_Fl_need {l : Launch} {D : va_G} {I : ClassId × ClassId × ClassId × ClassId} {ad : Nat → Nat} {q : St} {v1 : Int32} {v2 : Int32} {v3 : Int32} {z : St} (h : Fl_need q v1 v2 v3 = some z) : Ctr l D I (zK ad) 168 (shK I) ad yX0_need cX0_need 5 none rm_Fl_need [.ref (ad 157), .int v1, .int v2, .int v3] q none z :=
  ctr_ofV (by decide) (Nat.le_of_ble_eq_true rfl) (fun p e s m args below meth c Q H0 X hX C hret => by subst hX; exact w_Fl_need C ⟨rfl, rfl, rfl⟩ hret _ _ _ _ h)
theorem kK_0_69 {X : Cv} {cc : ByteArray} {rm : Room} {nL1 pc : Nat} {lv : List (Nat × Value)} {sk : List Value} {q : St} {v1 : Int32} {v2 : Int32} {v3 : Int32} {q2 : St} (C : Cx X cc RX0 rm nL1) (S : IsK X) (h : Fl_need q v1 v2 v3 = some q2) (hz : rm_Fl_need.frames + 1 ≤ rm.frames ∧ 8 + (5 + 11) + rm_Fl_need.locals ≤ rm.locals) (hr : (sk.map fun v => v.category).sum ≤ 8) (hd : decode cc pc = .ok (.invokevirtual 69, 3)) (k : At X (pc + 3) lv sk q2) : At X pc lv (.int v3 :: .int v2 :: .int v1 :: .ref (adOf X 157) :: sk) q := a_callVv (as := [.int v1, .int v2, .int v3]) C (kp := 157) (kLt S (by decide)) (by rw [S.2.1]; rfl) rfl (by have hh := c_Fl_need (l := X.2.1) (D := dOf X) (I := idOf X) (ad := adOf X) h; rw [← S.1, ← S.2.1, ← S.2.2] at hh; exact hh) (gd_V (tg 845 (by decide +kernel) rfl) (tg 847 (by decide +kernel) rfl) (tg 26 (by decide +kernel) rfl) (tg 122 (by decide +kernel) rfl) (tg 848 (by decide +kernel) rfl)) ⟨rfl, rfl, hz.1, hz.2⟩ ⟨by decide, by decide, by show Option.map _ (parseMethodDescriptor yX0_need.desc) = some 3; decide⟩ hr rfl hd k
abbrev rm_Fl_carryUp : Room := { frames := 1, cells := 0, slots := 0, locals := 24 }
def Fl_carryUp_J82 (rec : Int32 → Int32 → Int32 → Int32 → St → Option (St)) (v1 : Int32) (v2 : Int32) (v3 : Int32) (v4 : Int32) (q : St) : Option (St) :=
  b1 (rd 16 q 29 v3) fun x9 =>
  rec v1 v2 x9 (v4 + 1) q
theorem w_Fl_carryUp_J82 {X : Cv} (C : Cx X cX0_carryUp RX0 rm_Fl_carryUp 5) (S : IsK X) {z : St} (hret : RokV X cX0_carryUp z) (rec : Int32 → Int32 → Int32 → Int32 → St → Option (St)) (hrec : ∀ (v1 : Int32) (v2 : Int32) (v3 : Int32) (v4 : Int32) (q : St), rec v1 v2 v3 v4 q = some z → At X 22 [(0, .ref (adOf X 157)), (1, .int v1), (2, .int v2), (3, .int v3), (4, .int v4)] [] q) (v1 : Int32) (v2 : Int32) (v3 : Int32) (v4 : Int32) (q : St) (h : Fl_carryUp_J82 rec v1 v2 v3 v4 q = some z) : At X 82 [(0, .ref (adOf X 157)), (1, .int v1), (2, .int v2), (3, .int v3), (4, .int v4)] [] q := by
  unfold Fl_carryUp_J82 at h
  refine a_aload_n C 0 rfl rfl dX0_carryUp_82 ?_
  refine gK_0_25 C S dX0_carryUp_83 ?_
  refine gK_0_77 C S (Or.inl rfl) dX0_carryUp_86 ?_
  refine a_iload_n C 3 rfl rfl dX0_carryUp_89 ?_
  obtain ⟨x9, e_x9, h⟩ := b1s h
  refine lK_s10 (o := 19) C S (Or.inl rfl) e_x9 dX0_carryUp_90 ?_
  refine a_istore_n C [(3, .int x9), (0, .ref (adOf X 157)), (1, .int v1), (2, .int v2), (4, .int v4)] rfl (by decide) rfl dX0_carryUp_91 ?_
  refine a_iinc (v := (v4 + 1)) C [(4, .int (v4 + 1)), (3, .int x9), (0, .ref (adOf X 157)), (1, .int v1), (2, .int v2)] 4 rfl (congrArg (HAdd.hAdd v4) (by decide : Int32.ofInt (1) = (1 : Int32))) (by decide) rfl dX0_carryUp_92 ?_
  refine a_goto C 22 (by decide) dX0_carryUp_95 ?_
  exact At.sub [2, 3, 4, 1, 0] rfl (hrec _ _ _ _ _ h)
def Fl_carryUp_B22 (rec : Int32 → Int32 → Int32 → Int32 → St → Option (St)) (v1 : Int32) (v2 : Int32) (v3 : Int32) (v4 : Int32) (q : St) : Option (St) :=
  if (16 : Int32) ≤ v4 then
    some q
  else
    if v3 = (-1 : Int32) then
      some q
    else
      b1 (rd 21 q 23 v1) fun x5 =>
      b1 (Fl_need q v3 v2 x5) fun q6 =>
      b1 (rd 64 q6 27 ((v3 * (4 : Int32)) + v2)) fun x7 =>
      if x7 = (0 : Int32) then
        Fl_carryUp_J82 rec v1 v2 v3 v4 q6
      else
        b1 (rd 21 q6 23 v1) fun x10 =>
        b1 (Fl_need q6 v3 (0 : Int32) x10) fun q11 =>
        Fl_carryUp_J82 rec v1 (0 : Int32) v3 v4 q11
theorem w_Fl_carryUp_B22 {X : Cv} (C : Cx X cX0_carryUp RX0 rm_Fl_carryUp 5) (S : IsK X) {z : St} (hret : RokV X cX0_carryUp z) (rec : Int32 → Int32 → Int32 → Int32 → St → Option (St)) (hrec : ∀ (v1 : Int32) (v2 : Int32) (v3 : Int32) (v4 : Int32) (q : St), rec v1 v2 v3 v4 q = some z → At X 22 [(0, .ref (adOf X 157)), (1, .int v1), (2, .int v2), (3, .int v3), (4, .int v4)] [] q) (v1 : Int32) (v2 : Int32) (v3 : Int32) (v4 : Int32) (q : St) (h : Fl_carryUp_B22 rec v1 v2 v3 v4 q = some z) : At X 22 [(0, .ref (adOf X 157)), (1, .int v1), (2, .int v2), (3, .int v3), (4, .int v4)] [] q := by
  unfold Fl_carryUp_B22 at h
  refine a_iload C 4 rfl dX0_carryUp_22 ?_
  refine a_bipush (v := 16) C (by decide) dX0_carryUp_24 ?_
  refine a_icmp_ge C 98 (by decide) dX0_carryUp_26 (fun c3 => ?_) (fun c3 => ?_)
  · replace h := ifp c3 h
    exact a_vret hret h dX0_carryUp_98
  · replace h := ifn c3 h
    refine a_iload_n C 3 rfl rfl dX0_carryUp_29 ?_
    refine a_iconst (v := -1) C (by decide) dX0_carryUp_30 ?_
    refine a_icmp_eq C 98 (by decide) dX0_carryUp_31 (fun c4 => ?_) (fun c4 => ?_)
    · replace h := ifp c4 h
      exact a_vret hret h dX0_carryUp_98
    · replace h := ifn c4 h
      refine a_aload_n C 0 rfl rfl dX0_carryUp_34 ?_
      refine a_iload_n C 3 rfl rfl dX0_carryUp_35 ?_
      refine a_iload_n C 2 rfl rfl dX0_carryUp_36 ?_
      refine a_aload_n C 0 rfl rfl dX0_carryUp_37 ?_
      refine gK_0_25 C S dX0_carryUp_38 ?_
      refine gK_0_66 C S (Or.inl rfl) dX0_carryUp_41 ?_
      refine a_iload_n C 1 rfl rfl dX0_carryUp_44 ?_
      obtain ⟨x5, e_x5, h⟩ := b1s h
      refine lK_s4 (o := 19) C S (Or.inl rfl) e_x5 dX0_carryUp_45 ?_
      obtain ⟨q6, e_q6, h⟩ := b1s h
      refine kK_0_69 C S e_q6 ⟨(Nat.le_of_ble_eq_true rfl), (Nat.le_of_ble_eq_true rfl)⟩ (Nat.le_of_ble_eq_true rfl) dX0_carryUp_46 ?_
      refine a_aload_n C 0 rfl rfl dX0_carryUp_49 ?_
      refine gK_0_25 C S dX0_carryUp_50 ?_
      refine gK_0_73 C S (Or.inl rfl) dX0_carryUp_53 ?_
      refine a_iload_n C 3 rfl rfl dX0_carryUp_56 ?_
      refine a_iconst (v := 4) C (by decide) dX0_carryUp_57 ?_
      refine a_imul C dX0_carryUp_58 ?_
      refine a_iload_n C 2 rfl rfl dX0_carryUp_59 ?_
      refine a_iadd C dX0_carryUp_60 ?_
      obtain ⟨x7, e_x7, h⟩ := b1s h
      refine lK_s8 (o := 19) C S (Or.inl rfl) e_x7 dX0_carryUp_61 ?_
      refine a_if_eq C 82 (by decide) dX0_carryUp_62 (fun c8 => ?_) (fun c8 => ?_)
      · replace h := ifp c8 h
        exact At.sub [0, 1, 2, 3, 4] rfl (w_Fl_carryUp_J82 C S hret _ hrec _ _ _ _ _ h)
      · replace h := ifn c8 h
        refine a_iconst (v := 0) C (by decide) dX0_carryUp_65 ?_
        refine a_istore_n C [(2, .int (0 : Int32)), (0, .ref (adOf X 157)), (1, .int v1), (3, .int v3), (4, .int v4)] rfl (by decide) rfl dX0_carryUp_66 ?_
        refine a_aload_n C 1 rfl rfl dX0_carryUp_67 ?_
        refine a_iload_n C 3 rfl rfl dX0_carryUp_68 ?_
        refine a_iload_n C 0 rfl rfl dX0_carryUp_69 ?_
        refine a_aload_n C 1 rfl rfl dX0_carryUp_70 ?_
        refine gK_0_25 C S dX0_carryUp_71 ?_
        refine gK_0_66 C S (Or.inl rfl) dX0_carryUp_74 ?_
        refine a_iload_n C 2 rfl rfl dX0_carryUp_77 ?_
        obtain ⟨x10, e_x10, h⟩ := b1s h
        refine lK_s4 (o := 19) C S (Or.inl rfl) e_x10 dX0_carryUp_78 ?_
        obtain ⟨q11, e_q11, h⟩ := b1s h
        refine kK_0_69 C S e_q11 ⟨(Nat.le_of_ble_eq_true rfl), (Nat.le_of_ble_eq_true rfl)⟩ (Nat.le_of_ble_eq_true rfl) dX0_carryUp_79 ?_
        exact At.sub [1, 2, 0, 3, 4] rfl (w_Fl_carryUp_J82 C S hret _ hrec _ _ _ _ _ h)
def Fl_carryUp_L22 : Nat → Int32 → Int32 → Int32 → Int32 → St → Option (St)
  | 0, _, _, _, _, _ => none
  | n + 1, v1, v2, v3, v4, q => Fl_carryUp_B22 (Fl_carryUp_L22 n) v1 v2 v3 v4 q
theorem w_Fl_carryUp_L22 {X : Cv} (C : Cx X cX0_carryUp RX0 rm_Fl_carryUp 5) (S : IsK X) {z : St} (hret : RokV X cX0_carryUp z) (n : Nat) : ∀ (v1 : Int32) (v2 : Int32) (v3 : Int32) (v4 : Int32) (q : St), Fl_carryUp_L22 n v1 v2 v3 v4 q = some z → At X 22 [(0, .ref (adOf X 157)), (1, .int v1), (2, .int v2), (3, .int v3), (4, .int v4)] [] q := by
  induction n with
  | zero => intro v1 v2 v3 v4 q h; cases h
  | succ n ih => intro v1 v2 v3 v4 q h; exact w_Fl_carryUp_B22 C S hret _ ih v1 v2 v3 v4 q h
def Fl_carryUp (q : St) (v1 : Int32) : Option (St) :=
  b1 (rd 21 q 21 v1) fun x1 =>
  b1 (Sp_pathStart q v1) fun x2 =>
  Fl_carryUp_L22 FU v1 x1 x2 (0 : Int32) q
theorem w_Fl_carryUp {X : Cv} (C : Cx X cX0_carryUp RX0 rm_Fl_carryUp 5) (S : IsK X) {z : St} (hret : RokV X cX0_carryUp z) (v1 : Int32) (q : St) (h : Fl_carryUp q v1 = some z) : At X 0 [(0, .ref (adOf X 157)), (1, .int v1)] [] q := by
  unfold Fl_carryUp at h
  refine a_aload_n C 0 rfl rfl dX0_carryUp_0 ?_
  refine gK_0_25 C S dX0_carryUp_1 ?_
  refine gK_0_57 C S (Or.inl rfl) dX0_carryUp_4 ?_
  refine a_iload_n C 1 rfl rfl dX0_carryUp_7 ?_
  obtain ⟨x1, e_x1, h⟩ := b1s h
  refine lK_s2 (o := 19) C S (Or.inl rfl) e_x1 dX0_carryUp_8 ?_
  refine a_istore_n C [(2, .int x1), (0, .ref (adOf X 157)), (1, .int v1)] rfl (by decide) rfl dX0_carryUp_9 ?_
  refine a_aload_n C 1 rfl rfl dX0_carryUp_10 ?_
  refine gK_0_29 C S dX0_carryUp_11 ?_
  refine a_iload_n C 2 rfl rfl dX0_carryUp_14 ?_
  obtain ⟨x2, e_x2, h⟩ := b1s h
  refine kK_0_60 C S e_x2 ⟨(Nat.le_of_ble_eq_true rfl), (Nat.le_of_ble_eq_true rfl)⟩ (Nat.le_of_ble_eq_true rfl) dX0_carryUp_15 ?_
  refine a_istore_n C [(3, .int x2), (2, .int x1), (0, .ref (adOf X 157)), (1, .int v1)] rfl (by decide) rfl dX0_carryUp_18 ?_
  refine a_iconst (v := 0) C (by decide) dX0_carryUp_19 ?_
  refine a_istore C [(4, .int (0 : Int32)), (3, .int x2), (2, .int x1), (0, .ref (adOf X 157)), (1, .int v1)] (by decide) rfl dX0_carryUp_20 ?_
  exact At.sub [3, 4, 2, 1, 0] rfl (w_Fl_carryUp_L22 C S hret _ _ _ _ _ _ h)
theorem c_Fl_carryUp {l : Launch} {D : va_G} {I : ClassId × ClassId × ClassId × ClassId} {ad : Nat → Nat} {q : St} {v1 : Int32} {z : St} (h : Fl_carryUp q v1 = some z) : Ctr l D I (zK ad) 168 (shK I) ad yX0_carryUp cX0_carryUp 5 none rm_Fl_carryUp [.ref (ad 157), .int v1] q none z :=
  ctr_ofV (by decide) (Nat.le_of_ble_eq_true rfl) (fun p e s m args below meth c Q H0 X hX C hret => by subst hX; exact w_Fl_carryUp C ⟨rfl, rfl, rfl⟩ hret _ _ h)
theorem kK_0_45 {X : Cv} {cc : ByteArray} {rm : Room} {nL1 pc : Nat} {lv : List (Nat × Value)} {sk : List Value} {q : St} {v1 : Int32} {q2 : St} (C : Cx X cc RX0 rm nL1) (S : IsK X) (h : Fl_carryUp q v1 = some q2) (hz : rm_Fl_carryUp.frames + 1 ≤ rm.frames ∧ 8 + (5 + 11) + rm_Fl_carryUp.locals ≤ rm.locals) (hr : (sk.map fun v => v.category).sum ≤ 8) (hd : decode cc pc = .ok (.invokevirtual 45, 3)) (k : At X (pc + 3) lv sk q2) : At X pc lv (.int v1 :: .ref (adOf X 157) :: sk) q := a_callVv (as := [.int v1]) C (kp := 157) (kLt S (by decide)) (by rw [S.2.1]; rfl) rfl (by have hh := c_Fl_carryUp (l := X.2.1) (D := dOf X) (I := idOf X) (ad := adOf X) h; rw [← S.1, ← S.2.1, ← S.2.2] at hh; exact hh) (gd_V (tg 837 (by decide +kernel) rfl) (tg 839 (by decide +kernel) rfl) (tg 25 (by decide +kernel) rfl) (tg 122 (by decide +kernel) rfl) (tg 840 (by decide +kernel) rfl)) ⟨rfl, rfl, hz.1, hz.2⟩ ⟨by decide, by decide, by show Option.map _ (parseMethodDescriptor yX0_carryUp.desc) = some 1; decide⟩ hr rfl hd k
abbrev rm_Sp_uplink : Room := { frames := 0, cells := 0, slots := 0, locals := 0 }
def Sp_uplink (q : St) (v1 : Int32) : Option (Int32) :=
  b1 (rd 16 q 29 v1) fun x1 =>
  if x1 = (-1 : Int32) then
    some (-1 : Int32)
  else
    b1 (rd 256 q 6 ((x1 * (16 : Int32)) + v1)) fun x3 =>
    some x3
theorem w_Sp_uplink {X : Cv} (C : Cx X cX6_uplink RX6 rm_Sp_uplink 3) (S : IsK X) {q : St} {z : Int32} (hret : RokI X cX6_uplink .int z q) (v1 : Int32) (h : Sp_uplink q v1 = some z) : At X 0 [(0, .ref (adOf X 156)), (1, .int v1)] [] q := by
  unfold Sp_uplink at h
  refine a_aload_n C 0 rfl rfl dX6_uplink_0 ?_
  refine gK_6_15 C S dX6_uplink_1 ?_
  refine gK_6_19 C S (Or.inl rfl) dX6_uplink_4 ?_
  refine a_iload_n C 1 rfl rfl dX6_uplink_7 ?_
  obtain ⟨x1, e_x1, h⟩ := b1s h
  refine lK_s10 (o := 19) C S (Or.inl rfl) e_x1 dX6_uplink_8 ?_
  refine a_istore_n C [(2, .int x1), (0, .ref (adOf X 156)), (1, .int v1)] rfl (by decide) rfl dX6_uplink_9 ?_
  refine a_iload_n C 0 rfl rfl dX6_uplink_10 ?_
  refine a_iconst (v := -1) C (by decide) dX6_uplink_11 ?_
  refine a_icmp_ne C 19 (by decide) dX6_uplink_12 (fun c2 => ?_) (fun c2 => ?_)
  · replace h := ifn c2 h
    refine a_aload_n C 1 rfl rfl dX6_uplink_19 ?_
    refine gK_6_9 C S dX6_uplink_20 ?_
    refine gK_6_25 C S (Or.inl rfl) dX6_uplink_23 ?_
    refine a_iload_n C 0 rfl rfl dX6_uplink_26 ?_
    refine a_bipush (v := 16) C (by decide) dX6_uplink_27 ?_
    refine a_imul C dX6_uplink_29 ?_
    refine a_iload_n C 2 rfl rfl dX6_uplink_30 ?_
    refine a_iadd C dX6_uplink_31 ?_
    obtain ⟨x3, e_x3, h⟩ := b1s h
    refine lK_u5 (o := 1) C S (Or.inl rfl) e_x3 dX6_uplink_32 ?_
    exact a_iretR hret h rfl dX6_uplink_33
  · replace h := ifp c2 h
    refine a_iconst (v := -1) C (by decide) dX6_uplink_15 ?_
    refine a_goto C 33 (by decide) dX6_uplink_16 ?_
    exact a_iretR hret h rfl dX6_uplink_33
theorem c_Sp_uplink {l : Launch} {D : va_G} {I : ClassId × ClassId × ClassId × ClassId} {ad : Nat → Nat} {q : St} {v1 : Int32} {z : Int32} (h : Sp_uplink q v1 = some z) : Ctr l D I (zK ad) 168 (shK I) ad yX6_uplink cX6_uplink 3 (some .int) rm_Sp_uplink [.ref (ad 156), .int v1] q (some z) q :=
  ctr_ofI (by decide) (Nat.le_of_ble_eq_true rfl) (fun p e s m args below meth c Q H0 X hX C hret => by subst hX; exact w_Sp_uplink C ⟨rfl, rfl, rfl⟩ hret _ h)
theorem kK_0_80 {X : Cv} {cc : ByteArray} {rm : Room} {nL1 pc : Nat} {lv : List (Nat × Value)} {sk : List Value} {q : St} {v1 : Int32} {z : Int32} (C : Cx X cc RX0 rm nL1) (S : IsK X) (h : Sp_uplink q v1 = some z) (hz : rm_Sp_uplink.frames + 1 ≤ rm.frames ∧ 8 + (3 + 11) + rm_Sp_uplink.locals ≤ rm.locals) (hr : (sk.map fun v => v.category).sum ≤ 8) (hd : decode cc pc = .ok (.invokevirtual 80, 3)) (k : At X (pc + 3) lv (.int z :: sk) q) : At X pc lv (.int v1 :: .ref (adOf X 156) :: sk) q := a_callVi (as := [.int v1]) C (kp := 156) (kLt S (by decide)) (by rw [S.2.1]; rfl) rfl (by have hh := c_Sp_uplink (l := X.2.1) (D := dOf X) (I := idOf X) (ad := adOf X) h; rw [← S.1, ← S.2.1, ← S.2.2] at hh; exact hh) (gd_V (tg 853 (by decide +kernel) rfl) (tg 854 (by decide +kernel) rfl) (tg 855 (by decide +kernel) rfl) (tg 121 (by decide +kernel) rfl) (tg 856 (by decide +kernel) rfl)) ⟨rfl, rfl, hz.1, hz.2⟩ ⟨by decide, by decide, by show Option.map _ (parseMethodDescriptor yX6_uplink.desc) = some 1; decide⟩ hr rfl hd k
theorem kK_10_250 {X : Cv} {cc : ByteArray} {rm : Room} {nL1 pc : Nat} {lv : List (Nat × Value)} {sk : List Value} {q : St} {v1 : Int32} {z : Int32} (C : Cx X cc RX10 rm nL1) (S : IsK X) (h : Sp_uplink q v1 = some z) (hz : rm_Sp_uplink.frames + 1 ≤ rm.frames ∧ 8 + (3 + 11) + rm_Sp_uplink.locals ≤ rm.locals) (hr : (sk.map fun v => v.category).sum ≤ 8) (hd : decode cc pc = .ok (.invokevirtual 250, 3)) (k : At X (pc + 3) lv (.int z :: sk) q) : At X pc lv (.int v1 :: .ref (adOf X 156) :: sk) q := a_callVi (as := [.int v1]) C (kp := 156) (kLt S (by decide)) (by rw [S.2.1]; rfl) rfl (by have hh := c_Sp_uplink (l := X.2.1) (D := dOf X) (I := idOf X) (ad := adOf X) h; rw [← S.1, ← S.2.1, ← S.2.2] at hh; exact hh) (gd_V (tg 1058 (by decide +kernel) rfl) (tg 854 (by decide +kernel) rfl) (tg 855 (by decide +kernel) rfl) (tg 121 (by decide +kernel) rfl) (tg 856 (by decide +kernel) rfl)) ⟨rfl, rfl, hz.1, hz.2⟩ ⟨by decide, by decide, by show Option.map _ (parseMethodDescriptor yX6_uplink.desc) = some 1; decide⟩ hr rfl hd k
abbrev rm_Fl_addLoads : Room := { frames := 1, cells := 0, slots := 0, locals := 22 }
def Fl_addLoads_B11 (rec : Int32 → Int32 → Int32 → St → Option (St)) (v1 : Int32) (v2 : Int32) (v3 : Int32) (q : St) : Option (St) :=
  if (gt q 1 2) ≤ v3 then
    some q
  else
    b1 (rd 64 q 27 ((v1 * (4 : Int32)) + v3)) fun x3 =>
    if x3 = (0 : Int32) then
      if v2 = (-1 : Int32) then
        rec v1 v2 (v3 + 1) q
      else
        b1 (rd 32 q 159 v2) fun x6 =>
        b1 (rd 64 q 158 ((v1 * (4 : Int32)) + v3)) fun x7 =>
        b1 (Su_rateOf q v3 x7) fun x8 =>
        b1 (wr 32 q 159 v2 (x6 + x8)) fun q9 =>
        rec v1 v2 (v3 + 1) q9
    else
      b1 (rd 16 q 160 v1) fun x10 =>
      b1 (rd 4 q 8 v3) fun x11 =>
      b1 (rd 64 q 158 ((v1 * (4 : Int32)) + v3)) fun x12 =>
      b1 (wr 16 q 160 v1 (x10 + (x11 * x12))) fun q13 =>
      rec v1 v2 (v3 + 1) q13
theorem w_Fl_addLoads_B11 {X : Cv} (C : Cx X cX0_addLoads RX0 rm_Fl_addLoads 4) (S : IsK X) {z : St} (hret : RokV X cX0_addLoads z) (rec : Int32 → Int32 → Int32 → St → Option (St)) (hrec : ∀ (v1 : Int32) (v2 : Int32) (v3 : Int32) (q : St), rec v1 v2 v3 q = some z → At X 11 [(0, .ref (adOf X 157)), (1, .int v1), (2, .int v2), (3, .int v3)] [] q) (v1 : Int32) (v2 : Int32) (v3 : Int32) (q : St) (h : Fl_addLoads_B11 rec v1 v2 v3 q = some z) : At X 11 [(0, .ref (adOf X 157)), (1, .int v1), (2, .int v2), (3, .int v3)] [] q := by
  unfold Fl_addLoads_B11 at h
  refine a_iload_n C 3 rfl rfl dX0_addLoads_11 ?_
  refine a_aload_n C 0 rfl rfl dX0_addLoads_12 ?_
  refine gK_0_21 C S dX0_addLoads_13 ?_
  refine gK_0_83 C S (Or.inl rfl) dX0_addLoads_16 ?_
  refine a_icmp_ge C 108 (by decide) dX0_addLoads_19 (fun c2 => ?_) (fun c2 => ?_)
  · replace h := ifp c2 h
    exact a_vret hret h dX0_addLoads_108
  · replace h := ifn c2 h
    refine a_aload_n C 0 rfl rfl dX0_addLoads_22 ?_
    refine gK_0_25 C S dX0_addLoads_23 ?_
    refine gK_0_73 C S (Or.inl rfl) dX0_addLoads_26 ?_
    refine a_iload_n C 1 rfl rfl dX0_addLoads_29 ?_
    refine a_iconst (v := 4) C (by decide) dX0_addLoads_30 ?_
    refine a_imul C dX0_addLoads_31 ?_
    refine a_iload_n C 3 rfl rfl dX0_addLoads_32 ?_
    refine a_iadd C dX0_addLoads_33 ?_
    obtain ⟨x3, e_x3, h⟩ := b1s h
    refine lK_s8 (o := 19) C S (Or.inl rfl) e_x3 dX0_addLoads_34 ?_
    refine a_if_eq C 70 (by decide) dX0_addLoads_35 (fun c4 => ?_) (fun c4 => ?_)
    · replace h := ifp c4 h
      refine a_iload_n C 2 rfl rfl dX0_addLoads_70 ?_
      refine a_iconst (v := -1) C (by decide) dX0_addLoads_71 ?_
      refine a_icmp_eq C 102 (by decide) dX0_addLoads_72 (fun c5 => ?_) (fun c5 => ?_)
      · replace h := ifp c5 h
        refine a_iinc (v := (v3 + 1)) C [(3, .int (v3 + 1)), (0, .ref (adOf X 157)), (1, .int v1), (2, .int v2)] 3 rfl (congrArg (HAdd.hAdd v3) (by decide : Int32.ofInt (1) = (1 : Int32))) (by decide) rfl dX0_addLoads_102 ?_
        refine a_goto C 11 (by decide) dX0_addLoads_105 ?_
        exact At.sub [1, 2, 3, 0] rfl (hrec _ _ _ _ h)
      · replace h := ifn c5 h
        refine a_aload_n C 0 rfl rfl dX0_addLoads_75 ?_
        refine gK_0_15 C S dX0_addLoads_76 ?_
        refine a_iload_n C 2 rfl rfl dX0_addLoads_79 ?_
        refine a_dup2 C rfl rfl dX0_addLoads_80 ?_
        obtain ⟨x6, e_x6, h⟩ := b1s h
        refine lK_159 C S e_x6 dX0_addLoads_81 ?_
        refine a_aload_n C 0 rfl rfl dX0_addLoads_82 ?_
        refine gK_0_21 C S dX0_addLoads_83 ?_
        refine a_iload_n C 3 rfl rfl dX0_addLoads_86 ?_
        refine a_aload_n C 0 rfl rfl dX0_addLoads_87 ?_
        refine gK_0_9 C S dX0_addLoads_88 ?_
        refine a_iload_n C 1 rfl rfl dX0_addLoads_91 ?_
        refine a_iconst (v := 4) C (by decide) dX0_addLoads_92 ?_
        refine a_imul C dX0_addLoads_93 ?_
        refine a_iload_n C 3 rfl rfl dX0_addLoads_94 ?_
        refine a_iadd C dX0_addLoads_95 ?_
        obtain ⟨x7, e_x7, h⟩ := b1s h
        refine lK_158 C S e_x7 dX0_addLoads_96 ?_
        obtain ⟨x8, e_x8, h⟩ := b1s h
        refine kK_0_89 C S e_x8 ⟨(Nat.le_of_ble_eq_true rfl), (Nat.le_of_ble_eq_true rfl)⟩ (Nat.le_of_ble_eq_true rfl) dX0_addLoads_97 ?_
        refine a_iadd C dX0_addLoads_100 ?_
        obtain ⟨q9, e_q9, h⟩ := b1s h
        refine sK_159 C S e_q9 dX0_addLoads_101 ?_
        refine a_iinc (v := (v3 + 1)) C [(3, .int (v3 + 1)), (0, .ref (adOf X 157)), (1, .int v1), (2, .int v2)] 3 rfl (congrArg (HAdd.hAdd v3) (by decide : Int32.ofInt (1) = (1 : Int32))) (by decide) rfl dX0_addLoads_102 ?_
        refine a_goto C 11 (by decide) dX0_addLoads_105 ?_
        exact At.sub [1, 2, 3, 0] rfl (hrec _ _ _ _ h)
    · replace h := ifn c4 h
      refine a_aload_n C 0 rfl rfl dX0_addLoads_38 ?_
      refine gK_0_18 C S dX0_addLoads_39 ?_
      refine a_iload_n C 1 rfl rfl dX0_addLoads_42 ?_
      refine a_dup2 C rfl rfl dX0_addLoads_43 ?_
      obtain ⟨x10, e_x10, h⟩ := b1s h
      refine lK_160 C S e_x10 dX0_addLoads_44 ?_
      refine a_aload_n C 0 rfl rfl dX0_addLoads_45 ?_
      refine gK_0_21 C S dX0_addLoads_46 ?_
      refine gK_0_86 C S (Or.inl rfl) dX0_addLoads_49 ?_
      refine a_iload_n C 3 rfl rfl dX0_addLoads_52 ?_
      obtain ⟨x11, e_x11, h⟩ := b1s h
      refine lK_u7 (o := 1) C S (Or.inl rfl) e_x11 dX0_addLoads_53 ?_
      refine a_aload_n C 0 rfl rfl dX0_addLoads_54 ?_
      refine gK_0_9 C S dX0_addLoads_55 ?_
      refine a_iload_n C 1 rfl rfl dX0_addLoads_58 ?_
      refine a_iconst (v := 4) C (by decide) dX0_addLoads_59 ?_
      refine a_imul C dX0_addLoads_60 ?_
      refine a_iload_n C 3 rfl rfl dX0_addLoads_61 ?_
      refine a_iadd C dX0_addLoads_62 ?_
      obtain ⟨x12, e_x12, h⟩ := b1s h
      refine lK_158 C S e_x12 dX0_addLoads_63 ?_
      refine a_imul C dX0_addLoads_64 ?_
      refine a_iadd C dX0_addLoads_65 ?_
      obtain ⟨q13, e_q13, h⟩ := b1s h
      refine sK_160 C S e_q13 dX0_addLoads_66 ?_
      refine a_goto C 102 (by decide) dX0_addLoads_67 ?_
      refine a_iinc (v := (v3 + 1)) C [(3, .int (v3 + 1)), (0, .ref (adOf X 157)), (1, .int v1), (2, .int v2)] 3 rfl (congrArg (HAdd.hAdd v3) (by decide : Int32.ofInt (1) = (1 : Int32))) (by decide) rfl dX0_addLoads_102 ?_
      refine a_goto C 11 (by decide) dX0_addLoads_105 ?_
      exact At.sub [1, 2, 3, 0] rfl (hrec _ _ _ _ h)
def Fl_addLoads_L11 : Nat → Int32 → Int32 → Int32 → St → Option (St)
  | 0, _, _, _, _ => none
  | n + 1, v1, v2, v3, q => Fl_addLoads_B11 (Fl_addLoads_L11 n) v1 v2 v3 q
theorem w_Fl_addLoads_L11 {X : Cv} (C : Cx X cX0_addLoads RX0 rm_Fl_addLoads 4) (S : IsK X) {z : St} (hret : RokV X cX0_addLoads z) (n : Nat) : ∀ (v1 : Int32) (v2 : Int32) (v3 : Int32) (q : St), Fl_addLoads_L11 n v1 v2 v3 q = some z → At X 11 [(0, .ref (adOf X 157)), (1, .int v1), (2, .int v2), (3, .int v3)] [] q := by
  induction n with
  | zero => intro v1 v2 v3 q h; cases h
  | succ n ih => intro v1 v2 v3 q h; exact w_Fl_addLoads_B11 C S hret _ ih v1 v2 v3 q h
def Fl_addLoads (q : St) (v1 : Int32) : Option (St) :=
  b1 (Sp_uplink q v1) fun x1 =>
  Fl_addLoads_L11 FU v1 x1 (0 : Int32) q
theorem w_Fl_addLoads {X : Cv} (C : Cx X cX0_addLoads RX0 rm_Fl_addLoads 4) (S : IsK X) {z : St} (hret : RokV X cX0_addLoads z) (v1 : Int32) (q : St) (h : Fl_addLoads q v1 = some z) : At X 0 [(0, .ref (adOf X 157)), (1, .int v1)] [] q := by
  unfold Fl_addLoads at h
  refine a_aload_n C 0 rfl rfl dX0_addLoads_0 ?_
  refine gK_0_29 C S dX0_addLoads_1 ?_
  refine a_iload_n C 1 rfl rfl dX0_addLoads_4 ?_
  obtain ⟨x1, e_x1, h⟩ := b1s h
  refine kK_0_80 C S e_x1 ⟨(Nat.le_of_ble_eq_true rfl), (Nat.le_of_ble_eq_true rfl)⟩ (Nat.le_of_ble_eq_true rfl) dX0_addLoads_5 ?_
  refine a_istore_n C [(2, .int x1), (0, .ref (adOf X 157)), (1, .int v1)] rfl (by decide) rfl dX0_addLoads_8 ?_
  refine a_iconst (v := 0) C (by decide) dX0_addLoads_9 ?_
  refine a_istore_n C [(3, .int (0 : Int32)), (2, .int x1), (0, .ref (adOf X 157)), (1, .int v1)] rfl (by decide) rfl dX0_addLoads_10 ?_
  exact At.sub [2, 3, 1, 0] rfl (w_Fl_addLoads_L11 C S hret _ _ _ _ _ h)
theorem c_Fl_addLoads {l : Launch} {D : va_G} {I : ClassId × ClassId × ClassId × ClassId} {ad : Nat → Nat} {q : St} {v1 : Int32} {z : St} (h : Fl_addLoads q v1 = some z) : Ctr l D I (zK ad) 168 (shK I) ad yX0_addLoads cX0_addLoads 4 none rm_Fl_addLoads [.ref (ad 157), .int v1] q none z :=
  ctr_ofV (by decide) (Nat.le_of_ble_eq_true rfl) (fun p e s m args below meth c Q H0 X hX C hret => by subst hX; exact w_Fl_addLoads C ⟨rfl, rfl, rfl⟩ hret _ _ h)
theorem kK_0_54 {X : Cv} {cc : ByteArray} {rm : Room} {nL1 pc : Nat} {lv : List (Nat × Value)} {sk : List Value} {q : St} {v1 : Int32} {q2 : St} (C : Cx X cc RX0 rm nL1) (S : IsK X) (h : Fl_addLoads q v1 = some q2) (hz : rm_Fl_addLoads.frames + 1 ≤ rm.frames ∧ 8 + (4 + 11) + rm_Fl_addLoads.locals ≤ rm.locals) (hr : (sk.map fun v => v.category).sum ≤ 8) (hd : decode cc pc = .ok (.invokevirtual 54, 3)) (k : At X (pc + 3) lv sk q2) : At X pc lv (.int v1 :: .ref (adOf X 157) :: sk) q := a_callVv (as := [.int v1]) C (kp := 157) (kLt S (by decide)) (by rw [S.2.1]; rfl) rfl (by have hh := c_Fl_addLoads (l := X.2.1) (D := dOf X) (I := idOf X) (ad := adOf X) h; rw [← S.1, ← S.2.1, ← S.2.2] at hh; exact hh) (gd_V (tg 849 (by decide +kernel) rfl) (tg 851 (by decide +kernel) rfl) (tg 27 (by decide +kernel) rfl) (tg 122 (by decide +kernel) rfl) (tg 852 (by decide +kernel) rfl)) ⟨rfl, rfl, hz.1, hz.2⟩ ⟨by decide, by decide, by show Option.map _ (parseMethodDescriptor yX0_addLoads.desc) = some 1; decide⟩ hr rfl hd k
