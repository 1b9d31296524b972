abbrev rm_Rd_readLink : Room := { frames := 7, cells := 0, slots := 0, locals := 193 }
def Rd_readLink (q : St) : Option (Int32 × St) :=
  b2 (Rd_takeNumber q (0 : Int32) ((gt q 10 0) - (1 : Int32))) fun x1 q2 =>
  if x1 = (-1 : Int32) then
    some ((0 : Int32), q2)
  else
    if (gt q2 155 3) = x1 then
      some ((0 : Int32), q2)
    else
      b1 (Rd_isLinked q2 x1 (gt q2 155 3)) fun x5 =>
      if x5 = (0 : Int32) then
        b2 (Rd_takeNumber q2 (0 : Int32) ((gt q2 10 0) - (1 : Int32))) fun x7 q8 =>
        if x7 = (-1 : Int32) then
          some ((0 : Int32), q8)
        else
          b2 (Rd_takeWord 2 q8) fun x10 q11 =>
          if x10 = (0 : Int32) then
            some ((0 : Int32), q11)
          else
            b2 (Rd_takeNumber q11 (0 : Int32) (9999 : Int32)) fun x13 q14 =>
            if x13 = (-1 : Int32) then
              some ((0 : Int32), q14)
            else
              b2 (Rd_takeWord 3 q14) fun x16 q17 =>
              if x16 = (0 : Int32) then
                some ((0 : Int32), q17)
              else
                b2 (Rd_takeNumber q17 (1 : Int32) (99 : Int32)) fun x19 q20 =>
                if x19 = (-1 : Int32) then
                  some ((0 : Int32), q20)
                else
                  b2 (Rd_takeSemicolon q20) fun x22 q23 =>
                  if x22 = (0 : Int32) then
                    some ((0 : Int32), q23)
                  else
                    b1 (Su_putLink q23 x1 x7 x13 x19) fun q25 =>
                    some ((1 : Int32), q25)
      else
        some ((0 : Int32), q2)
theorem w_Rd_readLink {X : Cv} (C : Cx X cX5_readLink RX5 rm_Rd_readLink 5) (S : IsK X) {z : Int32 × St} (hret : RokI X cX5_readLink .boolean z.1 z.2) (q : St) (h : Rd_readLink q = some z) : At X 0 [(0, .ref (adOf X 155))] [] q := by
  unfold Rd_readLink at h
  refine a_aload_n C 0 rfl rfl dX5_readLink_0 ?_
  refine a_iconst (v := 0) C (by decide) dX5_readLink_1 ?_
  refine a_aload_n C 0 rfl rfl dX5_readLink_2 ?_
  refine gK_5_15 C S dX5_readLink_3 ?_
  refine gK_5_60 C S (Or.inr rfl) dX5_readLink_6 ?_
  refine a_iconst (v := 1) C (by decide) dX5_readLink_9 ?_
  refine a_isub C dX5_readLink_10 ?_
  obtain ⟨x1, q2, e_q2, h⟩ := b2s h
  refine kK_5_56 C S e_q2 ⟨(Nat.le_of_ble_eq_true rfl), (Nat.le_of_ble_eq_true rfl)⟩ (Nat.le_of_ble_eq_true rfl) dX5_readLink_11 ?_
  refine a_istore_n C [(1, .int x1), (0, .ref (adOf X 155))] rfl (by decide) rfl dX5_readLink_14 ?_
  refine a_iload_n C 0 rfl rfl dX5_readLink_15 ?_
  refine a_iconst (v := -1) C (by decide) dX5_readLink_16 ?_
  refine a_icmp_eq C 40 (by decide) dX5_readLink_17 (fun c3 => ?_) (fun c3 => ?_)
  · replace h := ifp c3 h
    refine a_iconst (v := 0) C (by decide) dX5_readLink_40 ?_
    exact a_iret hret h rfl dX5_readLink_41
  · replace h := ifn c3 h
    refine a_aload_n C 1 rfl rfl dX5_readLink_20 ?_
    refine gK_5_76 C S dX5_readLink_21 ?_
    refine a_iload_n C 0 rfl rfl dX5_readLink_24 ?_
    refine a_icmp_eq C 40 (by decide) dX5_readLink_25 (fun c4 => ?_) (fun c4 => ?_)
    · replace h := ifp c4 h
      refine a_iconst (v := 0) C (by decide) dX5_readLink_40 ?_
      exact a_iret hret h rfl dX5_readLink_41
    · replace h := ifn c4 h
      refine a_aload_n C 1 rfl rfl dX5_readLink_28 ?_
      refine a_iload_n C 0 rfl rfl dX5_readLink_29 ?_
      refine a_aload_n C 1 rfl rfl dX5_readLink_30 ?_
      refine gK_5_76 C S dX5_readLink_31 ?_
      obtain ⟨x5, e_x5, h⟩ := b1s h
      refine kK_5_79 C S e_x5 ⟨(Nat.le_of_ble_eq_true rfl), (Nat.le_of_ble_eq_true rfl)⟩ (Nat.le_of_ble_eq_true rfl) dX5_readLink_34 ?_
      refine a_if_eq C 42 (by decide) dX5_readLink_37 (fun c6 => ?_) (fun c6 => ?_)
      · replace h := ifp c6 h
        refine a_aload_n C 1 rfl rfl dX5_readLink_42 ?_
        refine a_iconst (v := 0) C (by decide) dX5_readLink_43 ?_
        refine a_aload_n C 1 rfl rfl dX5_readLink_44 ?_
        refine gK_5_15 C S dX5_readLink_45 ?_
        refine gK_5_60 C S (Or.inr rfl) dX5_readLink_48 ?_
        refine a_iconst (v := 1) C (by decide) dX5_readLink_51 ?_
        refine a_isub C dX5_readLink_52 ?_
        obtain ⟨x7, q8, e_q8, h⟩ := b2s h
        refine kK_5_56 C S e_q8 ⟨(Nat.le_of_ble_eq_true rfl), (Nat.le_of_ble_eq_true rfl)⟩ (Nat.le_of_ble_eq_true rfl) dX5_readLink_53 ?_
        refine a_istore_n C [(2, .int x7), (1, .int x1), (0, .ref (adOf X 155))] rfl (by decide) rfl dX5_readLink_56 ?_
        refine a_iload_n C 0 rfl rfl dX5_readLink_57 ?_
        refine a_iconst (v := -1) C (by decide) dX5_readLink_58 ?_
        refine a_icmp_eq C 71 (by decide) dX5_readLink_59 (fun c9 => ?_) (fun c9 => ?_)
        · replace h := ifp c9 h
          refine a_iconst (v := 0) C (by decide) dX5_readLink_71 ?_
          exact a_iret hret h rfl dX5_readLink_72
        · replace h := ifn c9 h
          refine a_aload_n C 2 rfl rfl dX5_readLink_62 ?_
          refine a_ldcS C S 2 (by decide) dX5_readLink_63 ?_
          obtain ⟨x10, q11, e_q11, h⟩ := b2s h
          refine kK_5_52 C S (by decide) e_q11 ⟨(Nat.le_of_ble_eq_true rfl), (Nat.le_of_ble_eq_true rfl)⟩ (Nat.le_of_ble_eq_true rfl) dX5_readLink_65 ?_
          refine a_if_ne C 73 (by decide) dX5_readLink_68 (fun c12 => ?_) (fun c12 => ?_)
          · replace h := ifn c12 h
            refine a_aload_n C 2 rfl rfl dX5_readLink_73 ?_
            refine a_iconst (v := 0) C (by decide) dX5_readLink_74 ?_
            refine a_sipush (v := 9999) C (by decide) dX5_readLink_75 ?_
            obtain ⟨x13, q14, e_q14, h⟩ := b2s h
            refine kK_5_56 C S e_q14 ⟨(Nat.le_of_ble_eq_true rfl), (Nat.le_of_ble_eq_true rfl)⟩ (Nat.le_of_ble_eq_true rfl) dX5_readLink_78 ?_
            refine a_istore_n C [(3, .int x13), (2, .int x7), (1, .int x1), (0, .ref (adOf X 155))] rfl (by decide) rfl dX5_readLink_81 ?_
            refine a_iload_n C 0 rfl rfl dX5_readLink_82 ?_
            refine a_iconst (v := -1) C (by decide) dX5_readLink_83 ?_
            refine a_icmp_eq C 96 (by decide) dX5_readLink_84 (fun c15 => ?_) (fun c15 => ?_)
            · replace h := ifp c15 h
              refine a_iconst (v := 0) C (by decide) dX5_readLink_96 ?_
              exact a_iret hret h rfl dX5_readLink_97
            · replace h := ifn c15 h
              refine a_aload_n C 3 rfl rfl dX5_readLink_87 ?_
              refine a_ldcS C S 3 (by decide) dX5_readLink_88 ?_
              obtain ⟨x16, q17, e_q17, h⟩ := b2s h
              refine kK_5_52 C S (by decide) e_q17 ⟨(Nat.le_of_ble_eq_true rfl), (Nat.le_of_ble_eq_true rfl)⟩ (Nat.le_of_ble_eq_true rfl) dX5_readLink_90 ?_
              refine a_if_ne C 98 (by decide) dX5_readLink_93 (fun c18 => ?_) (fun c18 => ?_)
              · replace h := ifn c18 h
                refine a_aload_n C 3 rfl rfl dX5_readLink_98 ?_
                refine a_iconst (v := 1) C (by decide) dX5_readLink_99 ?_
                refine a_bipush (v := 99) C (by decide) dX5_readLink_100 ?_
                obtain ⟨x19, q20, e_q20, h⟩ := b2s h
                refine kK_5_56 C S e_q20 ⟨(Nat.le_of_ble_eq_true rfl), (Nat.le_of_ble_eq_true rfl)⟩ (Nat.le_of_ble_eq_true rfl) dX5_readLink_102 ?_
                refine a_istore C [(4, .int x19), (3, .int x13), (2, .int x7), (1, .int x1), (0, .ref (adOf X 155))] (by decide) rfl dX5_readLink_105 ?_
                refine a_iload C 0 rfl dX5_readLink_107 ?_
                refine a_iconst (v := -1) C (by decide) dX5_readLink_109 ?_
                refine a_icmp_eq C 120 (by decide) dX5_readLink_110 (fun c21 => ?_) (fun c21 => ?_)
                · replace h := ifp c21 h
                  refine a_iconst (v := 0) C (by decide) dX5_readLink_120 ?_
                  exact a_iret hret h rfl dX5_readLink_121
                · replace h := ifn c21 h
                  refine a_aload_n C 4 rfl rfl dX5_readLink_113 ?_
                  obtain ⟨x22, q23, e_q23, h⟩ := b2s h
                  refine kK_5_62 C S e_q23 ⟨(Nat.le_of_ble_eq_true rfl), (Nat.le_of_ble_eq_true rfl)⟩ (Nat.le_of_ble_eq_true rfl) dX5_readLink_114 ?_
                  refine a_if_ne C 122 (by decide) dX5_readLink_117 (fun c24 => ?_) (fun c24 => ?_)
                  · replace h := ifn c24 h
                    refine a_aload_n C 4 rfl rfl dX5_readLink_122 ?_
                    refine gK_5_15 C S dX5_readLink_123 ?_
                    refine a_iload_n C 3 rfl rfl dX5_readLink_126 ?_
                    refine a_iload_n C 2 rfl rfl dX5_readLink_127 ?_
                    refine a_iload_n C 1 rfl rfl dX5_readLink_128 ?_
                    refine a_iload C 0 rfl dX5_readLink_129 ?_
                    obtain ⟨q25, e_q25, h⟩ := b1s h
                    refine kK_5_87 C S e_q25 ⟨(Nat.le_of_ble_eq_true rfl), (Nat.le_of_ble_eq_true rfl)⟩ (Nat.le_of_ble_eq_true rfl) dX5_readLink_131 ?_
                    refine a_iconst (v := 1) C (by decide) dX5_readLink_134 ?_
                    exact a_iret hret h rfl dX5_readLink_135
                  · replace h := ifp c24 h
                    refine a_iconst (v := 0) C (by decide) dX5_readLink_120 ?_
                    exact a_iret hret h rfl dX5_readLink_121
              · replace h := ifp c18 h
                refine a_iconst (v := 0) C (by decide) dX5_readLink_96 ?_
                exact a_iret hret h rfl dX5_readLink_97
          · replace h := ifp c12 h
            refine a_iconst (v := 0) C (by decide) dX5_readLink_71 ?_
            exact a_iret hret h rfl dX5_readLink_72
      · replace h := ifn c6 h
        refine a_iconst (v := 0) C (by decide) dX5_readLink_40 ?_
        exact a_iret hret h rfl dX5_readLink_41
theorem c_Rd_readLink {l : Launch} {D : va_G} {I : ClassId × ClassId × ClassId × ClassId} {ad : Nat → Nat} {q : St} {z : Int32 × St} (h : Rd_readLink q = some z) : Ctr l D I (zK ad) 168 (shK I) ad yX5_readLink cX5_readLink 5 (some .boolean) rm_Rd_readLink [.ref (ad 155)] q (some z.1) z.2 :=
  ctr_ofI (by decide) (Nat.le_of_ble_eq_true rfl) (fun p e s m args below meth c Q H0 X hX C hret => by subst hX; exact w_Rd_readLink C ⟨rfl, rfl, rfl⟩ hret _ h)
theorem kK_5_73 {X : Cv} {cc : ByteArray} {rm : Room} {nL1 pc : Nat} {lv : List (Nat × Value)} {sk : List Value} {q : St} {z : Int32} {q2 : St} (C : Cx X cc RX5 rm nL1) (S : IsK X) (h : Rd_readLink q = some (z, q2)) (hz : rm_Rd_readLink.frames + 1 ≤ rm.frames ∧ 8 + (5 + 11) + rm_Rd_readLink.locals ≤ rm.locals) (hr : (sk.map fun v => v.category).sum ≤ 8) (hd : decode cc pc = .ok (.invokevirtual 73, 3)) (k : At X (pc + 3) lv (.int z :: sk) q2) : At X pc lv (.ref (adOf X 155) :: sk) q := a_callVi (as := []) C (kp := 155) (kLt S (by decide)) (by rw [S.2.1]; rfl) rfl (by have hh := c_Rd_readLink (l := X.2.1) (D := dOf X) (I := idOf X) (ad := adOf X) h; rw [← S.1, ← S.2.1, ← S.2.2] at hh; exact hh) (gd_V (tg 660 (by decide +kernel) rfl) (tg 662 (by decide +kernel) rfl) (tg 9 (by decide +kernel) rfl) (tg 120 (by decide +kernel) rfl) (tg 663 (by decide +kernel) rfl)) ⟨rfl, rfl, hz.1, hz.2⟩ ⟨by decide, by decide, by show Option.map _ (parseMethodDescriptor yX5_readLink.desc) = some 0; decide⟩ hr rfl hd k
abbrev rm_Rd_readLinks : Room := { frames := 8, cells := 0, slots := 0, locals := 217 }
def Rd_readLinks_B2 (rec : Int32 → St → Option (Int32 × St)) (v1 : Int32) (q : St) : Option (Int32 × St) :=
  if (32 : Int32) < v1 then
    some ((1 : Int32), q)
  else
    b1 (Rd_isWord 1 q) fun x2 =>
    if x2 = (0 : Int32) then
      some ((1 : Int32), q)
    else
      if (gt q 10 1) = (32 : Int32) then
        some ((0 : Int32), q)
      else
        b1 (Rd_nextToken q) fun q5 =>
        b2 (Rd_readLink q5) fun x6 q7 =>
        if x6 = (0 : Int32) then
          some ((0 : Int32), q7)
        else
          rec (v1 + 1) q7
theorem w_Rd_readLinks_B2 {X : Cv} (C : Cx X cX5_readLinks RX5 rm_Rd_readLinks 2) (S : IsK X) {z : Int32 × St} (hret : RokI X cX5_readLinks .boolean z.1 z.2) (rec : Int32 → St → Option (Int32 × St)) (hrec : ∀ (v1 : Int32) (q : St), rec v1 q = some z → At X 2 [(0, .ref (adOf X 155)), (1, .int v1)] [] q) (v1 : Int32) (q : St) (h : Rd_readLinks_B2 rec v1 q = some z) : At X 2 [(0, .ref (adOf X 155)), (1, .int v1)] [] q := by
  unfold Rd_readLinks_B2 at h
  refine a_iload_n C 1 rfl rfl dX5_readLinks_2 ?_
  refine a_bipush (v := 32) C (by decide) dX5_readLinks_3 ?_
  refine a_icmp_gt C 50 (by decide) dX5_readLinks_5 (fun c1 => ?_) (fun c1 => ?_)
  · replace h := ifp c1 h
    refine a_iconst (v := 1) C (by decide) dX5_readLinks_50 ?_
    exact a_iret hret h rfl dX5_readLinks_51
  · replace h := ifn c1 h
    refine a_aload_n C 0 rfl rfl dX5_readLinks_8 ?_
    refine a_ldcS C S 1 (by decide) dX5_readLinks_9 ?_
    obtain ⟨x2, e_x2, h⟩ := b1s h
    refine kK_5_67 C S (by decide) e_x2 ⟨(Nat.le_of_ble_eq_true rfl), (Nat.le_of_ble_eq_true rfl)⟩ (Nat.le_of_ble_eq_true rfl) dX5_readLinks_11 ?_
    refine a_if_eq C 50 (by decide) dX5_readLinks_14 (fun c3 => ?_) (fun c3 => ?_)
    · replace h := ifp c3 h
      refine a_iconst (v := 1) C (by decide) dX5_readLinks_50 ?_
      exact a_iret hret h rfl dX5_readLinks_51
    · replace h := ifn c3 h
      refine a_aload_n C 0 rfl rfl dX5_readLinks_17 ?_
      refine gK_5_15 C S dX5_readLinks_18 ?_
      refine gK_5_70 C S (Or.inr rfl) dX5_readLinks_21 ?_
      refine a_bipush (v := 32) C (by decide) dX5_readLinks_24 ?_
      refine a_icmp_ne C 31 (by decide) dX5_readLinks_26 (fun c4 => ?_) (fun c4 => ?_)
      · replace h := ifn c4 h
        refine a_aload_n C 0 rfl rfl dX5_readLinks_31 ?_
        obtain ⟨q5, e_q5, h⟩ := b1s h
        refine kK_5_28 C S e_q5 ⟨(Nat.le_of_ble_eq_true rfl), (Nat.le_of_ble_eq_true rfl)⟩ (Nat.le_of_ble_eq_true rfl) dX5_readLinks_32 ?_
        refine a_aload_n C 0 rfl rfl dX5_readLinks_35 ?_
        obtain ⟨x6, q7, e_q7, h⟩ := b2s h
        refine kK_5_73 C S e_q7 ⟨(Nat.le_of_ble_eq_true rfl), (Nat.le_of_ble_eq_true rfl)⟩ (Nat.le_of_ble_eq_true rfl) dX5_readLinks_36 ?_
        refine a_if_ne C 44 (by decide) dX5_readLinks_39 (fun c8 => ?_) (fun c8 => ?_)
        · replace h := ifn c8 h
          refine a_iinc (v := (v1 + 1)) C [(1, .int (v1 + 1)), (0, .ref (adOf X 155))] 1 rfl (congrArg (HAdd.hAdd v1) (by decide : Int32.ofInt (1) = (1 : Int32))) (by decide) rfl dX5_readLinks_44 ?_
          refine a_goto C 2 (by decide) dX5_readLinks_47 ?_
          exact At.sub [1, 0] rfl (hrec _ _ h)
        · replace h := ifp c8 h
          refine a_iconst (v := 0) C (by decide) dX5_readLinks_42 ?_
          exact a_iret hret h rfl dX5_readLinks_43
      · replace h := ifp c4 h
        refine a_iconst (v := 0) C (by decide) dX5_readLinks_29 ?_
        exact a_iret hret h rfl dX5_readLinks_30
def Rd_readLinks_L2 : Nat → Int32 → St → Option (Int32 × St)
  | 0, _, _ => none
  | n + 1, v1, q => Rd_readLinks_B2 (Rd_readLinks_L2 n) v1 q
theorem w_Rd_readLinks_L2 {X : Cv} (C : Cx X cX5_readLinks RX5 rm_Rd_readLinks 2) (S : IsK X) {z : Int32 × St} (hret : RokI X cX5_readLinks .boolean z.1 z.2) (n : Nat) : ∀ (v1 : Int32) (q : St), Rd_readLinks_L2 n v1 q = some z → At X 2 [(0, .ref (adOf X 155)), (1, .int v1)] [] q := by
  induction n with
  | zero => intro v1 q h; cases h
  | succ n ih => intro v1 q h; exact w_Rd_readLinks_B2 C S hret _ ih v1 q h
def Rd_readLinks (q : St) : Option (Int32 × St) :=
  Rd_readLinks_L2 FU (0 : Int32) q
theorem w_Rd_readLinks {X : Cv} (C : Cx X cX5_readLinks RX5 rm_Rd_readLinks 2) (S : IsK X) {z : Int32 × St} (hret : RokI X cX5_readLinks .boolean z.1 z.2) (q : St) (h : Rd_readLinks q = some z) : At X 0 [(0, .ref (adOf X 155))] [] q := by
  unfold Rd_readLinks at h
  refine a_iconst (v := 0) C (by decide) dX5_readLinks_0 ?_
  refine a_istore_n C [(1, .int (0 : Int32)), (0, .ref (adOf X 155))] rfl (by decide) rfl dX5_readLinks_1 ?_
  exact At.sub [1, 0] rfl (w_Rd_readLinks_L2 C S hret _ _ _ h)
theorem c_Rd_readLinks {l : Launch} {D : va_G} {I : ClassId × ClassId × ClassId × ClassId} {ad : Nat → Nat} {q : St} {z : Int32 × St} (h : Rd_readLinks q = some z) : Ctr l D I (zK ad) 168 (shK I) ad yX5_readLinks cX5_readLinks 2 (some .boolean) rm_Rd_readLinks [.ref (ad 155)] q (some z.1) z.2 :=
  ctr_ofI (by decide) (Nat.le_of_ble_eq_true rfl) (fun p e s m args below meth c Q H0 X hX C hret => by subst hX; exact w_Rd_readLinks C ⟨rfl, rfl, rfl⟩ hret _ h)
theorem kK_5_35 {X : Cv} {cc : ByteArray} {rm : Room} {nL1 pc : Nat} {lv : List (Nat × Value)} {sk : List Value} {q : St} {z : Int32} {q2 : St} (C : Cx X cc RX5 rm nL1) (S : IsK X) (h : Rd_readLinks q = some (z, q2)) (hz : rm_Rd_readLinks.frames + 1 ≤ rm.frames ∧ 8 + (2 + 11) + rm_Rd_readLinks.locals ≤ rm.locals) (hr : (sk.map fun v => v.category).sum ≤ 8) (hd : decode cc pc = .ok (.invokevirtual 35, 3)) (k : At X (pc + 3) lv (.int z :: sk) q2) : At X pc lv (.ref (adOf X 155) :: sk) q := a_callVi (as := []) C (kp := 155) (kLt S (by decide)) (by rw [S.2.1]; rfl) rfl (by have hh := c_Rd_readLinks (l := X.2.1) (D := dOf X) (I := idOf X) (ad := adOf X) h; rw [← S.1, ← S.2.1, ← S.2.2] at hh; exact hh) (gd_V (tg 655 (by decide +kernel) rfl) (tg 657 (by decide +kernel) rfl) (tg 8 (by decide +kernel) rfl) (tg 120 (by decide +kernel) rfl) (tg 658 (by decide +kernel) rfl)) ⟨rfl, rfl, hz.1, hz.2⟩ ⟨by decide, by decide, by show Option.map _ (parseMethodDescriptor yX5_readLinks.desc) = some 0; decide⟩ hr rfl hd k
abbrev rm_Rd_readCpus : Room := { frames := 6, cells := 0, slots := 0, locals := 172 }
def Rd_readCpus_J58 (rec : Int32 → Int32 → St → Option (Int32 × St)) (v1 : Int32) (v2 : Int32) (q : St) : Option (Int32 × St) :=
  b2 (Rd_takeNumber q (0 : Int32) ((gt q 10 0) - (1 : Int32))) fun x6 q7 =>
  if x6 = (-1 : Int32) then
    some ((0 : Int32), q7)
  else
    lt_ (v1 ||| ((1 : Int32) <<< (x6 &&& 31))) fun w9 =>
    b2 (Rd_takeNumber q7 (0 : Int32) (999 : Int32)) fun x10 q11 =>
    if x10 = (-1 : Int32) then
      some ((0 : Int32), q11)
    else
      b2 (Rd_takeSemicolon q11) fun x13 q14 =>
      if x13 = (0 : Int32) then
        some ((0 : Int32), q14)
      else
        b1 (wr 16 q14 16 x6 x10) fun q16 =>
        rec w9 (v2 + 1) q16
theorem w_Rd_readCpus_J58 {X : Cv} (C : Cx X cX5_readCpus RX5 rm_Rd_readCpus 5) (S : IsK X) {z : Int32 × St} (hret : RokI X cX5_readCpus .boolean z.1 z.2) (rec : Int32 → Int32 → St → Option (Int32 × St)) (hrec : ∀ (v1 : Int32) (v2 : Int32) (q : St), rec v1 v2 q = some z → At X 4 [(0, .ref (adOf X 155)), (1, .int v1), (2, .int v2)] [] q) (v1 : Int32) (v2 : Int32) (q : St) (h : Rd_readCpus_J58 rec v1 v2 q = some z) : At X 58 [(0, .ref (adOf X 155)), (1, .int v1), (2, .int v2)] [] q := by
  unfold Rd_readCpus_J58 at h
  refine a_aload_n C 0 rfl rfl dX5_readCpus_58 ?_
  refine a_iconst (v := 0) C (by decide) dX5_readCpus_59 ?_
  refine a_aload_n C 0 rfl rfl dX5_readCpus_60 ?_
  refine gK_5_15 C S dX5_readCpus_61 ?_
  refine gK_5_60 C S (Or.inr rfl) dX5_readCpus_64 ?_
  refine a_iconst (v := 1) C (by decide) dX5_readCpus_67 ?_
  refine a_isub C dX5_readCpus_68 ?_
  obtain ⟨x6, q7, e_q7, h⟩ := b2s h
  refine kK_5_56 C S e_q7 ⟨(Nat.le_of_ble_eq_true rfl), (Nat.le_of_ble_eq_true rfl)⟩ (Nat.le_of_ble_eq_true rfl) dX5_readCpus_69 ?_
  refine a_istore_n C [(3, .int x6), (0, .ref (adOf X 155)), (1, .int v1), (2, .int v2)] rfl (by decide) rfl dX5_readCpus_72 ?_
  refine a_iload_n C 0 rfl rfl dX5_readCpus_73 ?_
  refine a_iconst (v := -1) C (by decide) dX5_readCpus_74 ?_
  refine a_icmp_ne C 80 (by decide) dX5_readCpus_75 (fun c8 => ?_) (fun c8 => ?_)
  · replace h := ifn c8 h
    refine a_iload_n C 2 rfl rfl dX5_readCpus_80 ?_
    refine a_iconst (v := 1) C (by decide) dX5_readCpus_81 ?_
    refine a_iload_n C 0 rfl rfl dX5_readCpus_82 ?_
    refine a_ishl C dX5_readCpus_83 ?_
    refine a_ior C dX5_readCpus_84 ?_
    obtain ⟨w9, e_w9, h⟩ := lts h
    refine a_top e_w9 ?_
    refine a_istore_n C [(1, .int w9), (3, .int x6), (0, .ref (adOf X 155)), (2, .int v2)] rfl (by decide) rfl dX5_readCpus_85 ?_
    refine a_aload_n C 2 rfl rfl dX5_readCpus_86 ?_
    refine a_iconst (v := 0) C (by decide) dX5_readCpus_87 ?_
    refine a_sipush (v := 999) C (by decide) dX5_readCpus_88 ?_
    obtain ⟨x10, q11, e_q11, h⟩ := b2s h
    refine kK_5_56 C S e_q11 ⟨(Nat.le_of_ble_eq_true rfl), (Nat.le_of_ble_eq_true rfl)⟩ (Nat.le_of_ble_eq_true rfl) dX5_readCpus_91 ?_
    refine a_istore C [(4, .int x10), (1, .int w9), (3, .int x6), (0, .ref (adOf X 155)), (2, .int v2)] (by decide) rfl dX5_readCpus_94 ?_
    refine a_iload C 0 rfl dX5_readCpus_96 ?_
    refine a_iconst (v := -1) C (by decide) dX5_readCpus_98 ?_
    refine a_icmp_eq C 109 (by decide) dX5_readCpus_99 (fun c12 => ?_) (fun c12 => ?_)
    · replace h := ifp c12 h
      refine a_iconst (v := 0) C (by decide) dX5_readCpus_109 ?_
      exact a_iret hret h rfl dX5_readCpus_110
    · replace h := ifn c12 h
      refine a_aload_n C 3 rfl rfl dX5_readCpus_102 ?_
      obtain ⟨x13, q14, e_q14, h⟩ := b2s h
      refine kK_5_62 C S e_q14 ⟨(Nat.le_of_ble_eq_true rfl), (Nat.le_of_ble_eq_true rfl)⟩ (Nat.le_of_ble_eq_true rfl) dX5_readCpus_103 ?_
      refine a_if_ne C 111 (by decide) dX5_readCpus_106 (fun c15 => ?_) (fun c15 => ?_)
      · replace h := ifn c15 h
        refine a_aload_n C 3 rfl rfl dX5_readCpus_111 ?_
        refine gK_5_15 C S dX5_readCpus_112 ?_
        refine gK_5_97 C S (Or.inr rfl) dX5_readCpus_115 ?_
        refine a_iload_n C 2 rfl rfl dX5_readCpus_118 ?_
        refine a_iload C 0 rfl dX5_readCpus_119 ?_
        obtain ⟨q16, e_q16, h⟩ := b1s h
        refine sK_u6 (o := 10) C S (Or.inr rfl) e_q16 dX5_readCpus_121 ?_
        refine a_iinc (v := (v2 + 1)) C [(2, .int (v2 + 1)), (4, .int x10), (1, .int w9), (3, .int x6), (0, .ref (adOf X 155))] 4 rfl (congrArg (HAdd.hAdd v2) (by decide : Int32.ofInt (1) = (1 : Int32))) (by decide) rfl dX5_readCpus_122 ?_
        refine a_goto C 4 (by decide) dX5_readCpus_125 ?_
        exact At.sub [4, 2, 0] rfl (hrec _ _ _ h)
      · replace h := ifp c15 h
        refine a_iconst (v := 0) C (by decide) dX5_readCpus_109 ?_
        exact a_iret hret h rfl dX5_readCpus_110
  · replace h := ifp c8 h
    refine a_iconst (v := 0) C (by decide) dX5_readCpus_78 ?_
    exact a_iret hret h rfl dX5_readCpus_79
def Rd_readCpus_B4 (rec : Int32 → Int32 → St → Option (Int32 × St)) (v1 : Int32) (v2 : Int32) (q : St) : Option (Int32 × St) :=
  if (16 : Int32) < v2 then
    some ((1 : Int32), q)
  else
    b1 (Rd_isWord 4 q) fun x2 =>
    if x2 = (0 : Int32) then
      some ((1 : Int32), q)
    else
      b1 (Rd_nextToken q) fun q4 =>
      if (gt q4 155 3) < (0 : Int32) then
        Rd_readCpus_J58 rec v1 v2 q4
      else
        if (gt q4 10 0) ≤ (gt q4 155 3) then
          Rd_readCpus_J58 rec v1 v2 q4
        else
          if ((v1 >>> ((gt q4 155 3) &&& 31)) &&& (1 : Int32)) = (1 : Int32) then
            some ((0 : Int32), q4)
          else
            Rd_readCpus_J58 rec v1 v2 q4
theorem w_Rd_readCpus_B4 {X : Cv} (C : Cx X cX5_readCpus RX5 rm_Rd_readCpus 5) (S : IsK X) {z : Int32 × St} (hret : RokI X cX5_readCpus .boolean z.1 z.2) (rec : Int32 → Int32 → St → Option (Int32 × St)) (hrec : ∀ (v1 : Int32) (v2 : Int32) (q : St), rec v1 v2 q = some z → At X 4 [(0, .ref (adOf X 155)), (1, .int v1), (2, .int v2)] [] q) (v1 : Int32) (v2 : Int32) (q : St) (h : Rd_readCpus_B4 rec v1 v2 q = some z) : At X 4 [(0, .ref (adOf X 155)), (1, .int v1), (2, .int v2)] [] q := by
  unfold Rd_readCpus_B4 at h
  refine a_iload_n C 2 rfl rfl dX5_readCpus_4 ?_
  refine a_bipush (v := 16) C (by decide) dX5_readCpus_5 ?_
  refine a_icmp_gt C 128 (by decide) dX5_readCpus_7 (fun c1 => ?_) (fun c1 => ?_)
  · replace h := ifp c1 h
    refine a_iconst (v := 1) C (by decide) dX5_readCpus_128 ?_
    exact a_iret hret h rfl dX5_readCpus_129
  · replace h := ifn c1 h
    refine a_aload_n C 0 rfl rfl dX5_readCpus_10 ?_
    refine a_ldcS C S 4 (by decide) dX5_readCpus_11 ?_
    obtain ⟨x2, e_x2, h⟩ := b1s h
    refine kK_5_67 C S (by decide) e_x2 ⟨(Nat.le_of_ble_eq_true rfl), (Nat.le_of_ble_eq_true rfl)⟩ (Nat.le_of_ble_eq_true rfl) dX5_readCpus_13 ?_
    refine a_if_eq C 128 (by decide) dX5_readCpus_16 (fun c3 => ?_) (fun c3 => ?_)
    · replace h := ifp c3 h
      refine a_iconst (v := 1) C (by decide) dX5_readCpus_128 ?_
      exact a_iret hret h rfl dX5_readCpus_129
    · replace h := ifn c3 h
      refine a_aload_n C 0 rfl rfl dX5_readCpus_19 ?_
      obtain ⟨q4, e_q4, h⟩ := b1s h
      refine kK_5_28 C S e_q4 ⟨(Nat.le_of_ble_eq_true rfl), (Nat.le_of_ble_eq_true rfl)⟩ (Nat.le_of_ble_eq_true rfl) dX5_readCpus_20 ?_
      refine a_aload_n C 0 rfl rfl dX5_readCpus_23 ?_
      refine gK_5_76 C S dX5_readCpus_24 ?_
      refine a_if_lt C 58 (by decide) dX5_readCpus_27 (fun c5 => ?_) (fun c5 => ?_)
      · replace h := ifp c5 h
        exact At.sub [0, 1, 2] rfl (w_Rd_readCpus_J58 C S hret _ hrec _ _ _ h)
      · replace h := ifn c5 h
        refine a_aload_n C 0 rfl rfl dX5_readCpus_30 ?_
        refine gK_5_76 C S dX5_readCpus_31 ?_
        refine a_aload_n C 0 rfl rfl dX5_readCpus_34 ?_
        refine gK_5_15 C S dX5_readCpus_35 ?_
        refine gK_5_60 C S (Or.inr rfl) dX5_readCpus_38 ?_
        refine a_icmp_ge C 58 (by decide) dX5_readCpus_41 (fun c17 => ?_) (fun c17 => ?_)
        · replace h := ifp c17 h
          exact At.sub [0, 1, 2] rfl (w_Rd_readCpus_J58 C S hret _ hrec _ _ _ h)
        · replace h := ifn c17 h
          refine a_iload_n C 1 rfl rfl dX5_readCpus_44 ?_
          refine a_aload_n C 0 rfl rfl dX5_readCpus_45 ?_
          refine gK_5_76 C S dX5_readCpus_46 ?_
          refine a_ishr C dX5_readCpus_49 ?_
          refine a_iconst (v := 1) C (by decide) dX5_readCpus_50 ?_
          refine a_iand C dX5_readCpus_51 ?_
          refine a_iconst (v := 1) C (by decide) dX5_readCpus_52 ?_
          refine a_icmp_ne C 58 (by decide) dX5_readCpus_53 (fun c18 => ?_) (fun c18 => ?_)
          · replace h := ifn c18 h
            exact At.sub [0, 1, 2] rfl (w_Rd_readCpus_J58 C S hret _ hrec _ _ _ h)
          · replace h := ifp c18 h
            refine a_iconst (v := 0) C (by decide) dX5_readCpus_56 ?_
            exact a_iret hret h rfl dX5_readCpus_57
def Rd_readCpus_L4 : Nat → Int32 → Int32 → St → Option (Int32 × St)
  | 0, _, _, _ => none
  | n + 1, v1, v2, q => Rd_readCpus_B4 (Rd_readCpus_L4 n) v1 v2 q
theorem w_Rd_readCpus_L4 {X : Cv} (C : Cx X cX5_readCpus RX5 rm_Rd_readCpus 5) (S : IsK X) {z : Int32 × St} (hret : RokI X cX5_readCpus .boolean z.1 z.2) (n : Nat) : ∀ (v1 : Int32) (v2 : Int32) (q : St), Rd_readCpus_L4 n v1 v2 q = some z → At X 4 [(0, .ref (adOf X 155)), (1, .int v1), (2, .int v2)] [] q := by
  induction n with
  | zero => intro v1 v2 q h; cases h
  | succ n ih => intro v1 v2 q h; exact w_Rd_readCpus_B4 C S hret _ ih v1 v2 q h
def Rd_readCpus (q : St) : Option (Int32 × St) :=
  Rd_readCpus_L4 FU (0 : Int32) (0 : Int32) q
theorem w_Rd_readCpus {X : Cv} (C : Cx X cX5_readCpus RX5 rm_Rd_readCpus 5) (S : IsK X) {z : Int32 × St} (hret : RokI X cX5_readCpus .boolean z.1 z.2) (q : St) (h : Rd_readCpus q = some z) : At X 0 [(0, .ref (adOf X 155))] [] q := by
  unfold Rd_readCpus at h
  refine a_iconst (v := 0) C (by decide) dX5_readCpus_0 ?_
  refine a_istore_n C [(1, .int (0 : Int32)), (0, .ref (adOf X 155))] rfl (by decide) rfl dX5_readCpus_1 ?_
  refine a_iconst (v := 0) C (by decide) dX5_readCpus_2 ?_
  refine a_istore_n C [(2, .int (0 : Int32)), (1, .int (0 : Int32)), (0, .ref (adOf X 155))] rfl (by decide) rfl dX5_readCpus_3 ?_
  exact At.sub [2, 1, 0] rfl (w_Rd_readCpus_L4 C S hret _ _ _ _ h)
theorem c_Rd_readCpus {l : Launch} {D : va_G} {I : ClassId × ClassId × ClassId × ClassId} {ad : Nat → Nat} {q : St} {z : Int32 × St} (h : Rd_readCpus q = some z) : Ctr l D I (zK ad) 168 (shK I) ad yX5_readCpus cX5_readCpus 5 (some .boolean) rm_Rd_readCpus [.ref (ad 155)] q (some z.1) z.2 :=
  ctr_ofI (by decide) (Nat.le_of_ble_eq_true rfl) (fun p e s m args below meth c Q H0 X hX C hret => by subst hX; exact w_Rd_readCpus C ⟨rfl, rfl, rfl⟩ hret _ h)
theorem kK_5_38 {X : Cv} {cc : ByteArray} {rm : Room} {nL1 pc : Nat} {lv : List (Nat × Value)} {sk : List Value} {q : St} {z : Int32} {q2 : St} (C : Cx X cc RX5 rm nL1) (S : IsK X) (h : Rd_readCpus q = some (z, q2)) (hz : rm_Rd_readCpus.frames + 1 ≤ rm.frames ∧ 8 + (5 + 11) + rm_Rd_readCpus.locals ≤ rm.locals) (hr : (sk.map fun v => v.category).sum ≤ 8) (hd : decode cc pc = .ok (.invokevirtual 38, 3)) (k : At X (pc + 3) lv (.int z :: sk) q2) : At X pc lv (.ref (adOf X 155) :: sk) q := a_callVi (as := []) C (kp := 155) (kLt S (by decide)) (by rw [S.2.1]; rfl) rfl (by have hh := c_Rd_readCpus (l := X.2.1) (D := dOf X) (I := idOf X) (ad := adOf X) h; rw [← S.1, ← S.2.1, ← S.2.2] at hh; exact hh) (gd_V (tg 674 (by decide +kernel) rfl) (tg 676 (by decide +kernel) rfl) (tg 11 (by decide +kernel) rfl) (tg 120 (by decide +kernel) rfl) (tg 677 (by decide +kernel) rfl)) ⟨rfl, rfl, hz.1, hz.2⟩ ⟨by decide, by decide, by show Option.map _ (parseMethodDescriptor yX5_readCpus.desc) = some 0; decide⟩ hr rfl hd k
abbrev rm_Su_putRate : Room := { frames := 0, cells := 0, slots := 0, locals := 0 }
def Su_putRate (o : Nat) (q : St) (v1 : Int32) (v2 : Int32) (v3 : Int32) : Option (St) :=
  lt_ ((v1 * (6 : Int32)) + v2) fun w1 =>
  b1 (rd 24 q (o + 8) (w1 - (1 : Int32))) fun x2 =>
  b1 (wr 24 q (o + 8) w1 (x2 + v3)) fun q3 =>
  some q3
theorem w_Su_putRate {X : Cv} (C : Cx X cX4_putRate RX4 rm_Su_putRate 5) (S : IsK X) {o : Nat} (hO : IsSu o) {z : St} (hret : RokV X cX4_putRate z) (v1 : Int32) (v2 : Int32) (v3 : Int32) (q : St) (h : Su_putRate o q v1 v2 v3 = some z) : At X 0 [(0, .ref (adOf X o)), (1, .int v1), (2, .int v2), (3, .int v3)] [] q := by
  unfold Su_putRate at h
  refine a_iload_n C 1 rfl rfl dX4_putRate_0 ?_
  refine a_bipush (v := 6) C (by decide) dX4_putRate_1 ?_
  refine a_imul C dX4_putRate_3 ?_
  refine a_iload_n C 2 rfl rfl dX4_putRate_4 ?_
  refine a_iadd C dX4_putRate_5 ?_
  obtain ⟨w1, e_w1, h⟩ := lts h
  refine a_top e_w1 ?_
  refine a_istore C [(4, .int w1), (0, .ref (adOf X o)), (1, .int v1), (2, .int v2), (3, .int v3)] (by decide) rfl dX4_putRate_6 ?_
  refine a_aload_n C 1 rfl rfl dX4_putRate_8 ?_
  refine gK_4_33 C S hO dX4_putRate_9 ?_
  refine a_iload C 0 rfl dX4_putRate_12 ?_
  refine a_aload_n C 1 rfl rfl dX4_putRate_14 ?_
  refine gK_4_33 C S hO dX4_putRate_15 ?_
  refine a_iload C 0 rfl dX4_putRate_18 ?_
  refine a_iconst (v := 1) C (by decide) dX4_putRate_20 ?_
  refine a_isub C dX4_putRate_21 ?_
  obtain ⟨x2, e_x2, h⟩ := b1s h
  refine lK_u8 (o := o) C S hO e_x2 dX4_putRate_22 ?_
  refine a_iload_n C 4 rfl rfl dX4_putRate_23 ?_
  refine a_iadd C dX4_putRate_24 ?_
  obtain ⟨q3, e_q3, h⟩ := b1s h
  refine sK_u8 (o := o) C S hO e_q3 dX4_putRate_25 ?_
  exact a_vret hret h dX4_putRate_26
theorem c_Su_putRate {l : Launch} {D : va_G} {I : ClassId × ClassId × ClassId × ClassId} {ad : Nat → Nat} {o : Nat} (hO : IsSu o) {q : St} {v1 : Int32} {v2 : Int32} {v3 : Int32} {z : St} (h : Su_putRate o q v1 v2 v3 = some z) : Ctr l D I (zK ad) 168 (shK I) ad yX4_putRate cX4_putRate 5 none rm_Su_putRate [.ref (ad o), .int v1, .int v2, .int v3] q none z :=
  ctr_ofV (by decide) (Nat.le_of_ble_eq_true rfl) (fun p e s m args below meth c Q H0 X hX C hret => by subst hX; exact w_Su_putRate C ⟨rfl, rfl, rfl⟩ hO hret _ _ _ _ h)
theorem kK_4_58 {X : Cv} {cc : ByteArray} {rm : Room} {nL1 pc : Nat} {lv : List (Nat × Value)} {sk : List Value} {q : St} {v1 : Int32} {v2 : Int32} {v3 : Int32} {q2 : St} (C : Cx X cc RX4 rm nL1) (S : IsK X) {o : Nat} (hO : IsSu o) (h : Su_putRate o q v1 v2 v3 = some q2) (hz : rm_Su_putRate.frames + 1 ≤ rm.frames ∧ 8 + (5 + 11) + rm_Su_putRate.locals ≤ rm.locals) (hr : (sk.map fun v => v.category).sum ≤ 8) (hd : decode cc pc = .ok (.invokevirtual 58, 3)) (k : At X (pc + 3) lv sk q2) : At X pc lv (.int v3 :: .int v2 :: .int v1 :: .ref (adOf X o) :: sk) q := a_callVv (as := [.int v1, .int v2, .int v3]) C (kp := o) (kLt S (by have hS2 : IsSu o := hO; unfold IsSu at hS2; omega)) (by rw [S.2.1]; exact shK_su (o := o) (j := 0) hO (by decide)) rfl (by have hh := c_Su_putRate (l := X.2.1) (D := dOf X) (I := idOf X) (ad := adOf X) hO h; rw [← S.1, ← S.2.1, ← S.2.2] at hh; exact hh) (gd_V (tg 485 (by decide +kernel) rfl) (tg 486 (by decide +kernel) rfl) (tg 487 (by decide +kernel) rfl) (tg 116 (by decide +kernel) rfl) (tg 488 (by decide +kernel) rfl)) ⟨rfl, rfl, hz.1, hz.2⟩ ⟨by decide, by decide, by show Option.map _ (parseMethodDescriptor yX4_putRate.desc) = some 3; decide⟩ hr rfl hd k
theorem kK_5_121 {X : Cv} {cc : ByteArray} {rm : Room} {nL1 pc : Nat} {lv : List (Nat × Value)} {sk : List Value} {q : St} {v1 : Int32} {v2 : Int32} {v3 : Int32} {q2 : St} (C : Cx X cc RX5 rm nL1) (S : IsK X) {o : Nat} (hO : IsSu o) (h : Su_putRate o q v1 v2 v3 = some q2) (hz : rm_Su_putRate.frames + 1 ≤ rm.frames ∧ 8 + (5 + 11) + rm_Su_putRate.locals ≤ rm.locals) (hr : (sk.map fun v => v.category).sum ≤ 8) (hd : decode cc pc = .ok (.invokevirtual 121, 3)) (k : At X (pc + 3) lv sk q2) : At X pc lv (.int v3 :: .int v2 :: .int v1 :: .ref (adOf X o) :: sk) q := a_callVv (as := [.int v1, .int v2, .int v3]) C (kp := o) (kLt S (by have hS2 : IsSu o := hO; unfold IsSu at hS2; omega)) (by rw [S.2.1]; exact shK_su (o := o) (j := 0) hO (by decide)) rfl (by have hh := c_Su_putRate (l := X.2.1) (D := dOf X) (I := idOf X) (ad := adOf X) hO h; rw [← S.1, ← S.2.1, ← S.2.2] at hh; exact hh) (gd_V (tg 688 (by decide +kernel) rfl) (tg 486 (by decide +kernel) rfl) (tg 487 (by decide +kernel) rfl) (tg 116 (by decide +kernel) rfl) (tg 488 (by decide +kernel) rfl)) ⟨rfl, rfl, hz.1, hz.2⟩ ⟨by decide, by decide, by show Option.map _ (parseMethodDescriptor yX4_putRate.desc) = some 3; decide⟩ hr rfl hd k
abbrev rm_Rd_takeRate : Room := { frames := 3, cells := 0, slots := 0, locals := 64 }
def Rd_takeRate (q : St) (v1 : Int32) (v2 : Int32) : Option (Int32 × St) :=
  if (gt q 155 3) < (1 : Int32) then
    some ((0 : Int32), q)
  else
    if (gt q 155 3) ≤ (999 : Int32) then
      b1 (Su_putRate 10 q v1 v2 (gt q 155 3)) fun q3 =>
      b1 (Rd_nextToken q3) fun q4 =>
      some ((1 : Int32), q4)
    else
      some ((0 : Int32), q)
theorem w_Rd_takeRate {X : Cv} (C : Cx X cX5_takeRate RX5 rm_Rd_takeRate 3) (S : IsK X) {z : Int32 × St} (hret : RokI X cX5_takeRate .boolean z.1 z.2) (v1 : Int32) (v2 : Int32) (q : St) (h : Rd_takeRate q v1 v2 = some z) : At X 0 [(0, .ref (adOf X 155)), (1, .int v1), (2, .int v2)] [] q := by
  unfold Rd_takeRate at h
  refine a_aload_n C 0 rfl rfl dX5_takeRate_0 ?_
  refine gK_5_76 C S dX5_takeRate_1 ?_
  refine a_iconst (v := 1) C (by decide) dX5_takeRate_4 ?_
  refine a_icmp_lt C 18 (by decide) dX5_takeRate_5 (fun c1 => ?_) (fun c1 => ?_)
  · replace h := ifp c1 h
    refine a_iconst (v := 0) C (by decide) dX5_takeRate_18 ?_
    exact a_iret hret h rfl dX5_takeRate_19
  · replace h := ifn c1 h
    refine a_aload_n C 0 rfl rfl dX5_takeRate_8 ?_
    refine gK_5_76 C S dX5_takeRate_9 ?_
    refine a_sipush (v := 999) C (by decide) dX5_takeRate_12 ?_
    refine a_icmp_le C 20 (by decide) dX5_takeRate_15 (fun c2 => ?_) (fun c2 => ?_)
    · replace h := ifp c2 h
      refine a_aload_n C 0 rfl rfl dX5_takeRate_20 ?_
      refine gK_5_15 C S dX5_takeRate_21 ?_
      refine a_iload_n C 1 rfl rfl dX5_takeRate_24 ?_
      refine a_iload_n C 2 rfl rfl dX5_takeRate_25 ?_
      refine a_aload_n C 0 rfl rfl dX5_takeRate_26 ?_
      refine gK_5_76 C S dX5_takeRate_27 ?_
      obtain ⟨q3, e_q3, h⟩ := b1s h
      refine kK_5_121 C S (Or.inr rfl) e_q3 ⟨(Nat.le_of_ble_eq_true rfl), (Nat.le_of_ble_eq_true rfl)⟩ (Nat.le_of_ble_eq_true rfl) dX5_takeRate_30 ?_
      refine a_aload_n C 0 rfl rfl dX5_takeRate_33 ?_
      obtain ⟨q4, e_q4, h⟩ := b1s h
      refine kK_5_28 C S e_q4 ⟨(Nat.le_of_ble_eq_true rfl), (Nat.le_of_ble_eq_true rfl)⟩ (Nat.le_of_ble_eq_true rfl) dX5_takeRate_34 ?_
      refine a_iconst (v := 1) C (by decide) dX5_takeRate_37 ?_
      exact a_iret hret h rfl dX5_takeRate_38
    · replace h := ifn c2 h
      refine a_iconst (v := 0) C (by decide) dX5_takeRate_18 ?_
      exact a_iret hret h rfl dX5_takeRate_19
theorem c_Rd_takeRate {l : Launch} {D : va_G} {I : ClassId × ClassId × ClassId × ClassId} {ad : Nat → Nat} {q : St} {v1 : Int32} {v2 : Int32} {z : Int32 × St} (h : Rd_takeRate q v1 v2 = some z) : Ctr l D I (zK ad) 168 (shK I) ad yX5_takeRate cX5_takeRate 3 (some .boolean) rm_Rd_takeRate [.ref (ad 155), .int v1, .int v2] q (some z.1) z.2 :=
  ctr_ofI (by decide) (Nat.le_of_ble_eq_true rfl) (fun p e s m args below meth c Q H0 X hX C hret => by subst hX; exact w_Rd_takeRate C ⟨rfl, rfl, rfl⟩ hret _ _ _ h)
theorem kK_5_101 {X : Cv} {cc : ByteArray} {rm : Room} {nL1 pc : Nat} {lv : List (Nat × Value)} {sk : List Value} {q : St} {v1 : Int32} {v2 : Int32} {z : Int32} {q2 : St} (C : Cx X cc RX5 rm nL1) (S : IsK X) (h : Rd_takeRate q v1 v2 = some (z, q2)) (hz : rm_Rd_takeRate.frames + 1 ≤ rm.frames ∧ 8 + (3 + 11) + rm_Rd_takeRate.locals ≤ rm.locals) (hr : (sk.map fun v => v.category).sum ≤ 8) (hd : decode cc pc = .ok (.invokevirtual 101, 3)) (k : At X (pc + 3) lv (.int z :: sk) q2) : At X pc lv (.int v2 :: .int v1 :: .ref (adOf X 155) :: sk) q := a_callVi (as := [.int v1, .int v2]) C (kp := 155) (kLt S (by decide)) (by rw [S.2.1]; rfl) rfl (by have hh := c_Rd_takeRate (l := X.2.1) (D := dOf X) (I := idOf X) (ad := adOf X) h; rw [← S.1, ← S.2.1, ← S.2.2] at hh; exact hh) (gd_V (tg 684 (by decide +kernel) rfl) (tg 686 (by decide +kernel) rfl) (tg 13 (by decide +kernel) rfl) (tg 120 (by decide +kernel) rfl) (tg 687 (by decide +kernel) rfl)) ⟨rfl, rfl, hz.1, hz.2⟩ ⟨by decide, by decide, by show Option.map _ (parseMethodDescriptor yX5_takeRate.desc) = some 2; decide⟩ hr rfl hd k
abbrev rm_Rd_readNative : Room := { frames := 7, cells := 0, slots := 0, locals := 193 }
def Rd_readNative_B24 (k : Int32 → St → Option (Int32 × St)) (rec : Int32 → Int32 → St → Option (Int32 × St)) (v1 : Int32) (v2 : Int32) (q : St) : Option (Int32 × St) :=
  if (5 : Int32) ≤ v2 then
    k v1 q
  else
    if (gt q 155 2) = (2 : Int32) then
      b2 (Rd_takeRate q (0 : Int32) (v1 + 1)) fun x9 q10 =>
      if x9 = (0 : Int32) then
        some ((0 : Int32), q10)
      else
        rec (v1 + 1) (v2 + 1) q10
    else
      k v1 q
theorem w_Rd_readNative_B24 {X : Cv} (C : Cx X cX5_readNative RX5 rm_Rd_readNative 3) (S : IsK X) {z : Int32 × St} (hret : RokI X cX5_readNative .boolean z.1 z.2) (k : Int32 → St → Option (Int32 × St)) (hk : ∀ (v1 : Int32) (q : St), k v1 q = some z → At X 57 [(0, .ref (adOf X 155)), (1, .int v1)] [] q) (rec : Int32 → Int32 → St → Option (Int32 × St)) (hrec : ∀ (v1 : Int32) (v2 : Int32) (q : St), rec v1 v2 q = some z → At X 24 [(0, .ref (adOf X 155)), (1, .int v1), (2, .int v2)] [] q) (v1 : Int32) (v2 : Int32) (q : St) (h : Rd_readNative_B24 k rec v1 v2 q = some z) : At X 24 [(0, .ref (adOf X 155)), (1, .int v1), (2, .int v2)] [] q := by
  unfold Rd_readNative_B24 at h
  refine a_iload_n C 2 rfl rfl dX5_readNative_24 ?_
  refine a_iconst (v := 5) C (by decide) dX5_readNative_25 ?_
  refine a_icmp_ge C 57 (by decide) dX5_readNative_26 (fun c7 => ?_) (fun c7 => ?_)
  · replace h := ifp c7 h
    exact At.sub [0, 1] rfl (hk _ _ h)
  · replace h := ifn c7 h
    refine a_aload_n C 0 rfl rfl dX5_readNative_29 ?_
    refine gK_5_47 C S dX5_readNative_30 ?_
    refine a_iconst (v := 2) C (by decide) dX5_readNative_33 ?_
    refine a_icmp_ne C 57 (by decide) dX5_readNative_34 (fun c8 => ?_) (fun c8 => ?_)
    · replace h := ifn c8 h
      exact At.sub [0, 1] rfl (hk _ _ h)
    · replace h := ifp c8 h
      refine a_iinc (v := (v1 + 1)) C [(1, .int (v1 + 1)), (0, .ref (adOf X 155)), (2, .int v2)] 1 rfl (congrArg (HAdd.hAdd v1) (by decide : Int32.ofInt (1) = (1 : Int32))) (by decide) rfl dX5_readNative_37 ?_
      refine a_aload_n C 1 rfl rfl dX5_readNative_40 ?_
      refine a_iconst (v := 0) C (by decide) dX5_readNative_41 ?_
      refine a_iload_n C 0 rfl rfl dX5_readNative_42 ?_
      obtain ⟨x9, q10, e_q10, h⟩ := b2s h
      refine kK_5_101 C S e_q10 ⟨(Nat.le_of_ble_eq_true rfl), (Nat.le_of_ble_eq_true rfl)⟩ (Nat.le_of_ble_eq_true rfl) dX5_readNative_43 ?_
      refine a_if_ne C 51 (by decide) dX5_readNative_46 (fun c11 => ?_) (fun c11 => ?_)
      · replace h := ifn c11 h
        refine a_iinc (v := (v2 + 1)) C [(2, .int (v2 + 1)), (1, .int (v1 + 1)), (0, .ref (adOf X 155))] 2 rfl (congrArg (HAdd.hAdd v2) (by decide : Int32.ofInt (1) = (1 : Int32))) (by decide) rfl dX5_readNative_51 ?_
        refine a_goto C 24 (by decide) dX5_readNative_54 ?_
        exact At.sub [2, 1, 0] rfl (hrec _ _ _ h)
      · replace h := ifp c11 h
        refine a_iconst (v := 0) C (by decide) dX5_readNative_49 ?_
        exact a_iret hret h rfl dX5_readNative_50
def Rd_readNative_L24 (k : Int32 → St → Option (Int32 × St)) : Nat → Int32 → Int32 → St → Option (Int32 × St)
  | 0, _, _, _ => none
  | n + 1, v1, v2, q => Rd_readNative_B24 k (Rd_readNative_L24 k n) v1 v2 q
theorem w_Rd_readNative_L24 {X : Cv} (C : Cx X cX5_readNative RX5 rm_Rd_readNative 3) (S : IsK X) {z : Int32 × St} (hret : RokI X cX5_readNative .boolean z.1 z.2) (k : Int32 → St → Option (Int32 × St)) (hk : ∀ (v1 : Int32) (q : St), k v1 q = some z → At X 57 [(0, .ref (adOf X 155)), (1, .int v1)] [] q) (n : Nat) : ∀ (v1 : Int32) (v2 : Int32) (q : St), Rd_readNative_L24 k n v1 v2 q = some z → At X 24 [(0, .ref (adOf X 155)), (1, .int v1), (2, .int v2)] [] q := by
  induction n with
  | zero => intro v1 v2 q h; cases h
  | succ n ih => intro v1 v2 q h; exact w_Rd_readNative_B24 C S hret k hk _ ih v1 v2 q h
def Rd_readNative_J57 (v1 : Int32) (q : St) : Option (Int32 × St) :=
  lt_ (st q 10 3 v1) fun q14 =>
  lt_ (st q14 10 2 (1 : Int32)) fun q15 =>
  b2 (Rd_takeSemicolon q15) fun x16 q17 =>
  bz x16 <|
  some (x16, q17)
theorem w_Rd_readNative_J57 {X : Cv} (C : Cx X cX5_readNative RX5 rm_Rd_readNative 3) (S : IsK X) {z : Int32 × St} (hret : RokI X cX5_readNative .boolean z.1 z.2) (v1 : Int32) (q : St) (h : Rd_readNative_J57 v1 q = some z) : At X 57 [(0, .ref (adOf X 155)), (1, .int v1)] [] q := by
  unfold Rd_readNative_J57 at h
  refine a_aload_n C 0 rfl rfl dX5_readNative_57 ?_
  refine gK_5_15 C S dX5_readNative_58 ?_
  refine a_iload_n C 1 rfl rfl dX5_readNative_61 ?_
  obtain ⟨q14, e_q14, h⟩ := lts h
  refine pK_5_104 C S (Or.inr rfl) e_q14 dX5_readNative_62 ?_
  refine a_aload_n C 0 rfl rfl dX5_readNative_65 ?_
  refine gK_5_15 C S dX5_readNative_66 ?_
  refine a_iconst (v := 1) C (by decide) dX5_readNative_69 ?_
  obtain ⟨q15, e_q15, h⟩ := lts h
  refine pK_5_107 C S (Or.inr rfl) e_q15 dX5_readNative_70 ?_
  refine a_aload_n C 0 rfl rfl dX5_readNative_73 ?_
  obtain ⟨x16, q17, e_q17, h⟩ := b2s h
  refine kK_5_62 C S e_q17 ⟨(Nat.le_of_ble_eq_true rfl), (Nat.le_of_ble_eq_true rfl)⟩ (Nat.le_of_ble_eq_true rfl) dX5_readNative_74 ?_
  obtain ⟨n18, h⟩ := bzs h
  exact a_iret hret h n18 dX5_readNative_77
def Rd_readNative (q : St) : Option (Int32 × St) :=
  b2 (Rd_takeWord 5 q) fun x1 q2 =>
  if x1 = (0 : Int32) then
    some ((0 : Int32), q2)
  else
    b2 (Rd_takeRate q2 (0 : Int32) (1 : Int32)) fun x4 q5 =>
    if x4 = (0 : Int32) then
      some ((0 : Int32), q5)
    else
      Rd_readNative_L24 (fun y12 q13 =>
        Rd_readNative_J57 y12 q13
        ) FU (1 : Int32) (1 : Int32) q5
theorem w_Rd_readNative {X : Cv} (C : Cx X cX5_readNative RX5 rm_Rd_readNative 3) (S : IsK X) {z : Int32 × St} (hret : RokI X cX5_readNative .boolean z.1 z.2) (q : St) (h : Rd_readNative q = some z) : At X 0 [(0, .ref (adOf X 155))] [] q := by
  unfold Rd_readNative at h
  refine a_aload_n C 0 rfl rfl dX5_readNative_0 ?_
  refine a_ldcS C S 5 (by decide) dX5_readNative_1 ?_
  obtain ⟨x1, q2, e_q2, h⟩ := b2s h
  refine kK_5_52 C S (by decide) e_q2 ⟨(Nat.le_of_ble_eq_true rfl), (Nat.le_of_ble_eq_true rfl)⟩ (Nat.le_of_ble_eq_true rfl) dX5_readNative_3 ?_
  refine a_if_eq C 18 (by decide) dX5_readNative_6 (fun c3 => ?_) (fun c3 => ?_)
  · replace h := ifp c3 h
    refine a_iconst (v := 0) C (by decide) dX5_readNative_18 ?_
    exact a_iret hret h rfl dX5_readNative_19
  · replace h := ifn c3 h
    refine a_aload_n C 0 rfl rfl dX5_readNative_9 ?_
    refine a_iconst (v := 0) C (by decide) dX5_readNative_10 ?_
    refine a_iconst (v := 1) C (by decide) dX5_readNative_11 ?_
    obtain ⟨x4, q5, e_q5, h⟩ := b2s h
    refine kK_5_101 C S e_q5 ⟨(Nat.le_of_ble_eq_true rfl), (Nat.le_of_ble_eq_true rfl)⟩ (Nat.le_of_ble_eq_true rfl) dX5_readNative_12 ?_
    refine a_if_ne C 20 (by decide) dX5_readNative_15 (fun c6 => ?_) (fun c6 => ?_)
    · replace h := ifn c6 h
      refine a_iconst (v := 1) C (by decide) dX5_readNative_20 ?_
      refine a_istore_n C [(1, .int (1 : Int32)), (0, .ref (adOf X 155))] rfl (by decide) rfl dX5_readNative_21 ?_
      refine a_iconst (v := 1) C (by decide) dX5_readNative_22 ?_
      refine a_istore_n C [(2, .int (1 : Int32)), (1, .int (1 : Int32)), (0, .ref (adOf X 155))] rfl (by decide) rfl dX5_readNative_23 ?_
      refine At.sub [2, 1, 0] rfl (w_Rd_readNative_L24 C S hret _ ?_ _ _ _ _ h)
      intro y12 q13 h
      exact At.sub [0, 1] rfl (w_Rd_readNative_J57 C S hret _ _ h)
    · replace h := ifp c6 h
      refine a_iconst (v := 0) C (by decide) dX5_readNative_18 ?_
      exact a_iret hret h rfl dX5_readNative_19
theorem c_Rd_readNative {l : Launch} {D : va_G} {I : ClassId × ClassId × ClassId × ClassId} {ad : Nat → Nat} {q : St} {z : Int32 × St} (h : Rd_readNative q = some z) : Ctr l D I (zK ad) 168 (shK I) ad yX5_readNative cX5_readNative 3 (some .boolean) rm_Rd_readNative [.ref (ad 155)] q (some z.1) z.2 :=
  ctr_ofI (by decide) (Nat.le_of_ble_eq_true rfl) (fun p e s m args below meth c Q H0 X hX C hret => by subst hX; exact w_Rd_readNative C ⟨rfl, rfl, rfl⟩ hret _ h)
theorem kK_5_41 {X : Cv} {cc : ByteArray} {rm : Room} {nL1 pc : Nat} {lv : List (Nat × Value)} {sk : List Value} {q : St} {z : Int32} {q2 : St} (C : Cx X cc RX5 rm nL1) (S : IsK X) (h : Rd_readNative q = some (z, q2)) (hz : rm_Rd_readNative.frames + 1 ≤ rm.frames ∧ 8 + (3 + 11) + rm_Rd_readNative.locals ≤ rm.locals) (hr : (sk.map fun v => v.category).sum ≤ 8) (hd : decode cc pc = .ok (.invokevirtual 41, 3)) (k : At X (pc + 3) lv (.int z :: sk) q2) : At X pc lv (.ref (adOf X 155) :: sk) q := a_callVi (as := []) C (kp := 155) (kLt S (by decide)) (by rw [S.2.1]; rfl) rfl (by have hh := c_Rd_readNative (l := X.2.1) (D := dOf X) (I := idOf X) (ad := adOf X) h; rw [← S.1, ← S.2.1, ← S.2.2] at hh; exact hh) (gd_V (tg 679 (by decide +kernel) rfl) (tg 681 (by decide +kernel) rfl) (tg 12 (by decide +kernel) rfl) (tg 120 (by decide +kernel) rfl) (tg 682 (by decide +kernel) rfl)) ⟨rfl, rfl, hz.1, hz.2⟩ ⟨by decide, by decide, by show Option.map _ (parseMethodDescriptor yX5_readNative.desc) = some 0; decide⟩ hr rfl hd k
abbrev rm_Rd_readFormat : Room := { frames := 7, cells := 0, slots := 0, locals := 193 }
def Rd_readFormat_B36 (k : St → Option (Int32 × St)) (rec : Int32 → Int32 → St → Option (Int32 × St)) (v1 : Int32) (v3 : Int32) (q : St) : Option (Int32 × St) :=
  if (gt q 10 3) < v3 then
    k  q
  else
    b2 (Rd_takeRate q v1 v3) fun x9 q10 =>
    if x9 = (0 : Int32) then
      some ((0 : Int32), q10)
    else
      rec v1 (v3 + 1) q10
theorem w_Rd_readFormat_B36 {X : Cv} (C : Cx X cX5_readFormat RX5 rm_Rd_readFormat 4) (S : IsK X) {z : Int32 × St} (hret : RokI X cX5_readFormat .boolean z.1 z.2) (k : St → Option (Int32 × St)) (hk : ∀ (q : St), k q = some z → At X 64 [(0, .ref (adOf X 155))] [] q) (rec : Int32 → Int32 → St → Option (Int32 × St)) (hrec : ∀ (v1 : Int32) (v3 : Int32) (q : St), rec v1 v3 q = some z → At X 36 [(0, .ref (adOf X 155)), (1, .int v1), (3, .int v3)] [] q) (v1 : Int32) (v3 : Int32) (q : St) (h : Rd_readFormat_B36 k rec v1 v3 q = some z) : At X 36 [(0, .ref (adOf X 155)), (1, .int v1), (3, .int v3)] [] q := by
  unfold Rd_readFormat_B36 at h
  refine a_iload_n C 2 rfl rfl dX5_readFormat_36 ?_
  refine a_aload_n C 0 rfl rfl dX5_readFormat_37 ?_
  refine gK_5_15 C S dX5_readFormat_38 ?_
  refine gK_5_104 C S (Or.inr rfl) dX5_readFormat_41 ?_
  refine a_icmp_gt C 64 (by decide) dX5_readFormat_44 (fun c8 => ?_) (fun c8 => ?_)
  · replace h := ifp c8 h
    exact At.sub [0] rfl (hk  _ h)
  · replace h := ifn c8 h
    refine a_aload_n C 0 rfl rfl dX5_readFormat_47 ?_
    refine a_iload_n C 1 rfl rfl dX5_readFormat_48 ?_
    refine a_iload_n C 2 rfl rfl dX5_readFormat_49 ?_
    obtain ⟨x9, q10, e_q10, h⟩ := b2s h
    refine kK_5_101 C S e_q10 ⟨(Nat.le_of_ble_eq_true rfl), (Nat.le_of_ble_eq_true rfl)⟩ (Nat.le_of_ble_eq_true rfl) dX5_readFormat_50 ?_
    refine a_if_ne C 58 (by decide) dX5_readFormat_53 (fun c11 => ?_) (fun c11 => ?_)
    · replace h := ifn c11 h
      refine a_iinc (v := (v3 + 1)) C [(3, .int (v3 + 1)), (0, .ref (adOf X 155)), (1, .int v1)] 2 rfl (congrArg (HAdd.hAdd v3) (by decide : Int32.ofInt (1) = (1 : Int32))) (by decide) rfl dX5_readFormat_58 ?_
      refine a_goto C 36 (by decide) dX5_readFormat_61 ?_
      exact At.sub [1, 2, 0] rfl (hrec _ _ _ h)
    · replace h := ifp c11 h
      refine a_iconst (v := 0) C (by decide) dX5_readFormat_56 ?_
      exact a_iret hret h rfl dX5_readFormat_57
def Rd_readFormat_L36 (k : St → Option (Int32 × St)) : Nat → Int32 → Int32 → St → Option (Int32 × St)
  | 0, _, _, _ => none
  | n + 1, v1, v3, q => Rd_readFormat_B36 k (Rd_readFormat_L36 k n) v1 v3 q
theorem w_Rd_readFormat_L36 {X : Cv} (C : Cx X cX5_readFormat RX5 rm_Rd_readFormat 4) (S : IsK X) {z : Int32 × St} (hret : RokI X cX5_readFormat .boolean z.1 z.2) (k : St → Option (Int32 × St)) (hk : ∀ (q : St), k q = some z → At X 64 [(0, .ref (adOf X 155))] [] q) (n : Nat) : ∀ (v1 : Int32) (v3 : Int32) (q : St), Rd_readFormat_L36 k n v1 v3 q = some z → At X 36 [(0, .ref (adOf X 155)), (1, .int v1), (3, .int v3)] [] q := by
  induction n with
  | zero => intro v1 v3 q h; cases h
  | succ n ih => intro v1 v3 q h; exact w_Rd_readFormat_B36 C S hret k hk _ ih v1 v3 q h
def Rd_readFormat (q : St) (v1 : Int32) : Option (Int32 × St) :=
  b2 (Rd_takeNumber q (1 : Int32) (99 : Int32)) fun x1 q2 =>
  if x1 = (-1 : Int32) then
    some ((0 : Int32), q2)
  else
    b2 (Rd_takeWord 7 q2) fun x4 q5 =>
    if x4 = (0 : Int32) then
      some ((0 : Int32), q5)
    else
      b1 (wr 4 q5 17 v1 x1) fun q7 =>
      Rd_readFormat_L36 (fun q12 =>
        b2 (Rd_takeSemicolon q12) fun x13 q14 =>
        bz x13 <|
        some (x13, q14)
        ) FU v1 (1 : Int32) q7
theorem w_Rd_readFormat {X : Cv} (C : Cx X cX5_readFormat RX5 rm_Rd_readFormat 4) (S : IsK X) {z : Int32 × St} (hret : RokI X cX5_readFormat .boolean z.1 z.2) (v1 : Int32) (q : St) (h : Rd_readFormat q v1 = some z) : At X 0 [(0, .ref (adOf X 155)), (1, .int v1)] [] q := by
  unfold Rd_readFormat at h
  refine a_aload_n C 0 rfl rfl dX5_readFormat_0 ?_
  refine a_iconst (v := 1) C (by decide) dX5_readFormat_1 ?_
  refine a_bipush (v := 99) C (by decide) dX5_readFormat_2 ?_
  obtain ⟨x1, q2, e_q2, h⟩ := b2s h
  refine kK_5_56 C S e_q2 ⟨(Nat.le_of_ble_eq_true rfl), (Nat.le_of_ble_eq_true rfl)⟩ (Nat.le_of_ble_eq_true rfl) dX5_readFormat_4 ?_
  refine a_istore_n C [(2, .int x1), (0, .ref (adOf X 155)), (1, .int v1)] rfl (by decide) rfl dX5_readFormat_7 ?_
  refine a_iload_n C 0 rfl rfl dX5_readFormat_8 ?_
  refine a_iconst (v := -1) C (by decide) dX5_readFormat_9 ?_
  refine a_icmp_eq C 22 (by decide) dX5_readFormat_10 (fun c3 => ?_) (fun c3 => ?_)
  · replace h := ifp c3 h
    refine a_iconst (v := 0) C (by decide) dX5_readFormat_22 ?_
    exact a_iret hret h rfl dX5_readFormat_23
  · replace h := ifn c3 h
    refine a_aload_n C 1 rfl rfl dX5_readFormat_13 ?_
    refine a_ldcS C S 7 (by decide) dX5_readFormat_14 ?_
    obtain ⟨x4, q5, e_q5, h⟩ := b2s h
    refine kK_5_52 C S (by decide) e_q5 ⟨(Nat.le_of_ble_eq_true rfl), (Nat.le_of_ble_eq_true rfl)⟩ (Nat.le_of_ble_eq_true rfl) dX5_readFormat_16 ?_
    refine a_if_ne C 24 (by decide) dX5_readFormat_19 (fun c6 => ?_) (fun c6 => ?_)
    · replace h := ifn c6 h
      refine a_aload_n C 1 rfl rfl dX5_readFormat_24 ?_
      refine gK_5_15 C S dX5_readFormat_25 ?_
      refine gK_5_118 C S (Or.inr rfl) dX5_readFormat_28 ?_
      refine a_iload_n C 2 rfl rfl dX5_readFormat_31 ?_
      refine a_iload_n C 0 rfl rfl dX5_readFormat_32 ?_
      obtain ⟨q7, e_q7, h⟩ := b1s h
      refine sK_u7 (o := 10) C S (Or.inr rfl) e_q7 dX5_readFormat_33 ?_
      refine a_iconst (v := 1) C (by decide) dX5_readFormat_34 ?_
      refine a_istore_n C [(3, .int (1 : Int32)), (2, .int x1), (0, .ref (adOf X 155)), (1, .int v1)] rfl (by decide) rfl dX5_readFormat_35 ?_
      refine At.sub [2, 3, 0] rfl (w_Rd_readFormat_L36 C S hret _ ?_ _ _ _ _ h)
      intro q12 h
      refine a_aload_n C 0 rfl rfl dX5_readFormat_64 ?_
      obtain ⟨x13, q14, e_q14, h⟩ := b2s h
      refine kK_5_62 C S e_q14 ⟨(Nat.le_of_ble_eq_true rfl), (Nat.le_of_ble_eq_true rfl)⟩ (Nat.le_of_ble_eq_true rfl) dX5_readFormat_65 ?_
      obtain ⟨n15, h⟩ := bzs h
      exact a_iret hret h n15 dX5_readFormat_68
    · replace h := ifp c6 h
      refine a_iconst (v := 0) C (by decide) dX5_readFormat_22 ?_
      exact a_iret hret h rfl dX5_readFormat_23
theorem c_Rd_readFormat {l : Launch} {D : va_G} {I : ClassId × ClassId × ClassId × ClassId} {ad : Nat → Nat} {q : St} {v1 : Int32} {z : Int32 × St} (h : Rd_readFormat q v1 = some z) : Ctr l D I (zK ad) 168 (shK I) ad yX5_readFormat cX5_readFormat 4 (some .boolean) rm_Rd_readFormat [.ref (ad 155), .int v1] q (some z.1) z.2 :=
  ctr_ofI (by decide) (Nat.le_of_ble_eq_true rfl) (fun p e s m args below meth c Q H0 X hX C hret => by subst hX; exact w_Rd_readFormat C ⟨rfl, rfl, rfl⟩ hret _ _ h)
theorem kK_5_112 {X : Cv} {cc : ByteArray} {rm : Room} {nL1 pc : Nat} {lv : List (Nat × Value)} {sk : List Value} {q : St} {v1 : Int32} {z : Int32} {q2 : St} (C : Cx X cc RX5 rm nL1) (S : IsK X) (h : Rd_readFormat q v1 = some (z, q2)) (hz : rm_Rd_readFormat.frames + 1 ≤ rm.frames ∧ 8 + (4 + 11) + rm_Rd_readFormat.locals ≤ rm.locals) (hr : (sk.map fun v => v.category).sum ≤ 8) (hd : decode cc pc = .ok (.invokevirtual 112, 3)) (k : At X (pc + 3) lv (.int z :: sk) q2) : At X pc lv (.int v1 :: .ref (adOf X 155) :: sk) q := a_callVi (as := [.int v1]) C (kp := 155) (kLt S (by decide)) (by rw [S.2.1]; rfl) rfl (by have hh := c_Rd_readFormat (l := X.2.1) (D := dOf X) (I := idOf X) (ad := adOf X) h; rw [← S.1, ← S.2.1, ← S.2.2] at hh; exact hh) (gd_V (tg 694 (by decide +kernel) rfl) (tg 696 (by decide +kernel) rfl) (tg 15 (by decide +kernel) rfl) (tg 120 (by decide +kernel) rfl) (tg 697 (by decide +kernel) rfl)) ⟨rfl, rfl, hz.1, hz.2⟩ ⟨by decide, by decide, by show Option.map _ (parseMethodDescriptor yX5_readFormat.desc) = some 1; decide⟩ hr rfl hd k
abbrev rm_Rd_readFormats : Room := { frames := 8, cells := 0, slots := 0, locals := 216 }
def Rd_readFormats_B2 (rec : Int32 → St → Option (Int32 × St)) (v1 : Int32) (q : St) : Option (Int32 × St) :=
  if (4 : Int32) ≤ v1 then
    some ((1 : Int32), q)
  else
    b1 (Rd_isWord 6 q) fun x2 =>
    if x2 = (0 : Int32) then
      some ((1 : Int32), q)
    else
      if (gt q 10 2) = (4 : Int32) then
        some ((0 : Int32), q)
      else
        b1 (Rd_nextToken q) fun q5 =>
        b2 (Rd_readFormat q5 (gt q5 10 2)) fun x6 q7 =>
        if x6 = (0 : Int32) then
          some ((0 : Int32), q7)
        else
          lt_ (st q7 10 2 ((gt q7 10 2) + (1 : Int32))) fun q9 =>
          rec (v1 + 1) q9
theorem w_Rd_readFormats_B2 {X : Cv} (C : Cx X cX5_readFormats RX5 rm_Rd_readFormats 2) (S : IsK X) {z : Int32 × St} (hret : RokI X cX5_readFormats .boolean z.1 z.2) (rec : Int32 → St → Option (Int32 × St)) (hrec : ∀ (v1 : Int32) (q : St), rec v1 q = some z → At X 2 [(0, .ref (adOf X 155)), (1, .int v1)] [] q) (v1 : Int32) (q : St) (h : Rd_readFormats_B2 rec v1 q = some z) : At X 2 [(0, .ref (adOf X 155)), (1, .int v1)] [] q := by
  unfold Rd_readFormats_B2 at h
  refine a_iload_n C 1 rfl rfl dX5_readFormats_2 ?_
  refine a_iconst (v := 4) C (by decide) dX5_readFormats_3 ?_
  refine a_icmp_ge C 68 (by decide) dX5_readFormats_4 (fun c1 => ?_) (fun c1 => ?_)
  · replace h := ifp c1 h
    refine a_iconst (v := 1) C (by decide) dX5_readFormats_68 ?_
    exact a_iret hret h rfl dX5_readFormats_69
  · replace h := ifn c1 h
    refine a_aload_n C 0 rfl rfl dX5_readFormats_7 ?_
    refine a_ldcS C S 6 (by decide) dX5_readFormats_8 ?_
    obtain ⟨x2, e_x2, h⟩ := b1s h
    refine kK_5_67 C S (by decide) e_x2 ⟨(Nat.le_of_ble_eq_true rfl), (Nat.le_of_ble_eq_true rfl)⟩ (Nat.le_of_ble_eq_true rfl) dX5_readFormats_10 ?_
    refine a_if_eq C 68 (by decide) dX5_readFormats_13 (fun c3 => ?_) (fun c3 => ?_)
    · replace h := ifp c3 h
      refine a_iconst (v := 1) C (by decide) dX5_readFormats_68 ?_
      exact a_iret hret h rfl dX5_readFormats_69
    · replace h := ifn c3 h
      refine a_aload_n C 0 rfl rfl dX5_readFormats_16 ?_
      refine gK_5_15 C S dX5_readFormats_17 ?_
      refine gK_5_107 C S (Or.inr rfl) dX5_readFormats_20 ?_
      refine a_iconst (v := 4) C (by decide) dX5_readFormats_23 ?_
      refine a_icmp_ne C 29 (by decide) dX5_readFormats_24 (fun c4 => ?_) (fun c4 => ?_)
      · replace h := ifn c4 h
        refine a_aload_n C 0 rfl rfl dX5_readFormats_29 ?_
        obtain ⟨q5, e_q5, h⟩ := b1s h
        refine kK_5_28 C S e_q5 ⟨(Nat.le_of_ble_eq_true rfl), (Nat.le_of_ble_eq_true rfl)⟩ (Nat.le_of_ble_eq_true rfl) dX5_readFormats_30 ?_
        refine a_aload_n C 0 rfl rfl dX5_readFormats_33 ?_
        refine a_aload_n C 0 rfl rfl dX5_readFormats_34 ?_
        refine gK_5_15 C S dX5_readFormats_35 ?_
        refine gK_5_107 C S (Or.inr rfl) dX5_readFormats_38 ?_
        obtain ⟨x6, q7, e_q7, h⟩ := b2s h
        refine kK_5_112 C S e_q7 ⟨(Nat.le_of_ble_eq_true rfl), (Nat.le_of_ble_eq_true rfl)⟩ (Nat.le_of_ble_eq_true rfl) dX5_readFormats_41 ?_
        refine a_if_ne C 49 (by decide) dX5_readFormats_44 (fun c8 => ?_) (fun c8 => ?_)
        · replace h := ifn c8 h
          refine a_aload_n C 0 rfl rfl dX5_readFormats_49 ?_
          refine gK_5_15 C S dX5_readFormats_50 ?_
          refine a_dup C rfl dX5_readFormats_53 ?_
          refine gK_5_107 C S (Or.inr rfl) dX5_readFormats_54 ?_
          refine a_iconst (v := 1) C (by decide) dX5_readFormats_57 ?_
          refine a_iadd C dX5_readFormats_58 ?_
          obtain ⟨q9, e_q9, h⟩ := lts h
          refine pK_5_107 C S (Or.inr rfl) e_q9 dX5_readFormats_59 ?_
          refine a_iinc (v := (v1 + 1)) C [(1, .int (v1 + 1)), (0, .ref (adOf X 155))] 1 rfl (congrArg (HAdd.hAdd v1) (by decide : Int32.ofInt (1) = (1 : Int32))) (by decide) rfl dX5_readFormats_62 ?_
          refine a_goto C 2 (by decide) dX5_readFormats_65 ?_
          exact At.sub [1, 0] rfl (hrec _ _ h)
        · replace h := ifp c8 h
          refine a_iconst (v := 0) C (by decide) dX5_readFormats_47 ?_
          exact a_iret hret h rfl dX5_readFormats_48
      · replace h := ifp c4 h
        refine a_iconst (v := 0) C (by decide) dX5_readFormats_27 ?_
        exact a_iret hret h rfl dX5_readFormats_28
def Rd_readFormats_L2 : Nat → Int32 → St → Option (Int32 × St)
  | 0, _, _ => none
  | n + 1, v1, q => Rd_readFormats_B2 (Rd_readFormats_L2 n) v1 q
theorem w_Rd_readFormats_L2 {X : Cv} (C : Cx X cX5_readFormats RX5 rm_Rd_readFormats 2) (S : IsK X) {z : Int32 × St} (hret : RokI X cX5_readFormats .boolean z.1 z.2) (n : Nat) : ∀ (v1 : Int32) (q : St), Rd_readFormats_L2 n v1 q = some z → At X 2 [(0, .ref (adOf X 155)), (1, .int v1)] [] q := by
  induction n with
  | zero => intro v1 q h; cases h
  | succ n ih => intro v1 q h; exact w_Rd_readFormats_B2 C S hret _ ih v1 q h
def Rd_readFormats (q : St) : Option (Int32 × St) :=
  Rd_readFormats_L2 FU (0 : Int32) q
theorem w_Rd_readFormats {X : Cv} (C : Cx X cX5_readFormats RX5 rm_Rd_readFormats 2) (S : IsK X) {z : Int32 × St} (hret : RokI X cX5_readFormats .boolean z.1 z.2) (q : St) (h : Rd_readFormats q = some z) : At X 0 [(0, .ref (adOf X 155))] [] q := by
  unfold Rd_readFormats at h
  refine a_iconst (v := 0) C (by decide) dX5_readFormats_0 ?_
  refine a_istore_n C [(1, .int (0 : Int32)), (0, .ref (adOf X 155))] rfl (by decide) rfl dX5_readFormats_1 ?_
  exact At.sub [1, 0] rfl (w_Rd_readFormats_L2 C S hret _ _ _ h)
theorem c_Rd_readFormats {l : Launch} {D : va_G} {I : ClassId × ClassId × ClassId × ClassId} {ad : Nat → Nat} {q : St} {z : Int32 × St} (h : Rd_readFormats q = some z) : Ctr l D I (zK ad) 168 (shK I) ad yX5_readFormats cX5_readFormats 2 (some .boolean) rm_Rd_readFormats [.ref (ad 155)] q (some z.1) z.2 :=
  ctr_ofI (by decide) (Nat.le_of_ble_eq_true rfl) (fun p e s m args below meth c Q H0 X hX C hret => by subst hX; exact w_Rd_readFormats C ⟨rfl, rfl, rfl⟩ hret _ h)
theorem kK_5_44 {X : Cv} {cc : ByteArray} {rm : Room} {nL1 pc : Nat} {lv : List (Nat × Value)} {sk : List Value} {q : St} {z : Int32} {q2 : St} (C : Cx X cc RX5 rm nL1) (S : IsK X) (h : Rd_readFormats q = some (z, q2)) (hz : rm_Rd_readFormats.frames + 1 ≤ rm.frames ∧ 8 + (2 + 11) + rm_Rd_readFormats.locals ≤ rm.locals) (hr : (sk.map fun v => v.category).sum ≤ 8) (hd : decode cc pc = .ok (.invokevirtual 44, 3)) (k : At X (pc + 3) lv (.int z :: sk) q2) : At X pc lv (.ref (adOf X 155) :: sk) q := a_callVi (as := []) C (kp := 155) (kLt S (by decide)) (by rw [S.2.1]; rfl) rfl (by have hh := c_Rd_readFormats (l := X.2.1) (D := dOf X) (I := idOf X) (ad := adOf X) h; rw [← S.1, ← S.2.1, ← S.2.2] at hh; exact hh) (gd_V (tg 689 (by decide +kernel) rfl) (tg 691 (by decide +kernel) rfl) (tg 14 (by decide +kernel) rfl) (tg 120 (by decide +kernel) rfl) (tg 692 (by decide +kernel) rfl)) ⟨rfl, rfl, hz.1, hz.2⟩ ⟨by decide, by decide, by show Option.map _ (parseMethodDescriptor yX5_readFormats.desc) = some 0; decide⟩ hr rfl hd k
abbrev rm_Rd_readSetup : Room := { frames := 9, cells := 0, slots := 0, locals := 238 }
def Rd_readSetup (q : St) : Option (Int32 × St) :=
  b1 (Su_clear 10 q) fun q1 =>
  lt_ (st q1 155 4 (0 : Int32)) fun q2 =>
  b1 (Rd_nextToken q2) fun q3 =>
  b2 (Rd_readNodes q3) fun x4 q5 =>
  if x4 = (0 : Int32) then
    some ((0 : Int32), q5)
  else
    b2 (Rd_readLinks q5) fun x7 q8 =>
    if x7 = (0 : Int32) then
      some ((0 : Int32), q8)
    else
      b2 (Rd_readCpus q8) fun x10 q11 =>
      if x10 = (0 : Int32) then
        some ((0 : Int32), q11)
      else
        b2 (Rd_readNative q11) fun x13 q14 =>
        if x13 = (0 : Int32) then
          some ((0 : Int32), q14)
        else
          b2 (Rd_readFormats q14) fun x16 q17 =>
          if x16 = (0 : Int32) then
            some ((0 : Int32), q17)
          else
            if (gt q17 155 2) = (0 : Int32) then
              some ((1 : Int32), q17)
            else
              some ((0 : Int32), q17)
theorem w_Rd_readSetup {X : Cv} (C : Cx X cX5_readSetup RX5 rm_Rd_readSetup 1) (S : IsK X) {z : Int32 × St} (hret : RokI X cX5_readSetup .boolean z.1 z.2) (q : St) (h : Rd_readSetup q = some z) : At X 0 [(0, .ref (adOf X 155))] [] q := by
  unfold Rd_readSetup at h
  refine a_aload_n C 0 rfl rfl dX5_readSetup_0 ?_
  refine gK_5_15 C S dX5_readSetup_1 ?_
  obtain ⟨q1, e_q1, h⟩ := b1s h
  refine kK_5_19 C S (Or.inr rfl) e_q1 ⟨(Nat.le_of_ble_eq_true rfl), (Nat.le_of_ble_eq_true rfl)⟩ (Nat.le_of_ble_eq_true rfl) dX5_readSetup_4 ?_
  refine a_aload_n C 0 rfl rfl dX5_readSetup_7 ?_
  refine a_iconst (v := 0) C (by decide) dX5_readSetup_8 ?_
  obtain ⟨q2, e_q2, h⟩ := lts h
  refine pK_5_24 C S e_q2 dX5_readSetup_9 ?_
  refine a_aload_n C 0 rfl rfl dX5_readSetup_12 ?_
  obtain ⟨q3, e_q3, h⟩ := b1s h
  refine kK_5_28 C S e_q3 ⟨(Nat.le_of_ble_eq_true rfl), (Nat.le_of_ble_eq_true rfl)⟩ (Nat.le_of_ble_eq_true rfl) dX5_readSetup_13 ?_
  refine a_aload_n C 0 rfl rfl dX5_readSetup_16 ?_
  obtain ⟨x4, q5, e_q5, h⟩ := b2s h
  refine kK_5_31 C S e_q5 ⟨(Nat.le_of_ble_eq_true rfl), (Nat.le_of_ble_eq_true rfl)⟩ (Nat.le_of_ble_eq_true rfl) dX5_readSetup_17 ?_
  refine a_if_eq C 62 (by decide) dX5_readSetup_20 (fun c6 => ?_) (fun c6 => ?_)
  · replace h := ifp c6 h
    refine a_iconst (v := 0) C (by decide) dX5_readSetup_62 ?_
    exact a_iret hret h rfl dX5_readSetup_63
  · replace h := ifn c6 h
    refine a_aload_n C 0 rfl rfl dX5_readSetup_23 ?_
    obtain ⟨x7, q8, e_q8, h⟩ := b2s h
    refine kK_5_35 C S e_q8 ⟨(Nat.le_of_ble_eq_true rfl), (Nat.le_of_ble_eq_true rfl)⟩ (Nat.le_of_ble_eq_true rfl) dX5_readSetup_24 ?_
    refine a_if_eq C 62 (by decide) dX5_readSetup_27 (fun c9 => ?_) (fun c9 => ?_)
    · replace h := ifp c9 h
      refine a_iconst (v := 0) C (by decide) dX5_readSetup_62 ?_
      exact a_iret hret h rfl dX5_readSetup_63
    · replace h := ifn c9 h
      refine a_aload_n C 0 rfl rfl dX5_readSetup_30 ?_
      obtain ⟨x10, q11, e_q11, h⟩ := b2s h
      refine kK_5_38 C S e_q11 ⟨(Nat.le_of_ble_eq_true rfl), (Nat.le_of_ble_eq_true rfl)⟩ (Nat.le_of_ble_eq_true rfl) dX5_readSetup_31 ?_
      refine a_if_eq C 62 (by decide) dX5_readSetup_34 (fun c12 => ?_) (fun c12 => ?_)
      · replace h := ifp c12 h
        refine a_iconst (v := 0) C (by decide) dX5_readSetup_62 ?_
        exact a_iret hret h rfl dX5_readSetup_63
      · replace h := ifn c12 h
        refine a_aload_n C 0 rfl rfl dX5_readSetup_37 ?_
        obtain ⟨x13, q14, e_q14, h⟩ := b2s h
        refine kK_5_41 C S e_q14 ⟨(Nat.le_of_ble_eq_true rfl), (Nat.le_of_ble_eq_true rfl)⟩ (Nat.le_of_ble_eq_true rfl) dX5_readSetup_38 ?_
        refine a_if_eq C 62 (by decide) dX5_readSetup_41 (fun c15 => ?_) (fun c15 => ?_)
        · replace h := ifp c15 h
          refine a_iconst (v := 0) C (by decide) dX5_readSetup_62 ?_
          exact a_iret hret h rfl dX5_readSetup_63
        · replace h := ifn c15 h
          refine a_aload_n C 0 rfl rfl dX5_readSetup_44 ?_
          obtain ⟨x16, q17, e_q17, h⟩ := b2s h
          refine kK_5_44 C S e_q17 ⟨(Nat.le_of_ble_eq_true rfl), (Nat.le_of_ble_eq_true rfl)⟩ (Nat.le_of_ble_eq_true rfl) dX5_readSetup_45 ?_
          refine a_if_eq C 62 (by decide) dX5_readSetup_48 (fun c18 => ?_) (fun c18 => ?_)
          · replace h := ifp c18 h
            refine a_iconst (v := 0) C (by decide) dX5_readSetup_62 ?_
            exact a_iret hret h rfl dX5_readSetup_63
          · replace h := ifn c18 h
            refine a_aload_n C 0 rfl rfl dX5_readSetup_51 ?_
            refine gK_5_47 C S dX5_readSetup_52 ?_
            refine a_if_ne C 62 (by decide) dX5_readSetup_55 (fun c19 => ?_) (fun c19 => ?_)
            · replace h := ifn c19 h
              refine a_iconst (v := 0) C (by decide) dX5_readSetup_62 ?_
              exact a_iret hret h rfl dX5_readSetup_63
            · replace h := ifp c19 h
              refine a_iconst (v := 1) C (by decide) dX5_readSetup_58 ?_
              refine a_goto C 63 (by decide) dX5_readSetup_59 ?_
              exact a_iret hret h rfl dX5_readSetup_63
theorem c_Rd_readSetup {l : Launch} {D : va_G} {I : ClassId × ClassId × ClassId × ClassId} {ad : Nat → Nat} {q : St} {z : Int32 × St} (h : Rd_readSetup q = some z) : Ctr l D I (zK ad) 168 (shK I) ad yX5_readSetup cX5_readSetup 1 (some .boolean) rm_Rd_readSetup [.ref (ad 155)] q (some z.1) z.2 :=
  ctr_ofI (by decide) (Nat.le_of_ble_eq_true rfl) (fun p e s m args below meth c Q H0 X hX C hret => by subst hX; exact w_Rd_readSetup C ⟨rfl, rfl, rfl⟩ hret _ h)
theorem kK_10_113 {X : Cv} {cc : ByteArray} {rm : Room} {nL1 pc : Nat} {lv : List (Nat × Value)} {sk : List Value} {q : St} {z : Int32} {q2 : St} (C : Cx X cc RX10 rm nL1) (S : IsK X) (h : Rd_readSetup q = some (z, q2)) (hz : rm_Rd_readSetup.frames + 1 ≤ rm.frames ∧ 8 + (1 + 11) + rm_Rd_readSetup.locals ≤ rm.locals) (hr : (sk.map fun v => v.category).sum ≤ 8) (hd : decode cc pc = .ok (.invokevirtual 113, 3)) (k : At X (pc + 3) lv (.int z :: sk) q2) : At X pc lv (.ref (adOf X 155) :: sk) q := a_callVi (as := []) C (kp := 155) (kLt S (by decide)) (by rw [S.2.1]; rfl) rfl (by have hh := c_Rd_readSetup (l := X.2.1) (D := dOf X) (I := idOf X) (ad := adOf X) h; rw [← S.1, ← S.2.1, ← S.2.2] at hh; exact hh) (gd_V (tg 556 (by decide +kernel) rfl) (tg 557 (by decide +kernel) rfl) (tg 558 (by decide +kernel) rfl) (tg 120 (by decide +kernel) rfl) (tg 559 (by decide +kernel) rfl)) ⟨rfl, rfl, hz.1, hz.2⟩ ⟨by decide, by decide, by show Option.map _ (parseMethodDescriptor yX5_readSetup.desc) = some 0; decide⟩ hr rfl hd k
abbrev rm_Su_copyFrom : Room := { frames := 1, cells := 0, slots := 0, locals := 50 }
def Su_copyFrom (q : St) : Option (St) :=
  lt_ (st q 1 0 (gt q 10 0)) fun q1 =>
  lt_ (st q1 1 1 (gt q1 10 1)) fun q2 =>
  lt_ (st q2 1 2 (gt q2 10 2)) fun q3 =>
  lt_ (st q3 1 3 (gt q3 10 3)) fun q4 =>
  lt_ (cpI q4 11 2 32) fun q5 =>
  lt_ (cpI q5 12 3 32) fun q6 =>
  lt_ (cpI q6 13 4 32) fun q7 =>
  lt_ (cpI q7 14 5 32) fun q8 =>
  lt_ (cpI q8 15 6 256) fun q9 =>
  lt_ (cpI q9 16 7 16) fun q10 =>
  lt_ (cpI q10 17 8 4) fun q11 =>
  lt_ (cpI q11 18 9 24) fun q12 =>
  some q12
theorem w_Su_copyFrom {X : Cv} (C : Cx X cX4_copyFrom RX4 rm_Su_copyFrom 2) (S : IsK X) {z : St} (hret : RokV X cX4_copyFrom z) (q : St) (h : Su_copyFrom q = some z) : At X 0 [(0, .ref (adOf X 1)), (1, .ref (adOf X 10))] [] q := by
  unfold Su_copyFrom at h
  refine a_aload_n C 0 rfl rfl dX4_copyFrom_0 ?_
  refine a_aload_n C 1 rfl rfl dX4_copyFrom_1 ?_
  refine gK_4_36 C S (Or.inr rfl) dX4_copyFrom_2 ?_
  obtain ⟨q1, e_q1, h⟩ := lts h
  refine pK_4_36 C S (Or.inl rfl) e_q1 dX4_copyFrom_5 ?_
  refine a_aload_n C 0 rfl rfl dX4_copyFrom_8 ?_
  refine a_aload_n C 1 rfl rfl dX4_copyFrom_9 ?_
  refine gK_4_40 C S (Or.inr rfl) dX4_copyFrom_10 ?_
  obtain ⟨q2, e_q2, h⟩ := lts h
  refine pK_4_40 C S (Or.inl rfl) e_q2 dX4_copyFrom_13 ?_
  refine a_aload_n C 0 rfl rfl dX4_copyFrom_16 ?_
  refine a_aload_n C 1 rfl rfl dX4_copyFrom_17 ?_
  refine gK_4_43 C S (Or.inr rfl) dX4_copyFrom_18 ?_
  obtain ⟨q3, e_q3, h⟩ := lts h
  refine pK_4_43 C S (Or.inl rfl) e_q3 dX4_copyFrom_21 ?_
  refine a_aload_n C 0 rfl rfl dX4_copyFrom_24 ?_
  refine a_aload_n C 1 rfl rfl dX4_copyFrom_25 ?_
  refine gK_4_46 C S (Or.inr rfl) dX4_copyFrom_26 ?_
  obtain ⟨q4, e_q4, h⟩ := lts h
  refine pK_4_46 C S (Or.inl rfl) e_q4 dX4_copyFrom_29 ?_
  refine a_aload_n C 1 rfl rfl dX4_copyFrom_32 ?_
  refine gK_4_9 C S (Or.inr rfl) dX4_copyFrom_33 ?_
  refine a_iconst (v := 0) C (by decide) dX4_copyFrom_36 ?_
  refine a_aload_n C 0 rfl rfl dX4_copyFrom_37 ?_
  refine gK_4_9 C S (Or.inl rfl) dX4_copyFrom_38 ?_
  refine a_iconst (v := 0) C (by decide) dX4_copyFrom_41 ?_
  refine a_bipush (v := 32) C (by decide) dX4_copyFrom_42 ?_
  obtain ⟨q5, e_q5, h⟩ := lts h
  refine a_cpI (len := 32) (n0 := 32) C (kLt S (by have hS2 : IsSu 10 := (Or.inr rfl); unfold IsSu at hS2; omega)) (kLt S (by have hS2 : IsSu 1 := (Or.inl rfl); unfold IsSu at hS2; omega)) (by rw [S.2.1]; intro f w; exact shK_su (o := 10) (j := 1) (Or.inr rfl) (by decide)) (by rw [S.2.1]; intro f w; exact shK_su (o := 1) (j := 1) (Or.inl rfl) (by decide)) (by decide) (by decide) (by decide) e_q5 (tg 703 (by decide +kernel) rfl) (Nat.le_of_ble_eq_true rfl) (Nat.le_of_ble_eq_true rfl) dX4_copyFrom_44 ?_
  refine a_aload_n C 1 rfl rfl dX4_copyFrom_47 ?_
  refine gK_4_15 C S (Or.inr rfl) dX4_copyFrom_48 ?_
  refine a_iconst (v := 0) C (by decide) dX4_copyFrom_51 ?_
  refine a_aload_n C 0 rfl rfl dX4_copyFrom_52 ?_
  refine gK_4_15 C S (Or.inl rfl) dX4_copyFrom_53 ?_
  refine a_iconst (v := 0) C (by decide) dX4_copyFrom_56 ?_
  refine a_bipush (v := 32) C (by decide) dX4_copyFrom_57 ?_
  obtain ⟨q6, e_q6, h⟩ := lts h
  refine a_cpI (len := 32) (n0 := 32) C (kLt S (by have hS2 : IsSu 10 := (Or.inr rfl); unfold IsSu at hS2; omega)) (kLt S (by have hS2 : IsSu 1 := (Or.inl rfl); unfold IsSu at hS2; omega)) (by rw [S.2.1]; intro f w; exact shK_su (o := 10) (j := 2) (Or.inr rfl) (by decide)) (by rw [S.2.1]; intro f w; exact shK_su (o := 1) (j := 2) (Or.inl rfl) (by decide)) (by decide) (by decide) (by decide) e_q6 (tg 703 (by decide +kernel) rfl) (Nat.le_of_ble_eq_true rfl) (Nat.le_of_ble_eq_true rfl) dX4_copyFrom_59 ?_
  refine a_aload_n C 1 rfl rfl dX4_copyFrom_62 ?_
  refine gK_4_18 C S (Or.inr rfl) dX4_copyFrom_63 ?_
  refine a_iconst (v := 0) C (by decide) dX4_copyFrom_66 ?_
  refine a_aload_n C 0 rfl rfl dX4_copyFrom_67 ?_
  refine gK_4_18 C S (Or.inl rfl) dX4_copyFrom_68 ?_
  refine a_iconst (v := 0) C (by decide) dX4_copyFrom_71 ?_
  refine a_bipush (v := 32) C (by decide) dX4_copyFrom_72 ?_
  obtain ⟨q7, e_q7, h⟩ := lts h
  refine a_cpI (len := 32) (n0 := 32) C (kLt S (by have hS2 : IsSu 10 := (Or.inr rfl); unfold IsSu at hS2; omega)) (kLt S (by have hS2 : IsSu 1 := (Or.inl rfl); unfold IsSu at hS2; omega)) (by rw [S.2.1]; intro f w; exact shK_su (o := 10) (j := 3) (Or.inr rfl) (by decide)) (by rw [S.2.1]; intro f w; exact shK_su (o := 1) (j := 3) (Or.inl rfl) (by decide)) (by decide) (by decide) (by decide) e_q7 (tg 703 (by decide +kernel) rfl) (Nat.le_of_ble_eq_true rfl) (Nat.le_of_ble_eq_true rfl) dX4_copyFrom_74 ?_
  refine a_aload_n C 1 rfl rfl dX4_copyFrom_77 ?_
  refine gK_4_21 C S (Or.inr rfl) dX4_copyFrom_78 ?_
  refine a_iconst (v := 0) C (by decide) dX4_copyFrom_81 ?_
  refine a_aload_n C 0 rfl rfl dX4_copyFrom_82 ?_
  refine gK_4_21 C S (Or.inl rfl) dX4_copyFrom_83 ?_
  refine a_iconst (v := 0) C (by decide) dX4_copyFrom_86 ?_
  refine a_bipush (v := 32) C (by decide) dX4_copyFrom_87 ?_
  obtain ⟨q8, e_q8, h⟩ := lts h
  refine a_cpI (len := 32) (n0 := 32) C (kLt S (by have hS2 : IsSu 10 := (Or.inr rfl); unfold IsSu at hS2; omega)) (kLt S (by have hS2 : IsSu 1 := (Or.inl rfl); unfold IsSu at hS2; omega)) (by rw [S.2.1]; intro f w; exact shK_su (o := 10) (j := 4) (Or.inr rfl) (by decide)) (by rw [S.2.1]; intro f w; exact shK_su (o := 1) (j := 4) (Or.inl rfl) (by decide)) (by decide) (by decide) (by decide) e_q8 (tg 703 (by decide +kernel) rfl) (Nat.le_of_ble_eq_true rfl) (Nat.le_of_ble_eq_true rfl) dX4_copyFrom_89 ?_
  refine a_aload_n C 1 rfl rfl dX4_copyFrom_92 ?_
  refine gK_4_24 C S (Or.inr rfl) dX4_copyFrom_93 ?_
  refine a_iconst (v := 0) C (by decide) dX4_copyFrom_96 ?_
  refine a_aload_n C 0 rfl rfl dX4_copyFrom_97 ?_
  refine gK_4_24 C S (Or.inl rfl) dX4_copyFrom_98 ?_
  refine a_iconst (v := 0) C (by decide) dX4_copyFrom_101 ?_
  refine a_aload_n C 0 rfl rfl dX4_copyFrom_102 ?_
  refine gK_4_24 C S (Or.inl rfl) dX4_copyFrom_103 ?_
  refine nK_u5 (o := 1) C S (Or.inl rfl) dX4_copyFrom_106 ?_
  obtain ⟨q9, e_q9, h⟩ := lts h
  refine a_cpI (len := 256) (n0 := 256) C (kLt S (by have hS2 : IsSu 10 := (Or.inr rfl); unfold IsSu at hS2; omega)) (kLt S (by have hS2 : IsSu 1 := (Or.inl rfl); unfold IsSu at hS2; omega)) (by rw [S.2.1]; intro f w; exact shK_su (o := 10) (j := 5) (Or.inr rfl) (by decide)) (by rw [S.2.1]; intro f w; exact shK_su (o := 1) (j := 5) (Or.inl rfl) (by decide)) (by decide) (by decide) (by decide) e_q9 (tg 703 (by decide +kernel) rfl) (Nat.le_of_ble_eq_true rfl) (Nat.le_of_ble_eq_true rfl) dX4_copyFrom_107 ?_
  refine a_aload_n C 1 rfl rfl dX4_copyFrom_110 ?_
  refine gK_4_27 C S (Or.inr rfl) dX4_copyFrom_111 ?_
  refine a_iconst (v := 0) C (by decide) dX4_copyFrom_114 ?_
  refine a_aload_n C 0 rfl rfl dX4_copyFrom_115 ?_
  refine gK_4_27 C S (Or.inl rfl) dX4_copyFrom_116 ?_
  refine a_iconst (v := 0) C (by decide) dX4_copyFrom_119 ?_
  refine a_bipush (v := 16) C (by decide) dX4_copyFrom_120 ?_
  obtain ⟨q10, e_q10, h⟩ := lts h
  refine a_cpI (len := 16) (n0 := 16) C (kLt S (by have hS2 : IsSu 10 := (Or.inr rfl); unfold IsSu at hS2; omega)) (kLt S (by have hS2 : IsSu 1 := (Or.inl rfl); unfold IsSu at hS2; omega)) (by rw [S.2.1]; intro f w; exact shK_su (o := 10) (j := 6) (Or.inr rfl) (by decide)) (by rw [S.2.1]; intro f w; exact shK_su (o := 1) (j := 6) (Or.inl rfl) (by decide)) (by decide) (by decide) (by decide) e_q10 (tg 703 (by decide +kernel) rfl) (Nat.le_of_ble_eq_true rfl) (Nat.le_of_ble_eq_true rfl) dX4_copyFrom_122 ?_
  refine a_aload_n C 1 rfl rfl dX4_copyFrom_125 ?_
  refine gK_4_30 C S (Or.inr rfl) dX4_copyFrom_126 ?_
  refine a_iconst (v := 0) C (by decide) dX4_copyFrom_129 ?_
  refine a_aload_n C 0 rfl rfl dX4_copyFrom_130 ?_
  refine gK_4_30 C S (Or.inl rfl) dX4_copyFrom_131 ?_
  refine a_iconst (v := 0) C (by decide) dX4_copyFrom_134 ?_
  refine a_iconst (v := 4) C (by decide) dX4_copyFrom_135 ?_
  obtain ⟨q11, e_q11, h⟩ := lts h
  refine a_cpI (len := 4) (n0 := 4) C (kLt S (by have hS2 : IsSu 10 := (Or.inr rfl); unfold IsSu at hS2; omega)) (kLt S (by have hS2 : IsSu 1 := (Or.inl rfl); unfold IsSu at hS2; omega)) (by rw [S.2.1]; intro f w; exact shK_su (o := 10) (j := 7) (Or.inr rfl) (by decide)) (by rw [S.2.1]; intro f w; exact shK_su (o := 1) (j := 7) (Or.inl rfl) (by decide)) (by decide) (by decide) (by decide) e_q11 (tg 703 (by decide +kernel) rfl) (Nat.le_of_ble_eq_true rfl) (Nat.le_of_ble_eq_true rfl) dX4_copyFrom_136 ?_
  refine a_aload_n C 1 rfl rfl dX4_copyFrom_139 ?_
  refine gK_4_33 C S (Or.inr rfl) dX4_copyFrom_140 ?_
  refine a_iconst (v := 0) C (by decide) dX4_copyFrom_143 ?_
  refine a_aload_n C 0 rfl rfl dX4_copyFrom_144 ?_
  refine gK_4_33 C S (Or.inl rfl) dX4_copyFrom_145 ?_
  refine a_iconst (v := 0) C (by decide) dX4_copyFrom_148 ?_
  refine a_aload_n C 0 rfl rfl dX4_copyFrom_149 ?_
  refine gK_4_33 C S (Or.inl rfl) dX4_copyFrom_150 ?_
  refine nK_u8 (o := 1) C S (Or.inl rfl) dX4_copyFrom_153 ?_
  obtain ⟨q12, e_q12, h⟩ := lts h
  refine a_cpI (len := 24) (n0 := 24) C (kLt S (by have hS2 : IsSu 10 := (Or.inr rfl); unfold IsSu at hS2; omega)) (kLt S (by have hS2 : IsSu 1 := (Or.inl rfl); unfold IsSu at hS2; omega)) (by rw [S.2.1]; intro f w; exact shK_su (o := 10) (j := 8) (Or.inr rfl) (by decide)) (by rw [S.2.1]; intro f w; exact shK_su (o := 1) (j := 8) (Or.inl rfl) (by decide)) (by decide) (by decide) (by decide) e_q12 (tg 703 (by decide +kernel) rfl) (Nat.le_of_ble_eq_true rfl) (Nat.le_of_ble_eq_true rfl) dX4_copyFrom_154 ?_
  exact a_vret hret h dX4_copyFrom_157
theorem c_Su_copyFrom {l : Launch} {D : va_G} {I : ClassId × ClassId × ClassId × ClassId} {ad : Nat → Nat} {q : St} {z : St} (h : Su_copyFrom q = some z) : Ctr l D I (zK ad) 168 (shK I) ad yX4_copyFrom cX4_copyFrom 2 none rm_Su_copyFrom [.ref (ad 1), .ref (ad 10)] q none z :=
  ctr_ofV (by decide) (Nat.le_of_ble_eq_true rfl) (fun p e s m args below meth c Q H0 X hX C hret => by subst hX; exact w_Su_copyFrom C ⟨rfl, rfl, rfl⟩ hret _ h)
theorem kK_10_120 {X : Cv} {cc : ByteArray} {rm : Room} {nL1 pc : Nat} {lv : List (Nat × Value)} {sk : List Value} {q : St} {q2 : St} (C : Cx X cc RX10 rm nL1) (S : IsK X) (h : Su_copyFrom q = some q2) (hz : rm_Su_copyFrom.frames + 1 ≤ rm.frames ∧ 8 + (2 + 11) + rm_Su_copyFrom.locals ≤ rm.locals) (hr : (sk.map fun v => v.category).sum ≤ 8) (hd : decode cc pc = .ok (.invokevirtual 120, 3)) (k : At X (pc + 3) lv sk q2) : At X pc lv (.ref (adOf X 10) :: .ref (adOf X 1) :: sk) q := a_callVv (as := [.ref (adOf X 10)]) C (kp := 1) (kLt S (by have hS2 : IsSu 1 := (Or.inl rfl); unfold IsSu at hS2; omega)) (by rw [S.2.1]; exact shK_su (o := 1) (j := 0) (Or.inl rfl) (by decide)) rfl (by have hh := c_Su_copyFrom (l := X.2.1) (D := dOf X) (I := idOf X) (ad := adOf X) h; rw [← S.1, ← S.2.1, ← S.2.2] at hh; exact hh) (gd_V (tg 699 (by decide +kernel) rfl) (tg 700 (by decide +kernel) rfl) (tg 701 (by decide +kernel) rfl) (tg 116 (by decide +kernel) rfl) (tg 702 (by decide +kernel) rfl)) ⟨rfl, rfl, hz.1, hz.2⟩ ⟨by decide, by decide, by show Option.map _ (parseMethodDescriptor yX4_copyFrom.desc) = some 1; decide⟩ hr rfl hd k
