abbrev rm_K_raise : Room := { frames := 4, cells := 0, slots := 0, locals := 100 }
def K_raise (q : St) (v1 : Int32) : Option (Int32 × St) :=
  b1 (K_isPresent q v1) fun x1 =>
  if x1 = (0 : Int32) then
    some ((-1 : Int32), q)
  else
    b1 (Ss_copyFrom 30 19 q) fun q3 =>
    b1 (rd 21 q3 23 v1) fun x4 =>
    lt_ (x4 + (1 : Int32)) fun w5 =>
    b1 (rd 21 q3 22 v1) fun x6 =>
    if x6 < w5 then
      some ((-2 : Int32), q3)
    else
      b2 (Tr_tryLevel q3 v1 w5) fun x8 q9 =>
      if x8 = (0 : Int32) then
        some ((-2 : Int32), q9)
      else
        b1 (Hi_keep 30 q9) fun q11 =>
        some (w5, q11)
theorem w_K_raise {X : Cv} (C : Cx X cX10_raise RX10 rm_K_raise 3) (S : IsK X) {z : Int32 × St} (hret : RokI X cX10_raise .int z.1 z.2) (v1 : Int32) (q : St) (h : K_raise q v1 = some z) : At X 0 [(0, .ref (adOf X 0)), (1, .int v1)] [] q := by
  unfold K_raise at h
  refine a_aload_n C 0 rfl rfl dX10_raise_0 ?_
  refine a_iload_n C 1 rfl rfl dX10_raise_1 ?_
  obtain ⟨x1, e_x1, h⟩ := b1s h
  refine kK_10_181 C S e_x1 ⟨(Nat.le_of_ble_eq_true rfl), (Nat.le_of_ble_eq_true rfl)⟩ (Nat.le_of_ble_eq_true rfl) dX10_raise_2 ?_
  refine a_if_ne C 10 (by decide) dX10_raise_5 (fun c2 => ?_) (fun c2 => ?_)
  · replace h := ifn c2 h
    refine a_aload_n C 0 rfl rfl dX10_raise_10 ?_
    refine gK_10_26 C S dX10_raise_11 ?_
    refine a_aload_n C 0 rfl rfl dX10_raise_14 ?_
    refine gK_10_22 C S dX10_raise_15 ?_
    obtain ⟨q3, e_q3, h⟩ := b1s h
    refine kK_10_201 C S (Or.inr (Or.inl rfl)) (Or.inl rfl) e_q3 ⟨(Nat.le_of_ble_eq_true rfl), (Nat.le_of_ble_eq_true rfl)⟩ (Nat.le_of_ble_eq_true rfl) dX10_raise_18 ?_
    refine a_aload_n C 0 rfl rfl dX10_raise_21 ?_
    refine gK_10_22 C S dX10_raise_22 ?_
    refine gK_10_184 C S (Or.inl rfl) dX10_raise_25 ?_
    refine a_iload_n C 1 rfl rfl dX10_raise_28 ?_
    obtain ⟨x4, e_x4, h⟩ := b1s h
    refine lK_s4 (o := 19) C S (Or.inl rfl) e_x4 dX10_raise_29 ?_
    refine a_iconst (v := 1) C (by decide) dX10_raise_30 ?_
    refine a_iadd C dX10_raise_31 ?_
    obtain ⟨w5, e_w5, h⟩ := lts h
    refine a_top e_w5 ?_
    refine a_istore_n C [(2, .int w5), (0, .ref (adOf X 0)), (1, .int v1)] rfl (by decide) rfl dX10_raise_32 ?_
    refine a_iload_n C 0 rfl rfl dX10_raise_33 ?_
    refine a_aload_n C 1 rfl rfl dX10_raise_34 ?_
    refine gK_10_22 C S dX10_raise_35 ?_
    refine gK_10_193 C S (Or.inl rfl) dX10_raise_38 ?_
    refine a_iload_n C 2 rfl rfl dX10_raise_41 ?_
    obtain ⟨x6, e_x6, h⟩ := b1s h
    refine lK_s3 (o := 19) C S (Or.inl rfl) e_x6 dX10_raise_42 ?_
    refine a_icmp_gt C 58 (by decide) dX10_raise_43 (fun c7 => ?_) (fun c7 => ?_)
    · replace h := ifp c7 h
      refine a_bipush (v := -2) C (by decide) dX10_raise_58 ?_
      exact a_iret hret h rfl dX10_raise_60
    · replace h := ifn c7 h
      refine a_aload_n C 1 rfl rfl dX10_raise_46 ?_
      refine gK_10_82 C S dX10_raise_47 ?_
      refine a_iload_n C 2 rfl rfl dX10_raise_50 ?_
      refine a_iload_n C 0 rfl rfl dX10_raise_51 ?_
      obtain ⟨x8, q9, e_q9, h⟩ := b2s h
      refine kK_10_203 C S e_q9 ⟨(Nat.le_of_ble_eq_true rfl), (Nat.le_of_ble_eq_true rfl)⟩ (Nat.le_of_ble_eq_true rfl) dX10_raise_52 ?_
      refine a_if_ne C 61 (by decide) dX10_raise_55 (fun c10 => ?_) (fun c10 => ?_)
      · replace h := ifn c10 h
        refine a_aload_n C 1 rfl rfl dX10_raise_61 ?_
        refine gK_10_32 C S dX10_raise_62 ?_
        refine a_aload_n C 1 rfl rfl dX10_raise_65 ?_
        refine gK_10_26 C S dX10_raise_66 ?_
        obtain ⟨q11, e_q11, h⟩ := b1s h
        refine kK_10_169 C S (Or.inr (Or.inl rfl)) e_q11 ⟨(Nat.le_of_ble_eq_true rfl), (Nat.le_of_ble_eq_true rfl)⟩ (Nat.le_of_ble_eq_true rfl) dX10_raise_69 ?_
        refine a_iload_n C 0 rfl rfl dX10_raise_72 ?_
        exact a_iret hret h rfl dX10_raise_73
      · replace h := ifp c10 h
        refine a_bipush (v := -2) C (by decide) dX10_raise_58 ?_
        exact a_iret hret h rfl dX10_raise_60
  · replace h := ifp c2 h
    refine a_iconst (v := -1) C (by decide) dX10_raise_8 ?_
    exact a_iret hret h rfl dX10_raise_9
theorem c_K_raise {l : Launch} {D : va_G} {I : ClassId × ClassId × ClassId × ClassId} {ad : Nat → Nat} {q : St} {v1 : Int32} {z : Int32 × St} (h : K_raise q v1 = some z) : Ctr l D I (zK ad) 168 (shK I) ad yX10_raise cX10_raise 3 (some .int) rm_K_raise [.ref (ad 0), .int v1] q (some z.1) z.2 :=
  ctr_ofI (by decide) (Nat.le_of_ble_eq_true rfl) (fun p e s m args below meth c Q H0 X hX C hret => by subst hX; exact w_K_raise C ⟨rfl, rfl, rfl⟩ hret _ _ h)
abbrev rm_K_isMadeFormat : Room := { frames := 1, cells := 0, slots := 0, locals := 21 }
def K_isMadeFormat (q : St) (v1 : Int32) : Option (Int32) :=
  if v1 = (0 : Int32) then
    some (0 : Int32)
  else
    b1 (K_isFormat q v1) fun x2 =>
    if x2 = (0 : Int32) then
      some (0 : Int32)
    else
      some (1 : Int32)
theorem w_K_isMadeFormat {X : Cv} (C : Cx X cX10_isMadeFormat RX10 rm_K_isMadeFormat 2) (S : IsK X) {q : St} {z : Int32} (hret : RokI X cX10_isMadeFormat .boolean z q) (v1 : Int32) (h : K_isMadeFormat q v1 = some z) : At X 0 [(0, .ref (adOf X 0)), (1, .int v1)] [] q := by
  unfold K_isMadeFormat at h
  refine a_iload_n C 1 rfl rfl dX10_isMadeFormat_0 ?_
  refine a_if_eq C 16 (by decide) dX10_isMadeFormat_1 (fun c1 => ?_) (fun c1 => ?_)
  · replace h := ifp c1 h
    refine a_iconst (v := 0) C (by decide) dX10_isMadeFormat_16 ?_
    exact a_iretR hret h rfl dX10_isMadeFormat_17
  · replace h := ifn c1 h
    refine a_aload_n C 0 rfl rfl dX10_isMadeFormat_4 ?_
    refine a_iload_n C 1 rfl rfl dX10_isMadeFormat_5 ?_
    obtain ⟨x2, e_x2, h⟩ := b1s h
    refine kK_10_138 C S e_x2 ⟨(Nat.le_of_ble_eq_true rfl), (Nat.le_of_ble_eq_true rfl)⟩ (Nat.le_of_ble_eq_true rfl) dX10_isMadeFormat_6 ?_
    refine a_if_eq C 16 (by decide) dX10_isMadeFormat_9 (fun c3 => ?_) (fun c3 => ?_)
    · replace h := ifp c3 h
      refine a_iconst (v := 0) C (by decide) dX10_isMadeFormat_16 ?_
      exact a_iretR hret h rfl dX10_isMadeFormat_17
    · replace h := ifn c3 h
      refine a_iconst (v := 1) C (by decide) dX10_isMadeFormat_12 ?_
      refine a_goto C 17 (by decide) dX10_isMadeFormat_13 ?_
      exact a_iretR hret h rfl dX10_isMadeFormat_17
theorem c_K_isMadeFormat {l : Launch} {D : va_G} {I : ClassId × ClassId × ClassId × ClassId} {ad : Nat → Nat} {q : St} {v1 : Int32} {z : Int32} (h : K_isMadeFormat q v1 = some z) : Ctr l D I (zK ad) 168 (shK I) ad yX10_isMadeFormat cX10_isMadeFormat 2 (some .boolean) rm_K_isMadeFormat [.ref (ad 0), .int v1] q (some z) q :=
  ctr_ofI (by decide) (Nat.le_of_ble_eq_true rfl) (fun p e s m args below meth c Q H0 X hX C hret => by subst hX; exact w_K_isMadeFormat C ⟨rfl, rfl, rfl⟩ hret _ h)
theorem kK_10_207 {X : Cv} {cc : ByteArray} {rm : Room} {nL1 pc : Nat} {lv : List (Nat × Value)} {sk : List Value} {q : St} {v1 : Int32} {z : Int32} (C : Cx X cc RX10 rm nL1) (S : IsK X) (h : K_isMadeFormat q v1 = some z) (hz : rm_K_isMadeFormat.frames + 1 ≤ rm.frames ∧ 8 + (2 + 11) + rm_K_isMadeFormat.locals ≤ rm.locals) (hr : (sk.map fun v => v.category).sum ≤ 8) (hd : decode cc pc = .ok (.invokevirtual 207, 3)) (k : At X (pc + 3) lv (.int z :: sk) q) : At X pc lv (.int v1 :: .ref (adOf X 0) :: sk) q := a_callVi (as := [.int v1]) C (kp := 0) (kLt S (by decide)) (by rw [S.2.1]; rfl) rfl (by have hh := c_K_isMadeFormat (l := X.2.1) (D := dOf X) (I := idOf X) (ad := adOf X) h; rw [← S.1, ← S.2.1, ← S.2.2] at hh; exact hh) (gd_V (tg 927 (by decide +kernel) rfl) (tg 929 (by decide +kernel) rfl) (tg 31 (by decide +kernel) rfl) (tg 115 (by decide +kernel) rfl) (tg 930 (by decide +kernel) rfl)) ⟨rfl, rfl, hz.1, hz.2⟩ ⟨by decide, by decide, by show Option.map _ (parseMethodDescriptor yX10_isMadeFormat.desc) = some 1; decide⟩ hr rfl hd k
abbrev rm_Tr_tryConverter : Room := { frames := 3, cells := 0, slots := 0, locals := 71 }
def Tr_tryConverter (q : St) (v1 : Int32) (v2 : Int32) : Option (Int32 × St) :=
  lt_ ((v1 * (4 : Int32)) + v2) fun w1 =>
  b1 (rd 64 q 27 w1) fun x2 =>
  if x2 = (0 : Int32) then
    b1 (wr 64 q 27 w1 (vp_nar .boolean (1 : Int32))) fun q4 =>
    b1 (Fl_measure q4) fun q5 =>
    b1 (Fl_fits q5) fun x6 =>
    if x6 = (0 : Int32) then
      b1 (wr 64 q5 27 w1 (vp_nar .boolean (0 : Int32))) fun q8 =>
      some ((0 : Int32), q8)
    else
      some ((1 : Int32), q5)
  else
    some ((0 : Int32), q)
theorem w_Tr_tryConverter {X : Cv} (C : Cx X cX9_tryConverter RX9 rm_Tr_tryConverter 4) (S : IsK X) {z : Int32 × St} (hret : RokI X cX9_tryConverter .boolean z.1 z.2) (v1 : Int32) (v2 : Int32) (q : St) (h : Tr_tryConverter q v1 v2 = some z) : At X 0 [(0, .ref (adOf X 165)), (1, .int v1), (2, .int v2)] [] q := by
  unfold Tr_tryConverter at h
  refine a_iload_n C 1 rfl rfl dX9_tryConverter_0 ?_
  refine a_iconst (v := 4) C (by decide) dX9_tryConverter_1 ?_
  refine a_imul C dX9_tryConverter_2 ?_
  refine a_iload_n C 2 rfl rfl dX9_tryConverter_3 ?_
  refine a_iadd C dX9_tryConverter_4 ?_
  obtain ⟨w1, e_w1, h⟩ := lts h
  refine a_top e_w1 ?_
  refine a_istore_n C [(3, .int w1), (0, .ref (adOf X 165)), (1, .int v1), (2, .int v2)] rfl (by decide) rfl dX9_tryConverter_5 ?_
  refine a_aload_n C 1 rfl rfl dX9_tryConverter_6 ?_
  refine gK_9_15 C S dX9_tryConverter_7 ?_
  refine gK_9_80 C S (Or.inl rfl) dX9_tryConverter_10 ?_
  refine a_iload_n C 0 rfl rfl dX9_tryConverter_13 ?_
  obtain ⟨x2, e_x2, h⟩ := b1s h
  refine lK_s8 (o := 19) C S (Or.inl rfl) e_x2 dX9_tryConverter_14 ?_
  refine a_if_eq C 20 (by decide) dX9_tryConverter_15 (fun c3 => ?_) (fun c3 => ?_)
  · replace h := ifp c3 h
    refine a_aload_n C 1 rfl rfl dX9_tryConverter_20 ?_
    refine gK_9_15 C S dX9_tryConverter_21 ?_
    refine gK_9_80 C S (Or.inl rfl) dX9_tryConverter_24 ?_
    refine a_iload_n C 0 rfl rfl dX9_tryConverter_27 ?_
    refine a_iconst (v := 1) C (by decide) dX9_tryConverter_28 ?_
    obtain ⟨q4, e_q4, h⟩ := b1s h
    refine sK_s8 (o := 19) C S (Or.inl rfl) e_q4 dX9_tryConverter_29 ?_
    refine a_aload_n C 1 rfl rfl dX9_tryConverter_30 ?_
    refine gK_9_23 C S dX9_tryConverter_31 ?_
    obtain ⟨q5, e_q5, h⟩ := b1s h
    refine kK_9_68 C S e_q5 ⟨(Nat.le_of_ble_eq_true rfl), (Nat.le_of_ble_eq_true rfl)⟩ (Nat.le_of_ble_eq_true rfl) dX9_tryConverter_34 ?_
    refine a_aload_n C 1 rfl rfl dX9_tryConverter_37 ?_
    refine gK_9_23 C S dX9_tryConverter_38 ?_
    obtain ⟨x6, e_x6, h⟩ := b1s h
    refine kK_9_73 C S e_x6 ⟨(Nat.le_of_ble_eq_true rfl), (Nat.le_of_ble_eq_true rfl)⟩ (Nat.le_of_ble_eq_true rfl) dX9_tryConverter_41 ?_
    refine a_if_eq C 49 (by decide) dX9_tryConverter_44 (fun c7 => ?_) (fun c7 => ?_)
    · replace h := ifp c7 h
      refine a_aload_n C 1 rfl rfl dX9_tryConverter_49 ?_
      refine gK_9_15 C S dX9_tryConverter_50 ?_
      refine gK_9_80 C S (Or.inl rfl) dX9_tryConverter_53 ?_
      refine a_iload_n C 0 rfl rfl dX9_tryConverter_56 ?_
      refine a_iconst (v := 0) C (by decide) dX9_tryConverter_57 ?_
      obtain ⟨q8, e_q8, h⟩ := b1s h
      refine sK_s8 (o := 19) C S (Or.inl rfl) e_q8 dX9_tryConverter_58 ?_
      refine a_iconst (v := 0) C (by decide) dX9_tryConverter_59 ?_
      exact a_iret hret h rfl dX9_tryConverter_60
    · replace h := ifn c7 h
      refine a_iconst (v := 1) C (by decide) dX9_tryConverter_47 ?_
      exact a_iret hret h rfl dX9_tryConverter_48
  · replace h := ifn c3 h
    refine a_iconst (v := 0) C (by decide) dX9_tryConverter_18 ?_
    exact a_iret hret h rfl dX9_tryConverter_19
theorem c_Tr_tryConverter {l : Launch} {D : va_G} {I : ClassId × ClassId × ClassId × ClassId} {ad : Nat → Nat} {q : St} {v1 : Int32} {v2 : Int32} {z : Int32 × St} (h : Tr_tryConverter q v1 v2 = some z) : Ctr l D I (zK ad) 168 (shK I) ad yX9_tryConverter cX9_tryConverter 4 (some .boolean) rm_Tr_tryConverter [.ref (ad 165), .int v1, .int v2] q (some z.1) z.2 :=
  ctr_ofI (by decide) (Nat.le_of_ble_eq_true rfl) (fun p e s m args below meth c Q H0 X hX C hret => by subst hX; exact w_Tr_tryConverter C ⟨rfl, rfl, rfl⟩ hret _ _ _ h)
theorem kK_10_210 {X : Cv} {cc : ByteArray} {rm : Room} {nL1 pc : Nat} {lv : List (Nat × Value)} {sk : List Value} {q : St} {v1 : Int32} {v2 : Int32} {z : Int32} {q2 : St} (C : Cx X cc RX10 rm nL1) (S : IsK X) (h : Tr_tryConverter q v1 v2 = some (z, q2)) (hz : rm_Tr_tryConverter.frames + 1 ≤ rm.frames ∧ 8 + (4 + 11) + rm_Tr_tryConverter.locals ≤ rm.locals) (hr : (sk.map fun v => v.category).sum ≤ 8) (hd : decode cc pc = .ok (.invokevirtual 210, 3)) (k : At X (pc + 3) lv (.int z :: sk) q2) : At X pc lv (.int v2 :: .int v1 :: .ref (adOf X 165) :: sk) q := a_callVi (as := [.int v1, .int v2]) C (kp := 165) (kLt S (by decide)) (by rw [S.2.1]; rfl) rfl (by have hh := c_Tr_tryConverter (l := X.2.1) (D := dOf X) (I := idOf X) (ad := adOf X) h; rw [← S.1, ← S.2.1, ← S.2.2] at hh; exact hh) (gd_V (tg 931 (by decide +kernel) rfl) (tg 932 (by decide +kernel) rfl) (tg 933 (by decide +kernel) rfl) (tg 124 (by decide +kernel) rfl) (tg 934 (by decide +kernel) rfl)) ⟨rfl, rfl, hz.1, hz.2⟩ ⟨by decide, by decide, by show Option.map _ (parseMethodDescriptor yX9_tryConverter.desc) = some 2; decide⟩ hr rfl hd k
abbrev rm_K_place : Room := { frames := 4, cells := 0, slots := 0, locals := 94 }
def K_place (q : St) (v1 : Int32) (v2 : Int32) : Option (Int32 × St) :=
  b1 (K_isNode q v1) fun x1 =>
  if x1 = (0 : Int32) then
    some ((0 : Int32), q)
  else
    b1 (K_isMadeFormat q v2) fun x3 =>
    if x3 = (0 : Int32) then
      some ((0 : Int32), q)
    else
      b1 (Ss_copyFrom 30 19 q) fun q5 =>
      b2 (Tr_tryConverter q5 v1 v2) fun x6 q7 =>
      if x6 = (0 : Int32) then
        some ((0 : Int32), q7)
      else
        b1 (Hi_keep 30 q7) fun q9 =>
        some ((1 : Int32), q9)
theorem w_K_place {X : Cv} (C : Cx X cX10_place RX10 rm_K_place 3) (S : IsK X) {z : Int32 × St} (hret : RokI X cX10_place .boolean z.1 z.2) (v1 : Int32) (v2 : Int32) (q : St) (h : K_place q v1 v2 = some z) : At X 0 [(0, .ref (adOf X 0)), (1, .int v1), (2, .int v2)] [] q := by
  unfold K_place at h
  refine a_aload_n C 0 rfl rfl dX10_place_0 ?_
  refine a_iload_n C 1 rfl rfl dX10_place_1 ?_
  obtain ⟨x1, e_x1, h⟩ := b1s h
  refine kK_10_149 C S e_x1 ⟨(Nat.le_of_ble_eq_true rfl), (Nat.le_of_ble_eq_true rfl)⟩ (Nat.le_of_ble_eq_true rfl) dX10_place_2 ?_
  refine a_if_eq C 16 (by decide) dX10_place_5 (fun c2 => ?_) (fun c2 => ?_)
  · replace h := ifp c2 h
    refine a_iconst (v := 0) C (by decide) dX10_place_16 ?_
    exact a_iret hret h rfl dX10_place_17
  · replace h := ifn c2 h
    refine a_aload_n C 0 rfl rfl dX10_place_8 ?_
    refine a_iload_n C 2 rfl rfl dX10_place_9 ?_
    obtain ⟨x3, e_x3, h⟩ := b1s h
    refine kK_10_207 C S e_x3 ⟨(Nat.le_of_ble_eq_true rfl), (Nat.le_of_ble_eq_true rfl)⟩ (Nat.le_of_ble_eq_true rfl) dX10_place_10 ?_
    refine a_if_ne C 18 (by decide) dX10_place_13 (fun c4 => ?_) (fun c4 => ?_)
    · replace h := ifn c4 h
      refine a_aload_n C 0 rfl rfl dX10_place_18 ?_
      refine gK_10_26 C S dX10_place_19 ?_
      refine a_aload_n C 0 rfl rfl dX10_place_22 ?_
      refine gK_10_22 C S dX10_place_23 ?_
      obtain ⟨q5, e_q5, h⟩ := b1s h
      refine kK_10_201 C S (Or.inr (Or.inl rfl)) (Or.inl rfl) e_q5 ⟨(Nat.le_of_ble_eq_true rfl), (Nat.le_of_ble_eq_true rfl)⟩ (Nat.le_of_ble_eq_true rfl) dX10_place_26 ?_
      refine a_aload_n C 0 rfl rfl dX10_place_29 ?_
      refine gK_10_82 C S dX10_place_30 ?_
      refine a_iload_n C 1 rfl rfl dX10_place_33 ?_
      refine a_iload_n C 2 rfl rfl dX10_place_34 ?_
      obtain ⟨x6, q7, e_q7, h⟩ := b2s h
      refine kK_10_210 C S e_q7 ⟨(Nat.le_of_ble_eq_true rfl), (Nat.le_of_ble_eq_true rfl)⟩ (Nat.le_of_ble_eq_true rfl) dX10_place_35 ?_
      refine a_if_ne C 43 (by decide) dX10_place_38 (fun c8 => ?_) (fun c8 => ?_)
      · replace h := ifn c8 h
        refine a_aload_n C 0 rfl rfl dX10_place_43 ?_
        refine gK_10_32 C S dX10_place_44 ?_
        refine a_aload_n C 0 rfl rfl dX10_place_47 ?_
        refine gK_10_26 C S dX10_place_48 ?_
        obtain ⟨q9, e_q9, h⟩ := b1s h
        refine kK_10_169 C S (Or.inr (Or.inl rfl)) e_q9 ⟨(Nat.le_of_ble_eq_true rfl), (Nat.le_of_ble_eq_true rfl)⟩ (Nat.le_of_ble_eq_true rfl) dX10_place_51 ?_
        refine a_iconst (v := 1) C (by decide) dX10_place_54 ?_
        exact a_iret hret h rfl dX10_place_55
      · replace h := ifp c8 h
        refine a_iconst (v := 0) C (by decide) dX10_place_41 ?_
        exact a_iret hret h rfl dX10_place_42
    · replace h := ifp c4 h
      refine a_iconst (v := 0) C (by decide) dX10_place_16 ?_
      exact a_iret hret h rfl dX10_place_17
theorem c_K_place {l : Launch} {D : va_G} {I : ClassId × ClassId × ClassId × ClassId} {ad : Nat → Nat} {q : St} {v1 : Int32} {v2 : Int32} {z : Int32 × St} (h : K_place q v1 v2 = some z) : Ctr l D I (zK ad) 168 (shK I) ad yX10_place cX10_place 3 (some .boolean) rm_K_place [.ref (ad 0), .int v1, .int v2] q (some z.1) z.2 :=
  ctr_ofI (by decide) (Nat.le_of_ble_eq_true rfl) (fun p e s m args below meth c Q H0 X hX C hret => by subst hX; exact w_K_place C ⟨rfl, rfl, rfl⟩ hret _ _ _ h)
abbrev rm_Tr_lowerEnd : Room := { frames := 0, cells := 0, slots := 0, locals := 0 }
def Tr_lowerEnd (q : St) (v1 : Int32) : Option (Int32) :=
  b1 (rd 32 q 2 v1) fun x1 =>
  b1 (rd 32 q 3 v1) fun x2 =>
  b1 (rd 16 q 29 x1) fun x3 =>
  if x3 = x2 then
    some x1
  else
    b1 (rd 16 q 29 x2) fun x5 =>
    if x5 = x1 then
      some x2
    else
      some (-1 : Int32)
theorem w_Tr_lowerEnd {X : Cv} (C : Cx X cX9_lowerEnd RX9 rm_Tr_lowerEnd 4) (S : IsK X) {q : St} {z : Int32} (hret : RokI X cX9_lowerEnd .int z q) (v1 : Int32) (h : Tr_lowerEnd q v1 = some z) : At X 0 [(0, .ref (adOf X 165)), (1, .int v1)] [] q := by
  unfold Tr_lowerEnd at h
  refine a_aload_n C 0 rfl rfl dX9_lowerEnd_0 ?_
  refine gK_9_9 C S dX9_lowerEnd_1 ?_
  refine gK_9_124 C S (Or.inl rfl) dX9_lowerEnd_4 ?_
  refine a_iload_n C 1 rfl rfl dX9_lowerEnd_7 ?_
  obtain ⟨x1, e_x1, h⟩ := b1s h
  refine lK_u1 (o := 1) C S (Or.inl rfl) e_x1 dX9_lowerEnd_8 ?_
  refine a_istore_n C [(2, .int x1), (0, .ref (adOf X 165)), (1, .int v1)] rfl (by decide) rfl dX9_lowerEnd_9 ?_
  refine a_aload_n C 1 rfl rfl dX9_lowerEnd_10 ?_
  refine gK_9_9 C S dX9_lowerEnd_11 ?_
  refine gK_9_127 C S (Or.inl rfl) dX9_lowerEnd_14 ?_
  refine a_iload_n C 2 rfl rfl dX9_lowerEnd_17 ?_
  obtain ⟨x2, e_x2, h⟩ := b1s h
  refine lK_u2 (o := 1) C S (Or.inl rfl) e_x2 dX9_lowerEnd_18 ?_
  refine a_istore_n C [(3, .int x2), (2, .int x1), (0, .ref (adOf X 165)), (1, .int v1)] rfl (by decide) rfl dX9_lowerEnd_19 ?_
  refine a_aload_n C 2 rfl rfl dX9_lowerEnd_20 ?_
  refine gK_9_15 C S dX9_lowerEnd_21 ?_
  refine gK_9_130 C S (Or.inl rfl) dX9_lowerEnd_24 ?_
  refine a_iload_n C 1 rfl rfl dX9_lowerEnd_27 ?_
  obtain ⟨x3, e_x3, h⟩ := b1s h
  refine lK_s10 (o := 19) C S (Or.inl rfl) e_x3 dX9_lowerEnd_28 ?_
  refine a_iload_n C 0 rfl rfl dX9_lowerEnd_29 ?_
  refine a_icmp_ne C 35 (by decide) dX9_lowerEnd_30 (fun c4 => ?_) (fun c4 => ?_)
  · replace h := ifn c4 h
    refine a_aload_n C 2 rfl rfl dX9_lowerEnd_35 ?_
    refine gK_9_15 C S dX9_lowerEnd_36 ?_
    refine gK_9_130 C S (Or.inl rfl) dX9_lowerEnd_39 ?_
    refine a_iload_n C 0 rfl rfl dX9_lowerEnd_42 ?_
    obtain ⟨x5, e_x5, h⟩ := b1s h
    refine lK_s10 (o := 19) C S (Or.inl rfl) e_x5 dX9_lowerEnd_43 ?_
    refine a_iload_n C 1 rfl rfl dX9_lowerEnd_44 ?_
    refine a_icmp_ne C 52 (by decide) dX9_lowerEnd_45 (fun c6 => ?_) (fun c6 => ?_)
    · replace h := ifn c6 h
      refine a_iconst (v := -1) C (by decide) dX9_lowerEnd_52 ?_
      exact a_iretR hret h rfl dX9_lowerEnd_53
    · replace h := ifp c6 h
      refine a_iload_n C 0 rfl rfl dX9_lowerEnd_48 ?_
      refine a_goto C 53 (by decide) dX9_lowerEnd_49 ?_
      exact a_iretR hret h rfl dX9_lowerEnd_53
  · replace h := ifp c4 h
    refine a_iload_n C 1 rfl rfl dX9_lowerEnd_33 ?_
    exact a_iretR hret h rfl dX9_lowerEnd_34
theorem c_Tr_lowerEnd {l : Launch} {D : va_G} {I : ClassId × ClassId × ClassId × ClassId} {ad : Nat → Nat} {q : St} {v1 : Int32} {z : Int32} (h : Tr_lowerEnd q v1 = some z) : Ctr l D I (zK ad) 168 (shK I) ad yX9_lowerEnd cX9_lowerEnd 4 (some .int) rm_Tr_lowerEnd [.ref (ad 165), .int v1] q (some z) q :=
  ctr_ofI (by decide) (Nat.le_of_ble_eq_true rfl) (fun p e s m args below meth c Q H0 X hX C hret => by subst hX; exact w_Tr_lowerEnd C ⟨rfl, rfl, rfl⟩ hret _ h)
theorem kK_9_118 {X : Cv} {cc : ByteArray} {rm : Room} {nL1 pc : Nat} {lv : List (Nat × Value)} {sk : List Value} {q : St} {v1 : Int32} {z : Int32} (C : Cx X cc RX9 rm nL1) (S : IsK X) (h : Tr_lowerEnd q v1 = some z) (hz : rm_Tr_lowerEnd.frames + 1 ≤ rm.frames ∧ 8 + (4 + 11) + rm_Tr_lowerEnd.locals ≤ rm.locals) (hr : (sk.map fun v => v.category).sum ≤ 8) (hd : decode cc pc = .ok (.invokevirtual 118, 3)) (k : At X (pc + 3) lv (.int z :: sk) q) : At X pc lv (.int v1 :: .ref (adOf X 165) :: sk) q := a_callVi (as := [.int v1]) C (kp := 165) (kLt S (by decide)) (by rw [S.2.1]; rfl) rfl (by have hh := c_Tr_lowerEnd (l := X.2.1) (D := dOf X) (I := idOf X) (ad := adOf X) h; rw [← S.1, ← S.2.1, ← S.2.2] at hh; exact hh) (gd_V (tg 948 (by decide +kernel) rfl) (tg 950 (by decide +kernel) rfl) (tg 33 (by decide +kernel) rfl) (tg 124 (by decide +kernel) rfl) (tg 951 (by decide +kernel) rfl)) ⟨rfl, rfl, hz.1, hz.2⟩ ⟨by decide, by decide, by show Option.map _ (parseMethodDescriptor yX9_lowerEnd.desc) = some 1; decide⟩ hr rfl hd k
abbrev rm_Tr_greater : Room := { frames := 0, cells := 0, slots := 0, locals := 0 }
def Tr_greater (q : St) (v1 : Int32) (v2 : Int32) : Option (Int32) :=
  if v1 = (-1 : Int32) then
    some v2
  else
    b1 (rd 21 q 23 v2) fun x2 =>
    b1 (rd 21 q 23 v1) fun x3 =>
    if x2 < x3 then
      some v1
    else
      some v2
theorem w_Tr_greater {X : Cv} (C : Cx X cX9_greater RX9 rm_Tr_greater 3) (S : IsK X) {q : St} {z : Int32} (hret : RokI X cX9_greater .int z q) (v1 : Int32) (v2 : Int32) (h : Tr_greater q v1 v2 = some z) : At X 0 [(0, .ref (adOf X 165)), (1, .int v1), (2, .int v2)] [] q := by
  unfold Tr_greater at h
  refine a_iload_n C 1 rfl rfl dX9_greater_0 ?_
  refine a_iconst (v := -1) C (by decide) dX9_greater_1 ?_
  refine a_icmp_eq C 26 (by decide) dX9_greater_2 (fun c1 => ?_) (fun c1 => ?_)
  · replace h := ifp c1 h
    refine a_iload_n C 2 rfl rfl dX9_greater_26 ?_
    exact a_iretR hret h rfl dX9_greater_27
  · replace h := ifn c1 h
    refine a_aload_n C 0 rfl rfl dX9_greater_5 ?_
    refine gK_9_15 C S dX9_greater_6 ?_
    refine gK_9_44 C S (Or.inl rfl) dX9_greater_9 ?_
    refine a_iload_n C 2 rfl rfl dX9_greater_12 ?_
    obtain ⟨x2, e_x2, h⟩ := b1s h
    refine lK_s4 (o := 19) C S (Or.inl rfl) e_x2 dX9_greater_13 ?_
    refine a_aload_n C 0 rfl rfl dX9_greater_14 ?_
    refine gK_9_15 C S dX9_greater_15 ?_
    refine gK_9_44 C S (Or.inl rfl) dX9_greater_18 ?_
    refine a_iload_n C 1 rfl rfl dX9_greater_21 ?_
    obtain ⟨x3, e_x3, h⟩ := b1s h
    refine lK_s4 (o := 19) C S (Or.inl rfl) e_x3 dX9_greater_22 ?_
    refine a_icmp_lt C 28 (by decide) dX9_greater_23 (fun c4 => ?_) (fun c4 => ?_)
    · replace h := ifp c4 h
      refine a_iload_n C 1 rfl rfl dX9_greater_28 ?_
      exact a_iretR hret h rfl dX9_greater_29
    · replace h := ifn c4 h
      refine a_iload_n C 2 rfl rfl dX9_greater_26 ?_
      exact a_iretR hret h rfl dX9_greater_27
theorem c_Tr_greater {l : Launch} {D : va_G} {I : ClassId × ClassId × ClassId × ClassId} {ad : Nat → Nat} {q : St} {v1 : Int32} {v2 : Int32} {z : Int32} (h : Tr_greater q v1 v2 = some z) : Ctr l D I (zK ad) 168 (shK I) ad yX9_greater cX9_greater 3 (some .int) rm_Tr_greater [.ref (ad 165), .int v1, .int v2] q (some z) q :=
  ctr_ofI (by decide) (Nat.le_of_ble_eq_true rfl) (fun p e s m args below meth c Q H0 X hX C hret => by subst hX; exact w_Tr_greater C ⟨rfl, rfl, rfl⟩ hret _ _ h)
theorem kK_9_157 {X : Cv} {cc : ByteArray} {rm : Room} {nL1 pc : Nat} {lv : List (Nat × Value)} {sk : List Value} {q : St} {v1 : Int32} {v2 : Int32} {z : Int32} (C : Cx X cc RX9 rm nL1) (S : IsK X) (h : Tr_greater q v1 v2 = some z) (hz : rm_Tr_greater.frames + 1 ≤ rm.frames ∧ 8 + (3 + 11) + rm_Tr_greater.locals ≤ rm.locals) (hr : (sk.map fun v => v.category).sum ≤ 8) (hd : decode cc pc = .ok (.invokevirtual 157, 3)) (k : At X (pc + 3) lv (.int z :: sk) q) : At X pc lv (.int v2 :: .int v1 :: .ref (adOf X 165) :: sk) q := a_callVi (as := [.int v1, .int v2]) C (kp := 165) (kLt S (by decide)) (by rw [S.2.1]; rfl) rfl (by have hh := c_Tr_greater (l := X.2.1) (D := dOf X) (I := idOf X) (ad := adOf X) h; rw [← S.1, ← S.2.1, ← S.2.2] at hh; exact hh) (gd_V (tg 957 (by decide +kernel) rfl) (tg 959 (by decide +kernel) rfl) (tg 35 (by decide +kernel) rfl) (tg 124 (by decide +kernel) rfl) (tg 960 (by decide +kernel) rfl)) ⟨rfl, rfl, hz.1, hz.2⟩ ⟨by decide, by decide, by show Option.map _ (parseMethodDescriptor yX9_greater.desc) = some 2; decide⟩ hr rfl hd k
abbrev rm_Tr_greatestBelow : Room := { frames := 2, cells := 0, slots := 0, locals := 45 }
def Tr_greatestBelow_B4 (q : St) (rec : Int32 → Int32 → Int32 → Option (Int32)) (v1 : Int32) (v2 : Int32) (v3 : Int32) : Option (Int32) :=
  if (gt q 19 0) ≤ v3 then
    some v2
  else
    if v1 = (-1 : Int32) then
      rec v1 v2 (v3 + 1)
    else
      b1 (Sp_pathNodes q v3) fun x3 =>
      if ((x3 >>> (v1 &&& 31)) &&& (1 : Int32)) = (1 : Int32) then
        b1 (Tr_greater q v2 v3) fun x5 =>
        rec v1 x5 (v3 + 1)
      else
        rec v1 v2 (v3 + 1)
theorem w_Tr_greatestBelow_B4 {X : Cv} (C : Cx X cX9_greatestBelow RX9 rm_Tr_greatestBelow 4) (S : IsK X) (q : St) {z : Int32} (hret : RokI X cX9_greatestBelow .int z q) (rec : Int32 → Int32 → Int32 → Option (Int32)) (hrec : ∀ (v1 : Int32) (v2 : Int32) (v3 : Int32), rec v1 v2 v3 = some z → At X 4 [(0, .ref (adOf X 165)), (1, .int v1), (2, .int v2), (3, .int v3)] [] q) (v1 : Int32) (v2 : Int32) (v3 : Int32) (h : Tr_greatestBelow_B4 q rec v1 v2 v3 = some z) : At X 4 [(0, .ref (adOf X 165)), (1, .int v1), (2, .int v2), (3, .int v3)] [] q := by
  unfold Tr_greatestBelow_B4 at h
  refine a_iload_n C 3 rfl rfl dX9_greatestBelow_4 ?_
  refine a_aload_n C 0 rfl rfl dX9_greatestBelow_5 ?_
  refine gK_9_15 C S dX9_greatestBelow_6 ?_
  refine gK_9_83 C S (Or.inl rfl) dX9_greatestBelow_9 ?_
  refine a_icmp_ge C 49 (by decide) dX9_greatestBelow_12 (fun c1 => ?_) (fun c1 => ?_)
  · replace h := ifp c1 h
    refine a_iload_n C 2 rfl rfl dX9_greatestBelow_49 ?_
    exact a_iretR hret h rfl dX9_greatestBelow_50
  · replace h := ifn c1 h
    refine a_iload_n C 1 rfl rfl dX9_greatestBelow_15 ?_
    refine a_iconst (v := -1) C (by decide) dX9_greatestBelow_16 ?_
    refine a_icmp_eq C 43 (by decide) dX9_greatestBelow_17 (fun c2 => ?_) (fun c2 => ?_)
    · replace h := ifp c2 h
      refine a_iinc (v := (v3 + 1)) C [(3, .int (v3 + 1)), (0, .ref (adOf X 165)), (1, .int v1), (2, .int v2)] 3 rfl (congrArg (HAdd.hAdd v3) (by decide : Int32.ofInt (1) = (1 : Int32))) (by decide) rfl dX9_greatestBelow_43 ?_
      refine a_goto C 4 (by decide) dX9_greatestBelow_46 ?_
      exact At.sub [1, 2, 3, 0] rfl (hrec _ _ _ h)
    · replace h := ifn c2 h
      refine a_aload_n C 0 rfl rfl dX9_greatestBelow_20 ?_
      refine gK_9_19 C S dX9_greatestBelow_21 ?_
      refine a_iload_n C 3 rfl rfl dX9_greatestBelow_24 ?_
      obtain ⟨x3, e_x3, h⟩ := b1s h
      refine kK_9_154 C S e_x3 ⟨(Nat.le_of_ble_eq_true rfl), (Nat.le_of_ble_eq_true rfl)⟩ (Nat.le_of_ble_eq_true rfl) dX9_greatestBelow_25 ?_
      refine a_iload_n C 1 rfl rfl dX9_greatestBelow_28 ?_
      refine a_ishr C dX9_greatestBelow_29 ?_
      refine a_iconst (v := 1) C (by decide) dX9_greatestBelow_30 ?_
      refine a_iand C dX9_greatestBelow_31 ?_
      refine a_iconst (v := 1) C (by decide) dX9_greatestBelow_32 ?_
      refine a_icmp_ne C 43 (by decide) dX9_greatestBelow_33 (fun c4 => ?_) (fun c4 => ?_)
      · replace h := ifn c4 h
        refine a_iinc (v := (v3 + 1)) C [(3, .int (v3 + 1)), (0, .ref (adOf X 165)), (1, .int v1), (2, .int v2)] 3 rfl (congrArg (HAdd.hAdd v3) (by decide : Int32.ofInt (1) = (1 : Int32))) (by decide) rfl dX9_greatestBelow_43 ?_
        refine a_goto C 4 (by decide) dX9_greatestBelow_46 ?_
        exact At.sub [1, 2, 3, 0] rfl (hrec _ _ _ h)
      · replace h := ifp c4 h
        refine a_aload_n C 0 rfl rfl dX9_greatestBelow_36 ?_
        refine a_iload_n C 2 rfl rfl dX9_greatestBelow_37 ?_
        refine a_iload_n C 3 rfl rfl dX9_greatestBelow_38 ?_
        obtain ⟨x5, e_x5, h⟩ := b1s h
        refine kK_9_157 C S e_x5 ⟨(Nat.le_of_ble_eq_true rfl), (Nat.le_of_ble_eq_true rfl)⟩ (Nat.le_of_ble_eq_true rfl) dX9_greatestBelow_39 ?_
        refine a_istore_n C [(2, .int x5), (0, .ref (adOf X 165)), (1, .int v1), (3, .int v3)] rfl (by decide) rfl dX9_greatestBelow_42 ?_
        refine a_iinc (v := (v3 + 1)) C [(3, .int (v3 + 1)), (2, .int x5), (0, .ref (adOf X 165)), (1, .int v1)] 3 rfl (congrArg (HAdd.hAdd v3) (by decide : Int32.ofInt (1) = (1 : Int32))) (by decide) rfl dX9_greatestBelow_43 ?_
        refine a_goto C 4 (by decide) dX9_greatestBelow_46 ?_
        exact At.sub [2, 3, 1, 0] rfl (hrec _ _ _ h)
def Tr_greatestBelow_L4 (q : St) : Nat → Int32 → Int32 → Int32 → Option (Int32)
  | 0, _, _, _ => none
  | n + 1, v1, v2, v3 => Tr_greatestBelow_B4 q (Tr_greatestBelow_L4 q n) v1 v2 v3
theorem w_Tr_greatestBelow_L4 {X : Cv} (C : Cx X cX9_greatestBelow RX9 rm_Tr_greatestBelow 4) (S : IsK X) (q : St) {z : Int32} (hret : RokI X cX9_greatestBelow .int z q) (n : Nat) : ∀ (v1 : Int32) (v2 : Int32) (v3 : Int32), Tr_greatestBelow_L4 q n v1 v2 v3 = some z → At X 4 [(0, .ref (adOf X 165)), (1, .int v1), (2, .int v2), (3, .int v3)] [] q := by
  induction n with
  | zero => intro v1 v2 v3 h; cases h
  | succ n ih => intro v1 v2 v3 h; exact w_Tr_greatestBelow_B4 C S _ hret _ ih v1 v2 v3 h
def Tr_greatestBelow (q : St) (v1 : Int32) : Option (Int32) :=
  Tr_greatestBelow_L4 q FU v1 (-1 : Int32) (0 : Int32)
theorem w_Tr_greatestBelow {X : Cv} (C : Cx X cX9_greatestBelow RX9 rm_Tr_greatestBelow 4) (S : IsK X) {q : St} {z : Int32} (hret : RokI X cX9_greatestBelow .int z q) (v1 : Int32) (h : Tr_greatestBelow q v1 = some z) : At X 0 [(0, .ref (adOf X 165)), (1, .int v1)] [] q := by
  unfold Tr_greatestBelow at h
  refine a_iconst (v := -1) C (by decide) dX9_greatestBelow_0 ?_
  refine a_istore_n C [(2, .int (-1 : Int32)), (0, .ref (adOf X 165)), (1, .int v1)] rfl (by decide) rfl dX9_greatestBelow_1 ?_
  refine a_iconst (v := 0) C (by decide) dX9_greatestBelow_2 ?_
  refine a_istore_n C [(3, .int (0 : Int32)), (2, .int (-1 : Int32)), (0, .ref (adOf X 165)), (1, .int v1)] rfl (by decide) rfl dX9_greatestBelow_3 ?_
  exact At.sub [2, 3, 1, 0] rfl (w_Tr_greatestBelow_L4 C S _ hret _ _ _ _ h)
theorem c_Tr_greatestBelow {l : Launch} {D : va_G} {I : ClassId × ClassId × ClassId × ClassId} {ad : Nat → Nat} {q : St} {v1 : Int32} {z : Int32} (h : Tr_greatestBelow q v1 = some z) : Ctr l D I (zK ad) 168 (shK I) ad yX9_greatestBelow cX9_greatestBelow 4 (some .int) rm_Tr_greatestBelow [.ref (ad 165), .int v1] q (some z) q :=
  ctr_ofI (by decide) (Nat.le_of_ble_eq_true rfl) (fun p e s m args below meth c Q H0 X hX C hret => by subst hX; exact w_Tr_greatestBelow C ⟨rfl, rfl, rfl⟩ hret _ h)
theorem kK_9_139 {X : Cv} {cc : ByteArray} {rm : Room} {nL1 pc : Nat} {lv : List (Nat × Value)} {sk : List Value} {q : St} {v1 : Int32} {z : Int32} (C : Cx X cc RX9 rm nL1) (S : IsK X) (h : Tr_greatestBelow q v1 = some z) (hz : rm_Tr_greatestBelow.frames + 1 ≤ rm.frames ∧ 8 + (4 + 11) + rm_Tr_greatestBelow.locals ≤ rm.locals) (hr : (sk.map fun v => v.category).sum ≤ 8) (hd : decode cc pc = .ok (.invokevirtual 139, 3)) (k : At X (pc + 3) lv (.int z :: sk) q) : At X pc lv (.int v1 :: .ref (adOf X 165) :: sk) q := a_callVi (as := [.int v1]) C (kp := 165) (kLt S (by decide)) (by rw [S.2.1]; rfl) rfl (by have hh := c_Tr_greatestBelow (l := X.2.1) (D := dOf X) (I := idOf X) (ad := adOf X) h; rw [← S.1, ← S.2.1, ← S.2.2] at hh; exact hh) (gd_V (tg 952 (by decide +kernel) rfl) (tg 954 (by decide +kernel) rfl) (tg 34 (by decide +kernel) rfl) (tg 124 (by decide +kernel) rfl) (tg 955 (by decide +kernel) rfl)) ⟨rfl, rfl, hz.1, hz.2⟩ ⟨by decide, by decide, by show Option.map _ (parseMethodDescriptor yX9_greatestBelow.desc) = some 1; decide⟩ hr rfl hd k
abbrev rm_Sp_servingNode : Room := { frames := 1, cells := 0, slots := 0, locals := 21 }
def Sp_servingNode_B19 (q : St) (rec : Int32 → Int32 → Int32 → Option (Int32)) (v2 : Int32) (v3 : Int32) (v4 : Int32) : Option (Int32) :=
  if (16 : Int32) ≤ v4 then
    some (-1 : Int32)
  else
    if v3 = (-1 : Int32) then
      some (-1 : Int32)
    else
      b1 (rd 64 q 27 ((v3 * (4 : Int32)) + v2)) fun x5 =>
      if x5 = (0 : Int32) then
        b1 (rd 16 q 29 v3) fun x7 =>
        rec v2 x7 (v4 + 1)
      else
        some v3
theorem w_Sp_servingNode_B19 {X : Cv} (C : Cx X cX6_servingNode RX6 rm_Sp_servingNode 5) (S : IsK X) (q : St) {z : Int32} (hret : RokI X cX6_servingNode .int z q) (rec : Int32 → Int32 → Int32 → Option (Int32)) (hrec : ∀ (v2 : Int32) (v3 : Int32) (v4 : Int32), rec v2 v3 v4 = some z → At X 19 [(0, .ref (adOf X 156)), (2, .int v2), (3, .int v3), (4, .int v4)] [] q) (v2 : Int32) (v3 : Int32) (v4 : Int32) (h : Sp_servingNode_B19 q rec v2 v3 v4 = some z) : At X 19 [(0, .ref (adOf X 156)), (2, .int v2), (3, .int v3), (4, .int v4)] [] q := by
  unfold Sp_servingNode_B19 at h
  refine a_iload C 3 rfl dX6_servingNode_19 ?_
  refine a_bipush (v := 16) C (by decide) dX6_servingNode_21 ?_
  refine a_icmp_ge C 65 (by decide) dX6_servingNode_23 (fun c3 => ?_) (fun c3 => ?_)
  · replace h := ifp c3 h
    refine a_iconst (v := -1) C (by decide) dX6_servingNode_65 ?_
    exact a_iretR hret h rfl dX6_servingNode_66
  · replace h := ifn c3 h
    refine a_iload_n C 2 rfl rfl dX6_servingNode_26 ?_
    refine a_iconst (v := -1) C (by decide) dX6_servingNode_27 ?_
    refine a_icmp_eq C 65 (by decide) dX6_servingNode_28 (fun c4 => ?_) (fun c4 => ?_)
    · replace h := ifp c4 h
      refine a_iconst (v := -1) C (by decide) dX6_servingNode_65 ?_
      exact a_iretR hret h rfl dX6_servingNode_66
    · replace h := ifn c4 h
      refine a_aload_n C 0 rfl rfl dX6_servingNode_31 ?_
      refine gK_6_15 C S dX6_servingNode_32 ?_
      refine gK_6_66 C S (Or.inl rfl) dX6_servingNode_35 ?_
      refine a_iload_n C 2 rfl rfl dX6_servingNode_38 ?_
      refine a_iconst (v := 4) C (by decide) dX6_servingNode_39 ?_
      refine a_imul C dX6_servingNode_40 ?_
      refine a_iload_n C 1 rfl rfl dX6_servingNode_41 ?_
      refine a_iadd C dX6_servingNode_42 ?_
      obtain ⟨x5, e_x5, h⟩ := b1s h
      refine lK_s8 (o := 19) C S (Or.inl rfl) e_x5 dX6_servingNode_43 ?_
      refine a_if_eq C 49 (by decide) dX6_servingNode_44 (fun c6 => ?_) (fun c6 => ?_)
      · replace h := ifp c6 h
        refine a_aload_n C 0 rfl rfl dX6_servingNode_49 ?_
        refine gK_6_15 C S dX6_servingNode_50 ?_
        refine gK_6_19 C S (Or.inl rfl) dX6_servingNode_53 ?_
        refine a_iload_n C 2 rfl rfl dX6_servingNode_56 ?_
        obtain ⟨x7, e_x7, h⟩ := b1s h
        refine lK_s10 (o := 19) C S (Or.inl rfl) e_x7 dX6_servingNode_57 ?_
        refine a_istore_n C [(3, .int x7), (0, .ref (adOf X 156)), (2, .int v2), (4, .int v4)] rfl (by decide) rfl dX6_servingNode_58 ?_
        refine a_iinc (v := (v4 + 1)) C [(4, .int (v4 + 1)), (3, .int x7), (0, .ref (adOf X 156)), (2, .int v2)] 3 rfl (congrArg (HAdd.hAdd v4) (by decide : Int32.ofInt (1) = (1 : Int32))) (by decide) rfl dX6_servingNode_59 ?_
        refine a_goto C 19 (by decide) dX6_servingNode_62 ?_
        exact At.sub [2, 3, 1, 0] rfl (hrec _ _ _ h)
      · replace h := ifn c6 h
        refine a_iload_n C 2 rfl rfl dX6_servingNode_47 ?_
        exact a_iretR hret h rfl dX6_servingNode_48
def Sp_servingNode_L19 (q : St) : Nat → Int32 → Int32 → Int32 → Option (Int32)
  | 0, _, _, _ => none
  | n + 1, v2, v3, v4 => Sp_servingNode_B19 q (Sp_servingNode_L19 q n) v2 v3 v4
theorem w_Sp_servingNode_L19 {X : Cv} (C : Cx X cX6_servingNode RX6 rm_Sp_servingNode 5) (S : IsK X) (q : St) {z : Int32} (hret : RokI X cX6_servingNode .int z q) (n : Nat) : ∀ (v2 : Int32) (v3 : Int32) (v4 : Int32), Sp_servingNode_L19 q n v2 v3 v4 = some z → At X 19 [(0, .ref (adOf X 156)), (2, .int v2), (3, .int v3), (4, .int v4)] [] q := by
  induction n with
  | zero => intro v2 v3 v4 h; cases h
  | succ n ih => intro v2 v3 v4 h; exact w_Sp_servingNode_B19 C S _ hret _ ih v2 v3 v4 h
def Sp_servingNode (q : St) (v1 : Int32) : Option (Int32) :=
  b1 (rd 21 q 21 v1) fun x1 =>
  b1 (Sp_pathStart q v1) fun x2 =>
  Sp_servingNode_L19 q FU x1 x2 (0 : Int32)
theorem w_Sp_servingNode {X : Cv} (C : Cx X cX6_servingNode RX6 rm_Sp_servingNode 5) (S : IsK X) {q : St} {z : Int32} (hret : RokI X cX6_servingNode .int z q) (v1 : Int32) (h : Sp_servingNode q v1 = some z) : At X 0 [(0, .ref (adOf X 156)), (1, .int v1)] [] q := by
  unfold Sp_servingNode at h
  refine a_aload_n C 0 rfl rfl dX6_servingNode_0 ?_
  refine gK_6_15 C S dX6_servingNode_1 ?_
  refine gK_6_63 C S (Or.inl rfl) dX6_servingNode_4 ?_
  refine a_iload_n C 1 rfl rfl dX6_servingNode_7 ?_
  obtain ⟨x1, e_x1, h⟩ := b1s h
  refine lK_s2 (o := 19) C S (Or.inl rfl) e_x1 dX6_servingNode_8 ?_
  refine a_istore_n C [(2, .int x1), (0, .ref (adOf X 156)), (1, .int v1)] rfl (by decide) rfl dX6_servingNode_9 ?_
  refine a_aload_n C 1 rfl rfl dX6_servingNode_10 ?_
  refine a_iload_n C 2 rfl rfl dX6_servingNode_11 ?_
  obtain ⟨x2, e_x2, h⟩ := b1s h
  refine kK_6_53 C S e_x2 ⟨(Nat.le_of_ble_eq_true rfl), (Nat.le_of_ble_eq_true rfl)⟩ (Nat.le_of_ble_eq_true rfl) dX6_servingNode_12 ?_
  refine a_istore_n C [(3, .int x2), (2, .int x1), (0, .ref (adOf X 156)), (1, .int v1)] rfl (by decide) rfl dX6_servingNode_15 ?_
  refine a_iconst (v := 0) C (by decide) dX6_servingNode_16 ?_
  refine a_istore C [(4, .int (0 : Int32)), (3, .int x2), (2, .int x1), (0, .ref (adOf X 156)), (1, .int v1)] (by decide) rfl dX6_servingNode_17 ?_
  exact At.sub [3, 2, 1, 0] rfl (w_Sp_servingNode_L19 C S _ hret _ _ _ _ h)
theorem c_Sp_servingNode {l : Launch} {D : va_G} {I : ClassId × ClassId × ClassId × ClassId} {ad : Nat → Nat} {q : St} {v1 : Int32} {z : Int32} (h : Sp_servingNode q v1 = some z) : Ctr l D I (zK ad) 168 (shK I) ad yX6_servingNode cX6_servingNode 5 (some .int) rm_Sp_servingNode [.ref (ad 156), .int v1] q (some z) q :=
  ctr_ofI (by decide) (Nat.le_of_ble_eq_true rfl) (fun p e s m args below meth c Q H0 X hX C hret => by subst hX; exact w_Sp_servingNode C ⟨rfl, rfl, rfl⟩ hret _ h)
theorem kK_9_160 {X : Cv} {cc : ByteArray} {rm : Room} {nL1 pc : Nat} {lv : List (Nat × Value)} {sk : List Value} {q : St} {v1 : Int32} {z : Int32} (C : Cx X cc RX9 rm nL1) (S : IsK X) (h : Sp_servingNode q v1 = some z) (hz : rm_Sp_servingNode.frames + 1 ≤ rm.frames ∧ 8 + (5 + 11) + rm_Sp_servingNode.locals ≤ rm.locals) (hr : (sk.map fun v => v.category).sum ≤ 8) (hd : decode cc pc = .ok (.invokevirtual 160, 3)) (k : At X (pc + 3) lv (.int z :: sk) q) : At X pc lv (.int v1 :: .ref (adOf X 156) :: sk) q := a_callVi (as := [.int v1]) C (kp := 156) (kLt S (by decide)) (by rw [S.2.1]; rfl) rfl (by have hh := c_Sp_servingNode (l := X.2.1) (D := dOf X) (I := idOf X) (ad := adOf X) h; rw [← S.1, ← S.2.1, ← S.2.2] at hh; exact hh) (gd_V (tg 966 (by decide +kernel) rfl) (tg 967 (by decide +kernel) rfl) (tg 968 (by decide +kernel) rfl) (tg 121 (by decide +kernel) rfl) (tg 969 (by decide +kernel) rfl)) ⟨rfl, rfl, hz.1, hz.2⟩ ⟨by decide, by decide, by show Option.map _ (parseMethodDescriptor yX6_servingNode.desc) = some 1; decide⟩ hr rfl hd k
theorem kK_10_238 {X : Cv} {cc : ByteArray} {rm : Room} {nL1 pc : Nat} {lv : List (Nat × Value)} {sk : List Value} {q : St} {v1 : Int32} {z : Int32} (C : Cx X cc RX10 rm nL1) (S : IsK X) (h : Sp_servingNode q v1 = some z) (hz : rm_Sp_servingNode.frames + 1 ≤ rm.frames ∧ 8 + (5 + 11) + rm_Sp_servingNode.locals ≤ rm.locals) (hr : (sk.map fun v => v.category).sum ≤ 8) (hd : decode cc pc = .ok (.invokevirtual 238, 3)) (k : At X (pc + 3) lv (.int z :: sk) q) : At X pc lv (.int v1 :: .ref (adOf X 156) :: sk) q := a_callVi (as := [.int v1]) C (kp := 156) (kLt S (by decide)) (by rw [S.2.1]; rfl) rfl (by have hh := c_Sp_servingNode (l := X.2.1) (D := dOf X) (I := idOf X) (ad := adOf X) h; rw [← S.1, ← S.2.1, ← S.2.2] at hh; exact hh) (gd_V (tg 1047 (by decide +kernel) rfl) (tg 967 (by decide +kernel) rfl) (tg 968 (by decide +kernel) rfl) (tg 121 (by decide +kernel) rfl) (tg 969 (by decide +kernel) rfl)) ⟨rfl, rfl, hz.1, hz.2⟩ ⟨by decide, by decide, by show Option.map _ (parseMethodDescriptor yX6_servingNode.desc) = some 1; decide⟩ hr rfl hd k
abbrev rm_Tr_greatestServed : Room := { frames := 2, cells := 0, slots := 0, locals := 45 }
def Tr_greatestServed_B4 (q : St) (rec : Int32 → Int32 → Int32 → Option (Int32)) (v1 : Int32) (v2 : Int32) (v3 : Int32) : Option (Int32) :=
  if (gt q 19 0) ≤ v3 then
    some v2
  else
    b1 (Sp_servingNode q v3) fun x2 =>
    if x2 = v1 then
      b1 (Tr_greater q v2 v3) fun x4 =>
      rec v1 x4 (v3 + 1)
    else
      rec v1 v2 (v3 + 1)
theorem w_Tr_greatestServed_B4 {X : Cv} (C : Cx X cX9_greatestServed RX9 rm_Tr_greatestServed 4) (S : IsK X) (q : St) {z : Int32} (hret : RokI X cX9_greatestServed .int z q) (rec : Int32 → Int32 → Int32 → Option (Int32)) (hrec : ∀ (v1 : Int32) (v2 : Int32) (v3 : Int32), rec v1 v2 v3 = some z → At X 4 [(0, .ref (adOf X 165)), (1, .int v1), (2, .int v2), (3, .int v3)] [] q) (v1 : Int32) (v2 : Int32) (v3 : Int32) (h : Tr_greatestServed_B4 q rec v1 v2 v3 = some z) : At X 4 [(0, .ref (adOf X 165)), (1, .int v1), (2, .int v2), (3, .int v3)] [] q := by
  unfold Tr_greatestServed_B4 at h
  refine a_iload_n C 3 rfl rfl dX9_greatestServed_4 ?_
  refine a_aload_n C 0 rfl rfl dX9_greatestServed_5 ?_
  refine gK_9_15 C S dX9_greatestServed_6 ?_
  refine gK_9_83 C S (Or.inl rfl) dX9_greatestServed_9 ?_
  refine a_icmp_ge C 40 (by decide) dX9_greatestServed_12 (fun c1 => ?_) (fun c1 => ?_)
  · replace h := ifp c1 h
    refine a_iload_n C 2 rfl rfl dX9_greatestServed_40 ?_
    exact a_iretR hret h rfl dX9_greatestServed_41
  · replace h := ifn c1 h
    refine a_aload_n C 0 rfl rfl dX9_greatestServed_15 ?_
    refine gK_9_19 C S dX9_greatestServed_16 ?_
    refine a_iload_n C 3 rfl rfl dX9_greatestServed_19 ?_
    obtain ⟨x2, e_x2, h⟩ := b1s h
    refine kK_9_160 C S e_x2 ⟨(Nat.le_of_ble_eq_true rfl), (Nat.le_of_ble_eq_true rfl)⟩ (Nat.le_of_ble_eq_true rfl) dX9_greatestServed_20 ?_
    refine a_iload_n C 1 rfl rfl dX9_greatestServed_23 ?_
    refine a_icmp_ne C 34 (by decide) dX9_greatestServed_24 (fun c3 => ?_) (fun c3 => ?_)
    · replace h := ifn c3 h
      refine a_iinc (v := (v3 + 1)) C [(3, .int (v3 + 1)), (0, .ref (adOf X 165)), (1, .int v1), (2, .int v2)] 3 rfl (congrArg (HAdd.hAdd v3) (by decide : Int32.ofInt (1) = (1 : Int32))) (by decide) rfl dX9_greatestServed_34 ?_
      refine a_goto C 4 (by decide) dX9_greatestServed_37 ?_
      exact At.sub [1, 2, 3, 0] rfl (hrec _ _ _ h)
    · replace h := ifp c3 h
      refine a_aload_n C 0 rfl rfl dX9_greatestServed_27 ?_
      refine a_iload_n C 2 rfl rfl dX9_greatestServed_28 ?_
      refine a_iload_n C 3 rfl rfl dX9_greatestServed_29 ?_
      obtain ⟨x4, e_x4, h⟩ := b1s h
      refine kK_9_157 C S e_x4 ⟨(Nat.le_of_ble_eq_true rfl), (Nat.le_of_ble_eq_true rfl)⟩ (Nat.le_of_ble_eq_true rfl) dX9_greatestServed_30 ?_
      refine a_istore_n C [(2, .int x4), (0, .ref (adOf X 165)), (1, .int v1), (3, .int v3)] rfl (by decide) rfl dX9_greatestServed_33 ?_
      refine a_iinc (v := (v3 + 1)) C [(3, .int (v3 + 1)), (2, .int x4), (0, .ref (adOf X 165)), (1, .int v1)] 3 rfl (congrArg (HAdd.hAdd v3) (by decide : Int32.ofInt (1) = (1 : Int32))) (by decide) rfl dX9_greatestServed_34 ?_
      refine a_goto C 4 (by decide) dX9_greatestServed_37 ?_
      exact At.sub [2, 3, 1, 0] rfl (hrec _ _ _ h)
def Tr_greatestServed_L4 (q : St) : Nat → Int32 → Int32 → Int32 → Option (Int32)
  | 0, _, _, _ => none
  | n + 1, v1, v2, v3 => Tr_greatestServed_B4 q (Tr_greatestServed_L4 q n) v1 v2 v3
theorem w_Tr_greatestServed_L4 {X : Cv} (C : Cx X cX9_greatestServed RX9 rm_Tr_greatestServed 4) (S : IsK X) (q : St) {z : Int32} (hret : RokI X cX9_greatestServed .int z q) (n : Nat) : ∀ (v1 : Int32) (v2 : Int32) (v3 : Int32), Tr_greatestServed_L4 q n v1 v2 v3 = some z → At X 4 [(0, .ref (adOf X 165)), (1, .int v1), (2, .int v2), (3, .int v3)] [] q := by
  induction n with
  | zero => intro v1 v2 v3 h; cases h
  | succ n ih => intro v1 v2 v3 h; exact w_Tr_greatestServed_B4 C S _ hret _ ih v1 v2 v3 h
def Tr_greatestServed (q : St) (v1 : Int32) : Option (Int32) :=
  Tr_greatestServed_L4 q FU v1 (-1 : Int32) (0 : Int32)
theorem w_Tr_greatestServed {X : Cv} (C : Cx X cX9_greatestServed RX9 rm_Tr_greatestServed 4) (S : IsK X) {q : St} {z : Int32} (hret : RokI X cX9_greatestServed .int z q) (v1 : Int32) (h : Tr_greatestServed q v1 = some z) : At X 0 [(0, .ref (adOf X 165)), (1, .int v1)] [] q := by
  unfold Tr_greatestServed at h
  refine a_iconst (v := -1) C (by decide) dX9_greatestServed_0 ?_
  refine a_istore_n C [(2, .int (-1 : Int32)), (0, .ref (adOf X 165)), (1, .int v1)] rfl (by decide) rfl dX9_greatestServed_1 ?_
  refine a_iconst (v := 0) C (by decide) dX9_greatestServed_2 ?_
  refine a_istore_n C [(3, .int (0 : Int32)), (2, .int (-1 : Int32)), (0, .ref (adOf X 165)), (1, .int v1)] rfl (by decide) rfl dX9_greatestServed_3 ?_
  exact At.sub [2, 3, 1, 0] rfl (w_Tr_greatestServed_L4 C S _ hret _ _ _ _ h)
theorem c_Tr_greatestServed {l : Launch} {D : va_G} {I : ClassId × ClassId × ClassId × ClassId} {ad : Nat → Nat} {q : St} {v1 : Int32} {z : Int32} (h : Tr_greatestServed q v1 = some z) : Ctr l D I (zK ad) 168 (shK I) ad yX9_greatestServed cX9_greatestServed 4 (some .int) rm_Tr_greatestServed [.ref (ad 165), .int v1] q (some z) q :=
  ctr_ofI (by decide) (Nat.le_of_ble_eq_true rfl) (fun p e s m args below meth c Q H0 X hX C hret => by subst hX; exact w_Tr_greatestServed C ⟨rfl, rfl, rfl⟩ hret _ h)
theorem kK_9_145 {X : Cv} {cc : ByteArray} {rm : Room} {nL1 pc : Nat} {lv : List (Nat × Value)} {sk : List Value} {q : St} {v1 : Int32} {z : Int32} (C : Cx X cc RX9 rm nL1) (S : IsK X) (h : Tr_greatestServed q v1 = some z) (hz : rm_Tr_greatestServed.frames + 1 ≤ rm.frames ∧ 8 + (4 + 11) + rm_Tr_greatestServed.locals ≤ rm.locals) (hr : (sk.map fun v => v.category).sum ≤ 8) (hd : decode cc pc = .ok (.invokevirtual 145, 3)) (k : At X (pc + 3) lv (.int z :: sk) q) : At X pc lv (.int v1 :: .ref (adOf X 165) :: sk) q := a_callVi (as := [.int v1]) C (kp := 165) (kLt S (by decide)) (by rw [S.2.1]; rfl) rfl (by have hh := c_Tr_greatestServed (l := X.2.1) (D := dOf X) (I := idOf X) (ad := adOf X) h; rw [← S.1, ← S.2.1, ← S.2.2] at hh; exact hh) (gd_V (tg 962 (by decide +kernel) rfl) (tg 964 (by decide +kernel) rfl) (tg 36 (by decide +kernel) rfl) (tg 124 (by decide +kernel) rfl) (tg 965 (by decide +kernel) rfl)) ⟨rfl, rfl, hz.1, hz.2⟩ ⟨by decide, by decide, by show Option.map _ (parseMethodDescriptor yX9_greatestServed.desc) = some 1; decide⟩ hr rfl hd k
abbrev rm_Tr_greatestUnserved : Room := { frames := 2, cells := 0, slots := 0, locals := 45 }
def Tr_greatestUnserved_B4 (q : St) (rec : Int32 → Int32 → Int32 → Option (Int32)) (v1 : Int32) (v2 : Int32) (v3 : Int32) : Option (Int32) :=
  if (gt q 19 0) ≤ v3 then
    some v2
  else
    b1 (rd 21 q 23 v3) fun x2 =>
    if x2 ≤ (0 : Int32) then
      rec v1 v2 (v3 + 1)
    else
      b1 (rd 21 q 21 v3) fun x4 =>
      if x4 = v1 then
        b1 (Sp_servingNode q v3) fun x6 =>
        if x6 = (-1 : Int32) then
          b1 (Tr_greater q v2 v3) fun x8 =>
          rec v1 x8 (v3 + 1)
        else
          rec v1 v2 (v3 + 1)
      else
        rec v1 v2 (v3 + 1)
theorem w_Tr_greatestUnserved_B4 {X : Cv} (C : Cx X cX9_greatestUnserved RX9 rm_Tr_greatestUnserved 4) (S : IsK X) (q : St) {z : Int32} (hret : RokI X cX9_greatestUnserved .int z q) (rec : Int32 → Int32 → Int32 → Option (Int32)) (hrec : ∀ (v1 : Int32) (v2 : Int32) (v3 : Int32), rec v1 v2 v3 = some z → At X 4 [(0, .ref (adOf X 165)), (1, .int v1), (2, .int v2), (3, .int v3)] [] q) (v1 : Int32) (v2 : Int32) (v3 : Int32) (h : Tr_greatestUnserved_B4 q rec v1 v2 v3 = some z) : At X 4 [(0, .ref (adOf X 165)), (1, .int v1), (2, .int v2), (3, .int v3)] [] q := by
  unfold Tr_greatestUnserved_B4 at h
  refine a_iload_n C 3 rfl rfl dX9_greatestUnserved_4 ?_
  refine a_aload_n C 0 rfl rfl dX9_greatestUnserved_5 ?_
  refine gK_9_15 C S dX9_greatestUnserved_6 ?_
  refine gK_9_83 C S (Or.inl rfl) dX9_greatestUnserved_9 ?_
  refine a_icmp_ge C 65 (by decide) dX9_greatestUnserved_12 (fun c1 => ?_) (fun c1 => ?_)
  · replace h := ifp c1 h
    refine a_iload_n C 2 rfl rfl dX9_greatestUnserved_65 ?_
    exact a_iretR hret h rfl dX9_greatestUnserved_66
  · replace h := ifn c1 h
    refine a_aload_n C 0 rfl rfl dX9_greatestUnserved_15 ?_
    refine gK_9_15 C S dX9_greatestUnserved_16 ?_
    refine gK_9_44 C S (Or.inl rfl) dX9_greatestUnserved_19 ?_
    refine a_iload_n C 3 rfl rfl dX9_greatestUnserved_22 ?_
    obtain ⟨x2, e_x2, h⟩ := b1s h
    refine lK_s4 (o := 19) C S (Or.inl rfl) e_x2 dX9_greatestUnserved_23 ?_
    refine a_if_le C 59 (by decide) dX9_greatestUnserved_24 (fun c3 => ?_) (fun c3 => ?_)
    · replace h := ifp c3 h
      refine a_iinc (v := (v3 + 1)) C [(3, .int (v3 + 1)), (0, .ref (adOf X 165)), (1, .int v1), (2, .int v2)] 3 rfl (congrArg (HAdd.hAdd v3) (by decide : Int32.ofInt (1) = (1 : Int32))) (by decide) rfl dX9_greatestUnserved_59 ?_
      refine a_goto C 4 (by decide) dX9_greatestUnserved_62 ?_
      exact At.sub [1, 2, 3, 0] rfl (hrec _ _ _ h)
    · replace h := ifn c3 h
      refine a_aload_n C 0 rfl rfl dX9_greatestUnserved_27 ?_
      refine gK_9_15 C S dX9_greatestUnserved_28 ?_
      refine gK_9_51 C S (Or.inl rfl) dX9_greatestUnserved_31 ?_
      refine a_iload_n C 3 rfl rfl dX9_greatestUnserved_34 ?_
      obtain ⟨x4, e_x4, h⟩ := b1s h
      refine lK_s2 (o := 19) C S (Or.inl rfl) e_x4 dX9_greatestUnserved_35 ?_
      refine a_iload_n C 1 rfl rfl dX9_greatestUnserved_36 ?_
      refine a_icmp_ne C 59 (by decide) dX9_greatestUnserved_37 (fun c5 => ?_) (fun c5 => ?_)
      · replace h := ifn c5 h
        refine a_iinc (v := (v3 + 1)) C [(3, .int (v3 + 1)), (0, .ref (adOf X 165)), (1, .int v1), (2, .int v2)] 3 rfl (congrArg (HAdd.hAdd v3) (by decide : Int32.ofInt (1) = (1 : Int32))) (by decide) rfl dX9_greatestUnserved_59 ?_
        refine a_goto C 4 (by decide) dX9_greatestUnserved_62 ?_
        exact At.sub [1, 2, 3, 0] rfl (hrec _ _ _ h)
      · replace h := ifp c5 h
        refine a_aload_n C 0 rfl rfl dX9_greatestUnserved_40 ?_
        refine gK_9_19 C S dX9_greatestUnserved_41 ?_
        refine a_iload_n C 3 rfl rfl dX9_greatestUnserved_44 ?_
        obtain ⟨x6, e_x6, h⟩ := b1s h
        refine kK_9_160 C S e_x6 ⟨(Nat.le_of_ble_eq_true rfl), (Nat.le_of_ble_eq_true rfl)⟩ (Nat.le_of_ble_eq_true rfl) dX9_greatestUnserved_45 ?_
        refine a_iconst (v := -1) C (by decide) dX9_greatestUnserved_48 ?_
        refine a_icmp_ne C 59 (by decide) dX9_greatestUnserved_49 (fun c7 => ?_) (fun c7 => ?_)
        · replace h := ifn c7 h
          refine a_iinc (v := (v3 + 1)) C [(3, .int (v3 + 1)), (0, .ref (adOf X 165)), (1, .int v1), (2, .int v2)] 3 rfl (congrArg (HAdd.hAdd v3) (by decide : Int32.ofInt (1) = (1 : Int32))) (by decide) rfl dX9_greatestUnserved_59 ?_
          refine a_goto C 4 (by decide) dX9_greatestUnserved_62 ?_
          exact At.sub [1, 2, 3, 0] rfl (hrec _ _ _ h)
        · replace h := ifp c7 h
          refine a_aload_n C 0 rfl rfl dX9_greatestUnserved_52 ?_
          refine a_iload_n C 2 rfl rfl dX9_greatestUnserved_53 ?_
          refine a_iload_n C 3 rfl rfl dX9_greatestUnserved_54 ?_
          obtain ⟨x8, e_x8, h⟩ := b1s h
          refine kK_9_157 C S e_x8 ⟨(Nat.le_of_ble_eq_true rfl), (Nat.le_of_ble_eq_true rfl)⟩ (Nat.le_of_ble_eq_true rfl) dX9_greatestUnserved_55 ?_
          refine a_istore_n C [(2, .int x8), (0, .ref (adOf X 165)), (1, .int v1), (3, .int v3)] rfl (by decide) rfl dX9_greatestUnserved_58 ?_
          refine a_iinc (v := (v3 + 1)) C [(3, .int (v3 + 1)), (2, .int x8), (0, .ref (adOf X 165)), (1, .int v1)] 3 rfl (congrArg (HAdd.hAdd v3) (by decide : Int32.ofInt (1) = (1 : Int32))) (by decide) rfl dX9_greatestUnserved_59 ?_
          refine a_goto C 4 (by decide) dX9_greatestUnserved_62 ?_
          exact At.sub [2, 3, 1, 0] rfl (hrec _ _ _ h)
def Tr_greatestUnserved_L4 (q : St) : Nat → Int32 → Int32 → Int32 → Option (Int32)
  | 0, _, _, _ => none
  | n + 1, v1, v2, v3 => Tr_greatestUnserved_B4 q (Tr_greatestUnserved_L4 q n) v1 v2 v3
theorem w_Tr_greatestUnserved_L4 {X : Cv} (C : Cx X cX9_greatestUnserved RX9 rm_Tr_greatestUnserved 4) (S : IsK X) (q : St) {z : Int32} (hret : RokI X cX9_greatestUnserved .int z q) (n : Nat) : ∀ (v1 : Int32) (v2 : Int32) (v3 : Int32), Tr_greatestUnserved_L4 q n v1 v2 v3 = some z → At X 4 [(0, .ref (adOf X 165)), (1, .int v1), (2, .int v2), (3, .int v3)] [] q := by
  induction n with
  | zero => intro v1 v2 v3 h; cases h
  | succ n ih => intro v1 v2 v3 h; exact w_Tr_greatestUnserved_B4 C S _ hret _ ih v1 v2 v3 h
def Tr_greatestUnserved (q : St) (v1 : Int32) : Option (Int32) :=
  Tr_greatestUnserved_L4 q FU v1 (-1 : Int32) (0 : Int32)
theorem w_Tr_greatestUnserved {X : Cv} (C : Cx X cX9_greatestUnserved RX9 rm_Tr_greatestUnserved 4) (S : IsK X) {q : St} {z : Int32} (hret : RokI X cX9_greatestUnserved .int z q) (v1 : Int32) (h : Tr_greatestUnserved q v1 = some z) : At X 0 [(0, .ref (adOf X 165)), (1, .int v1)] [] q := by
  unfold Tr_greatestUnserved at h
  refine a_iconst (v := -1) C (by decide) dX9_greatestUnserved_0 ?_
  refine a_istore_n C [(2, .int (-1 : Int32)), (0, .ref (adOf X 165)), (1, .int v1)] rfl (by decide) rfl dX9_greatestUnserved_1 ?_
  refine a_iconst (v := 0) C (by decide) dX9_greatestUnserved_2 ?_
  refine a_istore_n C [(3, .int (0 : Int32)), (2, .int (-1 : Int32)), (0, .ref (adOf X 165)), (1, .int v1)] rfl (by decide) rfl dX9_greatestUnserved_3 ?_
  exact At.sub [2, 3, 1, 0] rfl (w_Tr_greatestUnserved_L4 C S _ hret _ _ _ _ h)
theorem c_Tr_greatestUnserved {l : Launch} {D : va_G} {I : ClassId × ClassId × ClassId × ClassId} {ad : Nat → Nat} {q : St} {v1 : Int32} {z : Int32} (h : Tr_greatestUnserved q v1 = some z) : Ctr l D I (zK ad) 168 (shK I) ad yX9_greatestUnserved cX9_greatestUnserved 4 (some .int) rm_Tr_greatestUnserved [.ref (ad 165), .int v1] q (some z) q :=
  ctr_ofI (by decide) (Nat.le_of_ble_eq_true rfl) (fun p e s m args below meth c Q H0 X hX C hret => by subst hX; exact w_Tr_greatestUnserved C ⟨rfl, rfl, rfl⟩ hret _ h)
theorem kK_9_151 {X : Cv} {cc : ByteArray} {rm : Room} {nL1 pc : Nat} {lv : List (Nat × Value)} {sk : List Value} {q : St} {v1 : Int32} {z : Int32} (C : Cx X cc RX9 rm nL1) (S : IsK X) (h : Tr_greatestUnserved q v1 = some z) (hz : rm_Tr_greatestUnserved.frames + 1 ≤ rm.frames ∧ 8 + (4 + 11) + rm_Tr_greatestUnserved.locals ≤ rm.locals) (hr : (sk.map fun v => v.category).sum ≤ 8) (hd : decode cc pc = .ok (.invokevirtual 151, 3)) (k : At X (pc + 3) lv (.int z :: sk) q) : At X pc lv (.int v1 :: .ref (adOf X 165) :: sk) q := a_callVi (as := [.int v1]) C (kp := 165) (kLt S (by decide)) (by rw [S.2.1]; rfl) rfl (by have hh := c_Tr_greatestUnserved (l := X.2.1) (D := dOf X) (I := idOf X) (ad := adOf X) h; rw [← S.1, ← S.2.1, ← S.2.2] at hh; exact hh) (gd_V (tg 971 (by decide +kernel) rfl) (tg 973 (by decide +kernel) rfl) (tg 37 (by decide +kernel) rfl) (tg 124 (by decide +kernel) rfl) (tg 974 (by decide +kernel) rfl)) ⟨rfl, rfl, hz.1, hz.2⟩ ⟨by decide, by decide, by show Option.map _ (parseMethodDescriptor yX9_greatestUnserved.desc) = some 1; decide⟩ hr rfl hd k
abbrev rm_Tr_nextToLower : Room := { frames := 3, cells := 0, slots := 0, locals := 68 }
def Tr_nextToLower (q : St) : Option (Int32) :=
  b1 (Fl_overloadedLink q) fun x1 =>
  if x1 = (-1 : Int32) then
    b1 (Fl_overloadedNode q) fun x3 =>
    if x3 = (-1 : Int32) then
      b1 (Fl_unmadeFormat q) fun x5 =>
      if x5 = (-1 : Int32) then
        some (-1 : Int32)
      else
        b1 (Tr_greatestUnserved q x5) fun x7 =>
        some x7
    else
      b1 (Tr_greatestServed q x3) fun x8 =>
      some x8
  else
    b1 (Tr_lowerEnd q x1) fun x9 =>
    b1 (Tr_greatestBelow q x9) fun x10 =>
    some x10
theorem w_Tr_nextToLower {X : Cv} (C : Cx X cX9_nextToLower RX9 rm_Tr_nextToLower 4) (S : IsK X) {q : St} {z : Int32} (hret : RokI X cX9_nextToLower .int z q) (h : Tr_nextToLower q = some z) : At X 0 [(0, .ref (adOf X 165))] [] q := by
  unfold Tr_nextToLower at h
  refine a_aload_n C 0 rfl rfl dX9_nextToLower_0 ?_
  refine gK_9_23 C S dX9_nextToLower_1 ?_
  obtain ⟨x1, e_x1, h⟩ := b1s h
  refine kK_9_136 C S e_x1 ⟨(Nat.le_of_ble_eq_true rfl), (Nat.le_of_ble_eq_true rfl)⟩ (Nat.le_of_ble_eq_true rfl) dX9_nextToLower_4 ?_
  refine a_istore_n C [(1, .int x1), (0, .ref (adOf X 165))] rfl (by decide) rfl dX9_nextToLower_7 ?_
  refine a_iload_n C 0 rfl rfl dX9_nextToLower_8 ?_
  refine a_iconst (v := -1) C (by decide) dX9_nextToLower_9 ?_
  refine a_icmp_eq C 23 (by decide) dX9_nextToLower_10 (fun c2 => ?_) (fun c2 => ?_)
  · replace h := ifp c2 h
    refine a_aload_n C 1 rfl rfl dX9_nextToLower_23 ?_
    refine gK_9_23 C S dX9_nextToLower_24 ?_
    obtain ⟨x3, e_x3, h⟩ := b1s h
    refine kK_9_142 C S e_x3 ⟨(Nat.le_of_ble_eq_true rfl), (Nat.le_of_ble_eq_true rfl)⟩ (Nat.le_of_ble_eq_true rfl) dX9_nextToLower_27 ?_
    refine a_istore_n C [(2, .int x3), (1, .int x1), (0, .ref (adOf X 165))] rfl (by decide) rfl dX9_nextToLower_30 ?_
    refine a_iload_n C 0 rfl rfl dX9_nextToLower_31 ?_
    refine a_iconst (v := -1) C (by decide) dX9_nextToLower_32 ?_
    refine a_icmp_eq C 42 (by decide) dX9_nextToLower_33 (fun c4 => ?_) (fun c4 => ?_)
    · replace h := ifp c4 h
      refine a_aload_n C 2 rfl rfl dX9_nextToLower_42 ?_
      refine gK_9_23 C S dX9_nextToLower_43 ?_
      obtain ⟨x5, e_x5, h⟩ := b1s h
      refine kK_9_148 C S e_x5 ⟨(Nat.le_of_ble_eq_true rfl), (Nat.le_of_ble_eq_true rfl)⟩ (Nat.le_of_ble_eq_true rfl) dX9_nextToLower_46 ?_
      refine a_istore_n C [(3, .int x5), (2, .int x3), (1, .int x1), (0, .ref (adOf X 165))] rfl (by decide) rfl dX9_nextToLower_49 ?_
      refine a_iload_n C 0 rfl rfl dX9_nextToLower_50 ?_
      refine a_iconst (v := -1) C (by decide) dX9_nextToLower_51 ?_
      refine a_icmp_ne C 59 (by decide) dX9_nextToLower_52 (fun c6 => ?_) (fun c6 => ?_)
      · replace h := ifn c6 h
        refine a_aload_n C 3 rfl rfl dX9_nextToLower_59 ?_
        refine a_iload_n C 0 rfl rfl dX9_nextToLower_60 ?_
        obtain ⟨x7, e_x7, h⟩ := b1s h
        refine kK_9_151 C S e_x7 ⟨(Nat.le_of_ble_eq_true rfl), (Nat.le_of_ble_eq_true rfl)⟩ (Nat.le_of_ble_eq_true rfl) dX9_nextToLower_61 ?_
        exact a_iretR hret h rfl dX9_nextToLower_64
      · replace h := ifp c6 h
        refine a_iconst (v := -1) C (by decide) dX9_nextToLower_55 ?_
        refine a_goto C 64 (by decide) dX9_nextToLower_56 ?_
        exact a_iretR hret h rfl dX9_nextToLower_64
    · replace h := ifn c4 h
      refine a_aload_n C 2 rfl rfl dX9_nextToLower_36 ?_
      refine a_iload_n C 0 rfl rfl dX9_nextToLower_37 ?_
      obtain ⟨x8, e_x8, h⟩ := b1s h
      refine kK_9_145 C S e_x8 ⟨(Nat.le_of_ble_eq_true rfl), (Nat.le_of_ble_eq_true rfl)⟩ (Nat.le_of_ble_eq_true rfl) dX9_nextToLower_38 ?_
      exact a_iretR hret h rfl dX9_nextToLower_41
  · replace h := ifn c2 h
    refine a_aload_n C 1 rfl rfl dX9_nextToLower_13 ?_
    refine a_aload_n C 1 rfl rfl dX9_nextToLower_14 ?_
    refine a_iload_n C 0 rfl rfl dX9_nextToLower_15 ?_
    obtain ⟨x9, e_x9, h⟩ := b1s h
    refine kK_9_118 C S e_x9 ⟨(Nat.le_of_ble_eq_true rfl), (Nat.le_of_ble_eq_true rfl)⟩ (Nat.le_of_ble_eq_true rfl) dX9_nextToLower_16 ?_
    obtain ⟨x10, e_x10, h⟩ := b1s h
    refine kK_9_139 C S e_x10 ⟨(Nat.le_of_ble_eq_true rfl), (Nat.le_of_ble_eq_true rfl)⟩ (Nat.le_of_ble_eq_true rfl) dX9_nextToLower_19 ?_
    exact a_iretR hret h rfl dX9_nextToLower_22
theorem c_Tr_nextToLower {l : Launch} {D : va_G} {I : ClassId × ClassId × ClassId × ClassId} {ad : Nat → Nat} {q : St} {z : Int32} (h : Tr_nextToLower q = some z) : Ctr l D I (zK ad) 168 (shK I) ad yX9_nextToLower cX9_nextToLower 4 (some .int) rm_Tr_nextToLower [.ref (ad 165)] q (some z) q :=
  ctr_ofI (by decide) (Nat.le_of_ble_eq_true rfl) (fun p e s m args below meth c Q H0 X hX C hret => by subst hX; exact w_Tr_nextToLower C ⟨rfl, rfl, rfl⟩ hret h)
theorem kK_9_133 {X : Cv} {cc : ByteArray} {rm : Room} {nL1 pc : Nat} {lv : List (Nat × Value)} {sk : List Value} {q : St} {z : Int32} (C : Cx X cc RX9 rm nL1) (S : IsK X) (h : Tr_nextToLower q = some z) (hz : rm_Tr_nextToLower.frames + 1 ≤ rm.frames ∧ 8 + (4 + 11) + rm_Tr_nextToLower.locals ≤ rm.locals) (hr : (sk.map fun v => v.category).sum ≤ 8) (hd : decode cc pc = .ok (.invokevirtual 133, 3)) (k : At X (pc + 3) lv (.int z :: sk) q) : At X pc lv (.ref (adOf X 165) :: sk) q := a_callVi (as := []) C (kp := 165) (kLt S (by decide)) (by rw [S.2.1]; rfl) rfl (by have hh := c_Tr_nextToLower (l := X.2.1) (D := dOf X) (I := idOf X) (ad := adOf X) h; rw [← S.1, ← S.2.1, ← S.2.2] at hh; exact hh) (gd_V (tg 943 (by decide +kernel) rfl) (tg 945 (by decide +kernel) rfl) (tg 32 (by decide +kernel) rfl) (tg 124 (by decide +kernel) rfl) (tg 946 (by decide +kernel) rfl)) ⟨rfl, rfl, hz.1, hz.2⟩ ⟨by decide, by decide, by show Option.map _ (parseMethodDescriptor yX9_nextToLower.desc) = some 0; decide⟩ hr rfl hd k
abbrev rm_Tr_repair : Room := { frames := 4, cells := 0, slots := 0, locals := 91 }
def Tr_repair_B4 (rec : Int32 → Int32 → St → Option (Int32 × St)) (v1 : Int32) (v2 : Int32) (q : St) : Option (Int32 × St) :=
  if (105 : Int32) < v2 then
    some (v1, q)
  else
    b1 (Fl_measure q) fun q2 =>
    b1 (Tr_nextToLower q2) fun x3 =>
    if x3 = (-1 : Int32) then
      some (v1, q2)
    else
      b1 (rd 21 q2 23 x3) fun x5 =>
      b1 (wr 21 q2 23 x3 (x5 - (1 : Int32))) fun q6 =>
      b1 (Sp_prune q6) fun q7 =>
      rec (v1 + 1) (v2 + 1) q7
theorem w_Tr_repair_B4 {X : Cv} (C : Cx X cX9_repair RX9 rm_Tr_repair 4) (S : IsK X) {z : Int32 × St} (hret : RokI X cX9_repair .int z.1 z.2) (rec : Int32 → Int32 → St → Option (Int32 × St)) (hrec : ∀ (v1 : Int32) (v2 : Int32) (q : St), rec v1 v2 q = some z → At X 4 [(0, .ref (adOf X 165)), (1, .int v1), (2, .int v2)] [] q) (v1 : Int32) (v2 : Int32) (q : St) (h : Tr_repair_B4 rec v1 v2 q = some z) : At X 4 [(0, .ref (adOf X 165)), (1, .int v1), (2, .int v2)] [] q := by
  unfold Tr_repair_B4 at h
  refine a_iload_n C 2 rfl rfl dX9_repair_4 ?_
  refine a_bipush (v := 105) C (by decide) dX9_repair_5 ?_
  refine a_icmp_gt C 58 (by decide) dX9_repair_7 (fun c1 => ?_) (fun c1 => ?_)
  · replace h := ifp c1 h
    refine a_iload_n C 1 rfl rfl dX9_repair_58 ?_
    exact a_iret hret h rfl dX9_repair_59
  · replace h := ifn c1 h
    refine a_aload_n C 0 rfl rfl dX9_repair_10 ?_
    refine gK_9_23 C S dX9_repair_11 ?_
    obtain ⟨q2, e_q2, h⟩ := b1s h
    refine kK_9_68 C S e_q2 ⟨(Nat.le_of_ble_eq_true rfl), (Nat.le_of_ble_eq_true rfl)⟩ (Nat.le_of_ble_eq_true rfl) dX9_repair_14 ?_
    refine a_aload_n C 0 rfl rfl dX9_repair_17 ?_
    obtain ⟨x3, e_x3, h⟩ := b1s h
    refine kK_9_133 C S e_x3 ⟨(Nat.le_of_ble_eq_true rfl), (Nat.le_of_ble_eq_true rfl)⟩ (Nat.le_of_ble_eq_true rfl) dX9_repair_18 ?_
    refine a_istore_n C [(3, .int x3), (0, .ref (adOf X 165)), (1, .int v1), (2, .int v2)] rfl (by decide) rfl dX9_repair_21 ?_
    refine a_iload_n C 0 rfl rfl dX9_repair_22 ?_
    refine a_iconst (v := -1) C (by decide) dX9_repair_23 ?_
    refine a_icmp_ne C 29 (by decide) dX9_repair_24 (fun c4 => ?_) (fun c4 => ?_)
    · replace h := ifn c4 h
      refine a_aload_n C 1 rfl rfl dX9_repair_29 ?_
      refine gK_9_15 C S dX9_repair_30 ?_
      refine gK_9_44 C S (Or.inl rfl) dX9_repair_33 ?_
      refine a_iload_n C 0 rfl rfl dX9_repair_36 ?_
      refine a_dup2 C rfl rfl dX9_repair_37 ?_
      obtain ⟨x5, e_x5, h⟩ := b1s h
      refine lK_s4 (o := 19) C S (Or.inl rfl) e_x5 dX9_repair_38 ?_
      refine a_iconst (v := 1) C (by decide) dX9_repair_39 ?_
      refine a_isub C dX9_repair_40 ?_
      obtain ⟨q6, e_q6, h⟩ := b1s h
      refine sK_s4 (o := 19) C S (Or.inl rfl) e_q6 dX9_repair_41 ?_
      refine a_iinc (v := (v1 + 1)) C [(1, .int (v1 + 1)), (3, .int x3), (0, .ref (adOf X 165)), (2, .int v2)] 2 rfl (congrArg (HAdd.hAdd v1) (by decide : Int32.ofInt (1) = (1 : Int32))) (by decide) rfl dX9_repair_42 ?_
      refine a_aload_n C 2 rfl rfl dX9_repair_45 ?_
      refine gK_9_19 C S dX9_repair_46 ?_
      obtain ⟨q7, e_q7, h⟩ := b1s h
      refine kK_9_113 C S e_q7 ⟨(Nat.le_of_ble_eq_true rfl), (Nat.le_of_ble_eq_true rfl)⟩ (Nat.le_of_ble_eq_true rfl) dX9_repair_49 ?_
      refine a_iinc (v := (v2 + 1)) C [(2, .int (v2 + 1)), (1, .int (v1 + 1)), (3, .int x3), (0, .ref (adOf X 165))] 3 rfl (congrArg (HAdd.hAdd v2) (by decide : Int32.ofInt (1) = (1 : Int32))) (by decide) rfl dX9_repair_52 ?_
      refine a_goto C 4 (by decide) dX9_repair_55 ?_
      exact At.sub [3, 1, 0] rfl (hrec _ _ _ h)
    · replace h := ifp c4 h
      refine a_iload_n C 2 rfl rfl dX9_repair_27 ?_
      exact a_iret hret h rfl dX9_repair_28
def Tr_repair_L4 : Nat → Int32 → Int32 → St → Option (Int32 × St)
  | 0, _, _, _ => none
  | n + 1, v1, v2, q => Tr_repair_B4 (Tr_repair_L4 n) v1 v2 q
theorem w_Tr_repair_L4 {X : Cv} (C : Cx X cX9_repair RX9 rm_Tr_repair 4) (S : IsK X) {z : Int32 × St} (hret : RokI X cX9_repair .int z.1 z.2) (n : Nat) : ∀ (v1 : Int32) (v2 : Int32) (q : St), Tr_repair_L4 n v1 v2 q = some z → At X 4 [(0, .ref (adOf X 165)), (1, .int v1), (2, .int v2)] [] q := by
  induction n with
  | zero => intro v1 v2 q h; cases h
  | succ n ih => intro v1 v2 q h; exact w_Tr_repair_B4 C S hret _ ih v1 v2 q h
def Tr_repair (q : St) : Option (Int32 × St) :=
  Tr_repair_L4 FU (0 : Int32) (0 : Int32) q
theorem w_Tr_repair {X : Cv} (C : Cx X cX9_repair RX9 rm_Tr_repair 4) (S : IsK X) {z : Int32 × St} (hret : RokI X cX9_repair .int z.1 z.2) (q : St) (h : Tr_repair q = some z) : At X 0 [(0, .ref (adOf X 165))] [] q := by
  unfold Tr_repair at h
  refine a_iconst (v := 0) C (by decide) dX9_repair_0 ?_
  refine a_istore_n C [(1, .int (0 : Int32)), (0, .ref (adOf X 165))] rfl (by decide) rfl dX9_repair_1 ?_
  refine a_iconst (v := 0) C (by decide) dX9_repair_2 ?_
  refine a_istore_n C [(2, .int (0 : Int32)), (1, .int (0 : Int32)), (0, .ref (adOf X 165))] rfl (by decide) rfl dX9_repair_3 ?_
  exact At.sub [2, 1, 0] rfl (w_Tr_repair_L4 C S hret _ _ _ _ h)
theorem c_Tr_repair {l : Launch} {D : va_G} {I : ClassId × ClassId × ClassId × ClassId} {ad : Nat → Nat} {q : St} {z : Int32 × St} (h : Tr_repair q = some z) : Ctr l D I (zK ad) 168 (shK I) ad yX9_repair cX9_repair 4 (some .int) rm_Tr_repair [.ref (ad 165)] q (some z.1) z.2 :=
  ctr_ofI (by decide) (Nat.le_of_ble_eq_true rfl) (fun p e s m args below meth c Q H0 X hX C hret => by subst hX; exact w_Tr_repair C ⟨rfl, rfl, rfl⟩ hret _ h)
theorem kK_10_216 {X : Cv} {cc : ByteArray} {rm : Room} {nL1 pc : Nat} {lv : List (Nat × Value)} {sk : List Value} {q : St} {z : Int32} {q2 : St} (C : Cx X cc RX10 rm nL1) (S : IsK X) (h : Tr_repair q = some (z, q2)) (hz : rm_Tr_repair.frames + 1 ≤ rm.frames ∧ 8 + (4 + 11) + rm_Tr_repair.locals ≤ rm.locals) (hr : (sk.map fun v => v.category).sum ≤ 8) (hd : decode cc pc = .ok (.invokevirtual 216, 3)) (k : At X (pc + 3) lv (.int z :: sk) q2) : At X pc lv (.ref (adOf X 165) :: sk) q := a_callVi (as := []) C (kp := 165) (kLt S (by decide)) (by rw [S.2.1]; rfl) rfl (by have hh := c_Tr_repair (l := X.2.1) (D := dOf X) (I := idOf X) (ad := adOf X) h; rw [← S.1, ← S.2.1, ← S.2.2] at hh; exact hh) (gd_V (tg 939 (by decide +kernel) rfl) (tg 940 (by decide +kernel) rfl) (tg 941 (by decide +kernel) rfl) (tg 124 (by decide +kernel) rfl) (tg 942 (by decide +kernel) rfl)) ⟨rfl, rfl, hz.1, hz.2⟩ ⟨by decide, by decide, by show Option.map _ (parseMethodDescriptor yX9_repair.desc) = some 0; decide⟩ hr rfl hd k
abbrev rm_K_remove : Room := { frames := 5, cells := 0, slots := 0, locals := 114 }
def K_remove (q : St) (v1 : Int32) (v2 : Int32) : Option (Int32 × St) :=
  b1 (K_isNode q v1) fun x1 =>
  if x1 = (0 : Int32) then
    some ((-1 : Int32), q)
  else
    b1 (K_isMadeFormat q v2) fun x3 =>
    if x3 = (0 : Int32) then
      some ((-1 : Int32), q)
    else
      lt_ ((v1 * (4 : Int32)) + v2) fun w5 =>
      b1 (rd 64 q 27 w5) fun x6 =>
      if x6 = (0 : Int32) then
        some ((-2 : Int32), q)
      else
        b1 (Hi_keep 19 q) fun q8 =>
        b1 (wr 64 q8 27 w5 (vp_nar .boolean (0 : Int32))) fun q9 =>
        b2 (Tr_repair q9) fun x10 q11 =>
        some (x10, q11)
theorem w_K_remove {X : Cv} (C : Cx X cX10_remove RX10 rm_K_remove 4) (S : IsK X) {z : Int32 × St} (hret : RokI X cX10_remove .int z.1 z.2) (v1 : Int32) (v2 : Int32) (q : St) (h : K_remove q v1 v2 = some z) : At X 0 [(0, .ref (adOf X 0)), (1, .int v1), (2, .int v2)] [] q := by
  unfold K_remove at h
  refine a_aload_n C 0 rfl rfl dX10_remove_0 ?_
  refine a_iload_n C 1 rfl rfl dX10_remove_1 ?_
  obtain ⟨x1, e_x1, h⟩ := b1s h
  refine kK_10_149 C S e_x1 ⟨(Nat.le_of_ble_eq_true rfl), (Nat.le_of_ble_eq_true rfl)⟩ (Nat.le_of_ble_eq_true rfl) dX10_remove_2 ?_
  refine a_if_eq C 16 (by decide) dX10_remove_5 (fun c2 => ?_) (fun c2 => ?_)
  · replace h := ifp c2 h
    refine a_iconst (v := -1) C (by decide) dX10_remove_16 ?_
    exact a_iret hret h rfl dX10_remove_17
  · replace h := ifn c2 h
    refine a_aload_n C 0 rfl rfl dX10_remove_8 ?_
    refine a_iload_n C 2 rfl rfl dX10_remove_9 ?_
    obtain ⟨x3, e_x3, h⟩ := b1s h
    refine kK_10_207 C S e_x3 ⟨(Nat.le_of_ble_eq_true rfl), (Nat.le_of_ble_eq_true rfl)⟩ (Nat.le_of_ble_eq_true rfl) dX10_remove_10 ?_
    refine a_if_ne C 18 (by decide) dX10_remove_13 (fun c4 => ?_) (fun c4 => ?_)
    · replace h := ifn c4 h
      refine a_iload_n C 1 rfl rfl dX10_remove_18 ?_
      refine a_iconst (v := 4) C (by decide) dX10_remove_19 ?_
      refine a_imul C dX10_remove_20 ?_
      refine a_iload_n C 2 rfl rfl dX10_remove_21 ?_
      refine a_iadd C dX10_remove_22 ?_
      obtain ⟨w5, e_w5, h⟩ := lts h
      refine a_top e_w5 ?_
      refine a_istore_n C [(3, .int w5), (0, .ref (adOf X 0)), (1, .int v1), (2, .int v2)] rfl (by decide) rfl dX10_remove_23 ?_
      refine a_aload_n C 1 rfl rfl dX10_remove_24 ?_
      refine gK_10_22 C S dX10_remove_25 ?_
      refine gK_10_213 C S (Or.inl rfl) dX10_remove_28 ?_
      refine a_iload_n C 0 rfl rfl dX10_remove_31 ?_
      obtain ⟨x6, e_x6, h⟩ := b1s h
      refine lK_s8 (o := 19) C S (Or.inl rfl) e_x6 dX10_remove_32 ?_
      refine a_if_ne C 39 (by decide) dX10_remove_33 (fun c7 => ?_) (fun c7 => ?_)
      · replace h := ifn c7 h
        refine a_aload_n C 1 rfl rfl dX10_remove_39 ?_
        refine gK_10_32 C S dX10_remove_40 ?_
        refine a_aload_n C 1 rfl rfl dX10_remove_43 ?_
        refine gK_10_22 C S dX10_remove_44 ?_
        obtain ⟨q8, e_q8, h⟩ := b1s h
        refine kK_10_169 C S (Or.inl rfl) e_q8 ⟨(Nat.le_of_ble_eq_true rfl), (Nat.le_of_ble_eq_true rfl)⟩ (Nat.le_of_ble_eq_true rfl) dX10_remove_47 ?_
        refine a_aload_n C 1 rfl rfl dX10_remove_50 ?_
        refine gK_10_22 C S dX10_remove_51 ?_
        refine gK_10_213 C S (Or.inl rfl) dX10_remove_54 ?_
        refine a_iload_n C 0 rfl rfl dX10_remove_57 ?_
        refine a_iconst (v := 0) C (by decide) dX10_remove_58 ?_
        obtain ⟨q9, e_q9, h⟩ := b1s h
        refine sK_s8 (o := 19) C S (Or.inl rfl) e_q9 dX10_remove_59 ?_
        refine a_aload_n C 1 rfl rfl dX10_remove_60 ?_
        refine gK_10_82 C S dX10_remove_61 ?_
        obtain ⟨x10, q11, e_q11, h⟩ := b2s h
        refine kK_10_216 C S e_q11 ⟨(Nat.le_of_ble_eq_true rfl), (Nat.le_of_ble_eq_true rfl)⟩ (Nat.le_of_ble_eq_true rfl) dX10_remove_64 ?_
        exact a_iret hret h rfl dX10_remove_67
      · replace h := ifp c7 h
        refine a_bipush (v := -2) C (by decide) dX10_remove_36 ?_
        exact a_iret hret h rfl dX10_remove_38
    · replace h := ifp c4 h
      refine a_iconst (v := -1) C (by decide) dX10_remove_16 ?_
      exact a_iret hret h rfl dX10_remove_17
theorem c_K_remove {l : Launch} {D : va_G} {I : ClassId × ClassId × ClassId × ClassId} {ad : Nat → Nat} {q : St} {v1 : Int32} {v2 : Int32} {z : Int32 × St} (h : K_remove q v1 v2 = some z) : Ctr l D I (zK ad) 168 (shK I) ad yX10_remove cX10_remove 4 (some .int) rm_K_remove [.ref (ad 0), .int v1, .int v2] q (some z.1) z.2 :=
  ctr_ofI (by decide) (Nat.le_of_ble_eq_true rfl) (fun p e s m args below meth c Q H0 X hX C hret => by subst hX; exact w_K_remove C ⟨rfl, rfl, rfl⟩ hret _ _ _ h)
abbrev rm_K_setCapacity : Room := { frames := 5, cells := 0, slots := 0, locals := 114 }
def K_setCapacity (q : St) (v1 : Int32) (v2 : Int32) : Option (Int32 × St) :=
  b1 (K_isLink q v1) fun x1 =>
  if x1 = (0 : Int32) then
    some ((-1 : Int32), q)
  else
    if v2 < (0 : Int32) then
      some ((-1 : Int32), q)
    else
      if v2 ≤ (9999 : Int32) then
        b1 (rd 32 q 25 v1) fun x5 =>
        if x5 = v2 then
          some ((-2 : Int32), q)
        else
          b1 (Hi_keep 19 q) fun q7 =>
          b1 (wr 32 q7 25 v1 v2) fun q8 =>
          b2 (Tr_repair q8) fun x9 q10 =>
          some (x9, q10)
      else
        some ((-1 : Int32), q)
theorem w_K_setCapacity {X : Cv} (C : Cx X cX10_setCapacity RX10 rm_K_setCapacity 3) (S : IsK X) {z : Int32 × St} (hret : RokI X cX10_setCapacity .int z.1 z.2) (v1 : Int32) (v2 : Int32) (q : St) (h : K_setCapacity q v1 v2 = some z) : At X 0 [(0, .ref (adOf X 0)), (1, .int v1), (2, .int v2)] [] q := by
  unfold K_setCapacity at h
  refine a_aload_n C 0 rfl rfl dX10_setCapacity_0 ?_
  refine a_iload_n C 1 rfl rfl dX10_setCapacity_1 ?_
  obtain ⟨x1, e_x1, h⟩ := b1s h
  refine kK_10_156 C S e_x1 ⟨(Nat.le_of_ble_eq_true rfl), (Nat.le_of_ble_eq_true rfl)⟩ (Nat.le_of_ble_eq_true rfl) dX10_setCapacity_2 ?_
  refine a_if_eq C 19 (by decide) dX10_setCapacity_5 (fun c2 => ?_) (fun c2 => ?_)
  · replace h := ifp c2 h
    refine a_iconst (v := -1) C (by decide) dX10_setCapacity_19 ?_
    exact a_iret hret h rfl dX10_setCapacity_20
  · replace h := ifn c2 h
    refine a_iload_n C 2 rfl rfl dX10_setCapacity_8 ?_
    refine a_if_lt C 19 (by decide) dX10_setCapacity_9 (fun c3 => ?_) (fun c3 => ?_)
    · replace h := ifp c3 h
      refine a_iconst (v := -1) C (by decide) dX10_setCapacity_19 ?_
      exact a_iret hret h rfl dX10_setCapacity_20
    · replace h := ifn c3 h
      refine a_iload_n C 2 rfl rfl dX10_setCapacity_12 ?_
      refine a_sipush (v := 9999) C (by decide) dX10_setCapacity_13 ?_
      refine a_icmp_le C 21 (by decide) dX10_setCapacity_16 (fun c4 => ?_) (fun c4 => ?_)
      · replace h := ifp c4 h
        refine a_aload_n C 0 rfl rfl dX10_setCapacity_21 ?_
        refine gK_10_22 C S dX10_setCapacity_22 ?_
        refine gK_10_159 C S (Or.inl rfl) dX10_setCapacity_25 ?_
        refine a_iload_n C 1 rfl rfl dX10_setCapacity_28 ?_
        obtain ⟨x5, e_x5, h⟩ := b1s h
        refine lK_s6 (o := 19) C S (Or.inl rfl) e_x5 dX10_setCapacity_29 ?_
        refine a_iload_n C 2 rfl rfl dX10_setCapacity_30 ?_
        refine a_icmp_ne C 37 (by decide) dX10_setCapacity_31 (fun c6 => ?_) (fun c6 => ?_)
        · replace h := ifn c6 h
          refine a_aload_n C 0 rfl rfl dX10_setCapacity_37 ?_
          refine gK_10_32 C S dX10_setCapacity_38 ?_
          refine a_aload_n C 0 rfl rfl dX10_setCapacity_41 ?_
          refine gK_10_22 C S dX10_setCapacity_42 ?_
          obtain ⟨q7, e_q7, h⟩ := b1s h
          refine kK_10_169 C S (Or.inl rfl) e_q7 ⟨(Nat.le_of_ble_eq_true rfl), (Nat.le_of_ble_eq_true rfl)⟩ (Nat.le_of_ble_eq_true rfl) dX10_setCapacity_45 ?_
          refine a_aload_n C 0 rfl rfl dX10_setCapacity_48 ?_
          refine gK_10_22 C S dX10_setCapacity_49 ?_
          refine gK_10_159 C S (Or.inl rfl) dX10_setCapacity_52 ?_
          refine a_iload_n C 1 rfl rfl dX10_setCapacity_55 ?_
          refine a_iload_n C 2 rfl rfl dX10_setCapacity_56 ?_
          obtain ⟨q8, e_q8, h⟩ := b1s h
          refine sK_s6 (o := 19) C S (Or.inl rfl) e_q8 dX10_setCapacity_57 ?_
          refine a_aload_n C 0 rfl rfl dX10_setCapacity_58 ?_
          refine gK_10_82 C S dX10_setCapacity_59 ?_
          obtain ⟨x9, q10, e_q10, h⟩ := b2s h
          refine kK_10_216 C S e_q10 ⟨(Nat.le_of_ble_eq_true rfl), (Nat.le_of_ble_eq_true rfl)⟩ (Nat.le_of_ble_eq_true rfl) dX10_setCapacity_62 ?_
          exact a_iret hret h rfl dX10_setCapacity_65
        · replace h := ifp c6 h
          refine a_bipush (v := -2) C (by decide) dX10_setCapacity_34 ?_
          exact a_iret hret h rfl dX10_setCapacity_36
      · replace h := ifn c4 h
        refine a_iconst (v := -1) C (by decide) dX10_setCapacity_19 ?_
        exact a_iret hret h rfl dX10_setCapacity_20
theorem c_K_setCapacity {l : Launch} {D : va_G} {I : ClassId × ClassId × ClassId × ClassId} {ad : Nat → Nat} {q : St} {v1 : Int32} {v2 : Int32} {z : Int32 × St} (h : K_setCapacity q v1 v2 = some z) : Ctr l D I (zK ad) 168 (shK I) ad yX10_setCapacity cX10_setCapacity 3 (some .int) rm_K_setCapacity [.ref (ad 0), .int v1, .int v2] q (some z.1) z.2 :=
  ctr_ofI (by decide) (Nat.le_of_ble_eq_true rfl) (fun p e s m args below meth c Q H0 X hX C hret => by subst hX; exact w_K_setCapacity C ⟨rfl, rfl, rfl⟩ hret _ _ _ h)
abbrev rm_Ss_levelSum : Room := { frames := 0, cells := 0, slots := 0, locals := 0 }
def Ss_levelSum_B4 (q : St) (rec : Int32 → Int32 → Option (Int32)) (v1 : Int32) (v2 : Int32) : Option (Int32) :=
  if (gt q 19 0) ≤ v2 then
    some v1
  else
    b1 (rd 21 q 23 v2) fun x2 =>
    lt_ (v1 + x2) fun w3 =>
    rec w3 (v2 + 1)
theorem w_Ss_levelSum_B4 {X : Cv} (C : Cx X cX7_levelSum RX7 rm_Ss_levelSum 3) (S : IsK X) (q : St) {z : Int32} (hret : RokI X cX7_levelSum .int z q) (rec : Int32 → Int32 → Option (Int32)) (hrec : ∀ (v1 : Int32) (v2 : Int32), rec v1 v2 = some z → At X 4 [(0, .ref (adOf X 19)), (1, .int v1), (2, .int v2)] [] q) (v1 : Int32) (v2 : Int32) (h : Ss_levelSum_B4 q rec v1 v2 = some z) : At X 4 [(0, .ref (adOf X 19)), (1, .int v1), (2, .int v2)] [] q := by
  unfold Ss_levelSum_B4 at h
  refine a_iload_n C 2 rfl rfl dX7_levelSum_4 ?_
  refine a_aload_n C 0 rfl rfl dX7_levelSum_5 ?_
  refine gK_7_43 C S (Or.inl rfl) dX7_levelSum_6 ?_
  refine a_icmp_ge C 27 (by decide) dX7_levelSum_9 (fun c1 => ?_) (fun c1 => ?_)
  · replace h := ifp c1 h
    refine a_iload_n C 1 rfl rfl dX7_levelSum_27 ?_
    exact a_iretR hret h rfl dX7_levelSum_28
  · replace h := ifn c1 h
    refine a_iload_n C 1 rfl rfl dX7_levelSum_12 ?_
    refine a_aload_n C 0 rfl rfl dX7_levelSum_13 ?_
    refine gK_7_21 C S (Or.inl rfl) dX7_levelSum_14 ?_
    refine a_iload_n C 2 rfl rfl dX7_levelSum_17 ?_
    obtain ⟨x2, e_x2, h⟩ := b1s h
    refine lK_s4 (o := 19) C S (Or.inl rfl) e_x2 dX7_levelSum_18 ?_
    refine a_iadd C dX7_levelSum_19 ?_
    obtain ⟨w3, e_w3, h⟩ := lts h
    refine a_top e_w3 ?_
    refine a_istore_n C [(1, .int w3), (0, .ref (adOf X 19)), (2, .int v2)] rfl (by decide) rfl dX7_levelSum_20 ?_
    refine a_iinc (v := (v2 + 1)) C [(2, .int (v2 + 1)), (1, .int w3), (0, .ref (adOf X 19))] 2 rfl (congrArg (HAdd.hAdd v2) (by decide : Int32.ofInt (1) = (1 : Int32))) (by decide) rfl dX7_levelSum_21 ?_
    refine a_goto C 4 (by decide) dX7_levelSum_24 ?_
    exact At.sub [2, 1, 0] rfl (hrec _ _ h)
def Ss_levelSum_L4 (q : St) : Nat → Int32 → Int32 → Option (Int32)
  | 0, _, _ => none
  | n + 1, v1, v2 => Ss_levelSum_B4 q (Ss_levelSum_L4 q n) v1 v2
theorem w_Ss_levelSum_L4 {X : Cv} (C : Cx X cX7_levelSum RX7 rm_Ss_levelSum 3) (S : IsK X) (q : St) {z : Int32} (hret : RokI X cX7_levelSum .int z q) (n : Nat) : ∀ (v1 : Int32) (v2 : Int32), Ss_levelSum_L4 q n v1 v2 = some z → At X 4 [(0, .ref (adOf X 19)), (1, .int v1), (2, .int v2)] [] q := by
  induction n with
  | zero => intro v1 v2 h; cases h
  | succ n ih => intro v1 v2 h; exact w_Ss_levelSum_B4 C S _ hret _ ih v1 v2 h
def Ss_levelSum (q : St) : Option (Int32) :=
  Ss_levelSum_L4 q FU (0 : Int32) (0 : Int32)
theorem w_Ss_levelSum {X : Cv} (C : Cx X cX7_levelSum RX7 rm_Ss_levelSum 3) (S : IsK X) {q : St} {z : Int32} (hret : RokI X cX7_levelSum .int z q) (h : Ss_levelSum q = some z) : At X 0 [(0, .ref (adOf X 19))] [] q := by
  unfold Ss_levelSum at h
  refine a_iconst (v := 0) C (by decide) dX7_levelSum_0 ?_
  refine a_istore_n C [(1, .int (0 : Int32)), (0, .ref (adOf X 19))] rfl (by decide) rfl dX7_levelSum_1 ?_
  refine a_iconst (v := 0) C (by decide) dX7_levelSum_2 ?_
  refine a_istore_n C [(2, .int (0 : Int32)), (1, .int (0 : Int32)), (0, .ref (adOf X 19))] rfl (by decide) rfl dX7_levelSum_3 ?_
  exact At.sub [2, 1, 0] rfl (w_Ss_levelSum_L4 C S _ hret _ _ _ h)
theorem c_Ss_levelSum {l : Launch} {D : va_G} {I : ClassId × ClassId × ClassId × ClassId} {ad : Nat → Nat} {q : St} {z : Int32} (h : Ss_levelSum q = some z) : Ctr l D I (zK ad) 168 (shK I) ad yX7_levelSum cX7_levelSum 3 (some .int) rm_Ss_levelSum [.ref (ad 19)] q (some z) q :=
  ctr_ofI (by decide) (Nat.le_of_ble_eq_true rfl) (fun p e s m args below meth c Q H0 X hX C hret => by subst hX; exact w_Ss_levelSum C ⟨rfl, rfl, rfl⟩ hret h)
theorem kK_9_90 {X : Cv} {cc : ByteArray} {rm : Room} {nL1 pc : Nat} {lv : List (Nat × Value)} {sk : List Value} {q : St} {z : Int32} (C : Cx X cc RX9 rm nL1) (S : IsK X) (h : Ss_levelSum q = some z) (hz : rm_Ss_levelSum.frames + 1 ≤ rm.frames ∧ 8 + (3 + 11) + rm_Ss_levelSum.locals ≤ rm.locals) (hr : (sk.map fun v => v.category).sum ≤ 8) (hd : decode cc pc = .ok (.invokevirtual 90, 3)) (k : At X (pc + 3) lv (.int z :: sk) q) : At X pc lv (.ref (adOf X 19) :: sk) q := a_callVi (as := []) C (kp := 19) (kLt S (by have hS2 : IsSt 19 := (Or.inl rfl); have := isSt_lt hS2; omega)) (by rw [S.2.1]; exact shK_st (o := 19) (j := 0) (Or.inl rfl) (by decide)) rfl (by have hh := c_Ss_levelSum (l := X.2.1) (D := dOf X) (I := idOf X) (ad := adOf X) h; rw [← S.1, ← S.2.1, ← S.2.2] at hh; exact hh) (gd_V (tg 988 (by decide +kernel) rfl) (tg 989 (by decide +kernel) rfl) (tg 990 (by decide +kernel) rfl) (tg 117 (by decide +kernel) rfl) (tg 991 (by decide +kernel) rfl)) ⟨rfl, rfl, hz.1, hz.2⟩ ⟨by decide, by decide, by show Option.map _ (parseMethodDescriptor yX7_levelSum.desc) = some 0; decide⟩ hr rfl hd k
theorem kK_10_279 {X : Cv} {cc : ByteArray} {rm : Room} {nL1 pc : Nat} {lv : List (Nat × Value)} {sk : List Value} {q : St} {z : Int32} (C : Cx X cc RX10 rm nL1) (S : IsK X) (h : Ss_levelSum q = some z) (hz : rm_Ss_levelSum.frames + 1 ≤ rm.frames ∧ 8 + (3 + 11) + rm_Ss_levelSum.locals ≤ rm.locals) (hr : (sk.map fun v => v.category).sum ≤ 8) (hd : decode cc pc = .ok (.invokevirtual 279, 3)) (k : At X (pc + 3) lv (.int z :: sk) q) : At X pc lv (.ref (adOf X 19) :: sk) q := a_callVi (as := []) C (kp := 19) (kLt S (by have hS2 : IsSt 19 := (Or.inl rfl); have := isSt_lt hS2; omega)) (by rw [S.2.1]; exact shK_st (o := 19) (j := 0) (Or.inl rfl) (by decide)) rfl (by have hh := c_Ss_levelSum (l := X.2.1) (D := dOf X) (I := idOf X) (ad := adOf X) h; rw [← S.1, ← S.2.1, ← S.2.2] at hh; exact hh) (gd_V (tg 1112 (by decide +kernel) rfl) (tg 989 (by decide +kernel) rfl) (tg 990 (by decide +kernel) rfl) (tg 117 (by decide +kernel) rfl) (tg 991 (by decide +kernel) rfl)) ⟨rfl, rfl, hz.1, hz.2⟩ ⟨by decide, by decide, by show Option.map _ (parseMethodDescriptor yX7_levelSum.desc) = some 0; decide⟩ hr rfl hd k
