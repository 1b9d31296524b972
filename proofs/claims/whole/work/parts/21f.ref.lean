abbrev rmM_addReceiver : Room := { frames := 7, cells := 0, slots := 0, locals := 159 }
def M_addReceiver (q : St) (v1 : Int32) (v2 : Int32) (v3 : Int32) : Option (Int32 × St) :=
  b1 (M_isNode q v1) fun x1 =>
  if x1 = (0 : Int32) then
    some ((-1 : Int32), q)
  else
    b1 (M_isFormat q v2) fun x3 =>
    if x3 = (0 : Int32) then
      some ((-1 : Int32), q)
    else
      b1 (M_isLevel q v3) fun x5 =>
      if x5 = (0 : Int32) then
        some ((-1 : Int32), q)
      else
        b1 (rd 202 q 4 (96 : Int32)) fun x7 =>
        if x7 = (20 : Int32) then
          some ((-2 : Int32), q)
        else
          b1 (M_keeps q) fun q9 =>
          b1 (rd 202 q9 4 (96 : Int32)) fun x10 =>
          b1 (M_begins q9 x10 v1 v2 v3) fun q11 =>
          b1 (rd 202 q11 4 (96 : Int32)) fun x12 =>
          b1 (wr 202 q11 4 (96 : Int32) (x12 + (1 : Int32))) fun q13 =>
          b1 (M_joins q13 x10) fun q14 =>
          some (x10, q14)
theorem w_M_addReceiver {X : Cv} (C : Cx X cX11_addReceiver RX11 rmM_addReceiver 5) (S : IsM X) {z : Int32 × St} (hret : RokI X cX11_addReceiver .int z.1 z.2) (v1 : Int32) (v2 : Int32) (v3 : Int32) (q : St) (h : M_addReceiver q v1 v2 v3 = some z) : At X 0 [(0, .ref (adOf X 0)), (1, .int v1), (2, .int v2), (3, .int v3)] [] q := by
  unfold M_addReceiver at h
  refine a_aload_n C 0 rfl rfl dX11_addReceiver_0 ?_
  refine a_iload_n C 1 rfl rfl dX11_addReceiver_1 ?_
  obtain ⟨x1, e_x1, h⟩ := b1s h
  refine k_M_isNode C S e_x1 ⟨Nat.le_of_ble_eq_true rfl, Nat.le_of_ble_eq_true rfl⟩ (Nat.le_of_ble_eq_true rfl) dX11_addReceiver_2 ?_
  refine a_if_eq C 24 (by decide) dX11_addReceiver_5 (fun c2 => ?_) (fun c2 => ?_)
  · replace h := ifp c2 h
    refine a_iconst (v := -1) C (by decide) dX11_addReceiver_24 ?_
    exact a_iret hret h rfl dX11_addReceiver_25
  · replace h := ifn c2 h
    refine a_aload_n C 0 rfl rfl dX11_addReceiver_8 ?_
    refine a_iload_n C 2 rfl rfl dX11_addReceiver_9 ?_
    obtain ⟨x3, e_x3, h⟩ := b1s h
    refine k_M_isFormat C S e_x3 ⟨Nat.le_of_ble_eq_true rfl, Nat.le_of_ble_eq_true rfl⟩ (Nat.le_of_ble_eq_true rfl) dX11_addReceiver_10 ?_
    refine a_if_eq C 24 (by decide) dX11_addReceiver_13 (fun c4 => ?_) (fun c4 => ?_)
    · replace h := ifp c4 h
      refine a_iconst (v := -1) C (by decide) dX11_addReceiver_24 ?_
      exact a_iret hret h rfl dX11_addReceiver_25
    · replace h := ifn c4 h
      refine a_aload_n C 0 rfl rfl dX11_addReceiver_16 ?_
      refine a_iload_n C 3 rfl rfl dX11_addReceiver_17 ?_
      obtain ⟨x5, e_x5, h⟩ := b1s h
      refine k_M_isLevel C S e_x5 ⟨Nat.le_of_ble_eq_true rfl, Nat.le_of_ble_eq_true rfl⟩ (Nat.le_of_ble_eq_true rfl) dX11_addReceiver_18 ?_
      refine a_if_ne C 26 (by decide) dX11_addReceiver_21 (fun c6 => ?_) (fun c6 => ?_)
      · replace h := ifn c6 h
        refine a_aload_n C 0 rfl rfl dX11_addReceiver_26 ?_
        refine gM_world C S dX11_addReceiver_27 ?_
        refine a_bipush (v := 96) C (by decide) dX11_addReceiver_30 ?_
        obtain ⟨x7, e_x7, h⟩ := b1s h
        refine lM_world C S e_x7 dX11_addReceiver_32 ?_
        refine a_bipush (v := 20) C (by decide) dX11_addReceiver_33 ?_
        refine a_icmp_ne C 41 (by decide) dX11_addReceiver_35 (fun c8 => ?_) (fun c8 => ?_)
        · replace h := ifn c8 h
          refine a_aload_n C 0 rfl rfl dX11_addReceiver_41 ?_
          obtain ⟨q9, e_q9, h⟩ := b1s h
          refine k_M_keeps C S e_q9 ⟨Nat.le_of_ble_eq_true rfl, Nat.le_of_ble_eq_true rfl⟩ (Nat.le_of_ble_eq_true rfl) dX11_addReceiver_42 ?_
          refine a_aload_n C 0 rfl rfl dX11_addReceiver_45 ?_
          refine gM_world C S dX11_addReceiver_46 ?_
          refine a_bipush (v := 96) C (by decide) dX11_addReceiver_49 ?_
          obtain ⟨x10, e_x10, h⟩ := b1s h
          refine lM_world C S e_x10 dX11_addReceiver_51 ?_
          refine a_istore C [(4, .int x10), (0, .ref (adOf X 0)), (1, .int v1), (2, .int v2), (3, .int v3)] (by decide) rfl dX11_addReceiver_52 ?_
          refine a_aload_n C 1 rfl rfl dX11_addReceiver_54 ?_
          refine a_iload C 0 rfl dX11_addReceiver_55 ?_
          refine a_iload_n C 2 rfl rfl dX11_addReceiver_57 ?_
          refine a_iload_n C 3 rfl rfl dX11_addReceiver_58 ?_
          refine a_iload_n C 4 rfl rfl dX11_addReceiver_59 ?_
          obtain ⟨q11, e_q11, h⟩ := b1s h
          refine k_M_begins C S e_q11 ⟨Nat.le_of_ble_eq_true rfl, Nat.le_of_ble_eq_true rfl⟩ (Nat.le_of_ble_eq_true rfl) dX11_addReceiver_60 ?_
          refine a_aload_n C 1 rfl rfl dX11_addReceiver_63 ?_
          refine gM_world C S dX11_addReceiver_64 ?_
          refine a_bipush (v := 96) C (by decide) dX11_addReceiver_67 ?_
          refine a_dup2 C rfl rfl dX11_addReceiver_69 ?_
          obtain ⟨x12, e_x12, h⟩ := b1s h
          refine lM_world C S e_x12 dX11_addReceiver_70 ?_
          refine a_iconst (v := 1) C (by decide) dX11_addReceiver_71 ?_
          refine a_iadd C dX11_addReceiver_72 ?_
          obtain ⟨q13, e_q13, h⟩ := b1s h
          refine sM_world C S e_q13 dX11_addReceiver_73 ?_
          refine a_aload_n C 1 rfl rfl dX11_addReceiver_74 ?_
          refine a_iload C 0 rfl dX11_addReceiver_75 ?_
          obtain ⟨q14, e_q14, h⟩ := b1s h
          refine k_M_joins C S e_q14 ⟨Nat.le_of_ble_eq_true rfl, Nat.le_of_ble_eq_true rfl⟩ (Nat.le_of_ble_eq_true rfl) dX11_addReceiver_77 ?_
          refine a_iload C 0 rfl dX11_addReceiver_80 ?_
          exact a_iret hret h rfl dX11_addReceiver_82
        · replace h := ifp c8 h
          refine a_bipush (v := -2) C (by decide) dX11_addReceiver_38 ?_
          exact a_iret hret h rfl dX11_addReceiver_40
      · replace h := ifp c6 h
        refine a_iconst (v := -1) C (by decide) dX11_addReceiver_24 ?_
        exact a_iret hret h rfl dX11_addReceiver_25
theorem c_M_addReceiver {l : Launch} {D : va_G} {I : ClassId × ClassId × ClassId × ClassId} {ad : Nat → Nat} {q : St} {v1 : Int32} {v2 : Int32} {v3 : Int32} {z : Int32 × St} (h : M_addReceiver q v1 v2 v3 = some z) : Ctr l D I zT 18 (shM I) ad yX11_addReceiver cX11_addReceiver 5 (some .int) rmM_addReceiver [.ref (ad 0), .int v1, .int v2, .int v3] q (some z.1) z.2 :=
  ctr_ofI (by decide) (Nat.le_of_ble_eq_true rfl) (fun p e s m args below meth c Q H0 X hX C hret => by subst hX; exact w_M_addReceiver C ⟨rfl, rfl, rfl⟩ hret _ _ _ _ h)
abbrev rmM_leave : Room := { frames := 3, cells := 0, slots := 0, locals := 66 }
def M_leave (q : St) (v1 : Int32) : Option (Int32 × St) :=
  b1 (M_isReceiver q v1) fun x1 =>
  if x1 = (0 : Int32) then
    some ((-1 : Int32), q)
  else
    b1 (M_keeps q) fun q3 =>
    b1 (M_of q3 v1 (3 : Int32)) fun x4 =>
    b1 (M_set q3 v1 (3 : Int32) (0 : Int32)) fun q5 =>
    b1 (M_set q5 v1 (4 : Int32) (1 : Int32)) fun q6 =>
    b1 (M_prunes q6) fun q7 =>
    some (x4, q7)
theorem w_M_leave {X : Cv} (C : Cx X cX11_leave RX11 rmM_leave 3) (S : IsM X) {z : Int32 × St} (hret : RokI X cX11_leave .int z.1 z.2) (v1 : Int32) (q : St) (h : M_leave q v1 = some z) : At X 0 [(0, .ref (adOf X 0)), (1, .int v1)] [] q := by
  unfold M_leave at h
  refine a_aload_n C 0 rfl rfl dX11_leave_0 ?_
  refine a_iload_n C 1 rfl rfl dX11_leave_1 ?_
  obtain ⟨x1, e_x1, h⟩ := b1s h
  refine k_M_isReceiver C S e_x1 ⟨Nat.le_of_ble_eq_true rfl, Nat.le_of_ble_eq_true rfl⟩ (Nat.le_of_ble_eq_true rfl) dX11_leave_2 ?_
  refine a_if_ne C 10 (by decide) dX11_leave_5 (fun c2 => ?_) (fun c2 => ?_)
  · replace h := ifn c2 h
    refine a_aload_n C 0 rfl rfl dX11_leave_10 ?_
    obtain ⟨q3, e_q3, h⟩ := b1s h
    refine k_M_keeps C S e_q3 ⟨Nat.le_of_ble_eq_true rfl, Nat.le_of_ble_eq_true rfl⟩ (Nat.le_of_ble_eq_true rfl) dX11_leave_11 ?_
    refine a_aload_n C 0 rfl rfl dX11_leave_14 ?_
    refine a_iload_n C 1 rfl rfl dX11_leave_15 ?_
    refine a_iconst (v := 3) C (by decide) dX11_leave_16 ?_
    obtain ⟨x4, e_x4, h⟩ := b1s h
    refine k_M_of C S e_x4 ⟨Nat.le_of_ble_eq_true rfl, Nat.le_of_ble_eq_true rfl⟩ (Nat.le_of_ble_eq_true rfl) dX11_leave_17 ?_
    refine a_istore_n C [(2, .int x4), (0, .ref (adOf X 0)), (1, .int v1)] rfl (by decide) rfl dX11_leave_20 ?_
    refine a_aload_n C 1 rfl rfl dX11_leave_21 ?_
    refine a_iload_n C 2 rfl rfl dX11_leave_22 ?_
    refine a_iconst (v := 3) C (by decide) dX11_leave_23 ?_
    refine a_iconst (v := 0) C (by decide) dX11_leave_24 ?_
    obtain ⟨q5, e_q5, h⟩ := b1s h
    refine k_M_set C S e_q5 ⟨Nat.le_of_ble_eq_true rfl, Nat.le_of_ble_eq_true rfl⟩ (Nat.le_of_ble_eq_true rfl) dX11_leave_25 ?_
    refine a_aload_n C 1 rfl rfl dX11_leave_28 ?_
    refine a_iload_n C 2 rfl rfl dX11_leave_29 ?_
    refine a_iconst (v := 4) C (by decide) dX11_leave_30 ?_
    refine a_iconst (v := 1) C (by decide) dX11_leave_31 ?_
    obtain ⟨q6, e_q6, h⟩ := b1s h
    refine k_M_set C S e_q6 ⟨Nat.le_of_ble_eq_true rfl, Nat.le_of_ble_eq_true rfl⟩ (Nat.le_of_ble_eq_true rfl) dX11_leave_32 ?_
    refine a_aload_n C 1 rfl rfl dX11_leave_35 ?_
    obtain ⟨q7, e_q7, h⟩ := b1s h
    refine k_M_prunes C S e_q7 ⟨Nat.le_of_ble_eq_true rfl, Nat.le_of_ble_eq_true rfl⟩ (Nat.le_of_ble_eq_true rfl) dX11_leave_36 ?_
    refine a_iload_n C 0 rfl rfl dX11_leave_39 ?_
    exact a_iret hret h rfl dX11_leave_40
  · replace h := ifp c2 h
    refine a_iconst (v := -1) C (by decide) dX11_leave_8 ?_
    exact a_iret hret h rfl dX11_leave_9
theorem c_M_leave {l : Launch} {D : va_G} {I : ClassId × ClassId × ClassId × ClassId} {ad : Nat → Nat} {q : St} {v1 : Int32} {z : Int32 × St} (h : M_leave q v1 = some z) : Ctr l D I zT 18 (shM I) ad yX11_leave cX11_leave 3 (some .int) rmM_leave [.ref (ad 0), .int v1] q (some z.1) z.2 :=
  ctr_ofI (by decide) (Nat.le_of_ble_eq_true rfl) (fun p e s m args below meth c Q H0 X hX C hret => by subst hX; exact w_M_leave C ⟨rfl, rfl, rfl⟩ hret _ _ h)
abbrev rmM_setWanted : Room := { frames := 2, cells := 0, slots := 0, locals := 46 }
def M_setWanted_J59 (v1 : Int32) (q : St) : Option (Int32 × St) :=
  b1 (M_of q v1 (3 : Int32)) fun x11 =>
  some (x11, q)
theorem w_M_setWanted_J59 {X : Cv} (C : Cx X cX11_setWanted RX11 rmM_setWanted 3) (S : IsM X) {z : Int32 × St} (hret : RokI X cX11_setWanted .int z.1 z.2) (v1 : Int32) (q : St) (h : M_setWanted_J59 v1 q = some z) : At X 59 [(0, .ref (adOf X 0)), (1, .int v1)] [] q := by
  unfold M_setWanted_J59 at h
  refine a_aload_n C 0 rfl rfl dX11_setWanted_59 ?_
  refine a_iload_n C 1 rfl rfl dX11_setWanted_60 ?_
  refine a_iconst (v := 3) C (by decide) dX11_setWanted_61 ?_
  obtain ⟨x11, e_x11, h⟩ := b1s h
  refine k_M_of C S e_x11 ⟨Nat.le_of_ble_eq_true rfl, Nat.le_of_ble_eq_true rfl⟩ (Nat.le_of_ble_eq_true rfl) dX11_setWanted_62 ?_
  exact a_iret hret h rfl dX11_setWanted_65
def M_setWanted (q : St) (v1 : Int32) (v2 : Int32) : Option (Int32 × St) :=
  b1 (M_isReceiver q v1) fun x1 =>
  if x1 = (0 : Int32) then
    some ((-1 : Int32), q)
  else
    b1 (M_isLevel q v2) fun x3 =>
    if x3 = (0 : Int32) then
      some ((-1 : Int32), q)
    else
      b1 (M_of q v1 (2 : Int32)) fun x5 =>
      if x5 = v2 then
        some ((-2 : Int32), q)
      else
        b1 (M_keeps q) fun q7 =>
        b1 (M_set q7 v1 (2 : Int32) v2) fun q8 =>
        b1 (M_of q8 v1 (3 : Int32)) fun x9 =>
        if x9 ≤ v2 then
          M_setWanted_J59 v1 q8
        else
          b1 (M_set q8 v1 (3 : Int32) v2) fun q12 =>
          M_setWanted_J59 v1 q12
theorem w_M_setWanted {X : Cv} (C : Cx X cX11_setWanted RX11 rmM_setWanted 3) (S : IsM X) {z : Int32 × St} (hret : RokI X cX11_setWanted .int z.1 z.2) (v1 : Int32) (v2 : Int32) (q : St) (h : M_setWanted q v1 v2 = some z) : At X 0 [(0, .ref (adOf X 0)), (1, .int v1), (2, .int v2)] [] q := by
  unfold M_setWanted at h
  refine a_aload_n C 0 rfl rfl dX11_setWanted_0 ?_
  refine a_iload_n C 1 rfl rfl dX11_setWanted_1 ?_
  obtain ⟨x1, e_x1, h⟩ := b1s h
  refine k_M_isReceiver C S e_x1 ⟨Nat.le_of_ble_eq_true rfl, Nat.le_of_ble_eq_true rfl⟩ (Nat.le_of_ble_eq_true rfl) dX11_setWanted_2 ?_
  refine a_if_eq C 16 (by decide) dX11_setWanted_5 (fun c2 => ?_) (fun c2 => ?_)
  · replace h := ifp c2 h
    refine a_iconst (v := -1) C (by decide) dX11_setWanted_16 ?_
    exact a_iret hret h rfl dX11_setWanted_17
  · replace h := ifn c2 h
    refine a_aload_n C 0 rfl rfl dX11_setWanted_8 ?_
    refine a_iload_n C 2 rfl rfl dX11_setWanted_9 ?_
    obtain ⟨x3, e_x3, h⟩ := b1s h
    refine k_M_isLevel C S e_x3 ⟨Nat.le_of_ble_eq_true rfl, Nat.le_of_ble_eq_true rfl⟩ (Nat.le_of_ble_eq_true rfl) dX11_setWanted_10 ?_
    refine a_if_ne C 18 (by decide) dX11_setWanted_13 (fun c4 => ?_) (fun c4 => ?_)
    · replace h := ifn c4 h
      refine a_aload_n C 0 rfl rfl dX11_setWanted_18 ?_
      refine a_iload_n C 1 rfl rfl dX11_setWanted_19 ?_
      refine a_iconst (v := 2) C (by decide) dX11_setWanted_20 ?_
      obtain ⟨x5, e_x5, h⟩ := b1s h
      refine k_M_of C S e_x5 ⟨Nat.le_of_ble_eq_true rfl, Nat.le_of_ble_eq_true rfl⟩ (Nat.le_of_ble_eq_true rfl) dX11_setWanted_21 ?_
      refine a_iload_n C 2 rfl rfl dX11_setWanted_24 ?_
      refine a_icmp_ne C 31 (by decide) dX11_setWanted_25 (fun c6 => ?_) (fun c6 => ?_)
      · replace h := ifn c6 h
        refine a_aload_n C 0 rfl rfl dX11_setWanted_31 ?_
        obtain ⟨q7, e_q7, h⟩ := b1s h
        refine k_M_keeps C S e_q7 ⟨Nat.le_of_ble_eq_true rfl, Nat.le_of_ble_eq_true rfl⟩ (Nat.le_of_ble_eq_true rfl) dX11_setWanted_32 ?_
        refine a_aload_n C 0 rfl rfl dX11_setWanted_35 ?_
        refine a_iload_n C 1 rfl rfl dX11_setWanted_36 ?_
        refine a_iconst (v := 2) C (by decide) dX11_setWanted_37 ?_
        refine a_iload_n C 2 rfl rfl dX11_setWanted_38 ?_
        obtain ⟨q8, e_q8, h⟩ := b1s h
        refine k_M_set C S e_q8 ⟨Nat.le_of_ble_eq_true rfl, Nat.le_of_ble_eq_true rfl⟩ (Nat.le_of_ble_eq_true rfl) dX11_setWanted_39 ?_
        refine a_aload_n C 0 rfl rfl dX11_setWanted_42 ?_
        refine a_iload_n C 1 rfl rfl dX11_setWanted_43 ?_
        refine a_iconst (v := 3) C (by decide) dX11_setWanted_44 ?_
        obtain ⟨x9, e_x9, h⟩ := b1s h
        refine k_M_of C S e_x9 ⟨Nat.le_of_ble_eq_true rfl, Nat.le_of_ble_eq_true rfl⟩ (Nat.le_of_ble_eq_true rfl) dX11_setWanted_45 ?_
        refine a_iload_n C 2 rfl rfl dX11_setWanted_48 ?_
        refine a_icmp_le C 59 (by decide) dX11_setWanted_49 (fun c10 => ?_) (fun c10 => ?_)
        · replace h := ifp c10 h
          exact At.sub [0, 1] rfl (w_M_setWanted_J59 C S hret _ _ h)
        · replace h := ifn c10 h
          refine a_aload_n C 0 rfl rfl dX11_setWanted_52 ?_
          refine a_iload_n C 1 rfl rfl dX11_setWanted_53 ?_
          refine a_iconst (v := 3) C (by decide) dX11_setWanted_54 ?_
          refine a_iload_n C 2 rfl rfl dX11_setWanted_55 ?_
          obtain ⟨q12, e_q12, h⟩ := b1s h
          refine k_M_set C S e_q12 ⟨Nat.le_of_ble_eq_true rfl, Nat.le_of_ble_eq_true rfl⟩ (Nat.le_of_ble_eq_true rfl) dX11_setWanted_56 ?_
          exact At.sub [0, 1] rfl (w_M_setWanted_J59 C S hret _ _ h)
      · replace h := ifp c6 h
        refine a_bipush (v := -2) C (by decide) dX11_setWanted_28 ?_
        exact a_iret hret h rfl dX11_setWanted_30
    · replace h := ifp c4 h
      refine a_iconst (v := -1) C (by decide) dX11_setWanted_16 ?_
      exact a_iret hret h rfl dX11_setWanted_17
theorem c_M_setWanted {l : Launch} {D : va_G} {I : ClassId × ClassId × ClassId × ClassId} {ad : Nat → Nat} {q : St} {v1 : Int32} {v2 : Int32} {z : Int32 × St} (h : M_setWanted q v1 v2 = some z) : Ctr l D I zT 18 (shM I) ad yX11_setWanted cX11_setWanted 3 (some .int) rmM_setWanted [.ref (ad 0), .int v1, .int v2] q (some z.1) z.2 :=
  ctr_ofI (by decide) (Nat.le_of_ble_eq_true rfl) (fun p e s m args below meth c Q H0 X hX C hret => by subst hX; exact w_M_setWanted C ⟨rfl, rfl, rfl⟩ hret _ _ _ h)
abbrev rmM_raise : Room := { frames := 6, cells := 0, slots := 0, locals := 137 }
def M_raise (q : St) (v1 : Int32) : Option (Int32 × St) :=
  b1 (M_isReceiver q v1) fun x1 =>
  if x1 = (0 : Int32) then
    some ((-1 : Int32), q)
  else
    b1 (M_of q v1 (3 : Int32)) fun x3 =>
    b1 (M_of q v1 (2 : Int32)) fun x4 =>
    if x3 = x4 then
      some ((-2 : Int32), q)
    else
      b1 (M_laysAside q) fun q6 =>
      b2 (M_tries q6 v1 (x3 + (1 : Int32))) fun x7 q8 =>
      b1 (M_comesBack q8) fun q9 =>
      if x7 = (0 : Int32) then
        some ((-2 : Int32), q9)
      else
        b1 (M_keeps q9) fun q11 =>
        b2 (M_tries q11 v1 (x3 + (1 : Int32))) fun x12 q13 =>
        some ((x3 + (1 : Int32)), q13)
theorem w_M_raise {X : Cv} (C : Cx X cX11_raise RX11 rmM_raise 4) (S : IsM X) {z : Int32 × St} (hret : RokI X cX11_raise .int z.1 z.2) (v1 : Int32) (q : St) (h : M_raise q v1 = some z) : At X 0 [(0, .ref (adOf X 0)), (1, .int v1)] [] q := by
  unfold M_raise at h
  refine a_aload_n C 0 rfl rfl dX11_raise_0 ?_
  refine a_iload_n C 1 rfl rfl dX11_raise_1 ?_
  obtain ⟨x1, e_x1, h⟩ := b1s h
  refine k_M_isReceiver C S e_x1 ⟨Nat.le_of_ble_eq_true rfl, Nat.le_of_ble_eq_true rfl⟩ (Nat.le_of_ble_eq_true rfl) dX11_raise_2 ?_
  refine a_if_ne C 10 (by decide) dX11_raise_5 (fun c2 => ?_) (fun c2 => ?_)
  · replace h := ifn c2 h
    refine a_aload_n C 0 rfl rfl dX11_raise_10 ?_
    refine a_iload_n C 1 rfl rfl dX11_raise_11 ?_
    refine a_iconst (v := 3) C (by decide) dX11_raise_12 ?_
    obtain ⟨x3, e_x3, h⟩ := b1s h
    refine k_M_of C S e_x3 ⟨Nat.le_of_ble_eq_true rfl, Nat.le_of_ble_eq_true rfl⟩ (Nat.le_of_ble_eq_true rfl) dX11_raise_13 ?_
    refine a_istore_n C [(2, .int x3), (0, .ref (adOf X 0)), (1, .int v1)] rfl (by decide) rfl dX11_raise_16 ?_
    refine a_iload_n C 0 rfl rfl dX11_raise_17 ?_
    refine a_aload_n C 1 rfl rfl dX11_raise_18 ?_
    refine a_iload_n C 2 rfl rfl dX11_raise_19 ?_
    refine a_iconst (v := 2) C (by decide) dX11_raise_20 ?_
    obtain ⟨x4, e_x4, h⟩ := b1s h
    refine k_M_of C S e_x4 ⟨Nat.le_of_ble_eq_true rfl, Nat.le_of_ble_eq_true rfl⟩ (Nat.le_of_ble_eq_true rfl) dX11_raise_21 ?_
    refine a_icmp_ne C 30 (by decide) dX11_raise_24 (fun c5 => ?_) (fun c5 => ?_)
    · replace h := ifn c5 h
      refine a_aload_n C 1 rfl rfl dX11_raise_30 ?_
      obtain ⟨q6, e_q6, h⟩ := b1s h
      refine k_M_laysAside C S e_q6 ⟨Nat.le_of_ble_eq_true rfl, Nat.le_of_ble_eq_true rfl⟩ (Nat.le_of_ble_eq_true rfl) dX11_raise_31 ?_
      refine a_aload_n C 1 rfl rfl dX11_raise_34 ?_
      refine a_iload_n C 2 rfl rfl dX11_raise_35 ?_
      refine a_iload_n C 0 rfl rfl dX11_raise_36 ?_
      refine a_iconst (v := 1) C (by decide) dX11_raise_37 ?_
      refine a_iadd C dX11_raise_38 ?_
      obtain ⟨x7, q8, e_q8, h⟩ := b2s h
      refine k_M_tries C S e_q8 ⟨Nat.le_of_ble_eq_true rfl, Nat.le_of_ble_eq_true rfl⟩ (Nat.le_of_ble_eq_true rfl) dX11_raise_39 ?_
      refine a_istore_n C [(3, .int x7), (2, .int x3), (0, .ref (adOf X 0)), (1, .int v1)] rfl (by decide) rfl dX11_raise_42 ?_
      refine a_aload_n C 2 rfl rfl dX11_raise_43 ?_
      obtain ⟨q9, e_q9, h⟩ := b1s h
      refine k_M_comesBack C S e_q9 ⟨Nat.le_of_ble_eq_true rfl, Nat.le_of_ble_eq_true rfl⟩ (Nat.le_of_ble_eq_true rfl) dX11_raise_44 ?_
      refine a_iload_n C 0 rfl rfl dX11_raise_47 ?_
      refine a_if_ne C 54 (by decide) dX11_raise_48 (fun c10 => ?_) (fun c10 => ?_)
      · replace h := ifn c10 h
        refine a_aload_n C 2 rfl rfl dX11_raise_54 ?_
        obtain ⟨q11, e_q11, h⟩ := b1s h
        refine k_M_keeps C S e_q11 ⟨Nat.le_of_ble_eq_true rfl, Nat.le_of_ble_eq_true rfl⟩ (Nat.le_of_ble_eq_true rfl) dX11_raise_55 ?_
        refine a_aload_n C 2 rfl rfl dX11_raise_58 ?_
        refine a_iload_n C 3 rfl rfl dX11_raise_59 ?_
        refine a_iload_n C 1 rfl rfl dX11_raise_60 ?_
        refine a_iconst (v := 1) C (by decide) dX11_raise_61 ?_
        refine a_iadd C dX11_raise_62 ?_
        obtain ⟨x12, q13, e_q13, h⟩ := b2s h
        refine k_M_tries C S e_q13 ⟨Nat.le_of_ble_eq_true rfl, Nat.le_of_ble_eq_true rfl⟩ (Nat.le_of_ble_eq_true rfl) dX11_raise_63 ?_
        refine a_istore_n C [(3, .int x12), (2, .int x3), (0, .ref (adOf X 0)), (1, .int v1)] rfl (by decide) rfl dX11_raise_66 ?_
        refine a_iload_n C 1 rfl rfl dX11_raise_67 ?_
        refine a_iconst (v := 1) C (by decide) dX11_raise_68 ?_
        refine a_iadd C dX11_raise_69 ?_
        exact a_iret hret h rfl dX11_raise_70
      · replace h := ifp c10 h
        refine a_bipush (v := -2) C (by decide) dX11_raise_51 ?_
        exact a_iret hret h rfl dX11_raise_53
    · replace h := ifp c5 h
      refine a_bipush (v := -2) C (by decide) dX11_raise_27 ?_
      exact a_iret hret h rfl dX11_raise_29
  · replace h := ifp c2 h
    refine a_iconst (v := -1) C (by decide) dX11_raise_8 ?_
    exact a_iret hret h rfl dX11_raise_9
theorem c_M_raise {l : Launch} {D : va_G} {I : ClassId × ClassId × ClassId × ClassId} {ad : Nat → Nat} {q : St} {v1 : Int32} {z : Int32 × St} (h : M_raise q v1 = some z) : Ctr l D I zT 18 (shM I) ad yX11_raise cX11_raise 4 (some .int) rmM_raise [.ref (ad 0), .int v1] q (some z.1) z.2 :=
  ctr_ofI (by decide) (Nat.le_of_ble_eq_true rfl) (fun p e s m args below meth c Q H0 X hX C hret => by subst hX; exact w_M_raise C ⟨rfl, rfl, rfl⟩ hret _ _ h)
abbrev rmM_isOther : Room := { frames := 2, cells := 0, slots := 0, locals := 46 }
def M_isOther (q : St) (v1 : Int32) : Option (Int32) :=
  if v1 ≤ (0 : Int32) then
    some (0 : Int32)
  else
    b1 (M_isFormat q v1) fun x2 =>
    if x2 = (0 : Int32) then
      some (0 : Int32)
    else
      some (1 : Int32)
theorem w_M_isOther {X : Cv} (C : Cx X cX11_isOther RX11 rmM_isOther 2) (S : IsM X) {q : St} {z : Int32} (hret : RokI X cX11_isOther .boolean z q) (v1 : Int32) (h : M_isOther q v1 = some z) : At X 0 [(0, .ref (adOf X 0)), (1, .int v1)] [] q := by
  unfold M_isOther at h
  refine a_iload_n C 1 rfl rfl dX11_isOther_0 ?_
  refine a_if_le C 16 (by decide) dX11_isOther_1 (fun c1 => ?_) (fun c1 => ?_)
  · replace h := ifp c1 h
    refine a_iconst (v := 0) C (by decide) dX11_isOther_16 ?_
    exact a_iretR hret h rfl dX11_isOther_17
  · replace h := ifn c1 h
    refine a_aload_n C 0 rfl rfl dX11_isOther_4 ?_
    refine a_iload_n C 1 rfl rfl dX11_isOther_5 ?_
    obtain ⟨x2, e_x2, h⟩ := b1s h
    refine k_M_isFormat C S e_x2 ⟨Nat.le_of_ble_eq_true rfl, Nat.le_of_ble_eq_true rfl⟩ (Nat.le_of_ble_eq_true rfl) dX11_isOther_6 ?_
    refine a_if_eq C 16 (by decide) dX11_isOther_9 (fun c3 => ?_) (fun c3 => ?_)
    · replace h := ifp c3 h
      refine a_iconst (v := 0) C (by decide) dX11_isOther_16 ?_
      exact a_iretR hret h rfl dX11_isOther_17
    · replace h := ifn c3 h
      refine a_iconst (v := 1) C (by decide) dX11_isOther_12 ?_
      refine a_goto C 17 (by decide) dX11_isOther_13 ?_
      exact a_iretR hret h rfl dX11_isOther_17
theorem c_M_isOther {l : Launch} {D : va_G} {I : ClassId × ClassId × ClassId × ClassId} {ad : Nat → Nat} {q : St} {v1 : Int32} {z : Int32} (h : M_isOther q v1 = some z) : Ctr l D I zT 18 (shM I) ad yX11_isOther cX11_isOther 2 (some .boolean) rmM_isOther [.ref (ad 0), .int v1] q (some z) q :=
  ctr_ofI (by decide) (Nat.le_of_ble_eq_true rfl) (fun p e s m args below meth c Q H0 X hX C hret => by subst hX; exact w_M_isOther C ⟨rfl, rfl, rfl⟩ hret _ h)
theorem g_M_isOther : GoodIn lw_tg (wsV RX11 294 RX11 yX11_isOther (Cond.code yX11_isOther cX11_isOther 2 (some .boolean) :: lw_tg)) := gd_V (tg 1554 (by decide +kernel) rfl) (tg 1556 (by decide +kernel) rfl) (tg 94 (by decide +kernel) rfl) (tg 128 (by decide +kernel) rfl) (tg 1557 (by decide +kernel) rfl)
theorem k_M_isOther {X : Cv} {cc : ByteArray} {rm : Room} {nL1 pc : Nat} {lv : List (Nat × Value)} {sk : List Value} {q : St} {v1 : Int32} {z : Int32} (C : Cx X cc RX11 rm nL1) (S : IsM X) (h : M_isOther q v1 = some z) (hz : rmM_isOther.frames + 1 ≤ rm.frames ∧ 8 + (2 + 11) + rmM_isOther.locals ≤ rm.locals) (hr : (sk.map fun v => v.category).sum ≤ 8) (hd : decode cc pc = .ok (.invokevirtual 294, 3)) (k : At X (pc + 3) lv (.int z :: sk) q) : At X pc lv (.int v1 :: .ref (adOf X 0) :: sk) q := a_callVi (as := [.int v1]) C (kp := 0) (by rw [S.1]; decide) (by rw [S.2.1]; rfl) rfl (by have hh := c_M_isOther (l := X.2.1) (D := dOf X) (I := idOf X) (ad := adOf X) h; rw [← S.1, ← S.2.1, ← S.2.2] at hh; exact hh) g_M_isOther ⟨rfl, rfl, hz.1, hz.2⟩ ⟨by decide, by decide, by show Option.map _ (parseMethodDescriptor yX11_isOther.desc) = some 1; decide⟩ hr rfl hd k
abbrev rmM_canPlace : Room := { frames := 5, cells := 0, slots := 0, locals := 112 }
def M_canPlace_J38 (v1 : Int32) (v2 : Int32) (z0 : Int32) (q : St) : Option (Int32 × St) :=
  b1 (rd 202 q 4 ((64 : Int32) + v1)) fun x8 =>
  b1 (wr 202 q 4 ((64 : Int32) + v1) (x8 &&& (((1 : Int32) <<< (v2 &&& 31)) ^^^ (-1 : Int32)))) fun q9 =>
  bz z0 <|
  some (z0, q9)
theorem w_M_canPlace_J38 {X : Cv} (C : Cx X cX11_canPlace RX11 rmM_canPlace 4) (S : IsM X) {z : Int32 × St} (hret : RokI X cX11_canPlace .boolean z.1 z.2) (v1 : Int32) (v2 : Int32) (z0 : Int32) (q : St) (h : M_canPlace_J38 v1 v2 z0 q = some z) : At X 38 [(0, .ref (adOf X 0)), (1, .int v1), (2, .int v2)] [.int z0] q := by
  unfold M_canPlace_J38 at h
  refine a_istore_n C [(3, .int z0), (0, .ref (adOf X 0)), (1, .int v1), (2, .int v2)] rfl (by decide) rfl dX11_canPlace_38 ?_
  refine a_aload_n C 1 rfl rfl dX11_canPlace_39 ?_
  refine gM_world C S dX11_canPlace_40 ?_
  refine a_bipush (v := 64) C (by decide) dX11_canPlace_43 ?_
  refine a_iload_n C 2 rfl rfl dX11_canPlace_45 ?_
  refine a_iadd C dX11_canPlace_46 ?_
  refine a_dup2 C rfl rfl dX11_canPlace_47 ?_
  obtain ⟨x8, e_x8, h⟩ := b1s h
  refine lM_world C S e_x8 dX11_canPlace_48 ?_
  refine a_iconst (v := 1) C (by decide) dX11_canPlace_49 ?_
  refine a_iload_n C 3 rfl rfl dX11_canPlace_50 ?_
  refine a_ishl C dX11_canPlace_51 ?_
  refine a_iconst (v := -1) C (by decide) dX11_canPlace_52 ?_
  refine a_ixor C dX11_canPlace_53 ?_
  refine a_iand C dX11_canPlace_54 ?_
  obtain ⟨q9, e_q9, h⟩ := b1s h
  refine sM_world C S e_q9 dX11_canPlace_55 ?_
  refine a_iload_n C 0 rfl rfl dX11_canPlace_56 ?_
  obtain ⟨n10, h⟩ := bzs h
  exact a_iret hret h n10 dX11_canPlace_57
def M_canPlace (q : St) (v1 : Int32) (v2 : Int32) : Option (Int32 × St) :=
  b1 (M_has q v1 v2) fun x1 =>
  if x1 = (0 : Int32) then
    b1 (rd 202 q 4 ((64 : Int32) + v1)) fun x3 =>
    b1 (wr 202 q 4 ((64 : Int32) + v1) (x3 ||| ((1 : Int32) <<< (v2 &&& 31)))) fun q4 =>
    b2 (M_wrong q4) fun x5 q6 =>
    if (0 : Int32) ≤ x5 then
      M_canPlace_J38 v1 v2 (0 : Int32) q6
    else
      M_canPlace_J38 v1 v2 (1 : Int32) q6
  else
    some ((0 : Int32), q)
theorem w_M_canPlace {X : Cv} (C : Cx X cX11_canPlace RX11 rmM_canPlace 4) (S : IsM X) {z : Int32 × St} (hret : RokI X cX11_canPlace .boolean z.1 z.2) (v1 : Int32) (v2 : Int32) (q : St) (h : M_canPlace q v1 v2 = some z) : At X 0 [(0, .ref (adOf X 0)), (1, .int v1), (2, .int v2)] [] q := by
  unfold M_canPlace at h
  refine a_aload_n C 0 rfl rfl dX11_canPlace_0 ?_
  refine a_iload_n C 1 rfl rfl dX11_canPlace_1 ?_
  refine a_iload_n C 2 rfl rfl dX11_canPlace_2 ?_
  obtain ⟨x1, e_x1, h⟩ := b1s h
  refine k_M_has C S e_x1 ⟨Nat.le_of_ble_eq_true rfl, Nat.le_of_ble_eq_true rfl⟩ (Nat.le_of_ble_eq_true rfl) dX11_canPlace_3 ?_
  refine a_if_eq C 11 (by decide) dX11_canPlace_6 (fun c2 => ?_) (fun c2 => ?_)
  · replace h := ifp c2 h
    refine a_aload_n C 0 rfl rfl dX11_canPlace_11 ?_
    refine gM_world C S dX11_canPlace_12 ?_
    refine a_bipush (v := 64) C (by decide) dX11_canPlace_15 ?_
    refine a_iload_n C 1 rfl rfl dX11_canPlace_17 ?_
    refine a_iadd C dX11_canPlace_18 ?_
    refine a_dup2 C rfl rfl dX11_canPlace_19 ?_
    obtain ⟨x3, e_x3, h⟩ := b1s h
    refine lM_world C S e_x3 dX11_canPlace_20 ?_
    refine a_iconst (v := 1) C (by decide) dX11_canPlace_21 ?_
    refine a_iload_n C 2 rfl rfl dX11_canPlace_22 ?_
    refine a_ishl C dX11_canPlace_23 ?_
    refine a_ior C dX11_canPlace_24 ?_
    obtain ⟨q4, e_q4, h⟩ := b1s h
    refine sM_world C S e_q4 dX11_canPlace_25 ?_
    refine a_aload_n C 0 rfl rfl dX11_canPlace_26 ?_
    obtain ⟨x5, q6, e_q6, h⟩ := b2s h
    refine k_M_wrong C S e_q6 ⟨Nat.le_of_ble_eq_true rfl, Nat.le_of_ble_eq_true rfl⟩ (Nat.le_of_ble_eq_true rfl) dX11_canPlace_27 ?_
    refine a_if_ge C 37 (by decide) dX11_canPlace_30 (fun c7 => ?_) (fun c7 => ?_)
    · replace h := ifp c7 h
      refine a_iconst (v := 0) C (by decide) dX11_canPlace_37 ?_
      exact At.sub [0, 1, 2] rfl (w_M_canPlace_J38 C S hret _ _ _ _ h)
    · replace h := ifn c7 h
      refine a_iconst (v := 1) C (by decide) dX11_canPlace_33 ?_
      refine a_goto C 38 (by decide) dX11_canPlace_34 ?_
      exact At.sub [0, 1, 2] rfl (w_M_canPlace_J38 C S hret _ _ _ _ h)
  · replace h := ifn c2 h
    refine a_iconst (v := 0) C (by decide) dX11_canPlace_9 ?_
    exact a_iret hret h rfl dX11_canPlace_10
theorem c_M_canPlace {l : Launch} {D : va_G} {I : ClassId × ClassId × ClassId × ClassId} {ad : Nat → Nat} {q : St} {v1 : Int32} {v2 : Int32} {z : Int32 × St} (h : M_canPlace q v1 v2 = some z) : Ctr l D I zT 18 (shM I) ad yX11_canPlace cX11_canPlace 4 (some .boolean) rmM_canPlace [.ref (ad 0), .int v1, .int v2] q (some z.1) z.2 :=
  ctr_ofI (by decide) (Nat.le_of_ble_eq_true rfl) (fun p e s m args below meth c Q H0 X hX C hret => by subst hX; exact w_M_canPlace C ⟨rfl, rfl, rfl⟩ hret _ _ _ h)
theorem g_M_canPlace : GoodIn lw_tg (wsV RX11 297 RX11 yX11_canPlace (Cond.code yX11_canPlace cX11_canPlace 4 (some .boolean) :: lw_tg)) := gd_V (tg 1558 (by decide +kernel) rfl) (tg 1560 (by decide +kernel) rfl) (tg 95 (by decide +kernel) rfl) (tg 128 (by decide +kernel) rfl) (tg 1561 (by decide +kernel) rfl)
theorem k_M_canPlace {X : Cv} {cc : ByteArray} {rm : Room} {nL1 pc : Nat} {lv : List (Nat × Value)} {sk : List Value} {q : St} {v1 : Int32} {v2 : Int32} {z : Int32} {q2 : St} (C : Cx X cc RX11 rm nL1) (S : IsM X) (h : M_canPlace q v1 v2 = some (z, q2)) (hz : rmM_canPlace.frames + 1 ≤ rm.frames ∧ 8 + (4 + 11) + rmM_canPlace.locals ≤ rm.locals) (hr : (sk.map fun v => v.category).sum ≤ 8) (hd : decode cc pc = .ok (.invokevirtual 297, 3)) (k : At X (pc + 3) lv (.int z :: sk) q2) : At X pc lv (.int v2 :: .int v1 :: .ref (adOf X 0) :: sk) q := a_callVi (as := [.int v1, .int v2]) C (kp := 0) (by rw [S.1]; decide) (by rw [S.2.1]; rfl) rfl (by have hh := c_M_canPlace (l := X.2.1) (D := dOf X) (I := idOf X) (ad := adOf X) h; rw [← S.1, ← S.2.1, ← S.2.2] at hh; exact hh) g_M_canPlace ⟨rfl, rfl, hz.1, hz.2⟩ ⟨by decide, by decide, by show Option.map _ (parseMethodDescriptor yX11_canPlace.desc) = some 2; decide⟩ hr rfl hd k
abbrev rmM_place : Room := { frames := 6, cells := 0, slots := 0, locals := 135 }
def M_place (q : St) (v1 : Int32) (v2 : Int32) : Option (Int32 × St) :=
  b1 (M_isNode q v1) fun x1 =>
  if x1 = (0 : Int32) then
    some ((0 : Int32), q)
  else
    b1 (M_isOther q v2) fun x3 =>
    if x3 = (0 : Int32) then
      some ((0 : Int32), q)
    else
      b2 (M_canPlace q v1 v2) fun x5 q6 =>
      if x5 = (0 : Int32) then
        some ((0 : Int32), q6)
      else
        b1 (M_keeps q6) fun q8 =>
        b1 (rd 202 q8 4 ((64 : Int32) + v1)) fun x9 =>
        b1 (wr 202 q8 4 ((64 : Int32) + v1) (x9 ||| ((1 : Int32) <<< (v2 &&& 31)))) fun q10 =>
        some ((1 : Int32), q10)
theorem w_M_place {X : Cv} (C : Cx X cX11_place RX11 rmM_place 3) (S : IsM X) {z : Int32 × St} (hret : RokI X cX11_place .boolean z.1 z.2) (v1 : Int32) (v2 : Int32) (q : St) (h : M_place q v1 v2 = some z) : At X 0 [(0, .ref (adOf X 0)), (1, .int v1), (2, .int v2)] [] q := by
  unfold M_place at h
  refine a_aload_n C 0 rfl rfl dX11_place_0 ?_
  refine a_iload_n C 1 rfl rfl dX11_place_1 ?_
  obtain ⟨x1, e_x1, h⟩ := b1s h
  refine k_M_isNode C S e_x1 ⟨Nat.le_of_ble_eq_true rfl, Nat.le_of_ble_eq_true rfl⟩ (Nat.le_of_ble_eq_true rfl) dX11_place_2 ?_
  refine a_if_eq C 25 (by decide) dX11_place_5 (fun c2 => ?_) (fun c2 => ?_)
  · replace h := ifp c2 h
    refine a_iconst (v := 0) C (by decide) dX11_place_25 ?_
    exact a_iret hret h rfl dX11_place_26
  · replace h := ifn c2 h
    refine a_aload_n C 0 rfl rfl dX11_place_8 ?_
    refine a_iload_n C 2 rfl rfl dX11_place_9 ?_
    obtain ⟨x3, e_x3, h⟩ := b1s h
    refine k_M_isOther C S e_x3 ⟨Nat.le_of_ble_eq_true rfl, Nat.le_of_ble_eq_true rfl⟩ (Nat.le_of_ble_eq_true rfl) dX11_place_10 ?_
    refine a_if_eq C 25 (by decide) dX11_place_13 (fun c4 => ?_) (fun c4 => ?_)
    · replace h := ifp c4 h
      refine a_iconst (v := 0) C (by decide) dX11_place_25 ?_
      exact a_iret hret h rfl dX11_place_26
    · replace h := ifn c4 h
      refine a_aload_n C 0 rfl rfl dX11_place_16 ?_
      refine a_iload_n C 1 rfl rfl dX11_place_17 ?_
      refine a_iload_n C 2 rfl rfl dX11_place_18 ?_
      obtain ⟨x5, q6, e_q6, h⟩ := b2s h
      refine k_M_canPlace C S e_q6 ⟨Nat.le_of_ble_eq_true rfl, Nat.le_of_ble_eq_true rfl⟩ (Nat.le_of_ble_eq_true rfl) dX11_place_19 ?_
      refine a_if_ne C 27 (by decide) dX11_place_22 (fun c7 => ?_) (fun c7 => ?_)
      · replace h := ifn c7 h
        refine a_aload_n C 0 rfl rfl dX11_place_27 ?_
        obtain ⟨q8, e_q8, h⟩ := b1s h
        refine k_M_keeps C S e_q8 ⟨Nat.le_of_ble_eq_true rfl, Nat.le_of_ble_eq_true rfl⟩ (Nat.le_of_ble_eq_true rfl) dX11_place_28 ?_
        refine a_aload_n C 0 rfl rfl dX11_place_31 ?_
        refine gM_world C S dX11_place_32 ?_
        refine a_bipush (v := 64) C (by decide) dX11_place_35 ?_
        refine a_iload_n C 1 rfl rfl dX11_place_37 ?_
        refine a_iadd C dX11_place_38 ?_
        refine a_dup2 C rfl rfl dX11_place_39 ?_
        obtain ⟨x9, e_x9, h⟩ := b1s h
        refine lM_world C S e_x9 dX11_place_40 ?_
        refine a_iconst (v := 1) C (by decide) dX11_place_41 ?_
        refine a_iload_n C 2 rfl rfl dX11_place_42 ?_
        refine a_ishl C dX11_place_43 ?_
        refine a_ior C dX11_place_44 ?_
        obtain ⟨q10, e_q10, h⟩ := b1s h
        refine sM_world C S e_q10 dX11_place_45 ?_
        refine a_iconst (v := 1) C (by decide) dX11_place_46 ?_
        exact a_iret hret h rfl dX11_place_47
      · replace h := ifp c7 h
        refine a_iconst (v := 0) C (by decide) dX11_place_25 ?_
        exact a_iret hret h rfl dX11_place_26
theorem c_M_place {l : Launch} {D : va_G} {I : ClassId × ClassId × ClassId × ClassId} {ad : Nat → Nat} {q : St} {v1 : Int32} {v2 : Int32} {z : Int32 × St} (h : M_place q v1 v2 = some z) : Ctr l D I zT 18 (shM I) ad yX11_place cX11_place 3 (some .boolean) rmM_place [.ref (ad 0), .int v1, .int v2] q (some z.1) z.2 :=
  ctr_ofI (by decide) (Nat.le_of_ble_eq_true rfl) (fun p e s m args below meth c Q H0 X hX C hret => by subst hX; exact w_M_place C ⟨rfl, rfl, rfl⟩ hret _ _ _ h)
abbrev rmM_remove : Room := { frames := 6, cells := 0, slots := 0, locals := 136 }
def M_remove (q : St) (v1 : Int32) (v2 : Int32) : Option (Int32 × St) :=
  b1 (M_isNode q v1) fun x1 =>
  if x1 = (0 : Int32) then
    some ((-1 : Int32), q)
  else
    b1 (M_isOther q v2) fun x3 =>
    if x3 = (0 : Int32) then
      some ((-1 : Int32), q)
    else
      b1 (M_has q v1 v2) fun x5 =>
      if x5 = (0 : Int32) then
        some ((-2 : Int32), q)
      else
        b1 (M_keeps q) fun q7 =>
        b1 (rd 202 q7 4 ((64 : Int32) + v1)) fun x8 =>
        b1 (wr 202 q7 4 ((64 : Int32) + v1) (x8 &&& (((1 : Int32) <<< (v2 &&& 31)) ^^^ (-1 : Int32)))) fun q9 =>
        b2 (M_repairs q9) fun x10 q11 =>
        some (x10, q11)
theorem w_M_remove {X : Cv} (C : Cx X cX11_remove RX11 rmM_remove 3) (S : IsM X) {z : Int32 × St} (hret : RokI X cX11_remove .int z.1 z.2) (v1 : Int32) (v2 : Int32) (q : St) (h : M_remove q v1 v2 = some z) : At X 0 [(0, .ref (adOf X 0)), (1, .int v1), (2, .int v2)] [] q := by
  unfold M_remove at h
  refine a_aload_n C 0 rfl rfl dX11_remove_0 ?_
  refine a_iload_n C 1 rfl rfl dX11_remove_1 ?_
  obtain ⟨x1, e_x1, h⟩ := b1s h
  refine k_M_isNode C S e_x1 ⟨Nat.le_of_ble_eq_true rfl, Nat.le_of_ble_eq_true rfl⟩ (Nat.le_of_ble_eq_true rfl) dX11_remove_2 ?_
  refine a_if_eq C 16 (by decide) dX11_remove_5 (fun c2 => ?_) (fun c2 => ?_)
  · replace h := ifp c2 h
    refine a_iconst (v := -1) C (by decide) dX11_remove_16 ?_
    exact a_iret hret h rfl dX11_remove_17
  · replace h := ifn c2 h
    refine a_aload_n C 0 rfl rfl dX11_remove_8 ?_
    refine a_iload_n C 2 rfl rfl dX11_remove_9 ?_
    obtain ⟨x3, e_x3, h⟩ := b1s h
    refine k_M_isOther C S e_x3 ⟨Nat.le_of_ble_eq_true rfl, Nat.le_of_ble_eq_true rfl⟩ (Nat.le_of_ble_eq_true rfl) dX11_remove_10 ?_
    refine a_if_ne C 18 (by decide) dX11_remove_13 (fun c4 => ?_) (fun c4 => ?_)
    · replace h := ifn c4 h
      refine a_aload_n C 0 rfl rfl dX11_remove_18 ?_
      refine a_iload_n C 1 rfl rfl dX11_remove_19 ?_
      refine a_iload_n C 2 rfl rfl dX11_remove_20 ?_
      obtain ⟨x5, e_x5, h⟩ := b1s h
      refine k_M_has C S e_x5 ⟨Nat.le_of_ble_eq_true rfl, Nat.le_of_ble_eq_true rfl⟩ (Nat.le_of_ble_eq_true rfl) dX11_remove_21 ?_
      refine a_if_ne C 30 (by decide) dX11_remove_24 (fun c6 => ?_) (fun c6 => ?_)
      · replace h := ifn c6 h
        refine a_aload_n C 0 rfl rfl dX11_remove_30 ?_
        obtain ⟨q7, e_q7, h⟩ := b1s h
        refine k_M_keeps C S e_q7 ⟨Nat.le_of_ble_eq_true rfl, Nat.le_of_ble_eq_true rfl⟩ (Nat.le_of_ble_eq_true rfl) dX11_remove_31 ?_
        refine a_aload_n C 0 rfl rfl dX11_remove_34 ?_
        refine gM_world C S dX11_remove_35 ?_
        refine a_bipush (v := 64) C (by decide) dX11_remove_38 ?_
        refine a_iload_n C 1 rfl rfl dX11_remove_40 ?_
        refine a_iadd C dX11_remove_41 ?_
        refine a_dup2 C rfl rfl dX11_remove_42 ?_
        obtain ⟨x8, e_x8, h⟩ := b1s h
        refine lM_world C S e_x8 dX11_remove_43 ?_
        refine a_iconst (v := 1) C (by decide) dX11_remove_44 ?_
        refine a_iload_n C 2 rfl rfl dX11_remove_45 ?_
        refine a_ishl C dX11_remove_46 ?_
        refine a_iconst (v := -1) C (by decide) dX11_remove_47 ?_
        refine a_ixor C dX11_remove_48 ?_
        refine a_iand C dX11_remove_49 ?_
        obtain ⟨q9, e_q9, h⟩ := b1s h
        refine sM_world C S e_q9 dX11_remove_50 ?_
        refine a_aload_n C 0 rfl rfl dX11_remove_51 ?_
        obtain ⟨x10, q11, e_q11, h⟩ := b2s h
        refine k_M_repairs C S e_q11 ⟨Nat.le_of_ble_eq_true rfl, Nat.le_of_ble_eq_true rfl⟩ (Nat.le_of_ble_eq_true rfl) dX11_remove_52 ?_
        exact a_iret hret h rfl dX11_remove_55
      · replace h := ifp c6 h
        refine a_bipush (v := -2) C (by decide) dX11_remove_27 ?_
        exact a_iret hret h rfl dX11_remove_29
    · replace h := ifp c4 h
      refine a_iconst (v := -1) C (by decide) dX11_remove_16 ?_
      exact a_iret hret h rfl dX11_remove_17
theorem c_M_remove {l : Launch} {D : va_G} {I : ClassId × ClassId × ClassId × ClassId} {ad : Nat → Nat} {q : St} {v1 : Int32} {v2 : Int32} {z : Int32 × St} (h : M_remove q v1 v2 = some z) : Ctr l D I zT 18 (shM I) ad yX11_remove cX11_remove 3 (some .int) rmM_remove [.ref (ad 0), .int v1, .int v2] q (some z.1) z.2 :=
  ctr_ofI (by decide) (Nat.le_of_ble_eq_true rfl) (fun p e s m args below meth c Q H0 X hX C hret => by subst hX; exact w_M_remove C ⟨rfl, rfl, rfl⟩ hret _ _ _ h)
abbrev rmM_setCapacity : Room := { frames := 6, cells := 0, slots := 0, locals := 136 }
def M_setCapacity (q : St) (v1 : Int32) (v2 : Int32) : Option (Int32 × St) :=
  b1 (M_isLink q v1) fun x1 =>
  if x1 = (0 : Int32) then
    some ((-1 : Int32), q)
  else
    b1 (M_in q v2.toInt64 (0 : Int64) (9999 : Int64)) fun x3 =>
    if x3 = (0 : Int32) then
      some ((-1 : Int32), q)
    else
      b1 (rd 202 q 4 ((0 : Int32) + v1)) fun x5 =>
      if x5 = v2 then
        some ((-2 : Int32), q)
      else
        b1 (M_keeps q) fun q7 =>
        b1 (wr 202 q7 4 ((0 : Int32) + v1) v2) fun q8 =>
        b2 (M_repairs q8) fun x9 q10 =>
        some (x9, q10)
theorem w_M_setCapacity {X : Cv} (C : Cx X cX11_setCapacity RX11 rmM_setCapacity 3) (S : IsM X) {z : Int32 × St} (hret : RokI X cX11_setCapacity .int z.1 z.2) (v1 : Int32) (v2 : Int32) (q : St) (h : M_setCapacity q v1 v2 = some z) : At X 0 [(0, .ref (adOf X 0)), (1, .int v1), (2, .int v2)] [] q := by
  unfold M_setCapacity at h
  refine a_aload_n C 0 rfl rfl dX11_setCapacity_0 ?_
  refine a_iload_n C 1 rfl rfl dX11_setCapacity_1 ?_
  obtain ⟨x1, e_x1, h⟩ := b1s h
  refine k_M_isLink C S e_x1 ⟨Nat.le_of_ble_eq_true rfl, Nat.le_of_ble_eq_true rfl⟩ (Nat.le_of_ble_eq_true rfl) dX11_setCapacity_2 ?_
  refine a_if_eq C 20 (by decide) dX11_setCapacity_5 (fun c2 => ?_) (fun c2 => ?_)
  · replace h := ifp c2 h
    refine a_iconst (v := -1) C (by decide) dX11_setCapacity_20 ?_
    exact a_iret hret h rfl dX11_setCapacity_21
  · replace h := ifn c2 h
    refine a_iload_n C 2 rfl rfl dX11_setCapacity_8 ?_
    refine a_i2l C dX11_setCapacity_9 ?_
    refine a_lconst (v := 0) C (by decide) dX11_setCapacity_10 ?_
    refine a_ldc2 (v := 9999) C (tg 1590 (by decide +kernel) rfl) dX11_setCapacity_11 ?_
    obtain ⟨x3, e_x3, h⟩ := b1s h
    refine k_M_in C S e_x3 ⟨Nat.le_of_ble_eq_true rfl, Nat.le_of_ble_eq_true rfl⟩ (Nat.le_of_ble_eq_true rfl) dX11_setCapacity_14 ?_
    refine a_if_ne C 22 (by decide) dX11_setCapacity_17 (fun c4 => ?_) (fun c4 => ?_)
    · replace h := ifn c4 h
      refine a_aload_n C 0 rfl rfl dX11_setCapacity_22 ?_
      refine gM_world C S dX11_setCapacity_23 ?_
      refine a_iconst (v := 0) C (by decide) dX11_setCapacity_26 ?_
      refine a_iload_n C 1 rfl rfl dX11_setCapacity_27 ?_
      refine a_iadd C dX11_setCapacity_28 ?_
      obtain ⟨x5, e_x5, h⟩ := b1s h
      refine lM_world C S e_x5 dX11_setCapacity_29 ?_
      refine a_iload_n C 2 rfl rfl dX11_setCapacity_30 ?_
      refine a_icmp_ne C 37 (by decide) dX11_setCapacity_31 (fun c6 => ?_) (fun c6 => ?_)
      · replace h := ifn c6 h
        refine a_aload_n C 0 rfl rfl dX11_setCapacity_37 ?_
        obtain ⟨q7, e_q7, h⟩ := b1s h
        refine k_M_keeps C S e_q7 ⟨Nat.le_of_ble_eq_true rfl, Nat.le_of_ble_eq_true rfl⟩ (Nat.le_of_ble_eq_true rfl) dX11_setCapacity_38 ?_
        refine a_aload_n C 0 rfl rfl dX11_setCapacity_41 ?_
        refine gM_world C S dX11_setCapacity_42 ?_
        refine a_iconst (v := 0) C (by decide) dX11_setCapacity_45 ?_
        refine a_iload_n C 1 rfl rfl dX11_setCapacity_46 ?_
        refine a_iadd C dX11_setCapacity_47 ?_
        refine a_iload_n C 2 rfl rfl dX11_setCapacity_48 ?_
        obtain ⟨q8, e_q8, h⟩ := b1s h
        refine sM_world C S e_q8 dX11_setCapacity_49 ?_
        refine a_aload_n C 0 rfl rfl dX11_setCapacity_50 ?_
        obtain ⟨x9, q10, e_q10, h⟩ := b2s h
        refine k_M_repairs C S e_q10 ⟨Nat.le_of_ble_eq_true rfl, Nat.le_of_ble_eq_true rfl⟩ (Nat.le_of_ble_eq_true rfl) dX11_setCapacity_51 ?_
        exact a_iret hret h rfl dX11_setCapacity_54
      · replace h := ifp c6 h
        refine a_bipush (v := -2) C (by decide) dX11_setCapacity_34 ?_
        exact a_iret hret h rfl dX11_setCapacity_36
    · replace h := ifp c4 h
      refine a_iconst (v := -1) C (by decide) dX11_setCapacity_20 ?_
      exact a_iret hret h rfl dX11_setCapacity_21
theorem c_M_setCapacity {l : Launch} {D : va_G} {I : ClassId × ClassId × ClassId × ClassId} {ad : Nat → Nat} {q : St} {v1 : Int32} {v2 : Int32} {z : Int32 × St} (h : M_setCapacity q v1 v2 = some z) : Ctr l D I zT 18 (shM I) ad yX11_setCapacity cX11_setCapacity 3 (some .int) rmM_setCapacity [.ref (ad 0), .int v1, .int v2] q (some z.1) z.2 :=
  ctr_ofI (by decide) (Nat.le_of_ble_eq_true rfl) (fun p e s m args below meth c Q H0 X hX C hret => by subst hX; exact w_M_setCapacity C ⟨rfl, rfl, rfl⟩ hret _ _ _ h)
abbrev rmM_lowerEnd : Room := { frames := 1, cells := 0, slots := 0, locals := 22 }
def M_lowerEnd_J35 (v2 : Int32) (v3 : Int32) (q : St) : Option (Int32) :=
  b1 (M_isIn q v3) fun x5 =>
  if x5 = (0 : Int32) then
    some (-2 : Int32)
  else
    b1 (M_up q v3) fun x7 =>
    if x7 = v2 then
      some v3
    else
      some (-2 : Int32)
theorem w_M_lowerEnd_J35 {X : Cv} (C : Cx X cX11_lowerEnd RX11 rmM_lowerEnd 4) (S : IsM X) {q : St} {z : Int32} (hret : RokI X cX11_lowerEnd .int z q) (v2 : Int32) (v3 : Int32) (h : M_lowerEnd_J35 v2 v3 q = some z) : At X 35 [(0, .ref (adOf X 0)), (2, .int v2), (3, .int v3)] [] q := by
  unfold M_lowerEnd_J35 at h
  refine a_aload_n C 0 rfl rfl dX11_lowerEnd_35 ?_
  refine a_iload_n C 2 rfl rfl dX11_lowerEnd_36 ?_
  obtain ⟨x5, e_x5, h⟩ := b1s h
  refine k_M_isIn C S e_x5 ⟨Nat.le_of_ble_eq_true rfl, Nat.le_of_ble_eq_true rfl⟩ (Nat.le_of_ble_eq_true rfl) dX11_lowerEnd_37 ?_
  refine a_if_eq C 56 (by decide) dX11_lowerEnd_40 (fun c6 => ?_) (fun c6 => ?_)
  · replace h := ifp c6 h
    refine a_bipush (v := -2) C (by decide) dX11_lowerEnd_56 ?_
    exact a_iretR hret h rfl dX11_lowerEnd_58
  · replace h := ifn c6 h
    refine a_aload_n C 0 rfl rfl dX11_lowerEnd_43 ?_
    refine a_iload_n C 2 rfl rfl dX11_lowerEnd_44 ?_
    obtain ⟨x7, e_x7, h⟩ := b1s h
    refine k_M_up C S e_x7 ⟨Nat.le_of_ble_eq_true rfl, Nat.le_of_ble_eq_true rfl⟩ (Nat.le_of_ble_eq_true rfl) dX11_lowerEnd_45 ?_
    refine a_iload_n C 1 rfl rfl dX11_lowerEnd_48 ?_
    refine a_icmp_ne C 56 (by decide) dX11_lowerEnd_49 (fun c8 => ?_) (fun c8 => ?_)
    · replace h := ifn c8 h
      refine a_bipush (v := -2) C (by decide) dX11_lowerEnd_56 ?_
      exact a_iretR hret h rfl dX11_lowerEnd_58
    · replace h := ifp c8 h
      refine a_iload_n C 2 rfl rfl dX11_lowerEnd_52 ?_
      refine a_goto C 58 (by decide) dX11_lowerEnd_53 ?_
      exact a_iretR hret h rfl dX11_lowerEnd_58
def M_lowerEnd (q : St) (v1 : Int32) : Option (Int32) :=
  b1 (M_end q v1 (0 : Int32)) fun x1 =>
  b1 (M_end q v1 (1 : Int32)) fun x2 =>
  b1 (M_isIn q x1) fun x3 =>
  if x3 = (0 : Int32) then
    M_lowerEnd_J35 x1 x2 q
  else
    b1 (M_up q x1) fun x9 =>
    if x9 = x2 then
      some x1
    else
      M_lowerEnd_J35 x1 x2 q
theorem w_M_lowerEnd {X : Cv} (C : Cx X cX11_lowerEnd RX11 rmM_lowerEnd 4) (S : IsM X) {q : St} {z : Int32} (hret : RokI X cX11_lowerEnd .int z q) (v1 : Int32) (h : M_lowerEnd q v1 = some z) : At X 0 [(0, .ref (adOf X 0)), (1, .int v1)] [] q := by
  unfold M_lowerEnd at h
  refine a_aload_n C 0 rfl rfl dX11_lowerEnd_0 ?_
  refine a_iload_n C 1 rfl rfl dX11_lowerEnd_1 ?_
  refine a_iconst (v := 0) C (by decide) dX11_lowerEnd_2 ?_
  obtain ⟨x1, e_x1, h⟩ := b1s h
  refine k_M_end C S e_x1 ⟨Nat.le_of_ble_eq_true rfl, Nat.le_of_ble_eq_true rfl⟩ (Nat.le_of_ble_eq_true rfl) dX11_lowerEnd_3 ?_
  refine a_istore_n C [(2, .int x1), (0, .ref (adOf X 0)), (1, .int v1)] rfl (by decide) rfl dX11_lowerEnd_6 ?_
  refine a_aload_n C 1 rfl rfl dX11_lowerEnd_7 ?_
  refine a_iload_n C 2 rfl rfl dX11_lowerEnd_8 ?_
  refine a_iconst (v := 1) C (by decide) dX11_lowerEnd_9 ?_
  obtain ⟨x2, e_x2, h⟩ := b1s h
  refine k_M_end C S e_x2 ⟨Nat.le_of_ble_eq_true rfl, Nat.le_of_ble_eq_true rfl⟩ (Nat.le_of_ble_eq_true rfl) dX11_lowerEnd_10 ?_
  refine a_istore_n C [(3, .int x2), (2, .int x1), (0, .ref (adOf X 0)), (1, .int v1)] rfl (by decide) rfl dX11_lowerEnd_13 ?_
  refine a_aload_n C 2 rfl rfl dX11_lowerEnd_14 ?_
  refine a_iload_n C 1 rfl rfl dX11_lowerEnd_15 ?_
  obtain ⟨x3, e_x3, h⟩ := b1s h
  refine k_M_isIn C S e_x3 ⟨Nat.le_of_ble_eq_true rfl, Nat.le_of_ble_eq_true rfl⟩ (Nat.le_of_ble_eq_true rfl) dX11_lowerEnd_16 ?_
  refine a_if_eq C 35 (by decide) dX11_lowerEnd_19 (fun c4 => ?_) (fun c4 => ?_)
  · replace h := ifp c4 h
    exact At.sub [2, 1, 0] rfl (w_M_lowerEnd_J35 C S hret _ _ h)
  · replace h := ifn c4 h
    refine a_aload_n C 2 rfl rfl dX11_lowerEnd_22 ?_
    refine a_iload_n C 1 rfl rfl dX11_lowerEnd_23 ?_
    obtain ⟨x9, e_x9, h⟩ := b1s h
    refine k_M_up C S e_x9 ⟨Nat.le_of_ble_eq_true rfl, Nat.le_of_ble_eq_true rfl⟩ (Nat.le_of_ble_eq_true rfl) dX11_lowerEnd_24 ?_
    refine a_iload_n C 0 rfl rfl dX11_lowerEnd_27 ?_
    refine a_icmp_ne C 35 (by decide) dX11_lowerEnd_28 (fun c10 => ?_) (fun c10 => ?_)
    · replace h := ifn c10 h
      exact At.sub [2, 1, 0] rfl (w_M_lowerEnd_J35 C S hret _ _ h)
    · replace h := ifp c10 h
      refine a_iload_n C 1 rfl rfl dX11_lowerEnd_31 ?_
      refine a_goto C 58 (by decide) dX11_lowerEnd_32 ?_
      exact a_iretR hret h rfl dX11_lowerEnd_58
theorem c_M_lowerEnd {l : Launch} {D : va_G} {I : ClassId × ClassId × ClassId × ClassId} {ad : Nat → Nat} {q : St} {v1 : Int32} {z : Int32} (h : M_lowerEnd q v1 = some z) : Ctr l D I zT 18 (shM I) ad yX11_lowerEnd cX11_lowerEnd 4 (some .int) rmM_lowerEnd [.ref (ad 0), .int v1] q (some z) q :=
  ctr_ofI (by decide) (Nat.le_of_ble_eq_true rfl) (fun p e s m args below meth c Q H0 X hX C hret => by subst hX; exact w_M_lowerEnd C ⟨rfl, rfl, rfl⟩ hret _ h)
theorem g_M_lowerEnd : GoodIn lw_tg (wsV RX11 308 RX11 yX11_lowerEnd (Cond.code yX11_lowerEnd cX11_lowerEnd 4 (some .int) :: lw_tg)) := gd_V (tg 1603 (by decide +kernel) rfl) (tg 1605 (by decide +kernel) rfl) (tg 103 (by decide +kernel) rfl) (tg 128 (by decide +kernel) rfl) (tg 1606 (by decide +kernel) rfl)
theorem k_M_lowerEnd {X : Cv} {cc : ByteArray} {rm : Room} {nL1 pc : Nat} {lv : List (Nat × Value)} {sk : List Value} {q : St} {v1 : Int32} {z : Int32} (C : Cx X cc RX11 rm nL1) (S : IsM X) (h : M_lowerEnd q v1 = some z) (hz : rmM_lowerEnd.frames + 1 ≤ rm.frames ∧ 8 + (4 + 11) + rmM_lowerEnd.locals ≤ rm.locals) (hr : (sk.map fun v => v.category).sum ≤ 8) (hd : decode cc pc = .ok (.invokevirtual 308, 3)) (k : At X (pc + 3) lv (.int z :: sk) q) : At X pc lv (.int v1 :: .ref (adOf X 0) :: sk) q := a_callVi (as := [.int v1]) C (kp := 0) (by rw [S.1]; decide) (by rw [S.2.1]; rfl) rfl (by have hh := c_M_lowerEnd (l := X.2.1) (D := dOf X) (I := idOf X) (ad := adOf X) h; rw [← S.1, ← S.2.1, ← S.2.2] at hh; exact hh) g_M_lowerEnd ⟨rfl, rfl, hz.1, hz.2⟩ ⟨by decide, by decide, by show Option.map _ (parseMethodDescriptor yX11_lowerEnd.desc) = some 1; decide⟩ hr rfl hd k
abbrev rmM_isBelow : Room := { frames := 1, cells := 0, slots := 0, locals := 21 }
def M_isBelow_B2 (q : St) (k : Int32 → Int32 → Option (Int32)) (rec : Int32 → Int32 → Option (Int32)) (v2 : Int32) (v3 : Int32) : Option (Int32) :=
  if v3 = (0 : Int32) then
    k v2 v3
  else
    if v3 = v2 then
      k v2 v3
    else
      b1 (M_up q v3) fun x3 =>
      rec v2 x3
theorem w_M_isBelow_B2 {X : Cv} (C : Cx X cX11_isBelow RX11 rmM_isBelow 4) (S : IsM X) (q : St) {z : Int32} (hret : RokI X cX11_isBelow .boolean z q) (k : Int32 → Int32 → Option (Int32)) (hk : ∀ (v2 : Int32) (v3 : Int32), k v2 v3 = some z → At X 20 [(0, .ref (adOf X 0)), (2, .int v2), (3, .int v3)] [] q) (rec : Int32 → Int32 → Option (Int32)) (hrec : ∀ (v2 : Int32) (v3 : Int32), rec v2 v3 = some z → At X 2 [(0, .ref (adOf X 0)), (2, .int v2), (3, .int v3)] [] q) (v2 : Int32) (v3 : Int32) (h : M_isBelow_B2 q k rec v2 v3 = some z) : At X 2 [(0, .ref (adOf X 0)), (2, .int v2), (3, .int v3)] [] q := by
  unfold M_isBelow_B2 at h
  refine a_iload_n C 2 rfl rfl dX11_isBelow_2 ?_
  refine a_if_eq C 20 (by decide) dX11_isBelow_3 (fun c1 => ?_) (fun c1 => ?_)
  · replace h := ifp c1 h
    exact At.sub [0, 1, 2] rfl (hk _ _ h)
  · replace h := ifn c1 h
    refine a_iload_n C 2 rfl rfl dX11_isBelow_6 ?_
    refine a_iload_n C 1 rfl rfl dX11_isBelow_7 ?_
    refine a_icmp_eq C 20 (by decide) dX11_isBelow_8 (fun c2 => ?_) (fun c2 => ?_)
    · replace h := ifp c2 h
      exact At.sub [0, 1, 2] rfl (hk _ _ h)
    · replace h := ifn c2 h
      refine a_aload_n C 0 rfl rfl dX11_isBelow_11 ?_
      refine a_iload_n C 2 rfl rfl dX11_isBelow_12 ?_
      obtain ⟨x3, e_x3, h⟩ := b1s h
      refine k_M_up C S e_x3 ⟨Nat.le_of_ble_eq_true rfl, Nat.le_of_ble_eq_true rfl⟩ (Nat.le_of_ble_eq_true rfl) dX11_isBelow_13 ?_
      refine a_istore_n C [(3, .int x3), (0, .ref (adOf X 0)), (2, .int v2)] rfl (by decide) rfl dX11_isBelow_16 ?_
      refine a_goto C 2 (by decide) dX11_isBelow_17 ?_
      exact At.sub [1, 2, 0] rfl (hrec _ _ h)
def M_isBelow_L2 (q : St) (k : Int32 → Int32 → Option (Int32)) : Nat → Int32 → Int32 → Option (Int32)
  | 0, _, _ => none
  | n + 1, v2, v3 => M_isBelow_B2 q k (M_isBelow_L2 q k n) v2 v3
theorem w_M_isBelow_L2 {X : Cv} (C : Cx X cX11_isBelow RX11 rmM_isBelow 4) (S : IsM X) (q : St) {z : Int32} (hret : RokI X cX11_isBelow .boolean z q) (k : Int32 → Int32 → Option (Int32)) (hk : ∀ (v2 : Int32) (v3 : Int32), k v2 v3 = some z → At X 20 [(0, .ref (adOf X 0)), (2, .int v2), (3, .int v3)] [] q) (n : Nat) : ∀ (v2 : Int32) (v3 : Int32), M_isBelow_L2 q k n v2 v3 = some z → At X 2 [(0, .ref (adOf X 0)), (2, .int v2), (3, .int v3)] [] q := by
  induction n with
  | zero => intro v2 v3 h; cases h
  | succ n ih => intro v2 v3 h; exact w_M_isBelow_B2 C S _ hret k hk _ ih v2 v3 h
def M_isBelow_J20 (v2 : Int32) (v3 : Int32) (q : St) : Option (Int32) :=
  if v3 = v2 then
    some (1 : Int32)
  else
    some (0 : Int32)
theorem w_M_isBelow_J20 {X : Cv} (C : Cx X cX11_isBelow RX11 rmM_isBelow 4) (S : IsM X) {q : St} {z : Int32} (hret : RokI X cX11_isBelow .boolean z q) (v2 : Int32) (v3 : Int32) (h : M_isBelow_J20 v2 v3 q = some z) : At X 20 [(0, .ref (adOf X 0)), (2, .int v2), (3, .int v3)] [] q := by
  unfold M_isBelow_J20 at h
  refine a_iload_n C 2 rfl rfl dX11_isBelow_20 ?_
  refine a_iload_n C 1 rfl rfl dX11_isBelow_21 ?_
  refine a_icmp_ne C 29 (by decide) dX11_isBelow_22 (fun c6 => ?_) (fun c6 => ?_)
  · replace h := ifn c6 h
    refine a_iconst (v := 0) C (by decide) dX11_isBelow_29 ?_
    exact a_iretR hret h rfl dX11_isBelow_30
  · replace h := ifp c6 h
    refine a_iconst (v := 1) C (by decide) dX11_isBelow_25 ?_
    refine a_goto C 30 (by decide) dX11_isBelow_26 ?_
    exact a_iretR hret h rfl dX11_isBelow_30
def M_isBelow (q : St) (v1 : Int32) (v2 : Int32) : Option (Int32) :=
  M_isBelow_L2 q (fun y4 y5 =>
    M_isBelow_J20 y4 y5 q
    ) FU v2 v1
theorem w_M_isBelow {X : Cv} (C : Cx X cX11_isBelow RX11 rmM_isBelow 4) (S : IsM X) {q : St} {z : Int32} (hret : RokI X cX11_isBelow .boolean z q) (v1 : Int32) (v2 : Int32) (h : M_isBelow q v1 v2 = some z) : At X 0 [(0, .ref (adOf X 0)), (1, .int v1), (2, .int v2)] [] q := by
  unfold M_isBelow at h
  refine a_iload_n C 1 rfl rfl dX11_isBelow_0 ?_
  refine a_istore_n C [(3, .int v1), (0, .ref (adOf X 0)), (1, .int v1), (2, .int v2)] rfl (by decide) rfl dX11_isBelow_1 ?_
  refine At.sub [1, 3, 0] rfl (w_M_isBelow_L2 C S _ hret _ ?_ _ _ _ h)
  intro y4 y5 h
  exact At.sub [0, 1, 2] rfl (w_M_isBelow_J20 C S hret _ _ h)
theorem c_M_isBelow {l : Launch} {D : va_G} {I : ClassId × ClassId × ClassId × ClassId} {ad : Nat → Nat} {q : St} {v1 : Int32} {v2 : Int32} {z : Int32} (h : M_isBelow q v1 v2 = some z) : Ctr l D I zT 18 (shM I) ad yX11_isBelow cX11_isBelow 4 (some .boolean) rmM_isBelow [.ref (ad 0), .int v1, .int v2] q (some z) q :=
  ctr_ofI (by decide) (Nat.le_of_ble_eq_true rfl) (fun p e s m args below meth c Q H0 X hX C hret => by subst hX; exact w_M_isBelow C ⟨rfl, rfl, rfl⟩ hret _ _ h)
theorem g_M_isBelow : GoodIn lw_tg (wsV RX11 311 RX11 yX11_isBelow (Cond.code yX11_isBelow cX11_isBelow 4 (some .boolean) :: lw_tg)) := gd_V (tg 1607 (by decide +kernel) rfl) (tg 1609 (by decide +kernel) rfl) (tg 104 (by decide +kernel) rfl) (tg 128 (by decide +kernel) rfl) (tg 1610 (by decide +kernel) rfl)
theorem k_M_isBelow {X : Cv} {cc : ByteArray} {rm : Room} {nL1 pc : Nat} {lv : List (Nat × Value)} {sk : List Value} {q : St} {v1 : Int32} {v2 : Int32} {z : Int32} (C : Cx X cc RX11 rm nL1) (S : IsM X) (h : M_isBelow q v1 v2 = some z) (hz : rmM_isBelow.frames + 1 ≤ rm.frames ∧ 8 + (4 + 11) + rmM_isBelow.locals ≤ rm.locals) (hr : (sk.map fun v => v.category).sum ≤ 8) (hd : decode cc pc = .ok (.invokevirtual 311, 3)) (k : At X (pc + 3) lv (.int z :: sk) q) : At X pc lv (.int v2 :: .int v1 :: .ref (adOf X 0) :: sk) q := a_callVi (as := [.int v1, .int v2]) C (kp := 0) (by rw [S.1]; decide) (by rw [S.2.1]; rfl) rfl (by have hh := c_M_isBelow (l := X.2.1) (D := dOf X) (I := idOf X) (ad := adOf X) h; rw [← S.1, ← S.2.1, ← S.2.2] at hh; exact hh) g_M_isBelow ⟨rfl, rfl, hz.1, hz.2⟩ ⟨by decide, by decide, by show Option.map _ (parseMethodDescriptor yX11_isBelow.desc) = some 2; decide⟩ hr rfl hd k
abbrev rmM_closes : Room := { frames := 7, cells := 0, slots := 0, locals := 159 }
def M_closes_B23 (k : St → Option (St)) (rec : Int32 → Int32 → St → Option (St)) (v2 : Int32) (v3 : Int32) (q : St) : Option (St) :=
  b1 (rd 172 q 2 (0 : Int32)) fun x4 =>
  if x4 ≤ v3 then
    k  q
  else
    b1 (M_isIn q v3) fun x6 =>
    if x6 = (0 : Int32) then
      b1 (wr 16 q 15 v3 (vp_nar .boolean (0 : Int32))) fun q8 =>
      rec v2 (v3 + 1) q8
    else
      b1 (M_isBelow q v3 v2) fun x9 =>
      if x9 = (0 : Int32) then
        b1 (wr 16 q 15 v3 (vp_nar .boolean (0 : Int32))) fun q11 =>
        rec v2 (v3 + 1) q11
      else
        b1 (wr 16 q 15 v3 (vp_nar .boolean (1 : Int32))) fun q12 =>
        rec v2 (v3 + 1) q12
theorem w_M_closes_B23 {X : Cv} (C : Cx X cX11_closes RX11 rmM_closes 4) (S : IsM X) {z : St} (hret : RokV X cX11_closes z) (k : St → Option (St)) (hk : ∀ (q : St), k q = some z → At X 67 [(0, .ref (adOf X 0))] [] q) (rec : Int32 → Int32 → St → Option (St)) (hrec : ∀ (v2 : Int32) (v3 : Int32) (q : St), rec v2 v3 q = some z → At X 23 [(0, .ref (adOf X 0)), (2, .int v2), (3, .int v3)] [] q) (v2 : Int32) (v3 : Int32) (q : St) (h : M_closes_B23 k rec v2 v3 q = some z) : At X 23 [(0, .ref (adOf X 0)), (2, .int v2), (3, .int v3)] [] q := by
  unfold M_closes_B23 at h
  refine a_iload_n C 2 rfl rfl dX11_closes_23 ?_
  refine a_aload_n C 0 rfl rfl dX11_closes_24 ?_
  refine gM_setup C S dX11_closes_25 ?_
  refine a_iconst (v := 0) C (by decide) dX11_closes_28 ?_
  obtain ⟨x4, e_x4, h⟩ := b1s h
  refine lM_setup C S e_x4 dX11_closes_29 ?_
  refine a_icmp_ge C 67 (by decide) dX11_closes_30 (fun c5 => ?_) (fun c5 => ?_)
  · replace h := ifp c5 h
    exact At.sub [0] rfl (hk  _ h)
  · replace h := ifn c5 h
    refine a_aload_n C 0 rfl rfl dX11_closes_33 ?_
    refine gM_falls C S dX11_closes_34 ?_
    refine a_iload_n C 2 rfl rfl dX11_closes_37 ?_
    refine a_aload_n C 0 rfl rfl dX11_closes_38 ?_
    refine a_iload_n C 2 rfl rfl dX11_closes_39 ?_
    obtain ⟨x6, e_x6, h⟩ := b1s h
    refine k_M_isIn C S e_x6 ⟨Nat.le_of_ble_eq_true rfl, Nat.le_of_ble_eq_true rfl⟩ (Nat.le_of_ble_eq_true rfl) dX11_closes_40 ?_
    refine a_if_eq C 59 (by decide) dX11_closes_43 (fun c7 => ?_) (fun c7 => ?_)
    · replace h := ifp c7 h
      refine a_iconst (v := 0) C (by decide) dX11_closes_59 ?_
      obtain ⟨q8, e_q8, h⟩ := b1s h
      refine sM_falls C S e_q8 dX11_closes_60 ?_
      refine a_iinc (v := (v3 + 1)) C [(3, .int (v3 + 1)), (0, .ref (adOf X 0)), (2, .int v2)] 2 rfl (congrArg (HAdd.hAdd v3) (by decide : Int32.ofInt (1) = (1 : Int32))) (by decide) rfl dX11_closes_61 ?_
      refine a_goto C 23 (by decide) dX11_closes_64 ?_
      exact At.sub [1, 2, 0] rfl (hrec _ _ _ h)
    · replace h := ifn c7 h
      refine a_aload_n C 0 rfl rfl dX11_closes_46 ?_
      refine a_iload_n C 2 rfl rfl dX11_closes_47 ?_
      refine a_iload_n C 1 rfl rfl dX11_closes_48 ?_
      obtain ⟨x9, e_x9, h⟩ := b1s h
      refine k_M_isBelow C S e_x9 ⟨Nat.le_of_ble_eq_true rfl, Nat.le_of_ble_eq_true rfl⟩ (Nat.le_of_ble_eq_true rfl) dX11_closes_49 ?_
      refine a_if_eq C 59 (by decide) dX11_closes_52 (fun c10 => ?_) (fun c10 => ?_)
      · replace h := ifp c10 h
        refine a_iconst (v := 0) C (by decide) dX11_closes_59 ?_
        obtain ⟨q11, e_q11, h⟩ := b1s h
        refine sM_falls C S e_q11 dX11_closes_60 ?_
        refine a_iinc (v := (v3 + 1)) C [(3, .int (v3 + 1)), (0, .ref (adOf X 0)), (2, .int v2)] 2 rfl (congrArg (HAdd.hAdd v3) (by decide : Int32.ofInt (1) = (1 : Int32))) (by decide) rfl dX11_closes_61 ?_
        refine a_goto C 23 (by decide) dX11_closes_64 ?_
        exact At.sub [1, 2, 0] rfl (hrec _ _ _ h)
      · replace h := ifn c10 h
        refine a_iconst (v := 1) C (by decide) dX11_closes_55 ?_
        refine a_goto C 60 (by decide) dX11_closes_56 ?_
        obtain ⟨q12, e_q12, h⟩ := b1s h
        refine sM_falls C S e_q12 dX11_closes_60 ?_
        refine a_iinc (v := (v3 + 1)) C [(3, .int (v3 + 1)), (0, .ref (adOf X 0)), (2, .int v2)] 2 rfl (congrArg (HAdd.hAdd v3) (by decide : Int32.ofInt (1) = (1 : Int32))) (by decide) rfl dX11_closes_61 ?_
        refine a_goto C 23 (by decide) dX11_closes_64 ?_
        exact At.sub [1, 2, 0] rfl (hrec _ _ _ h)
def M_closes_L23 (k : St → Option (St)) : Nat → Int32 → Int32 → St → Option (St)
  | 0, _, _, _ => none
  | n + 1, v2, v3, q => M_closes_B23 k (M_closes_L23 k n) v2 v3 q
theorem w_M_closes_L23 {X : Cv} (C : Cx X cX11_closes RX11 rmM_closes 4) (S : IsM X) {z : St} (hret : RokV X cX11_closes z) (k : St → Option (St)) (hk : ∀ (q : St), k q = some z → At X 67 [(0, .ref (adOf X 0))] [] q) (n : Nat) : ∀ (v2 : Int32) (v3 : Int32) (q : St), M_closes_L23 k n v2 v3 q = some z → At X 23 [(0, .ref (adOf X 0)), (2, .int v2), (3, .int v3)] [] q := by
  induction n with
  | zero => intro v2 v3 q h; cases h
  | succ n ih => intro v2 v3 q h; exact w_M_closes_B23 C S hret k hk _ ih v2 v3 q h
def M_closes_B69 (k : St → Option (St)) (rec : Int32 → St → Option (St)) (v3 : Int32) (q : St) : Option (St) :=
  b1 (rd 172 q 2 (0 : Int32)) fun x14 =>
  if x14 ≤ v3 then
    k  q
  else
    b1 (rd 16 q 15 v3) fun x16 =>
    if x16 = (0 : Int32) then
      b1 (rd 202 q 4 ((80 : Int32) + v3)) fun x18 =>
      b1 (wr 202 q 4 ((80 : Int32) + v3) x18) fun q19 =>
      rec (v3 + 1) q19
    else
      b1 (wr 202 q 4 ((80 : Int32) + v3) (-1 : Int32)) fun q20 =>
      rec (v3 + 1) q20
theorem w_M_closes_B69 {X : Cv} (C : Cx X cX11_closes RX11 rmM_closes 4) (S : IsM X) {z : St} (hret : RokV X cX11_closes z) (k : St → Option (St)) (hk : ∀ (q : St), k q = some z → At X 116 [(0, .ref (adOf X 0))] [] q) (rec : Int32 → St → Option (St)) (hrec : ∀ (v3 : Int32) (q : St), rec v3 q = some z → At X 69 [(0, .ref (adOf X 0)), (3, .int v3)] [] q) (v3 : Int32) (q : St) (h : M_closes_B69 k rec v3 q = some z) : At X 69 [(0, .ref (adOf X 0)), (3, .int v3)] [] q := by
  unfold M_closes_B69 at h
  refine a_iload_n C 1 rfl rfl dX11_closes_69 ?_
  refine a_aload_n C 0 rfl rfl dX11_closes_70 ?_
  refine gM_setup C S dX11_closes_71 ?_
  refine a_iconst (v := 0) C (by decide) dX11_closes_74 ?_
  obtain ⟨x14, e_x14, h⟩ := b1s h
  refine lM_setup C S e_x14 dX11_closes_75 ?_
  refine a_icmp_ge C 116 (by decide) dX11_closes_76 (fun c15 => ?_) (fun c15 => ?_)
  · replace h := ifp c15 h
    exact At.sub [0] rfl (hk  _ h)
  · replace h := ifn c15 h
    refine a_aload_n C 0 rfl rfl dX11_closes_79 ?_
    refine gM_world C S dX11_closes_80 ?_
    refine a_bipush (v := 80) C (by decide) dX11_closes_83 ?_
    refine a_iload_n C 1 rfl rfl dX11_closes_85 ?_
    refine a_iadd C dX11_closes_86 ?_
    refine a_aload_n C 0 rfl rfl dX11_closes_87 ?_
    refine gM_falls C S dX11_closes_88 ?_
    refine a_iload_n C 1 rfl rfl dX11_closes_91 ?_
    obtain ⟨x16, e_x16, h⟩ := b1s h
    refine lM_falls C S e_x16 dX11_closes_92 ?_
    refine a_if_eq C 100 (by decide) dX11_closes_93 (fun c17 => ?_) (fun c17 => ?_)
    · replace h := ifp c17 h
      refine a_aload_n C 0 rfl rfl dX11_closes_100 ?_
      refine gM_world C S dX11_closes_101 ?_
      refine a_bipush (v := 80) C (by decide) dX11_closes_104 ?_
      refine a_iload_n C 1 rfl rfl dX11_closes_106 ?_
      refine a_iadd C dX11_closes_107 ?_
      obtain ⟨x18, e_x18, h⟩ := b1s h
      refine lM_world C S e_x18 dX11_closes_108 ?_
      obtain ⟨q19, e_q19, h⟩ := b1s h
      refine sM_world C S e_q19 dX11_closes_109 ?_
      refine a_iinc (v := (v3 + 1)) C [(3, .int (v3 + 1)), (0, .ref (adOf X 0))] 1 rfl (congrArg (HAdd.hAdd v3) (by decide : Int32.ofInt (1) = (1 : Int32))) (by decide) rfl dX11_closes_110 ?_
      refine a_goto C 69 (by decide) dX11_closes_113 ?_
      exact At.sub [1, 0] rfl (hrec _ _ h)
    · replace h := ifn c17 h
      refine a_iconst (v := -1) C (by decide) dX11_closes_96 ?_
      refine a_goto C 109 (by decide) dX11_closes_97 ?_
      obtain ⟨q20, e_q20, h⟩ := b1s h
      refine sM_world C S e_q20 dX11_closes_109 ?_
      refine a_iinc (v := (v3 + 1)) C [(3, .int (v3 + 1)), (0, .ref (adOf X 0))] 1 rfl (congrArg (HAdd.hAdd v3) (by decide : Int32.ofInt (1) = (1 : Int32))) (by decide) rfl dX11_closes_110 ?_
      refine a_goto C 69 (by decide) dX11_closes_113 ?_
      exact At.sub [1, 0] rfl (hrec _ _ h)
def M_closes_L69 (k : St → Option (St)) : Nat → Int32 → St → Option (St)
  | 0, _, _ => none
  | n + 1, v3, q => M_closes_B69 k (M_closes_L69 k n) v3 q
theorem w_M_closes_L69 {X : Cv} (C : Cx X cX11_closes RX11 rmM_closes 4) (S : IsM X) {z : St} (hret : RokV X cX11_closes z) (k : St → Option (St)) (hk : ∀ (q : St), k q = some z → At X 116 [(0, .ref (adOf X 0))] [] q) (n : Nat) : ∀ (v3 : Int32) (q : St), M_closes_L69 k n v3 q = some z → At X 69 [(0, .ref (adOf X 0)), (3, .int v3)] [] q := by
  induction n with
  | zero => intro v3 q h; cases h
  | succ n ih => intro v3 q h; exact w_M_closes_B69 C S hret k hk _ ih v3 q h
def M_closes_J185 (k : St → Option (St)) (rec : Int32 → St → Option (St)) (v3 : Int32) (z0 : Int32) (z1 : Int32) (z2 : Int32) (q : St) : Option (St) :=
  b1 (M_set q z2 z1 z0) fun q30 =>
  rec (v3 + 1) q30
theorem w_M_closes_J185 {X : Cv} (C : Cx X cX11_closes RX11 rmM_closes 4) (S : IsM X) {z : St} (hret : RokV X cX11_closes z) (k : St → Option (St)) (hk : ∀ (q : St), k q = some z → At X 194 [(0, .ref (adOf X 0))] [] q) (rec : Int32 → St → Option (St)) (hrec : ∀ (v3 : Int32) (q : St), rec v3 q = some z → At X 118 [(0, .ref (adOf X 0)), (3, .int v3)] [] q) (v3 : Int32) (z0 : Int32) (z1 : Int32) (z2 : Int32) (q : St) (h : M_closes_J185 k rec v3 z0 z1 z2 q = some z) : At X 185 [(0, .ref (adOf X 0)), (3, .int v3)] [.int z0, .int z1, .int z2, .ref (adOf X 0)] q := by
  unfold M_closes_J185 at h
  obtain ⟨q30, e_q30, h⟩ := b1s h
  refine k_M_set C S e_q30 ⟨Nat.le_of_ble_eq_true rfl, Nat.le_of_ble_eq_true rfl⟩ (Nat.le_of_ble_eq_true rfl) dX11_closes_185 ?_
  refine a_iinc (v := (v3 + 1)) C [(3, .int (v3 + 1)), (0, .ref (adOf X 0))] 1 rfl (congrArg (HAdd.hAdd v3) (by decide : Int32.ofInt (1) = (1 : Int32))) (by decide) rfl dX11_closes_188 ?_
  refine a_goto C 118 (by decide) dX11_closes_191 ?_
  exact At.sub [1, 0] rfl (hrec _ _ h)
def M_closes_J162 (k : St → Option (St)) (rec : Int32 → St → Option (St)) (v3 : Int32) (z0 : Int32) (z1 : Int32) (q : St) : Option (St) :=
  b1 (wr 20 q 16 z1 (vp_nar .boolean z0)) fun q26 =>
  b1 (rd 20 q26 16 v3) fun x27 =>
  if x27 = (0 : Int32) then
    b1 (M_of q26 v3 (3 : Int32)) fun x29 =>
    M_closes_J185 k rec v3 x29 (3 : Int32) v3 q26
  else
    M_closes_J185 k rec v3 (0 : Int32) (3 : Int32) v3 q26
theorem w_M_closes_J162 {X : Cv} (C : Cx X cX11_closes RX11 rmM_closes 4) (S : IsM X) {z : St} (hret : RokV X cX11_closes z) (k : St → Option (St)) (hk : ∀ (q : St), k q = some z → At X 194 [(0, .ref (adOf X 0))] [] q) (rec : Int32 → St → Option (St)) (hrec : ∀ (v3 : Int32) (q : St), rec v3 q = some z → At X 118 [(0, .ref (adOf X 0)), (3, .int v3)] [] q) (v3 : Int32) (z0 : Int32) (z1 : Int32) (q : St) (h : M_closes_J162 k rec v3 z0 z1 q = some z) : At X 162 [(0, .ref (adOf X 0)), (3, .int v3)] [.int z0, .int z1, .ref (adOf X 16)] q := by
  unfold M_closes_J162 at h
  obtain ⟨q26, e_q26, h⟩ := b1s h
  refine sM_again C S e_q26 dX11_closes_162 ?_
  refine a_aload_n C 0 rfl rfl dX11_closes_163 ?_
  refine a_iload_n C 1 rfl rfl dX11_closes_164 ?_
  refine a_iconst (v := 3) C (by decide) dX11_closes_165 ?_
  refine a_aload_n C 0 rfl rfl dX11_closes_166 ?_
  refine gM_again C S dX11_closes_167 ?_
  refine a_iload_n C 1 rfl rfl dX11_closes_170 ?_
  obtain ⟨x27, e_x27, h⟩ := b1s h
  refine lM_again C S e_x27 dX11_closes_171 ?_
  refine a_if_eq C 179 (by decide) dX11_closes_172 (fun c28 => ?_) (fun c28 => ?_)
  · replace h := ifp c28 h
    refine a_aload_n C 0 rfl rfl dX11_closes_179 ?_
    refine a_iload_n C 1 rfl rfl dX11_closes_180 ?_
    refine a_iconst (v := 3) C (by decide) dX11_closes_181 ?_
    obtain ⟨x29, e_x29, h⟩ := b1s h
    refine k_M_of C S e_x29 ⟨Nat.le_of_ble_eq_true rfl, Nat.le_of_ble_eq_true rfl⟩ (Nat.le_of_ble_eq_true rfl) dX11_closes_182 ?_
    exact At.sub [0, 1] rfl (w_M_closes_J185 C S hret _ hk _ hrec _ _ _ _ _ h)
  · replace h := ifn c28 h
    refine a_iconst (v := 0) C (by decide) dX11_closes_175 ?_
    refine a_goto C 185 (by decide) dX11_closes_176 ?_
    exact At.sub [0, 1] rfl (w_M_closes_J185 C S hret _ hk _ hrec _ _ _ _ _ h)
def M_closes_J161 (k : St → Option (St)) (rec : Int32 → St → Option (St)) (v3 : Int32) (z0 : Int32) (q : St) : Option (St) :=
  M_closes_J162 k rec v3 (0 : Int32) z0 q
theorem w_M_closes_J161 {X : Cv} (C : Cx X cX11_closes RX11 rmM_closes 4) (S : IsM X) {z : St} (hret : RokV X cX11_closes z) (k : St → Option (St)) (hk : ∀ (q : St), k q = some z → At X 194 [(0, .ref (adOf X 0))] [] q) (rec : Int32 → St → Option (St)) (hrec : ∀ (v3 : Int32) (q : St), rec v3 q = some z → At X 118 [(0, .ref (adOf X 0)), (3, .int v3)] [] q) (v3 : Int32) (z0 : Int32) (q : St) (h : M_closes_J161 k rec v3 z0 q = some z) : At X 161 [(0, .ref (adOf X 0)), (3, .int v3)] [.int z0, .ref (adOf X 16)] q := by
  unfold M_closes_J161 at h
  refine a_iconst (v := 0) C (by decide) dX11_closes_161 ?_
  exact At.sub [0, 1] rfl (w_M_closes_J162 C S hret _ hk _ hrec _ _ _ _ h)
def M_closes_B118 (k : St → Option (St)) (rec : Int32 → St → Option (St)) (v3 : Int32) (q : St) : Option (St) :=
  b1 (rd 202 q 4 (96 : Int32)) fun x22 =>
  if x22 ≤ v3 then
    k  q
  else
    b1 (M_of q v3 (3 : Int32)) fun x24 =>
    if x24 ≤ (0 : Int32) then
      M_closes_J161 k rec v3 v3 q
    else
      b1 (M_of q v3 (0 : Int32)) fun x31 =>
      b1 (rd 16 q 15 x31) fun x32 =>
      if x32 = (0 : Int32) then
        M_closes_J161 k rec v3 v3 q
      else
        M_closes_J162 k rec v3 (1 : Int32) v3 q
theorem w_M_closes_B118 {X : Cv} (C : Cx X cX11_closes RX11 rmM_closes 4) (S : IsM X) {z : St} (hret : RokV X cX11_closes z) (k : St → Option (St)) (hk : ∀ (q : St), k q = some z → At X 194 [(0, .ref (adOf X 0))] [] q) (rec : Int32 → St → Option (St)) (hrec : ∀ (v3 : Int32) (q : St), rec v3 q = some z → At X 118 [(0, .ref (adOf X 0)), (3, .int v3)] [] q) (v3 : Int32) (q : St) (h : M_closes_B118 k rec v3 q = some z) : At X 118 [(0, .ref (adOf X 0)), (3, .int v3)] [] q := by
  unfold M_closes_B118 at h
  refine a_iload_n C 1 rfl rfl dX11_closes_118 ?_
  refine a_aload_n C 0 rfl rfl dX11_closes_119 ?_
  refine gM_world C S dX11_closes_120 ?_
  refine a_bipush (v := 96) C (by decide) dX11_closes_123 ?_
  obtain ⟨x22, e_x22, h⟩ := b1s h
  refine lM_world C S e_x22 dX11_closes_125 ?_
  refine a_icmp_ge C 194 (by decide) dX11_closes_126 (fun c23 => ?_) (fun c23 => ?_)
  · replace h := ifp c23 h
    exact At.sub [0] rfl (hk  _ h)
  · replace h := ifn c23 h
    refine a_aload_n C 0 rfl rfl dX11_closes_129 ?_
    refine gM_again C S dX11_closes_130 ?_
    refine a_iload_n C 1 rfl rfl dX11_closes_133 ?_
    refine a_aload_n C 0 rfl rfl dX11_closes_134 ?_
    refine a_iload_n C 1 rfl rfl dX11_closes_135 ?_
    refine a_iconst (v := 3) C (by decide) dX11_closes_136 ?_
    obtain ⟨x24, e_x24, h⟩ := b1s h
    refine k_M_of C S e_x24 ⟨Nat.le_of_ble_eq_true rfl, Nat.le_of_ble_eq_true rfl⟩ (Nat.le_of_ble_eq_true rfl) dX11_closes_137 ?_
    refine a_if_le C 161 (by decide) dX11_closes_140 (fun c25 => ?_) (fun c25 => ?_)
    · replace h := ifp c25 h
      exact At.sub [0, 1] rfl (w_M_closes_J161 C S hret _ hk _ hrec _ _ _ h)
    · replace h := ifn c25 h
      refine a_aload_n C 0 rfl rfl dX11_closes_143 ?_
      refine gM_falls C S dX11_closes_144 ?_
      refine a_aload_n C 0 rfl rfl dX11_closes_147 ?_
      refine a_iload_n C 1 rfl rfl dX11_closes_148 ?_
      refine a_iconst (v := 0) C (by decide) dX11_closes_149 ?_
      obtain ⟨x31, e_x31, h⟩ := b1s h
      refine k_M_of C S e_x31 ⟨Nat.le_of_ble_eq_true rfl, Nat.le_of_ble_eq_true rfl⟩ (Nat.le_of_ble_eq_true rfl) dX11_closes_150 ?_
      obtain ⟨x32, e_x32, h⟩ := b1s h
      refine lM_falls C S e_x32 dX11_closes_153 ?_
      refine a_if_eq C 161 (by decide) dX11_closes_154 (fun c33 => ?_) (fun c33 => ?_)
      · replace h := ifp c33 h
        exact At.sub [0, 1] rfl (w_M_closes_J161 C S hret _ hk _ hrec _ _ _ h)
      · replace h := ifn c33 h
        refine a_iconst (v := 1) C (by decide) dX11_closes_157 ?_
        refine a_goto C 162 (by decide) dX11_closes_158 ?_
        exact At.sub [0, 1] rfl (w_M_closes_J162 C S hret _ hk _ hrec _ _ _ _ h)
def M_closes_L118 (k : St → Option (St)) : Nat → Int32 → St → Option (St)
  | 0, _, _ => none
  | n + 1, v3, q => M_closes_B118 k (M_closes_L118 k n) v3 q
theorem w_M_closes_L118 {X : Cv} (C : Cx X cX11_closes RX11 rmM_closes 4) (S : IsM X) {z : St} (hret : RokV X cX11_closes z) (k : St → Option (St)) (hk : ∀ (q : St), k q = some z → At X 194 [(0, .ref (adOf X 0))] [] q) (n : Nat) : ∀ (v3 : Int32) (q : St), M_closes_L118 k n v3 q = some z → At X 118 [(0, .ref (adOf X 0)), (3, .int v3)] [] q := by
  induction n with
  | zero => intro v3 q h; cases h
  | succ n ih => intro v3 q h; exact w_M_closes_B118 C S hret k hk _ ih v3 q h
def M_closes_B200 (rec : Int32 → St → Option (St)) (v3 : Int32) (q : St) : Option (St) :=
  b1 (rd 202 q 4 (96 : Int32)) fun x36 =>
  if x36 ≤ v3 then
    some q
  else
    b1 (rd 20 q 16 v3) fun x38 =>
    if x38 = (0 : Int32) then
      rec (v3 + 1) q
    else
      b1 (M_joins q v3) fun q40 =>
      rec (v3 + 1) q40
theorem w_M_closes_B200 {X : Cv} (C : Cx X cX11_closes RX11 rmM_closes 4) (S : IsM X) {z : St} (hret : RokV X cX11_closes z) (rec : Int32 → St → Option (St)) (hrec : ∀ (v3 : Int32) (q : St), rec v3 q = some z → At X 200 [(0, .ref (adOf X 0)), (3, .int v3)] [] q) (v3 : Int32) (q : St) (h : M_closes_B200 rec v3 q = some z) : At X 200 [(0, .ref (adOf X 0)), (3, .int v3)] [] q := by
  unfold M_closes_B200 at h
  refine a_iload_n C 1 rfl rfl dX11_closes_200 ?_
  refine a_aload_n C 0 rfl rfl dX11_closes_201 ?_
  refine gM_world C S dX11_closes_202 ?_
  refine a_bipush (v := 96) C (by decide) dX11_closes_205 ?_
  obtain ⟨x36, e_x36, h⟩ := b1s h
  refine lM_world C S e_x36 dX11_closes_207 ?_
  refine a_icmp_ge C 231 (by decide) dX11_closes_208 (fun c37 => ?_) (fun c37 => ?_)
  · replace h := ifp c37 h
    exact a_vret hret h dX11_closes_231
  · replace h := ifn c37 h
    refine a_aload_n C 0 rfl rfl dX11_closes_211 ?_
    refine gM_again C S dX11_closes_212 ?_
    refine a_iload_n C 1 rfl rfl dX11_closes_215 ?_
    obtain ⟨x38, e_x38, h⟩ := b1s h
    refine lM_again C S e_x38 dX11_closes_216 ?_
    refine a_if_eq C 225 (by decide) dX11_closes_217 (fun c39 => ?_) (fun c39 => ?_)
    · replace h := ifp c39 h
      refine a_iinc (v := (v3 + 1)) C [(3, .int (v3 + 1)), (0, .ref (adOf X 0))] 1 rfl (congrArg (HAdd.hAdd v3) (by decide : Int32.ofInt (1) = (1 : Int32))) (by decide) rfl dX11_closes_225 ?_
      refine a_goto C 200 (by decide) dX11_closes_228 ?_
      exact At.sub [1, 0] rfl (hrec _ _ h)
    · replace h := ifn c39 h
      refine a_aload_n C 0 rfl rfl dX11_closes_220 ?_
      refine a_iload_n C 1 rfl rfl dX11_closes_221 ?_
      obtain ⟨q40, e_q40, h⟩ := b1s h
      refine k_M_joins C S e_q40 ⟨Nat.le_of_ble_eq_true rfl, Nat.le_of_ble_eq_true rfl⟩ (Nat.le_of_ble_eq_true rfl) dX11_closes_222 ?_
      refine a_iinc (v := (v3 + 1)) C [(3, .int (v3 + 1)), (0, .ref (adOf X 0))] 1 rfl (congrArg (HAdd.hAdd v3) (by decide : Int32.ofInt (1) = (1 : Int32))) (by decide) rfl dX11_closes_225 ?_
      refine a_goto C 200 (by decide) dX11_closes_228 ?_
      exact At.sub [1, 0] rfl (hrec _ _ h)
def M_closes_L200 : Nat → Int32 → St → Option (St)
  | 0, _, _ => none
  | n + 1, v3, q => M_closes_B200 (M_closes_L200 n) v3 q
theorem w_M_closes_L200 {X : Cv} (C : Cx X cX11_closes RX11 rmM_closes 4) (S : IsM X) {z : St} (hret : RokV X cX11_closes z) (n : Nat) : ∀ (v3 : Int32) (q : St), M_closes_L200 n v3 q = some z → At X 200 [(0, .ref (adOf X 0)), (3, .int v3)] [] q := by
  induction n with
  | zero => intro v3 q h; cases h
  | succ n ih => intro v3 q h; exact w_M_closes_B200 C S hret _ ih v3 q h
def M_closes (q : St) (v1 : Int32) : Option (St) :=
  b1 (M_lowerEnd q v1) fun x1 =>
  b1 (wr 202 q 4 ((32 : Int32) + v1) (0 : Int32)) fun q2 =>
  if (0 : Int32) ≤ x1 then
    M_closes_L23 (fun q13 =>
      M_closes_L69 (fun q21 =>
        M_closes_L118 (fun q34 =>
          b1 (M_prunes q34) fun q35 =>
          M_closes_L200 FU (0 : Int32) q35
          ) FU (0 : Int32) q21
        ) FU (0 : Int32) q13
      ) FU x1 (0 : Int32) q2
  else
    some q2
theorem w_M_closes {X : Cv} (C : Cx X cX11_closes RX11 rmM_closes 4) (S : IsM X) {z : St} (hret : RokV X cX11_closes z) (v1 : Int32) (q : St) (h : M_closes q v1 = some z) : At X 0 [(0, .ref (adOf X 0)), (1, .int v1)] [] q := by
  unfold M_closes at h
  refine a_aload_n C 0 rfl rfl dX11_closes_0 ?_
  refine a_iload_n C 1 rfl rfl dX11_closes_1 ?_
  obtain ⟨x1, e_x1, h⟩ := b1s h
  refine k_M_lowerEnd C S e_x1 ⟨Nat.le_of_ble_eq_true rfl, Nat.le_of_ble_eq_true rfl⟩ (Nat.le_of_ble_eq_true rfl) dX11_closes_2 ?_
  refine a_istore_n C [(2, .int x1), (0, .ref (adOf X 0)), (1, .int v1)] rfl (by decide) rfl dX11_closes_5 ?_
  refine a_aload_n C 1 rfl rfl dX11_closes_6 ?_
  refine gM_world C S dX11_closes_7 ?_
  refine a_bipush (v := 32) C (by decide) dX11_closes_10 ?_
  refine a_iload_n C 2 rfl rfl dX11_closes_12 ?_
  refine a_iadd C dX11_closes_13 ?_
  refine a_iconst (v := 0) C (by decide) dX11_closes_14 ?_
  obtain ⟨q2, e_q2, h⟩ := b1s h
  refine sM_world C S e_q2 dX11_closes_15 ?_
  refine a_iload_n C 0 rfl rfl dX11_closes_16 ?_
  refine a_if_ge C 21 (by decide) dX11_closes_17 (fun c3 => ?_) (fun c3 => ?_)
  · replace h := ifp c3 h
    refine a_iconst (v := 0) C (by decide) dX11_closes_21 ?_
    refine a_istore_n C [(3, .int (0 : Int32)), (2, .int x1), (0, .ref (adOf X 0)), (1, .int v1)] rfl (by decide) rfl dX11_closes_22 ?_
    refine At.sub [2, 1, 0] rfl (w_M_closes_L23 C S hret _ ?_ _ _ _ _ h)
    intro q13 h
    refine a_iconst (v := 0) C (by decide) dX11_closes_67 ?_
    refine a_istore_n C [(3, .int (0 : Int32)), (0, .ref (adOf X 0))] rfl (by decide) rfl dX11_closes_68 ?_
    refine At.sub [1, 0] rfl (w_M_closes_L69 C S hret _ ?_ _ _ _ h)
    intro q21 h
    refine a_iconst (v := 0) C (by decide) dX11_closes_116 ?_
    refine a_istore_n C [(3, .int (0 : Int32)), (0, .ref (adOf X 0))] rfl (by decide) rfl dX11_closes_117 ?_
    refine At.sub [1, 0] rfl (w_M_closes_L118 C S hret _ ?_ _ _ _ h)
    intro q34 h
    refine a_aload_n C 0 rfl rfl dX11_closes_194 ?_
    obtain ⟨q35, e_q35, h⟩ := b1s h
    refine k_M_prunes C S e_q35 ⟨Nat.le_of_ble_eq_true rfl, Nat.le_of_ble_eq_true rfl⟩ (Nat.le_of_ble_eq_true rfl) dX11_closes_195 ?_
    refine a_iconst (v := 0) C (by decide) dX11_closes_198 ?_
    refine a_istore_n C [(3, .int (0 : Int32)), (0, .ref (adOf X 0))] rfl (by decide) rfl dX11_closes_199 ?_
    exact At.sub [1, 0] rfl (w_M_closes_L200 C S hret _ _ _ h)
  · replace h := ifn c3 h
    exact a_vret hret h dX11_closes_20
theorem c_M_closes {l : Launch} {D : va_G} {I : ClassId × ClassId × ClassId × ClassId} {ad : Nat → Nat} {q : St} {v1 : Int32} {z : St} (h : M_closes q v1 = some z) : Ctr l D I zT 18 (shM I) ad yX11_closes cX11_closes 4 none rmM_closes [.ref (ad 0), .int v1] q none z :=
  ctr_ofV (by decide) (Nat.le_of_ble_eq_true rfl) (fun p e s m args below meth c Q H0 X hX C hret => by subst hX; exact w_M_closes C ⟨rfl, rfl, rfl⟩ hret _ _ h)
theorem g_M_closes : GoodIn lw_tg (wsV RX11 317 RX11 yX11_closes (Cond.code yX11_closes cX11_closes 4 none :: lw_tg)) := gd_V (tg 1599 (by decide +kernel) rfl) (tg 1601 (by decide +kernel) rfl) (tg 102 (by decide +kernel) rfl) (tg 128 (by decide +kernel) rfl) (tg 1602 (by decide +kernel) rfl)
theorem k_M_closes {X : Cv} {cc : ByteArray} {rm : Room} {nL1 pc : Nat} {lv : List (Nat × Value)} {sk : List Value} {q : St} {v1 : Int32} {q2 : St} (C : Cx X cc RX11 rm nL1) (S : IsM X) (h : M_closes q v1 = some q2) (hz : rmM_closes.frames + 1 ≤ rm.frames ∧ 8 + (4 + 11) + rmM_closes.locals ≤ rm.locals) (hr : (sk.map fun v => v.category).sum ≤ 8) (hd : decode cc pc = .ok (.invokevirtual 317, 3)) (k : At X (pc + 3) lv sk q2) : At X pc lv (.int v1 :: .ref (adOf X 0) :: sk) q := a_callVv (as := [.int v1]) C (kp := 0) (by rw [S.1]; decide) (by rw [S.2.1]; rfl) rfl (by have hh := c_M_closes (l := X.2.1) (D := dOf X) (I := idOf X) (ad := adOf X) h; rw [← S.1, ← S.2.1, ← S.2.2] at hh; exact hh) g_M_closes ⟨rfl, rfl, hz.1, hz.2⟩ ⟨by decide, by decide, by show Option.map _ (parseMethodDescriptor yX11_closes.desc) = some 1; decide⟩ hr rfl hd k
