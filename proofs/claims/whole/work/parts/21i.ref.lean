abbrev rmM_graftNode : Room := { frames := 4, cells := 0, slots := 0, locals := 97 }
def M_graftNode (q : St) (v1 : Int32) (v2 : Int32) (v3 : Int32) (v4 : Int32) : Option (Int32 × St) :=
  b1 (M_isNode q v1) fun x1 =>
  if x1 = (0 : Int32) then
    some ((-1 : Int32), q)
  else
    b1 (M_isFormat q v2) fun x3 =>
    if x3 = (0 : Int32) then
      some ((-1 : Int32), q)
    else
      b1 (M_isLevel q v3) fun x5 =>
      if x5 = (0 : Int32) then
        some ((-1 : Int32), q)
      else
        if (0 : Int32) ≤ v4 then
          b1 (M_isIn q v1) fun x8 =>
          if x8 = (0 : Int32) then
            b1 (M_rateOf q v2 v3) fun x10 =>
            b2 (M_lays q v1 x10) fun x11 q12 =>
            if x11 = (0 : Int32) then
              some ((-2 : Int32), q12)
            else
              if v4 < (gt q12 0 23) then
                b1 (rd 17 q12 13 v4) fun x15 =>
                some (x15, q12)
              else
                some ((-2 : Int32), q12)
          else
            some ((-2 : Int32), q)
        else
          some ((-1 : Int32), q)
theorem w_M_graftNode {X : Cv} (C : Cx X cX11_graftNode RX11 rmM_graftNode 5) (S : IsM X) {z : Int32 × St} (hret : RokI X cX11_graftNode .int z.1 z.2) (v1 : Int32) (v2 : Int32) (v3 : Int32) (v4 : Int32) (q : St) (h : M_graftNode q v1 v2 v3 v4 = some z) : At X 0 [(0, .ref (adOf X 0)), (1, .int v1), (2, .int v2), (3, .int v3), (4, .int v4)] [] q := by
  unfold M_graftNode at h
  refine a_aload_n C 0 rfl rfl dX11_graftNode_0 ?_
  refine a_iload_n C 1 rfl rfl dX11_graftNode_1 ?_
  obtain ⟨x1, e_x1, h⟩ := b1s h
  refine k_M_isNode C S e_x1 ⟨Nat.le_of_ble_eq_true rfl, Nat.le_of_ble_eq_true rfl⟩ (Nat.le_of_ble_eq_true rfl) dX11_graftNode_2 ?_
  refine a_if_eq C 29 (by decide) dX11_graftNode_5 (fun c2 => ?_) (fun c2 => ?_)
  · replace h := ifp c2 h
    refine a_iconst (v := -1) C (by decide) dX11_graftNode_29 ?_
    exact a_iret hret h rfl dX11_graftNode_30
  · replace h := ifn c2 h
    refine a_aload_n C 0 rfl rfl dX11_graftNode_8 ?_
    refine a_iload_n C 2 rfl rfl dX11_graftNode_9 ?_
    obtain ⟨x3, e_x3, h⟩ := b1s h
    refine k_M_isFormat C S e_x3 ⟨Nat.le_of_ble_eq_true rfl, Nat.le_of_ble_eq_true rfl⟩ (Nat.le_of_ble_eq_true rfl) dX11_graftNode_10 ?_
    refine a_if_eq C 29 (by decide) dX11_graftNode_13 (fun c4 => ?_) (fun c4 => ?_)
    · replace h := ifp c4 h
      refine a_iconst (v := -1) C (by decide) dX11_graftNode_29 ?_
      exact a_iret hret h rfl dX11_graftNode_30
    · replace h := ifn c4 h
      refine a_aload_n C 0 rfl rfl dX11_graftNode_16 ?_
      refine a_iload_n C 3 rfl rfl dX11_graftNode_17 ?_
      obtain ⟨x5, e_x5, h⟩ := b1s h
      refine k_M_isLevel C S e_x5 ⟨Nat.le_of_ble_eq_true rfl, Nat.le_of_ble_eq_true rfl⟩ (Nat.le_of_ble_eq_true rfl) dX11_graftNode_18 ?_
      refine a_if_eq C 29 (by decide) dX11_graftNode_21 (fun c6 => ?_) (fun c6 => ?_)
      · replace h := ifp c6 h
        refine a_iconst (v := -1) C (by decide) dX11_graftNode_29 ?_
        exact a_iret hret h rfl dX11_graftNode_30
      · replace h := ifn c6 h
        refine a_iload C 4 rfl dX11_graftNode_24 ?_
        refine a_if_ge C 31 (by decide) dX11_graftNode_26 (fun c7 => ?_) (fun c7 => ?_)
        · replace h := ifp c7 h
          refine a_aload_n C 0 rfl rfl dX11_graftNode_31 ?_
          refine a_iload_n C 1 rfl rfl dX11_graftNode_32 ?_
          obtain ⟨x8, e_x8, h⟩ := b1s h
          refine k_M_isIn C S e_x8 ⟨Nat.le_of_ble_eq_true rfl, Nat.le_of_ble_eq_true rfl⟩ (Nat.le_of_ble_eq_true rfl) dX11_graftNode_33 ?_
          refine a_if_ne C 62 (by decide) dX11_graftNode_36 (fun c9 => ?_) (fun c9 => ?_)
          · replace h := ifn c9 h
            refine a_bipush (v := -2) C (by decide) dX11_graftNode_62 ?_
            exact a_iret hret h rfl dX11_graftNode_64
          · replace h := ifp c9 h
            refine a_aload_n C 0 rfl rfl dX11_graftNode_39 ?_
            refine a_iload_n C 1 rfl rfl dX11_graftNode_40 ?_
            refine a_aload_n C 0 rfl rfl dX11_graftNode_41 ?_
            refine a_iload_n C 2 rfl rfl dX11_graftNode_42 ?_
            refine a_iload_n C 3 rfl rfl dX11_graftNode_43 ?_
            obtain ⟨x10, e_x10, h⟩ := b1s h
            refine k_M_rateOf C S e_x10 ⟨Nat.le_of_ble_eq_true rfl, Nat.le_of_ble_eq_true rfl⟩ (Nat.le_of_ble_eq_true rfl) dX11_graftNode_44 ?_
            obtain ⟨x11, q12, e_q12, h⟩ := b2s h
            refine k_M_lays C S e_q12 ⟨Nat.le_of_ble_eq_true rfl, Nat.le_of_ble_eq_true rfl⟩ (Nat.le_of_ble_eq_true rfl) dX11_graftNode_47 ?_
            refine a_if_eq C 62 (by decide) dX11_graftNode_50 (fun c13 => ?_) (fun c13 => ?_)
            · replace h := ifp c13 h
              refine a_bipush (v := -2) C (by decide) dX11_graftNode_62 ?_
              exact a_iret hret h rfl dX11_graftNode_64
            · replace h := ifn c13 h
              refine a_iload C 4 rfl dX11_graftNode_53 ?_
              refine a_aload_n C 0 rfl rfl dX11_graftNode_55 ?_
              refine gM_pathMany C S dX11_graftNode_56 ?_
              refine a_icmp_lt C 65 (by decide) dX11_graftNode_59 (fun c14 => ?_) (fun c14 => ?_)
              · replace h := ifp c14 h
                refine a_aload_n C 0 rfl rfl dX11_graftNode_65 ?_
                refine gM_path C S dX11_graftNode_66 ?_
                refine a_iload C 4 rfl dX11_graftNode_69 ?_
                obtain ⟨x15, e_x15, h⟩ := b1s h
                refine lM_path C S e_x15 dX11_graftNode_71 ?_
                exact a_iret hret h rfl dX11_graftNode_72
              · replace h := ifn c14 h
                refine a_bipush (v := -2) C (by decide) dX11_graftNode_62 ?_
                exact a_iret hret h rfl dX11_graftNode_64
        · replace h := ifn c7 h
          refine a_iconst (v := -1) C (by decide) dX11_graftNode_29 ?_
          exact a_iret hret h rfl dX11_graftNode_30
theorem c_M_graftNode {l : Launch} {D : va_G} {I : ClassId × ClassId × ClassId × ClassId} {ad : Nat → Nat} {q : St} {v1 : Int32} {v2 : Int32} {v3 : Int32} {v4 : Int32} {z : Int32 × St} (h : M_graftNode q v1 v2 v3 v4 = some z) : Ctr l D I zT 18 (shM I) ad yX11_graftNode cX11_graftNode 5 (some .int) rmM_graftNode [.ref (ad 0), .int v1, .int v2, .int v3, .int v4] q (some z.1) z.2 :=
  ctr_ofI (by decide) (Nat.le_of_ble_eq_true rfl) (fun p e s m args below meth c Q H0 X hX C hret => by subst hX; exact w_M_graftNode C ⟨rfl, rfl, rfl⟩ hret _ _ _ _ _ h)
abbrev rmM_gain : Room := { frames := 7, cells := 0, slots := 0, locals := 160 }
def M_gain (q : St) (v1 : Int32) (v2 : Int32) : Option (Int32 × St) :=
  b1 (M_isNode q v1) fun x1 =>
  if x1 = (0 : Int32) then
    some ((-1 : Int32), q)
  else
    b1 (M_isOther q v2) fun x3 =>
    if x3 = (0 : Int32) then
      some ((-1 : Int32), q)
    else
      b2 (M_canPlace q v1 v2) fun x5 q6 =>
      if x5 = (0 : Int32) then
        some ((-2 : Int32), q6)
      else
        b1 (M_laysAside q6) fun q8 =>
        b1 (rd 202 q8 4 ((64 : Int32) + v1)) fun x9 =>
        b1 (wr 202 q8 4 ((64 : Int32) + v1) (x9 ||| ((1 : Int32) <<< (v2 &&& 31)))) fun q10 =>
        b1 (M_levels q10) fun x11 =>
        b2 (M_raises q10) fun x12 q13 =>
        b1 (M_levels q13) fun x14 =>
        b1 (M_comesBack q13) fun q15 =>
        some ((x14 - x11), q15)
theorem w_M_gain {X : Cv} (C : Cx X cX11_gain RX11 rmM_gain 6) (S : IsM X) {z : Int32 × St} (hret : RokI X cX11_gain .int z.1 z.2) (v1 : Int32) (v2 : Int32) (q : St) (h : M_gain q v1 v2 = some z) : At X 0 [(0, .ref (adOf X 0)), (1, .int v1), (2, .int v2)] [] q := by
  unfold M_gain at h
  refine a_aload_n C 0 rfl rfl dX11_gain_0 ?_
  refine a_iload_n C 1 rfl rfl dX11_gain_1 ?_
  obtain ⟨x1, e_x1, h⟩ := b1s h
  refine k_M_isNode C S e_x1 ⟨Nat.le_of_ble_eq_true rfl, Nat.le_of_ble_eq_true rfl⟩ (Nat.le_of_ble_eq_true rfl) dX11_gain_2 ?_
  refine a_if_eq C 16 (by decide) dX11_gain_5 (fun c2 => ?_) (fun c2 => ?_)
  · replace h := ifp c2 h
    refine a_iconst (v := -1) C (by decide) dX11_gain_16 ?_
    exact a_iret hret h rfl dX11_gain_17
  · replace h := ifn c2 h
    refine a_aload_n C 0 rfl rfl dX11_gain_8 ?_
    refine a_iload_n C 2 rfl rfl dX11_gain_9 ?_
    obtain ⟨x3, e_x3, h⟩ := b1s h
    refine k_M_isOther C S e_x3 ⟨Nat.le_of_ble_eq_true rfl, Nat.le_of_ble_eq_true rfl⟩ (Nat.le_of_ble_eq_true rfl) dX11_gain_10 ?_
    refine a_if_ne C 18 (by decide) dX11_gain_13 (fun c4 => ?_) (fun c4 => ?_)
    · replace h := ifn c4 h
      refine a_aload_n C 0 rfl rfl dX11_gain_18 ?_
      refine a_iload_n C 1 rfl rfl dX11_gain_19 ?_
      refine a_iload_n C 2 rfl rfl dX11_gain_20 ?_
      obtain ⟨x5, q6, e_q6, h⟩ := b2s h
      refine k_M_canPlace C S e_q6 ⟨Nat.le_of_ble_eq_true rfl, Nat.le_of_ble_eq_true rfl⟩ (Nat.le_of_ble_eq_true rfl) dX11_gain_21 ?_
      refine a_if_ne C 30 (by decide) dX11_gain_24 (fun c7 => ?_) (fun c7 => ?_)
      · replace h := ifn c7 h
        refine a_aload_n C 0 rfl rfl dX11_gain_30 ?_
        obtain ⟨q8, e_q8, h⟩ := b1s h
        refine k_M_laysAside C S e_q8 ⟨Nat.le_of_ble_eq_true rfl, Nat.le_of_ble_eq_true rfl⟩ (Nat.le_of_ble_eq_true rfl) dX11_gain_31 ?_
        refine a_aload_n C 0 rfl rfl dX11_gain_34 ?_
        refine gM_world C S dX11_gain_35 ?_
        refine a_bipush (v := 64) C (by decide) dX11_gain_38 ?_
        refine a_iload_n C 1 rfl rfl dX11_gain_40 ?_
        refine a_iadd C dX11_gain_41 ?_
        refine a_dup2 C rfl rfl dX11_gain_42 ?_
        obtain ⟨x9, e_x9, h⟩ := b1s h
        refine lM_world C S e_x9 dX11_gain_43 ?_
        refine a_iconst (v := 1) C (by decide) dX11_gain_44 ?_
        refine a_iload_n C 2 rfl rfl dX11_gain_45 ?_
        refine a_ishl C dX11_gain_46 ?_
        refine a_ior C dX11_gain_47 ?_
        obtain ⟨q10, e_q10, h⟩ := b1s h
        refine sM_world C S e_q10 dX11_gain_48 ?_
        refine a_aload_n C 0 rfl rfl dX11_gain_49 ?_
        obtain ⟨x11, e_x11, h⟩ := b1s h
        refine k_M_levels C S e_x11 ⟨Nat.le_of_ble_eq_true rfl, Nat.le_of_ble_eq_true rfl⟩ (Nat.le_of_ble_eq_true rfl) dX11_gain_50 ?_
        refine a_istore_n C [(3, .int x11), (0, .ref (adOf X 0)), (1, .int v1), (2, .int v2)] rfl (by decide) rfl dX11_gain_53 ?_
        refine a_aload_n C 1 rfl rfl dX11_gain_54 ?_
        obtain ⟨x12, q13, e_q13, h⟩ := b2s h
        refine k_M_raises C S e_q13 ⟨Nat.le_of_ble_eq_true rfl, Nat.le_of_ble_eq_true rfl⟩ (Nat.le_of_ble_eq_true rfl) dX11_gain_55 ?_
        refine a_istore C [(4, .int x12), (3, .int x11), (0, .ref (adOf X 0)), (1, .int v1), (2, .int v2)] (by decide) rfl dX11_gain_58 ?_
        refine a_aload_n C 2 rfl rfl dX11_gain_60 ?_
        obtain ⟨x14, e_x14, h⟩ := b1s h
        refine k_M_levels C S e_x14 ⟨Nat.le_of_ble_eq_true rfl, Nat.le_of_ble_eq_true rfl⟩ (Nat.le_of_ble_eq_true rfl) dX11_gain_61 ?_
        refine a_istore C [(5, .int x14), (4, .int x12), (3, .int x11), (0, .ref (adOf X 0)), (1, .int v1), (2, .int v2)] (by decide) rfl dX11_gain_64 ?_
        refine a_aload_n C 3 rfl rfl dX11_gain_66 ?_
        obtain ⟨q15, e_q15, h⟩ := b1s h
        refine k_M_comesBack C S e_q15 ⟨Nat.le_of_ble_eq_true rfl, Nat.le_of_ble_eq_true rfl⟩ (Nat.le_of_ble_eq_true rfl) dX11_gain_67 ?_
        refine a_iload C 0 rfl dX11_gain_70 ?_
        refine a_iload_n C 2 rfl rfl dX11_gain_72 ?_
        refine a_isub C dX11_gain_73 ?_
        exact a_iret hret h rfl dX11_gain_74
      · replace h := ifp c7 h
        refine a_bipush (v := -2) C (by decide) dX11_gain_27 ?_
        exact a_iret hret h rfl dX11_gain_29
    · replace h := ifp c4 h
      refine a_iconst (v := -1) C (by decide) dX11_gain_16 ?_
      exact a_iret hret h rfl dX11_gain_17
theorem c_M_gain {l : Launch} {D : va_G} {I : ClassId × ClassId × ClassId × ClassId} {ad : Nat → Nat} {q : St} {v1 : Int32} {v2 : Int32} {z : Int32 × St} (h : M_gain q v1 v2 = some z) : Ctr l D I zT 18 (shM I) ad yX11_gain cX11_gain 6 (some .int) rmM_gain [.ref (ad 0), .int v1, .int v2] q (some z.1) z.2 :=
  ctr_ofI (by decide) (Nat.le_of_ble_eq_true rfl) (fun p e s m args below meth c Q H0 X hX C hret => by subst hX; exact w_M_gain C ⟨rfl, rfl, rfl⟩ hret _ _ _ h)
theorem g_M_gain : GoodIn lw_tg (wsV RX11 338 RX11 yX11_gain (Cond.code yX11_gain cX11_gain 6 (some .int) :: lw_tg)) := gd_V (tg 1767 (by decide +kernel) rfl) (tg 1760 (by decide +kernel) rfl) (tg 1761 (by decide +kernel) rfl) (tg 128 (by decide +kernel) rfl) (tg 1762 (by decide +kernel) rfl)
theorem k_M_gain {X : Cv} {cc : ByteArray} {rm : Room} {nL1 pc : Nat} {lv : List (Nat × Value)} {sk : List Value} {q : St} {v1 : Int32} {v2 : Int32} {z : Int32} {q2 : St} (C : Cx X cc RX11 rm nL1) (S : IsM X) (h : M_gain q v1 v2 = some (z, q2)) (hz : rmM_gain.frames + 1 ≤ rm.frames ∧ 8 + (6 + 11) + rmM_gain.locals ≤ rm.locals) (hr : (sk.map fun v => v.category).sum ≤ 8) (hd : decode cc pc = .ok (.invokevirtual 338, 3)) (k : At X (pc + 3) lv (.int z :: sk) q2) : At X pc lv (.int v2 :: .int v1 :: .ref (adOf X 0) :: sk) q := a_callVi (as := [.int v1, .int v2]) C (kp := 0) (by rw [S.1]; decide) (by rw [S.2.1]; rfl) rfl (by have hh := c_M_gain (l := X.2.1) (D := dOf X) (I := idOf X) (ad := adOf X) h; rw [← S.1, ← S.2.1, ← S.2.2] at hh; exact hh) g_M_gain ⟨rfl, rfl, hz.1, hz.2⟩ ⟨by decide, by decide, by show Option.map _ (parseMethodDescriptor yX11_gain.desc) = some 2; decide⟩ hr rfl hd k
abbrev rmM_bestPlace : Room := { frames := 8, cells := 0, slots := 0, locals := 185 }
def M_bestPlace_B19 (rec : Int32 → Int32 → Int32 → Int32 → St → Option (Int32 × St)) (v1 : Int32) (v2 : Int32) (v3 : Int32) (v4 : Int32) (q : St) : Option (Int32 × St) :=
  b1 (rd 172 q 2 (0 : Int32)) fun x3 =>
  if x3 ≤ v4 then
    some (v2, q)
  else
    b2 (M_gain q v4 v1) fun x5 q6 =>
    if x5 ≤ v3 then
      rec v1 v2 v3 (v4 + 1) q6
    else
      rec v1 v4 x5 (v4 + 1) q6
theorem w_M_bestPlace_B19 {X : Cv} (C : Cx X cX11_bestPlace RX11 rmM_bestPlace 6) (S : IsM X) {z : Int32 × St} (hret : RokI X cX11_bestPlace .int z.1 z.2) (rec : Int32 → Int32 → Int32 → Int32 → St → Option (Int32 × St)) (hrec : ∀ (v1 : Int32) (v2 : Int32) (v3 : Int32) (v4 : Int32) (q : St), rec v1 v2 v3 v4 q = some z → At X 19 [(0, .ref (adOf X 0)), (1, .int v1), (2, .int v2), (3, .int v3), (4, .int v4)] [] q) (v1 : Int32) (v2 : Int32) (v3 : Int32) (v4 : Int32) (q : St) (h : M_bestPlace_B19 rec v1 v2 v3 v4 q = some z) : At X 19 [(0, .ref (adOf X 0)), (1, .int v1), (2, .int v2), (3, .int v3), (4, .int v4)] [] q := by
  unfold M_bestPlace_B19 at h
  refine a_iload C 4 rfl dX11_bestPlace_19 ?_
  refine a_aload_n C 0 rfl rfl dX11_bestPlace_21 ?_
  refine gM_setup C S dX11_bestPlace_22 ?_
  refine a_iconst (v := 0) C (by decide) dX11_bestPlace_25 ?_
  obtain ⟨x3, e_x3, h⟩ := b1s h
  refine lM_setup C S e_x3 dX11_bestPlace_26 ?_
  refine a_icmp_ge C 57 (by decide) dX11_bestPlace_27 (fun c4 => ?_) (fun c4 => ?_)
  · replace h := ifp c4 h
    refine a_iload_n C 2 rfl rfl dX11_bestPlace_57 ?_
    exact a_iret hret h rfl dX11_bestPlace_58
  · replace h := ifn c4 h
    refine a_aload_n C 0 rfl rfl dX11_bestPlace_30 ?_
    refine a_iload C 4 rfl dX11_bestPlace_31 ?_
    refine a_iload_n C 1 rfl rfl dX11_bestPlace_33 ?_
    obtain ⟨x5, q6, e_q6, h⟩ := b2s h
    refine k_M_gain C S e_q6 ⟨Nat.le_of_ble_eq_true rfl, Nat.le_of_ble_eq_true rfl⟩ (Nat.le_of_ble_eq_true rfl) dX11_bestPlace_34 ?_
    refine a_istore C [(5, .int x5), (0, .ref (adOf X 0)), (1, .int v1), (2, .int v2), (3, .int v3), (4, .int v4)] (by decide) rfl dX11_bestPlace_37 ?_
    refine a_iload C 0 rfl dX11_bestPlace_39 ?_
    refine a_iload_n C 4 rfl rfl dX11_bestPlace_41 ?_
    refine a_icmp_le C 51 (by decide) dX11_bestPlace_42 (fun c7 => ?_) (fun c7 => ?_)
    · replace h := ifp c7 h
      refine a_iinc (v := (v4 + 1)) C [(4, .int (v4 + 1)), (5, .int x5), (0, .ref (adOf X 0)), (1, .int v1), (2, .int v2), (3, .int v3)] 5 rfl (congrArg (HAdd.hAdd v4) (by decide : Int32.ofInt (1) = (1 : Int32))) (by decide) rfl dX11_bestPlace_51 ?_
      refine a_goto C 19 (by decide) dX11_bestPlace_54 ?_
      exact At.sub [2, 3, 4, 5, 0] rfl (hrec _ _ _ _ _ h)
    · replace h := ifn c7 h
      refine a_iload C 5 rfl dX11_bestPlace_45 ?_
      refine a_istore_n C [(2, .int v4), (5, .int x5), (0, .ref (adOf X 0)), (1, .int v1), (3, .int v3), (4, .int v4)] rfl (by decide) rfl dX11_bestPlace_47 ?_
      refine a_iload C 1 rfl dX11_bestPlace_48 ?_
      refine a_istore_n C [(3, .int x5), (2, .int v4), (5, .int x5), (0, .ref (adOf X 0)), (1, .int v1), (4, .int v4)] rfl (by decide) rfl dX11_bestPlace_50 ?_
      refine a_iinc (v := (v4 + 1)) C [(4, .int (v4 + 1)), (3, .int x5), (2, .int v4), (5, .int x5), (0, .ref (adOf X 0)), (1, .int v1)] 5 rfl (congrArg (HAdd.hAdd v4) (by decide : Int32.ofInt (1) = (1 : Int32))) (by decide) rfl dX11_bestPlace_51 ?_
      refine a_goto C 19 (by decide) dX11_bestPlace_54 ?_
      exact At.sub [4, 5, 2, 1, 0] rfl (hrec _ _ _ _ _ h)
def M_bestPlace_L19 : Nat → Int32 → Int32 → Int32 → Int32 → St → Option (Int32 × St)
  | 0, _, _, _, _, _ => none
  | n + 1, v1, v2, v3, v4, q => M_bestPlace_B19 (M_bestPlace_L19 n) v1 v2 v3 v4 q
theorem w_M_bestPlace_L19 {X : Cv} (C : Cx X cX11_bestPlace RX11 rmM_bestPlace 6) (S : IsM X) {z : Int32 × St} (hret : RokI X cX11_bestPlace .int z.1 z.2) (n : Nat) : ∀ (v1 : Int32) (v2 : Int32) (v3 : Int32) (v4 : Int32) (q : St), M_bestPlace_L19 n v1 v2 v3 v4 q = some z → At X 19 [(0, .ref (adOf X 0)), (1, .int v1), (2, .int v2), (3, .int v3), (4, .int v4)] [] q := by
  induction n with
  | zero => intro v1 v2 v3 v4 q h; cases h
  | succ n ih => intro v1 v2 v3 v4 q h; exact w_M_bestPlace_B19 C S hret _ ih v1 v2 v3 v4 q h
def M_bestPlace (q : St) (v1 : Int32) : Option (Int32 × St) :=
  b1 (M_isOther q v1) fun x1 =>
  if x1 = (0 : Int32) then
    some ((-1 : Int32), q)
  else
    M_bestPlace_L19 FU v1 (-2 : Int32) (-2 : Int32) (0 : Int32) q
theorem w_M_bestPlace {X : Cv} (C : Cx X cX11_bestPlace RX11 rmM_bestPlace 6) (S : IsM X) {z : Int32 × St} (hret : RokI X cX11_bestPlace .int z.1 z.2) (v1 : Int32) (q : St) (h : M_bestPlace q v1 = some z) : At X 0 [(0, .ref (adOf X 0)), (1, .int v1)] [] q := by
  unfold M_bestPlace at h
  refine a_aload_n C 0 rfl rfl dX11_bestPlace_0 ?_
  refine a_iload_n C 1 rfl rfl dX11_bestPlace_1 ?_
  obtain ⟨x1, e_x1, h⟩ := b1s h
  refine k_M_isOther C S e_x1 ⟨Nat.le_of_ble_eq_true rfl, Nat.le_of_ble_eq_true rfl⟩ (Nat.le_of_ble_eq_true rfl) dX11_bestPlace_2 ?_
  refine a_if_ne C 10 (by decide) dX11_bestPlace_5 (fun c2 => ?_) (fun c2 => ?_)
  · replace h := ifn c2 h
    refine a_bipush (v := -2) C (by decide) dX11_bestPlace_10 ?_
    refine a_istore_n C [(2, .int (-2 : Int32)), (0, .ref (adOf X 0)), (1, .int v1)] rfl (by decide) rfl dX11_bestPlace_12 ?_
    refine a_bipush (v := -2) C (by decide) dX11_bestPlace_13 ?_
    refine a_istore_n C [(3, .int (-2 : Int32)), (2, .int (-2 : Int32)), (0, .ref (adOf X 0)), (1, .int v1)] rfl (by decide) rfl dX11_bestPlace_15 ?_
    refine a_iconst (v := 0) C (by decide) dX11_bestPlace_16 ?_
    refine a_istore C [(4, .int (0 : Int32)), (3, .int (-2 : Int32)), (2, .int (-2 : Int32)), (0, .ref (adOf X 0)), (1, .int v1)] (by decide) rfl dX11_bestPlace_17 ?_
    exact At.sub [3, 4, 2, 1, 0] rfl (w_M_bestPlace_L19 C S hret _ _ _ _ _ _ h)
  · replace h := ifp c2 h
    refine a_iconst (v := -1) C (by decide) dX11_bestPlace_8 ?_
    exact a_iret hret h rfl dX11_bestPlace_9
theorem c_M_bestPlace {l : Launch} {D : va_G} {I : ClassId × ClassId × ClassId × ClassId} {ad : Nat → Nat} {q : St} {v1 : Int32} {z : Int32 × St} (h : M_bestPlace q v1 = some z) : Ctr l D I zT 18 (shM I) ad yX11_bestPlace cX11_bestPlace 6 (some .int) rmM_bestPlace [.ref (ad 0), .int v1] q (some z.1) z.2 :=
  ctr_ofI (by decide) (Nat.le_of_ble_eq_true rfl) (fun p e s m args below meth c Q H0 X hX C hret => by subst hX; exact w_M_bestPlace C ⟨rfl, rfl, rfl⟩ hret _ _ h)
abbrev rmM_loss : Room := { frames := 8, cells := 0, slots := 0, locals := 182 }
def M_loss (q : St) (v1 : Int32) : Option (Int32 × St) :=
  b1 (M_isLink q v1) fun x1 =>
  if x1 = (0 : Int32) then
    some ((-1 : Int32), q)
  else
    b1 (rd 202 q 4 ((32 : Int32) + v1)) fun x3 =>
    if x3 = (0 : Int32) then
      some ((0 : Int32), q)
    else
      b1 (M_laysAside q) fun q5 =>
      b1 (M_levels q5) fun x6 =>
      b1 (M_closes q5 v1) fun q7 =>
      b1 (M_levels q7) fun x8 =>
      b1 (M_comesBack q7) fun q9 =>
      some ((x6 - x8), q9)
theorem w_M_loss {X : Cv} (C : Cx X cX11_loss RX11 rmM_loss 4) (S : IsM X) {z : Int32 × St} (hret : RokI X cX11_loss .int z.1 z.2) (v1 : Int32) (q : St) (h : M_loss q v1 = some z) : At X 0 [(0, .ref (adOf X 0)), (1, .int v1)] [] q := by
  unfold M_loss at h
  refine a_aload_n C 0 rfl rfl dX11_loss_0 ?_
  refine a_iload_n C 1 rfl rfl dX11_loss_1 ?_
  obtain ⟨x1, e_x1, h⟩ := b1s h
  refine k_M_isLink C S e_x1 ⟨Nat.le_of_ble_eq_true rfl, Nat.le_of_ble_eq_true rfl⟩ (Nat.le_of_ble_eq_true rfl) dX11_loss_2 ?_
  refine a_if_ne C 10 (by decide) dX11_loss_5 (fun c2 => ?_) (fun c2 => ?_)
  · replace h := ifn c2 h
    refine a_aload_n C 0 rfl rfl dX11_loss_10 ?_
    refine gM_world C S dX11_loss_11 ?_
    refine a_bipush (v := 32) C (by decide) dX11_loss_14 ?_
    refine a_iload_n C 1 rfl rfl dX11_loss_16 ?_
    refine a_iadd C dX11_loss_17 ?_
    obtain ⟨x3, e_x3, h⟩ := b1s h
    refine lM_world C S e_x3 dX11_loss_18 ?_
    refine a_if_ne C 24 (by decide) dX11_loss_19 (fun c4 => ?_) (fun c4 => ?_)
    · replace h := ifn c4 h
      refine a_aload_n C 0 rfl rfl dX11_loss_24 ?_
      obtain ⟨q5, e_q5, h⟩ := b1s h
      refine k_M_laysAside C S e_q5 ⟨Nat.le_of_ble_eq_true rfl, Nat.le_of_ble_eq_true rfl⟩ (Nat.le_of_ble_eq_true rfl) dX11_loss_25 ?_
      refine a_aload_n C 0 rfl rfl dX11_loss_28 ?_
      obtain ⟨x6, e_x6, h⟩ := b1s h
      refine k_M_levels C S e_x6 ⟨Nat.le_of_ble_eq_true rfl, Nat.le_of_ble_eq_true rfl⟩ (Nat.le_of_ble_eq_true rfl) dX11_loss_29 ?_
      refine a_istore_n C [(2, .int x6), (0, .ref (adOf X 0)), (1, .int v1)] rfl (by decide) rfl dX11_loss_32 ?_
      refine a_aload_n C 1 rfl rfl dX11_loss_33 ?_
      refine a_iload_n C 2 rfl rfl dX11_loss_34 ?_
      obtain ⟨q7, e_q7, h⟩ := b1s h
      refine k_M_closes C S e_q7 ⟨Nat.le_of_ble_eq_true rfl, Nat.le_of_ble_eq_true rfl⟩ (Nat.le_of_ble_eq_true rfl) dX11_loss_35 ?_
      refine a_aload_n C 1 rfl rfl dX11_loss_38 ?_
      obtain ⟨x8, e_x8, h⟩ := b1s h
      refine k_M_levels C S e_x8 ⟨Nat.le_of_ble_eq_true rfl, Nat.le_of_ble_eq_true rfl⟩ (Nat.le_of_ble_eq_true rfl) dX11_loss_39 ?_
      refine a_istore_n C [(3, .int x8), (2, .int x6), (0, .ref (adOf X 0)), (1, .int v1)] rfl (by decide) rfl dX11_loss_42 ?_
      refine a_aload_n C 2 rfl rfl dX11_loss_43 ?_
      obtain ⟨q9, e_q9, h⟩ := b1s h
      refine k_M_comesBack C S e_q9 ⟨Nat.le_of_ble_eq_true rfl, Nat.le_of_ble_eq_true rfl⟩ (Nat.le_of_ble_eq_true rfl) dX11_loss_44 ?_
      refine a_iload_n C 1 rfl rfl dX11_loss_47 ?_
      refine a_iload_n C 0 rfl rfl dX11_loss_48 ?_
      refine a_isub C dX11_loss_49 ?_
      exact a_iret hret h rfl dX11_loss_50
    · replace h := ifp c4 h
      refine a_iconst (v := 0) C (by decide) dX11_loss_22 ?_
      exact a_iret hret h rfl dX11_loss_23
  · replace h := ifp c2 h
    refine a_iconst (v := -1) C (by decide) dX11_loss_8 ?_
    exact a_iret hret h rfl dX11_loss_9
theorem c_M_loss {l : Launch} {D : va_G} {I : ClassId × ClassId × ClassId × ClassId} {ad : Nat → Nat} {q : St} {v1 : Int32} {z : Int32 × St} (h : M_loss q v1 = some z) : Ctr l D I zT 18 (shM I) ad yX11_loss cX11_loss 4 (some .int) rmM_loss [.ref (ad 0), .int v1] q (some z.1) z.2 :=
  ctr_ofI (by decide) (Nat.le_of_ble_eq_true rfl) (fun p e s m args below meth c Q H0 X hX C hret => by subst hX; exact w_M_loss C ⟨rfl, rfl, rfl⟩ hret _ _ h)
theorem g_M_loss : GoodIn lw_tg (wsV RX11 341 RX11 yX11_loss (Cond.code yX11_loss cX11_loss 4 (some .int) :: lw_tg)) := gd_V (tg 1776 (by decide +kernel) rfl) (tg 1769 (by decide +kernel) rfl) (tg 1770 (by decide +kernel) rfl) (tg 128 (by decide +kernel) rfl) (tg 1771 (by decide +kernel) rfl)
theorem k_M_loss {X : Cv} {cc : ByteArray} {rm : Room} {nL1 pc : Nat} {lv : List (Nat × Value)} {sk : List Value} {q : St} {v1 : Int32} {z : Int32} {q2 : St} (C : Cx X cc RX11 rm nL1) (S : IsM X) (h : M_loss q v1 = some (z, q2)) (hz : rmM_loss.frames + 1 ≤ rm.frames ∧ 8 + (4 + 11) + rmM_loss.locals ≤ rm.locals) (hr : (sk.map fun v => v.category).sum ≤ 8) (hd : decode cc pc = .ok (.invokevirtual 341, 3)) (k : At X (pc + 3) lv (.int z :: sk) q2) : At X pc lv (.int v1 :: .ref (adOf X 0) :: sk) q := a_callVi (as := [.int v1]) C (kp := 0) (by rw [S.1]; decide) (by rw [S.2.1]; rfl) rfl (by have hh := c_M_loss (l := X.2.1) (D := dOf X) (I := idOf X) (ad := adOf X) h; rw [← S.1, ← S.2.1, ← S.2.2] at hh; exact hh) g_M_loss ⟨rfl, rfl, hz.1, hz.2⟩ ⟨by decide, by decide, by show Option.map _ (parseMethodDescriptor yX11_loss.desc) = some 1; decide⟩ hr rfl hd k
abbrev rmM_criticalLink : Room := { frames := 9, cells := 0, slots := 0, locals := 205 }
def M_criticalLink_B7 (rec : Int32 → Int32 → Int32 → St → Option (Int32 × St)) (v1 : Int32) (v2 : Int32) (v3 : Int32) (q : St) : Option (Int32 × St) :=
  b1 (rd 172 q 2 (1 : Int32)) fun x1 =>
  if x1 ≤ v3 then
    some (v1, q)
  else
    b1 (rd 202 q 4 ((32 : Int32) + v3)) fun x3 =>
    if x3 = (0 : Int32) then
      rec v1 v2 (v3 + 1) q
    else
      b2 (M_loss q v3) fun x5 q6 =>
      if v1 < (0 : Int32) then
        rec v3 x5 (v3 + 1) q6
      else
        if x5 ≤ v2 then
          rec v1 v2 (v3 + 1) q6
        else
          rec v3 x5 (v3 + 1) q6
theorem w_M_criticalLink_B7 {X : Cv} (C : Cx X cX11_criticalLink RX11 rmM_criticalLink 5) (S : IsM X) {z : Int32 × St} (hret : RokI X cX11_criticalLink .int z.1 z.2) (rec : Int32 → Int32 → Int32 → St → Option (Int32 × St)) (hrec : ∀ (v1 : Int32) (v2 : Int32) (v3 : Int32) (q : St), rec v1 v2 v3 q = some z → At X 7 [(0, .ref (adOf X 0)), (1, .int v1), (2, .int v2), (3, .int v3)] [] q) (v1 : Int32) (v2 : Int32) (v3 : Int32) (q : St) (h : M_criticalLink_B7 rec v1 v2 v3 q = some z) : At X 7 [(0, .ref (adOf X 0)), (1, .int v1), (2, .int v2), (3, .int v3)] [] q := by
  unfold M_criticalLink_B7 at h
  refine a_iload_n C 3 rfl rfl dX11_criticalLink_7 ?_
  refine a_aload_n C 0 rfl rfl dX11_criticalLink_8 ?_
  refine gM_setup C S dX11_criticalLink_9 ?_
  refine a_iconst (v := 1) C (by decide) dX11_criticalLink_12 ?_
  obtain ⟨x1, e_x1, h⟩ := b1s h
  refine lM_setup C S e_x1 dX11_criticalLink_13 ?_
  refine a_icmp_ge C 60 (by decide) dX11_criticalLink_14 (fun c2 => ?_) (fun c2 => ?_)
  · replace h := ifp c2 h
    refine a_iload_n C 1 rfl rfl dX11_criticalLink_60 ?_
    exact a_iret hret h rfl dX11_criticalLink_61
  · replace h := ifn c2 h
    refine a_aload_n C 0 rfl rfl dX11_criticalLink_17 ?_
    refine gM_world C S dX11_criticalLink_18 ?_
    refine a_bipush (v := 32) C (by decide) dX11_criticalLink_21 ?_
    refine a_iload_n C 3 rfl rfl dX11_criticalLink_23 ?_
    refine a_iadd C dX11_criticalLink_24 ?_
    obtain ⟨x3, e_x3, h⟩ := b1s h
    refine lM_world C S e_x3 dX11_criticalLink_25 ?_
    refine a_if_ne C 32 (by decide) dX11_criticalLink_26 (fun c4 => ?_) (fun c4 => ?_)
    · replace h := ifn c4 h
      refine a_aload_n C 0 rfl rfl dX11_criticalLink_32 ?_
      refine a_iload_n C 3 rfl rfl dX11_criticalLink_33 ?_
      obtain ⟨x5, q6, e_q6, h⟩ := b2s h
      refine k_M_loss C S e_q6 ⟨Nat.le_of_ble_eq_true rfl, Nat.le_of_ble_eq_true rfl⟩ (Nat.le_of_ble_eq_true rfl) dX11_criticalLink_34 ?_
      refine a_istore C [(4, .int x5), (0, .ref (adOf X 0)), (1, .int v1), (2, .int v2), (3, .int v3)] (by decide) rfl dX11_criticalLink_37 ?_
      refine a_iload_n C 2 rfl rfl dX11_criticalLink_39 ?_
      refine a_if_lt C 49 (by decide) dX11_criticalLink_40 (fun c7 => ?_) (fun c7 => ?_)
      · replace h := ifp c7 h
        refine a_iload_n C 4 rfl rfl dX11_criticalLink_49 ?_
        refine a_istore_n C [(1, .int v3), (4, .int x5), (0, .ref (adOf X 0)), (2, .int v2), (3, .int v3)] rfl (by decide) rfl dX11_criticalLink_50 ?_
        refine a_iload C 1 rfl dX11_criticalLink_51 ?_
        refine a_istore_n C [(2, .int x5), (1, .int v3), (4, .int x5), (0, .ref (adOf X 0)), (3, .int v3)] rfl (by decide) rfl dX11_criticalLink_53 ?_
        refine a_iinc (v := (v3 + 1)) C [(3, .int (v3 + 1)), (2, .int x5), (1, .int v3), (4, .int x5), (0, .ref (adOf X 0))] 4 rfl (congrArg (HAdd.hAdd v3) (by decide : Int32.ofInt (1) = (1 : Int32))) (by decide) rfl dX11_criticalLink_54 ?_
        refine a_goto C 7 (by decide) dX11_criticalLink_57 ?_
        exact At.sub [4, 2, 1, 0] rfl (hrec _ _ _ _ h)
      · replace h := ifn c7 h
        refine a_iload C 0 rfl dX11_criticalLink_43 ?_
        refine a_iload_n C 3 rfl rfl dX11_criticalLink_45 ?_
        refine a_icmp_le C 54 (by decide) dX11_criticalLink_46 (fun c8 => ?_) (fun c8 => ?_)
        · replace h := ifp c8 h
          refine a_iinc (v := (v3 + 1)) C [(3, .int (v3 + 1)), (4, .int x5), (0, .ref (adOf X 0)), (1, .int v1), (2, .int v2)] 4 rfl (congrArg (HAdd.hAdd v3) (by decide : Int32.ofInt (1) = (1 : Int32))) (by decide) rfl dX11_criticalLink_54 ?_
          refine a_goto C 7 (by decide) dX11_criticalLink_57 ?_
          exact At.sub [2, 3, 4, 0] rfl (hrec _ _ _ _ h)
        · replace h := ifn c8 h
          refine a_iload_n C 4 rfl rfl dX11_criticalLink_49 ?_
          refine a_istore_n C [(1, .int v3), (4, .int x5), (0, .ref (adOf X 0)), (2, .int v2), (3, .int v3)] rfl (by decide) rfl dX11_criticalLink_50 ?_
          refine a_iload C 1 rfl dX11_criticalLink_51 ?_
          refine a_istore_n C [(2, .int x5), (1, .int v3), (4, .int x5), (0, .ref (adOf X 0)), (3, .int v3)] rfl (by decide) rfl dX11_criticalLink_53 ?_
          refine a_iinc (v := (v3 + 1)) C [(3, .int (v3 + 1)), (2, .int x5), (1, .int v3), (4, .int x5), (0, .ref (adOf X 0))] 4 rfl (congrArg (HAdd.hAdd v3) (by decide : Int32.ofInt (1) = (1 : Int32))) (by decide) rfl dX11_criticalLink_54 ?_
          refine a_goto C 7 (by decide) dX11_criticalLink_57 ?_
          exact At.sub [4, 2, 1, 0] rfl (hrec _ _ _ _ h)
    · replace h := ifp c4 h
      refine a_goto C 54 (by decide) dX11_criticalLink_29 ?_
      refine a_iinc (v := (v3 + 1)) C [(3, .int (v3 + 1)), (0, .ref (adOf X 0)), (1, .int v1), (2, .int v2)] 3 rfl (congrArg (HAdd.hAdd v3) (by decide : Int32.ofInt (1) = (1 : Int32))) (by decide) rfl dX11_criticalLink_54 ?_
      refine a_goto C 7 (by decide) dX11_criticalLink_57 ?_
      exact At.sub [1, 2, 3, 0] rfl (hrec _ _ _ _ h)
def M_criticalLink_L7 : Nat → Int32 → Int32 → Int32 → St → Option (Int32 × St)
  | 0, _, _, _, _ => none
  | n + 1, v1, v2, v3, q => M_criticalLink_B7 (M_criticalLink_L7 n) v1 v2 v3 q
theorem w_M_criticalLink_L7 {X : Cv} (C : Cx X cX11_criticalLink RX11 rmM_criticalLink 5) (S : IsM X) {z : Int32 × St} (hret : RokI X cX11_criticalLink .int z.1 z.2) (n : Nat) : ∀ (v1 : Int32) (v2 : Int32) (v3 : Int32) (q : St), M_criticalLink_L7 n v1 v2 v3 q = some z → At X 7 [(0, .ref (adOf X 0)), (1, .int v1), (2, .int v2), (3, .int v3)] [] q := by
  induction n with
  | zero => intro v1 v2 v3 q h; cases h
  | succ n ih => intro v1 v2 v3 q h; exact w_M_criticalLink_B7 C S hret _ ih v1 v2 v3 q h
def M_criticalLink (q : St) : Option (Int32 × St) :=
  M_criticalLink_L7 FU (-2 : Int32) (0 : Int32) (0 : Int32) q
theorem w_M_criticalLink {X : Cv} (C : Cx X cX11_criticalLink RX11 rmM_criticalLink 5) (S : IsM X) {z : Int32 × St} (hret : RokI X cX11_criticalLink .int z.1 z.2) (q : St) (h : M_criticalLink q = some z) : At X 0 [(0, .ref (adOf X 0))] [] q := by
  unfold M_criticalLink at h
  refine a_bipush (v := -2) C (by decide) dX11_criticalLink_0 ?_
  refine a_istore_n C [(1, .int (-2 : Int32)), (0, .ref (adOf X 0))] rfl (by decide) rfl dX11_criticalLink_2 ?_
  refine a_iconst (v := 0) C (by decide) dX11_criticalLink_3 ?_
  refine a_istore_n C [(2, .int (0 : Int32)), (1, .int (-2 : Int32)), (0, .ref (adOf X 0))] rfl (by decide) rfl dX11_criticalLink_4 ?_
  refine a_iconst (v := 0) C (by decide) dX11_criticalLink_5 ?_
  refine a_istore_n C [(3, .int (0 : Int32)), (2, .int (0 : Int32)), (1, .int (-2 : Int32)), (0, .ref (adOf X 0))] rfl (by decide) rfl dX11_criticalLink_6 ?_
  exact At.sub [3, 2, 1, 0] rfl (w_M_criticalLink_L7 C S hret _ _ _ _ _ h)
theorem c_M_criticalLink {l : Launch} {D : va_G} {I : ClassId × ClassId × ClassId × ClassId} {ad : Nat → Nat} {q : St} {z : Int32 × St} (h : M_criticalLink q = some z) : Ctr l D I zT 18 (shM I) ad yX11_criticalLink cX11_criticalLink 5 (some .int) rmM_criticalLink [.ref (ad 0)] q (some z.1) z.2 :=
  ctr_ofI (by decide) (Nat.le_of_ble_eq_true rfl) (fun p e s m args below meth c Q H0 X hX C hret => by subst hX; exact w_M_criticalLink C ⟨rfl, rfl, rfl⟩ hret _ h)
abbrev rmM_says : Room := { frames := 0, cells := 0, slots := 0, locals := 0 }
def M_says (q : St) (v1 : Int32) : Option (St) :=
  b1 (wr 256 q 17 (gt q 0 28) v1) fun q1 =>
  lt_ (st q1 0 28 ((gt q1 0 28) + (1 : Int32))) fun q2 =>
  some q2
theorem w_M_says {X : Cv} (C : Cx X cX11_says RX11 rmM_says 2) (S : IsM X) {z : St} (hret : RokV X cX11_says z) (v1 : Int32) (q : St) (h : M_says q v1 = some z) : At X 0 [(0, .ref (adOf X 0)), (1, .int v1)] [] q := by
  unfold M_says at h
  refine a_aload_n C 0 rfl rfl dX11_says_0 ?_
  refine gM_out C S dX11_says_1 ?_
  refine a_aload_n C 0 rfl rfl dX11_says_4 ?_
  refine gM_outs C S dX11_says_5 ?_
  refine a_iload_n C 1 rfl rfl dX11_says_8 ?_
  obtain ⟨q1, e_q1, h⟩ := b1s h
  refine sM_out C S e_q1 dX11_says_9 ?_
  refine a_aload_n C 0 rfl rfl dX11_says_10 ?_
  refine a_dup C rfl dX11_says_11 ?_
  refine gM_outs C S dX11_says_12 ?_
  refine a_iconst (v := 1) C (by decide) dX11_says_15 ?_
  refine a_iadd C dX11_says_16 ?_
  obtain ⟨q2, e_q2, h⟩ := lts h
  refine pM_outs C S e_q2 dX11_says_17 ?_
  exact a_vret hret h dX11_says_20
theorem c_M_says {l : Launch} {D : va_G} {I : ClassId × ClassId × ClassId × ClassId} {ad : Nat → Nat} {q : St} {v1 : Int32} {z : St} (h : M_says q v1 = some z) : Ctr l D I zT 18 (shM I) ad yX11_says cX11_says 2 none rmM_says [.ref (ad 0), .int v1] q none z :=
  ctr_ofV (by decide) (Nat.le_of_ble_eq_true rfl) (fun p e s m args below meth c Q H0 X hX C hret => by subst hX; exact w_M_says C ⟨rfl, rfl, rfl⟩ hret _ _ h)
theorem g_M_says : GoodIn lw_tg (wsV RX11 347 RX11 yX11_says (Cond.code yX11_says cX11_says 2 none :: lw_tg)) := gd_V (tg 1789 (by decide +kernel) rfl) (tg 1791 (by decide +kernel) rfl) (tg 113 (by decide +kernel) rfl) (tg 128 (by decide +kernel) rfl) (tg 1792 (by decide +kernel) rfl)
theorem k_M_says {X : Cv} {cc : ByteArray} {rm : Room} {nL1 pc : Nat} {lv : List (Nat × Value)} {sk : List Value} {q : St} {v1 : Int32} {q2 : St} (C : Cx X cc RX11 rm nL1) (S : IsM X) (h : M_says q v1 = some q2) (hz : rmM_says.frames + 1 ≤ rm.frames ∧ 8 + (2 + 11) + rmM_says.locals ≤ rm.locals) (hr : (sk.map fun v => v.category).sum ≤ 8) (hd : decode cc pc = .ok (.invokevirtual 347, 3)) (k : At X (pc + 3) lv sk q2) : At X pc lv (.int v1 :: .ref (adOf X 0) :: sk) q := a_callVv (as := [.int v1]) C (kp := 0) (by rw [S.1]; decide) (by rw [S.2.1]; rfl) rfl (by have hh := c_M_says (l := X.2.1) (D := dOf X) (I := idOf X) (ad := adOf X) h; rw [← S.1, ← S.2.1, ← S.2.2] at hh; exact hh) g_M_says ⟨rfl, rfl, hz.1, hz.2⟩ ⟨by decide, by decide, by show Option.map _ (parseMethodDescriptor yX11_says.desc) = some 1; decide⟩ hr rfl hd k
abbrev rmM_saysNumber : Room := { frames := 1, cells := 0, slots := 0, locals := 21 }
def M_saysNumber_J17 (v1 : Int32) (q : St) : Option (St) :=
  b1 (M_says q ((48 : Int32) + (v1 - v1 / (10 : Int32) * (10 : Int32)))) fun q2 =>
  b1 (M_says q2 (32 : Int32)) fun q3 =>
  some q3
theorem w_M_saysNumber_J17 {X : Cv} (C : Cx X cX11_saysNumber RX11 rmM_saysNumber 2) (S : IsM X) {z : St} (hret : RokV X cX11_saysNumber z) (v1 : Int32) (q : St) (h : M_saysNumber_J17 v1 q = some z) : At X 17 [(0, .ref (adOf X 0)), (1, .int v1)] [] q := by
  unfold M_saysNumber_J17 at h
  refine a_aload_n C 0 rfl rfl dX11_saysNumber_17 ?_
  refine a_bipush (v := 48) C (by decide) dX11_saysNumber_18 ?_
  refine a_iload_n C 1 rfl rfl dX11_saysNumber_20 ?_
  refine a_bipush (v := 10) C (by decide) dX11_saysNumber_21 ?_
  refine a_irem C (by decide) dX11_saysNumber_23 ?_
  refine a_iadd C dX11_saysNumber_24 ?_
  obtain ⟨q2, e_q2, h⟩ := b1s h
  refine k_M_says C S e_q2 ⟨Nat.le_of_ble_eq_true rfl, Nat.le_of_ble_eq_true rfl⟩ (Nat.le_of_ble_eq_true rfl) dX11_saysNumber_25 ?_
  refine a_aload_n C 0 rfl rfl dX11_saysNumber_28 ?_
  refine a_bipush (v := 32) C (by decide) dX11_saysNumber_29 ?_
  obtain ⟨q3, e_q3, h⟩ := b1s h
  refine k_M_says C S e_q3 ⟨Nat.le_of_ble_eq_true rfl, Nat.le_of_ble_eq_true rfl⟩ (Nat.le_of_ble_eq_true rfl) dX11_saysNumber_31 ?_
  exact a_vret hret h dX11_saysNumber_34
def M_saysNumber (q : St) (v1 : Int32) : Option (St) :=
  if v1 ≤ (9 : Int32) then
    M_saysNumber_J17 v1 q
  else
    b1 (M_says q ((48 : Int32) + (v1 / (10 : Int32)))) fun q4 =>
    M_saysNumber_J17 v1 q4
theorem w_M_saysNumber {X : Cv} (C : Cx X cX11_saysNumber RX11 rmM_saysNumber 2) (S : IsM X) {z : St} (hret : RokV X cX11_saysNumber z) (v1 : Int32) (q : St) (h : M_saysNumber q v1 = some z) : At X 0 [(0, .ref (adOf X 0)), (1, .int v1)] [] q := by
  unfold M_saysNumber at h
  refine a_iload_n C 1 rfl rfl dX11_saysNumber_0 ?_
  refine a_bipush (v := 9) C (by decide) dX11_saysNumber_1 ?_
  refine a_icmp_le C 17 (by decide) dX11_saysNumber_3 (fun c1 => ?_) (fun c1 => ?_)
  · replace h := ifp c1 h
    exact At.sub [0, 1] rfl (w_M_saysNumber_J17 C S hret _ _ h)
  · replace h := ifn c1 h
    refine a_aload_n C 0 rfl rfl dX11_saysNumber_6 ?_
    refine a_bipush (v := 48) C (by decide) dX11_saysNumber_7 ?_
    refine a_iload_n C 1 rfl rfl dX11_saysNumber_9 ?_
    refine a_bipush (v := 10) C (by decide) dX11_saysNumber_10 ?_
    refine a_idiv C (by decide) dX11_saysNumber_12 ?_
    refine a_iadd C dX11_saysNumber_13 ?_
    obtain ⟨q4, e_q4, h⟩ := b1s h
    refine k_M_says C S e_q4 ⟨Nat.le_of_ble_eq_true rfl, Nat.le_of_ble_eq_true rfl⟩ (Nat.le_of_ble_eq_true rfl) dX11_saysNumber_14 ?_
    exact At.sub [0, 1] rfl (w_M_saysNumber_J17 C S hret _ _ h)
theorem c_M_saysNumber {l : Launch} {D : va_G} {I : ClassId × ClassId × ClassId × ClassId} {ad : Nat → Nat} {q : St} {v1 : Int32} {z : St} (h : M_saysNumber q v1 = some z) : Ctr l D I zT 18 (shM I) ad yX11_saysNumber cX11_saysNumber 2 none rmM_saysNumber [.ref (ad 0), .int v1] q none z :=
  ctr_ofV (by decide) (Nat.le_of_ble_eq_true rfl) (fun p e s m args below meth c Q H0 X hX C hret => by subst hX; exact w_M_saysNumber C ⟨rfl, rfl, rfl⟩ hret _ _ h)
theorem g_M_saysNumber : GoodIn lw_tg (wsV RX11 350 RX11 yX11_saysNumber (Cond.code yX11_saysNumber cX11_saysNumber 2 none :: lw_tg)) := gd_V (tg 1785 (by decide +kernel) rfl) (tg 1787 (by decide +kernel) rfl) (tg 112 (by decide +kernel) rfl) (tg 128 (by decide +kernel) rfl) (tg 1788 (by decide +kernel) rfl)
theorem k_M_saysNumber {X : Cv} {cc : ByteArray} {rm : Room} {nL1 pc : Nat} {lv : List (Nat × Value)} {sk : List Value} {q : St} {v1 : Int32} {q2 : St} (C : Cx X cc RX11 rm nL1) (S : IsM X) (h : M_saysNumber q v1 = some q2) (hz : rmM_saysNumber.frames + 1 ≤ rm.frames ∧ 8 + (2 + 11) + rmM_saysNumber.locals ≤ rm.locals) (hr : (sk.map fun v => v.category).sum ≤ 8) (hd : decode cc pc = .ok (.invokevirtual 350, 3)) (k : At X (pc + 3) lv sk q2) : At X pc lv (.int v1 :: .ref (adOf X 0) :: sk) q := a_callVv (as := [.int v1]) C (kp := 0) (by rw [S.1]; decide) (by rw [S.2.1]; rfl) rfl (by have hh := c_M_saysNumber (l := X.2.1) (D := dOf X) (I := idOf X) (ad := adOf X) h; rw [← S.1, ← S.2.1, ← S.2.2] at hh; exact hh) g_M_saysNumber ⟨rfl, rfl, hz.1, hz.2⟩ ⟨by decide, by decide, by show Option.map _ (parseMethodDescriptor yX11_saysNumber.desc) = some 1; decide⟩ hr rfl hd k
abbrev rmM_reports : Room := { frames := 4, cells := 0, slots := 0, locals := 91 }
def M_reports_B48 (k : Int32 → St → Option (St)) (rec : Int32 → Int32 → St → Option (St)) (v1 : Int32) (v2 : Int32) (q : St) : Option (St) :=
  b1 (rd 172 q 2 (2 : Int32)) fun x10 =>
  if x10 ≤ v2 then
    k v1 q
  else
    b1 (rd 64 q 8 (((4 : Int32) * v1) + v2)) fun x12 =>
    b1 (M_says q ((48 : Int32) + x12)) fun q13 =>
    rec v1 (v2 + 1) q13
theorem w_M_reports_B48 {X : Cv} (C : Cx X cX11_reports RX11 rmM_reports 3) (S : IsM X) {z : St} (hret : RokV X cX11_reports z) (k : Int32 → St → Option (St)) (hk : ∀ (v1 : Int32) (q : St), k v1 q = some z → At X 81 [(0, .ref (adOf X 0)), (1, .int v1)] [] q) (rec : Int32 → Int32 → St → Option (St)) (hrec : ∀ (v1 : Int32) (v2 : Int32) (q : St), rec v1 v2 q = some z → At X 48 [(0, .ref (adOf X 0)), (1, .int v1), (2, .int v2)] [] q) (v1 : Int32) (v2 : Int32) (q : St) (h : M_reports_B48 k rec v1 v2 q = some z) : At X 48 [(0, .ref (adOf X 0)), (1, .int v1), (2, .int v2)] [] q := by
  unfold M_reports_B48 at h
  refine a_iload_n C 2 rfl rfl dX11_reports_48 ?_
  refine a_aload_n C 0 rfl rfl dX11_reports_49 ?_
  refine gM_setup C S dX11_reports_50 ?_
  refine a_iconst (v := 2) C (by decide) dX11_reports_53 ?_
  obtain ⟨x10, e_x10, h⟩ := b1s h
  refine lM_setup C S e_x10 dX11_reports_54 ?_
  refine a_icmp_ge C 81 (by decide) dX11_reports_55 (fun c11 => ?_) (fun c11 => ?_)
  · replace h := ifp c11 h
    exact At.sub [0, 1] rfl (hk _ _ h)
  · replace h := ifn c11 h
    refine a_aload_n C 0 rfl rfl dX11_reports_58 ?_
    refine a_bipush (v := 48) C (by decide) dX11_reports_59 ?_
    refine a_aload_n C 0 rfl rfl dX11_reports_61 ?_
    refine gM_asks C S dX11_reports_62 ?_
    refine a_iconst (v := 4) C (by decide) dX11_reports_65 ?_
    refine a_iload_n C 1 rfl rfl dX11_reports_66 ?_
    refine a_imul C dX11_reports_67 ?_
    refine a_iload_n C 2 rfl rfl dX11_reports_68 ?_
    refine a_iadd C dX11_reports_69 ?_
    obtain ⟨x12, e_x12, h⟩ := b1s h
    refine lM_asks C S e_x12 dX11_reports_70 ?_
    refine a_iadd C dX11_reports_71 ?_
    obtain ⟨q13, e_q13, h⟩ := b1s h
    refine k_M_says C S e_q13 ⟨Nat.le_of_ble_eq_true rfl, Nat.le_of_ble_eq_true rfl⟩ (Nat.le_of_ble_eq_true rfl) dX11_reports_72 ?_
    refine a_iinc (v := (v2 + 1)) C [(2, .int (v2 + 1)), (0, .ref (adOf X 0)), (1, .int v1)] 2 rfl (congrArg (HAdd.hAdd v2) (by decide : Int32.ofInt (1) = (1 : Int32))) (by decide) rfl dX11_reports_75 ?_
    refine a_goto C 48 (by decide) dX11_reports_78 ?_
    exact At.sub [1, 2, 0] rfl (hrec _ _ _ h)
def M_reports_L48 (k : Int32 → St → Option (St)) : Nat → Int32 → Int32 → St → Option (St)
  | 0, _, _, _ => none
  | n + 1, v1, v2, q => M_reports_B48 k (M_reports_L48 k n) v1 v2 q
theorem w_M_reports_L48 {X : Cv} (C : Cx X cX11_reports RX11 rmM_reports 3) (S : IsM X) {z : St} (hret : RokV X cX11_reports z) (k : Int32 → St → Option (St)) (hk : ∀ (v1 : Int32) (q : St), k v1 q = some z → At X 81 [(0, .ref (adOf X 0)), (1, .int v1)] [] q) (n : Nat) : ∀ (v1 : Int32) (v2 : Int32) (q : St), M_reports_L48 k n v1 v2 q = some z → At X 48 [(0, .ref (adOf X 0)), (1, .int v1), (2, .int v2)] [] q := by
  induction n with
  | zero => intro v1 v2 q h; cases h
  | succ n ih => intro v1 v2 q h; exact w_M_reports_B48 C S hret k hk _ ih v1 v2 q h
def M_reports_B11 (rec : Int32 → St → Option (St)) (v1 : Int32) (q : St) : Option (St) :=
  b1 (rd 172 q 2 (0 : Int32)) fun x3 =>
  if x3 ≤ v1 then
    some q
  else
    b1 (M_isIn q v1) fun x5 =>
    if x5 = (0 : Int32) then
      rec (v1 + 1) q
    else
      b1 (M_saysNumber q v1) fun q7 =>
      b1 (M_up q7 v1) fun x8 =>
      b1 (M_saysNumber q7 x8) fun q9 =>
      M_reports_L48 (fun y14 q15 =>
        b1 (M_says q15 (10 : Int32)) fun q16 =>
        rec (y14 + 1) q16
        ) FU v1 (0 : Int32) q9
theorem w_M_reports_B11 {X : Cv} (C : Cx X cX11_reports RX11 rmM_reports 3) (S : IsM X) {z : St} (hret : RokV X cX11_reports z) (rec : Int32 → St → Option (St)) (hrec : ∀ (v1 : Int32) (q : St), rec v1 q = some z → At X 11 [(0, .ref (adOf X 0)), (1, .int v1)] [] q) (v1 : Int32) (q : St) (h : M_reports_B11 rec v1 q = some z) : At X 11 [(0, .ref (adOf X 0)), (1, .int v1)] [] q := by
  unfold M_reports_B11 at h
  refine a_iload_n C 1 rfl rfl dX11_reports_11 ?_
  refine a_aload_n C 0 rfl rfl dX11_reports_12 ?_
  refine gM_setup C S dX11_reports_13 ?_
  refine a_iconst (v := 0) C (by decide) dX11_reports_16 ?_
  obtain ⟨x3, e_x3, h⟩ := b1s h
  refine lM_setup C S e_x3 dX11_reports_17 ?_
  refine a_icmp_ge C 93 (by decide) dX11_reports_18 (fun c4 => ?_) (fun c4 => ?_)
  · replace h := ifp c4 h
    exact a_vret hret h dX11_reports_93
  · replace h := ifn c4 h
    refine a_aload_n C 0 rfl rfl dX11_reports_21 ?_
    refine a_iload_n C 1 rfl rfl dX11_reports_22 ?_
    obtain ⟨x5, e_x5, h⟩ := b1s h
    refine k_M_isIn C S e_x5 ⟨Nat.le_of_ble_eq_true rfl, Nat.le_of_ble_eq_true rfl⟩ (Nat.le_of_ble_eq_true rfl) dX11_reports_23 ?_
    refine a_if_ne C 32 (by decide) dX11_reports_26 (fun c6 => ?_) (fun c6 => ?_)
    · replace h := ifn c6 h
      refine a_aload_n C 0 rfl rfl dX11_reports_32 ?_
      refine a_iload_n C 1 rfl rfl dX11_reports_33 ?_
      obtain ⟨q7, e_q7, h⟩ := b1s h
      refine k_M_saysNumber C S e_q7 ⟨Nat.le_of_ble_eq_true rfl, Nat.le_of_ble_eq_true rfl⟩ (Nat.le_of_ble_eq_true rfl) dX11_reports_34 ?_
      refine a_aload_n C 0 rfl rfl dX11_reports_37 ?_
      refine a_aload_n C 0 rfl rfl dX11_reports_38 ?_
      refine a_iload_n C 1 rfl rfl dX11_reports_39 ?_
      obtain ⟨x8, e_x8, h⟩ := b1s h
      refine k_M_up C S e_x8 ⟨Nat.le_of_ble_eq_true rfl, Nat.le_of_ble_eq_true rfl⟩ (Nat.le_of_ble_eq_true rfl) dX11_reports_40 ?_
      obtain ⟨q9, e_q9, h⟩ := b1s h
      refine k_M_saysNumber C S e_q9 ⟨Nat.le_of_ble_eq_true rfl, Nat.le_of_ble_eq_true rfl⟩ (Nat.le_of_ble_eq_true rfl) dX11_reports_43 ?_
      refine a_iconst (v := 0) C (by decide) dX11_reports_46 ?_
      refine a_istore_n C [(2, .int (0 : Int32)), (0, .ref (adOf X 0)), (1, .int v1)] rfl (by decide) rfl dX11_reports_47 ?_
      refine At.sub [1, 2, 0] rfl (w_M_reports_L48 C S hret _ ?_ _ _ _ _ h)
      intro y14 q15 h
      refine a_aload_n C 0 rfl rfl dX11_reports_81 ?_
      refine a_bipush (v := 10) C (by decide) dX11_reports_82 ?_
      obtain ⟨q16, e_q16, h⟩ := b1s h
      refine k_M_says C S e_q16 ⟨Nat.le_of_ble_eq_true rfl, Nat.le_of_ble_eq_true rfl⟩ (Nat.le_of_ble_eq_true rfl) dX11_reports_84 ?_
      refine a_iinc (v := (y14 + 1)) C [(1, .int (y14 + 1)), (0, .ref (adOf X 0))] 1 rfl (congrArg (HAdd.hAdd y14) (by decide : Int32.ofInt (1) = (1 : Int32))) (by decide) rfl dX11_reports_87 ?_
      refine a_goto C 11 (by decide) dX11_reports_90 ?_
      exact At.sub [1, 0] rfl (hrec _ _ h)
    · replace h := ifp c6 h
      refine a_goto C 87 (by decide) dX11_reports_29 ?_
      refine a_iinc (v := (v1 + 1)) C [(1, .int (v1 + 1)), (0, .ref (adOf X 0))] 1 rfl (congrArg (HAdd.hAdd v1) (by decide : Int32.ofInt (1) = (1 : Int32))) (by decide) rfl dX11_reports_87 ?_
      refine a_goto C 11 (by decide) dX11_reports_90 ?_
      exact At.sub [1, 0] rfl (hrec _ _ h)
def M_reports_L11 : Nat → Int32 → St → Option (St)
  | 0, _, _ => none
  | n + 1, v1, q => M_reports_B11 (M_reports_L11 n) v1 q
theorem w_M_reports_L11 {X : Cv} (C : Cx X cX11_reports RX11 rmM_reports 3) (S : IsM X) {z : St} (hret : RokV X cX11_reports z) (n : Nat) : ∀ (v1 : Int32) (q : St), M_reports_L11 n v1 q = some z → At X 11 [(0, .ref (adOf X 0)), (1, .int v1)] [] q := by
  induction n with
  | zero => intro v1 q h; cases h
  | succ n ih => intro v1 q h; exact w_M_reports_B11 C S hret _ ih v1 q h
def M_reports (q : St) : Option (St) :=
  b1 (M_measures q) fun q1 =>
  lt_ (st q1 0 28 (0 : Int32)) fun q2 =>
  M_reports_L11 FU (1 : Int32) q2
theorem w_M_reports {X : Cv} (C : Cx X cX11_reports RX11 rmM_reports 3) (S : IsM X) {z : St} (hret : RokV X cX11_reports z) (q : St) (h : M_reports q = some z) : At X 0 [(0, .ref (adOf X 0))] [] q := by
  unfold M_reports at h
  refine a_aload_n C 0 rfl rfl dX11_reports_0 ?_
  obtain ⟨q1, e_q1, h⟩ := b1s h
  refine k_M_measures C S e_q1 ⟨Nat.le_of_ble_eq_true rfl, Nat.le_of_ble_eq_true rfl⟩ (Nat.le_of_ble_eq_true rfl) dX11_reports_1 ?_
  refine a_aload_n C 0 rfl rfl dX11_reports_4 ?_
  refine a_iconst (v := 0) C (by decide) dX11_reports_5 ?_
  obtain ⟨q2, e_q2, h⟩ := lts h
  refine pM_outs C S e_q2 dX11_reports_6 ?_
  refine a_iconst (v := 1) C (by decide) dX11_reports_9 ?_
  refine a_istore_n C [(1, .int (1 : Int32)), (0, .ref (adOf X 0))] rfl (by decide) rfl dX11_reports_10 ?_
  exact At.sub [1, 0] rfl (w_M_reports_L11 C S hret _ _ _ h)
theorem c_M_reports {l : Launch} {D : va_G} {I : ClassId × ClassId × ClassId × ClassId} {ad : Nat → Nat} {q : St} {z : St} (h : M_reports q = some z) : Ctr l D I zT 18 (shM I) ad yX11_reports cX11_reports 3 none rmM_reports [.ref (ad 0)] q none z :=
  ctr_ofV (by decide) (Nat.le_of_ble_eq_true rfl) (fun p e s m args below meth c Q H0 X hX C hret => by subst hX; exact w_M_reports C ⟨rfl, rfl, rfl⟩ hret _ h)
theorem g_M_reports : GoodIn lw_tg (wsV RX11 353 RX11 yX11_reports (Cond.code yX11_reports cX11_reports 3 none :: lw_tg)) := gd_V (tg 1781 (by decide +kernel) rfl) (tg 1783 (by decide +kernel) rfl) (tg 111 (by decide +kernel) rfl) (tg 128 (by decide +kernel) rfl) (tg 1784 (by decide +kernel) rfl)
theorem k_M_reports {X : Cv} {cc : ByteArray} {rm : Room} {nL1 pc : Nat} {lv : List (Nat × Value)} {sk : List Value} {q : St} {q2 : St} (C : Cx X cc RX11 rm nL1) (S : IsM X) (h : M_reports q = some q2) (hz : rmM_reports.frames + 1 ≤ rm.frames ∧ 8 + (3 + 11) + rmM_reports.locals ≤ rm.locals) (hr : (sk.map fun v => v.category).sum ≤ 8) (hd : decode cc pc = .ok (.invokevirtual 353, 3)) (k : At X (pc + 3) lv sk q2) : At X pc lv (.ref (adOf X 0) :: sk) q := a_callVv (as := []) C (kp := 0) (by rw [S.1]; decide) (by rw [S.2.1]; rfl) rfl (by have hh := c_M_reports (l := X.2.1) (D := dOf X) (I := idOf X) (ad := adOf X) h; rw [← S.1, ← S.2.1, ← S.2.2] at hh; exact hh) g_M_reports ⟨rfl, rfl, hz.1, hz.2⟩ ⟨by decide, by decide, by show Option.map _ (parseMethodDescriptor yX11_reports.desc) = some 0; decide⟩ hr rfl hd k
abbrev rmM_reportLength : Room := { frames := 5, cells := 0, slots := 0, locals := 113 }
def M_reportLength (q : St) : Option (Int32 × St) :=
  b1 (M_reports q) fun q1 =>
  some ((gt q1 0 28), q1)
theorem w_M_reportLength {X : Cv} (C : Cx X cX11_reportLength RX11 rmM_reportLength 1) (S : IsM X) {z : Int32 × St} (hret : RokI X cX11_reportLength .int z.1 z.2) (q : St) (h : M_reportLength q = some z) : At X 0 [(0, .ref (adOf X 0))] [] q := by
  unfold M_reportLength at h
  refine a_aload_n C 0 rfl rfl dX11_reportLength_0 ?_
  obtain ⟨q1, e_q1, h⟩ := b1s h
  refine k_M_reports C S e_q1 ⟨Nat.le_of_ble_eq_true rfl, Nat.le_of_ble_eq_true rfl⟩ (Nat.le_of_ble_eq_true rfl) dX11_reportLength_1 ?_
  refine a_aload_n C 0 rfl rfl dX11_reportLength_4 ?_
  refine gM_outs C S dX11_reportLength_5 ?_
  exact a_iret hret h rfl dX11_reportLength_8
theorem c_M_reportLength {l : Launch} {D : va_G} {I : ClassId × ClassId × ClassId × ClassId} {ad : Nat → Nat} {q : St} {z : Int32 × St} (h : M_reportLength q = some z) : Ctr l D I zT 18 (shM I) ad yX11_reportLength cX11_reportLength 1 (some .int) rmM_reportLength [.ref (ad 0)] q (some z.1) z.2 :=
  ctr_ofI (by decide) (Nat.le_of_ble_eq_true rfl) (fun p e s m args below meth c Q H0 X hX C hret => by subst hX; exact w_M_reportLength C ⟨rfl, rfl, rfl⟩ hret _ h)
abbrev rmM_reportByte : Room := { frames := 5, cells := 0, slots := 0, locals := 113 }
def M_reportByte (q : St) (v1 : Int32) : Option (Int32 × St) :=
  if (0 : Int32) ≤ v1 then
    b1 (M_reports q) fun q2 =>
    if (gt q2 0 28) ≤ v1 then
      some ((-2 : Int32), q2)
    else
      b1 (rd 256 q2 17 v1) fun x4 =>
      some (x4, q2)
  else
    some ((-1 : Int32), q)
theorem w_M_reportByte {X : Cv} (C : Cx X cX11_reportByte RX11 rmM_reportByte 2) (S : IsM X) {z : Int32 × St} (hret : RokI X cX11_reportByte .int z.1 z.2) (v1 : Int32) (q : St) (h : M_reportByte q v1 = some z) : At X 0 [(0, .ref (adOf X 0)), (1, .int v1)] [] q := by
  unfold M_reportByte at h
  refine a_iload_n C 1 rfl rfl dX11_reportByte_0 ?_
  refine a_if_ge C 6 (by decide) dX11_reportByte_1 (fun c1 => ?_) (fun c1 => ?_)
  · replace h := ifp c1 h
    refine a_aload_n C 0 rfl rfl dX11_reportByte_6 ?_
    obtain ⟨q2, e_q2, h⟩ := b1s h
    refine k_M_reports C S e_q2 ⟨Nat.le_of_ble_eq_true rfl, Nat.le_of_ble_eq_true rfl⟩ (Nat.le_of_ble_eq_true rfl) dX11_reportByte_7 ?_
    refine a_iload_n C 1 rfl rfl dX11_reportByte_10 ?_
    refine a_aload_n C 0 rfl rfl dX11_reportByte_11 ?_
    refine gM_outs C S dX11_reportByte_12 ?_
    refine a_icmp_ge C 27 (by decide) dX11_reportByte_15 (fun c3 => ?_) (fun c3 => ?_)
    · replace h := ifp c3 h
      refine a_bipush (v := -2) C (by decide) dX11_reportByte_27 ?_
      exact a_iret hret h rfl dX11_reportByte_29
    · replace h := ifn c3 h
      refine a_aload_n C 0 rfl rfl dX11_reportByte_18 ?_
      refine gM_out C S dX11_reportByte_19 ?_
      refine a_iload_n C 1 rfl rfl dX11_reportByte_22 ?_
      obtain ⟨x4, e_x4, h⟩ := b1s h
      refine lM_out C S e_x4 dX11_reportByte_23 ?_
      refine a_goto C 29 (by decide) dX11_reportByte_24 ?_
      exact a_iret hret h rfl dX11_reportByte_29
  · replace h := ifn c1 h
    refine a_iconst (v := -1) C (by decide) dX11_reportByte_4 ?_
    exact a_iret hret h rfl dX11_reportByte_5
theorem c_M_reportByte {l : Launch} {D : va_G} {I : ClassId × ClassId × ClassId × ClassId} {ad : Nat → Nat} {q : St} {v1 : Int32} {z : Int32 × St} (h : M_reportByte q v1 = some z) : Ctr l D I zT 18 (shM I) ad yX11_reportByte cX11_reportByte 2 (some .int) rmM_reportByte [.ref (ad 0), .int v1] q (some z.1) z.2 :=
  ctr_ofI (by decide) (Nat.le_of_ble_eq_true rfl) (fun p e s m args below meth c Q H0 X hX C hret => by subst hX; exact w_M_reportByte C ⟨rfl, rfl, rfl⟩ hret _ _ h)
abbrev rmM_tapeLength : Room := { frames := 0, cells := 0, slots := 0, locals := 0 }
def M_tapeLength (q : St) : Option (Int32) :=
  some (gt q 0 1)
theorem w_M_tapeLength {X : Cv} (C : Cx X cX11_tapeLength RX11 rmM_tapeLength 1) (S : IsM X) {q : St} {z : Int32} (hret : RokI X cX11_tapeLength .int z q) (h : M_tapeLength q = some z) : At X 0 [(0, .ref (adOf X 0))] [] q := by
  unfold M_tapeLength at h
  refine a_aload_n C 0 rfl rfl dX11_tapeLength_0 ?_
  refine gM_taped C S dX11_tapeLength_1 ?_
  exact a_iretR hret h rfl dX11_tapeLength_4
theorem c_M_tapeLength {l : Launch} {D : va_G} {I : ClassId × ClassId × ClassId × ClassId} {ad : Nat → Nat} {q : St} {z : Int32} (h : M_tapeLength q = some z) : Ctr l D I zT 18 (shM I) ad yX11_tapeLength cX11_tapeLength 1 (some .int) rmM_tapeLength [.ref (ad 0)] q (some z) q :=
  ctr_ofI (by decide) (Nat.le_of_ble_eq_true rfl) (fun p e s m args below meth c Q H0 X hX C hret => by subst hX; exact w_M_tapeLength C ⟨rfl, rfl, rfl⟩ hret h)
