abbrev rm_K_busiest : Room := { frames := 3, cells := 0, slots := 0, locals := 71 }
def K_busiest_B15 (q : St) (rec : Int32 → Int32 → Option (Int32 × St)) (v1 : Int32) (v2 : Int32) : Option (Int32 × St) :=
  if (gt q 1 1) ≤ v2 then
    some ((-2 : Int32), q)
  else
    b1 (Fl_busierThan q v2) fun x4 =>
    if x4 = v1 then
      some (v2, q)
    else
      rec v1 (v2 + 1)
theorem w_K_busiest_B15 {X : Cv} (C : Cx X cX10_busiest RX10 rm_K_busiest 3) (S : IsK X) (q : St) {z : Int32 × St} (hret : RokI X cX10_busiest .int z.1 z.2) (rec : Int32 → Int32 → Option (Int32 × St)) (hrec : ∀ (v1 : Int32) (v2 : Int32), rec v1 v2 = some z → At X 15 [(0, .ref (adOf X 0)), (1, .int v1), (2, .int v2)] [] q) (v1 : Int32) (v2 : Int32) (h : K_busiest_B15 q rec v1 v2 = some z) : At X 15 [(0, .ref (adOf X 0)), (1, .int v1), (2, .int v2)] [] q := by
  unfold K_busiest_B15 at h
  refine a_iload_n C 2 rfl rfl dX10_busiest_15 ?_
  refine a_aload_n C 0 rfl rfl dX10_busiest_16 ?_
  refine gK_10_12 C S dX10_busiest_17 ?_
  refine gK_10_129 C S (Or.inl rfl) dX10_busiest_20 ?_
  refine a_icmp_ge C 46 (by decide) dX10_busiest_23 (fun c3 => ?_) (fun c3 => ?_)
  · replace h := ifp c3 h
    refine a_bipush (v := -2) C (by decide) dX10_busiest_46 ?_
    exact a_iret hret h rfl dX10_busiest_48
  · replace h := ifn c3 h
    refine a_aload_n C 0 rfl rfl dX10_busiest_26 ?_
    refine gK_10_66 C S dX10_busiest_27 ?_
    refine a_iload_n C 2 rfl rfl dX10_busiest_30 ?_
    obtain ⟨x4, e_x4, h⟩ := b1s h
    refine kK_10_300 C S e_x4 ⟨(Nat.le_of_ble_eq_true rfl), (Nat.le_of_ble_eq_true rfl)⟩ (Nat.le_of_ble_eq_true rfl) dX10_busiest_31 ?_
    refine a_iload_n C 1 rfl rfl dX10_busiest_34 ?_
    refine a_icmp_ne C 40 (by decide) dX10_busiest_35 (fun c5 => ?_) (fun c5 => ?_)
    · replace h := ifn c5 h
      refine a_iinc (v := (v2 + 1)) C [(2, .int (v2 + 1)), (0, .ref (adOf X 0)), (1, .int v1)] 2 rfl (congrArg (HAdd.hAdd v2) (by decide : Int32.ofInt (1) = (1 : Int32))) (by decide) rfl dX10_busiest_40 ?_
      refine a_goto C 15 (by decide) dX10_busiest_43 ?_
      exact At.sub [1, 2, 0] rfl (hrec _ _ h)
    · replace h := ifp c5 h
      refine a_iload_n C 2 rfl rfl dX10_busiest_38 ?_
      exact a_iret hret h rfl dX10_busiest_39
def K_busiest_L15 (q : St) : Nat → Int32 → Int32 → Option (Int32 × St)
  | 0, _, _ => none
  | n + 1, v1, v2 => K_busiest_B15 q (K_busiest_L15 q n) v1 v2
theorem w_K_busiest_L15 {X : Cv} (C : Cx X cX10_busiest RX10 rm_K_busiest 3) (S : IsK X) (q : St) {z : Int32 × St} (hret : RokI X cX10_busiest .int z.1 z.2) (n : Nat) : ∀ (v1 : Int32) (v2 : Int32), K_busiest_L15 q n v1 v2 = some z → At X 15 [(0, .ref (adOf X 0)), (1, .int v1), (2, .int v2)] [] q := by
  induction n with
  | zero => intro v1 v2 h; cases h
  | succ n ih => intro v1 v2 h; exact w_K_busiest_B15 C S _ hret _ ih v1 v2 h
def K_busiest (q : St) (v1 : Int32) : Option (Int32 × St) :=
  if (0 : Int32) ≤ v1 then
    b1 (Fl_measure q) fun q2 =>
    K_busiest_L15 q2 FU v1 (0 : Int32)
  else
    some ((-1 : Int32), q)
theorem w_K_busiest {X : Cv} (C : Cx X cX10_busiest RX10 rm_K_busiest 3) (S : IsK X) {z : Int32 × St} (hret : RokI X cX10_busiest .int z.1 z.2) (v1 : Int32) (q : St) (h : K_busiest q v1 = some z) : At X 0 [(0, .ref (adOf X 0)), (1, .int v1)] [] q := by
  unfold K_busiest at h
  refine a_iload_n C 1 rfl rfl dX10_busiest_0 ?_
  refine a_if_ge C 6 (by decide) dX10_busiest_1 (fun c1 => ?_) (fun c1 => ?_)
  · replace h := ifp c1 h
    refine a_aload_n C 0 rfl rfl dX10_busiest_6 ?_
    refine gK_10_66 C S dX10_busiest_7 ?_
    obtain ⟨q2, e_q2, h⟩ := b1s h
    refine kK_10_247 C S e_q2 ⟨(Nat.le_of_ble_eq_true rfl), (Nat.le_of_ble_eq_true rfl)⟩ (Nat.le_of_ble_eq_true rfl) dX10_busiest_10 ?_
    refine a_iconst (v := 0) C (by decide) dX10_busiest_13 ?_
    refine a_istore_n C [(2, .int (0 : Int32)), (0, .ref (adOf X 0)), (1, .int v1)] rfl (by decide) rfl dX10_busiest_14 ?_
    exact At.sub [1, 2, 0] rfl (w_K_busiest_L15 C S _ hret _ _ _ h)
  · replace h := ifn c1 h
    refine a_iconst (v := -1) C (by decide) dX10_busiest_4 ?_
    exact a_iret hret h rfl dX10_busiest_5
theorem c_K_busiest {l : Launch} {D : va_G} {I : ClassId × ClassId × ClassId × ClassId} {ad : Nat → Nat} {q : St} {v1 : Int32} {z : Int32 × St} (h : K_busiest q v1 = some z) : Ctr l D I (zK ad) 168 (shK I) ad yX10_busiest cX10_busiest 3 (some .int) rm_K_busiest [.ref (ad 0), .int v1] q (some z.1) z.2 :=
  ctr_ofI (by decide) (Nat.le_of_ble_eq_true rfl) (fun p e s m args below meth c Q H0 X hX C hret => by subst hX; exact w_K_busiest C ⟨rfl, rfl, rfl⟩ hret _ _ h)
abbrev rm_K_offer : Room := { frames := 5, cells := 0, slots := 0, locals := 122 }
def K_offer (q : St) (v1 : Int32) (v2 : Int32) : Option (Int32 × St) :=
  b1 (K_isNode q v1) fun x1 =>
  if x1 = (0 : Int32) then
    some ((-1 : Int32), q)
  else
    b1 (K_isFormat q v2) fun x3 =>
    if x3 = (0 : Int32) then
      some ((-1 : Int32), q)
    else
      b1 (Ss_copyFrom 30 19 q) fun q5 =>
      b2 (Ss_enrol q5 v1 v2 (gt q5 1 3)) fun x6 q7 =>
      b2 (Tr_join q7 x6) fun x8 q9 =>
      b1 (Ss_copyFrom 19 30 q9) fun q10 =>
      some (x8, q10)
theorem w_K_offer {X : Cv} (C : Cx X cX10_offer RX10 rm_K_offer 5) (S : IsK X) {z : Int32 × St} (hret : RokI X cX10_offer .int z.1 z.2) (v1 : Int32) (v2 : Int32) (q : St) (h : K_offer q v1 v2 = some z) : At X 0 [(0, .ref (adOf X 0)), (1, .int v1), (2, .int v2)] [] q := by
  unfold K_offer at h
  refine a_aload_n C 0 rfl rfl dX10_offer_0 ?_
  refine a_iload_n C 1 rfl rfl dX10_offer_1 ?_
  obtain ⟨x1, e_x1, h⟩ := b1s h
  refine kK_10_149 C S e_x1 ⟨(Nat.le_of_ble_eq_true rfl), (Nat.le_of_ble_eq_true rfl)⟩ (Nat.le_of_ble_eq_true rfl) dX10_offer_2 ?_
  refine a_if_eq C 16 (by decide) dX10_offer_5 (fun c2 => ?_) (fun c2 => ?_)
  · replace h := ifp c2 h
    refine a_iconst (v := -1) C (by decide) dX10_offer_16 ?_
    exact a_iret hret h rfl dX10_offer_17
  · replace h := ifn c2 h
    refine a_aload_n C 0 rfl rfl dX10_offer_8 ?_
    refine a_iload_n C 2 rfl rfl dX10_offer_9 ?_
    obtain ⟨x3, e_x3, h⟩ := b1s h
    refine kK_10_138 C S e_x3 ⟨(Nat.le_of_ble_eq_true rfl), (Nat.le_of_ble_eq_true rfl)⟩ (Nat.le_of_ble_eq_true rfl) dX10_offer_10 ?_
    refine a_if_ne C 18 (by decide) dX10_offer_13 (fun c4 => ?_) (fun c4 => ?_)
    · replace h := ifn c4 h
      refine a_aload_n C 0 rfl rfl dX10_offer_18 ?_
      refine gK_10_26 C S dX10_offer_19 ?_
      refine a_aload_n C 0 rfl rfl dX10_offer_22 ?_
      refine gK_10_22 C S dX10_offer_23 ?_
      obtain ⟨q5, e_q5, h⟩ := b1s h
      refine kK_10_201 C S (Or.inr (Or.inl rfl)) (Or.inl rfl) e_q5 ⟨(Nat.le_of_ble_eq_true rfl), (Nat.le_of_ble_eq_true rfl)⟩ (Nat.le_of_ble_eq_true rfl) dX10_offer_26 ?_
      refine a_aload_n C 0 rfl rfl dX10_offer_29 ?_
      refine gK_10_22 C S dX10_offer_30 ?_
      refine a_iload_n C 1 rfl rfl dX10_offer_33 ?_
      refine a_iload_n C 2 rfl rfl dX10_offer_34 ?_
      refine a_aload_n C 0 rfl rfl dX10_offer_35 ?_
      refine gK_10_12 C S dX10_offer_36 ?_
      refine gK_10_135 C S (Or.inl rfl) dX10_offer_39 ?_
      obtain ⟨x6, q7, e_q7, h⟩ := b2s h
      refine kK_10_173 C S e_q7 ⟨(Nat.le_of_ble_eq_true rfl), (Nat.le_of_ble_eq_true rfl)⟩ (Nat.le_of_ble_eq_true rfl) dX10_offer_42 ?_
      refine a_istore_n C [(3, .int x6), (0, .ref (adOf X 0)), (1, .int v1), (2, .int v2)] rfl (by decide) rfl dX10_offer_45 ?_
      refine a_aload_n C 1 rfl rfl dX10_offer_46 ?_
      refine gK_10_82 C S dX10_offer_47 ?_
      refine a_iload_n C 0 rfl rfl dX10_offer_50 ?_
      obtain ⟨x8, q9, e_q9, h⟩ := b2s h
      refine kK_10_177 C S e_q9 ⟨(Nat.le_of_ble_eq_true rfl), (Nat.le_of_ble_eq_true rfl)⟩ (Nat.le_of_ble_eq_true rfl) dX10_offer_51 ?_
      refine a_istore C [(4, .int x8), (3, .int x6), (0, .ref (adOf X 0)), (1, .int v1), (2, .int v2)] (by decide) rfl dX10_offer_54 ?_
      refine a_aload_n C 2 rfl rfl dX10_offer_56 ?_
      refine gK_10_22 C S dX10_offer_57 ?_
      refine a_aload_n C 2 rfl rfl dX10_offer_60 ?_
      refine gK_10_26 C S dX10_offer_61 ?_
      obtain ⟨q10, e_q10, h⟩ := b1s h
      refine kK_10_201 C S (Or.inl rfl) (Or.inr (Or.inl rfl)) e_q10 ⟨(Nat.le_of_ble_eq_true rfl), (Nat.le_of_ble_eq_true rfl)⟩ (Nat.le_of_ble_eq_true rfl) dX10_offer_64 ?_
      refine a_iload C 0 rfl dX10_offer_67 ?_
      exact a_iret hret h rfl dX10_offer_69
    · replace h := ifp c4 h
      refine a_iconst (v := -1) C (by decide) dX10_offer_16 ?_
      exact a_iret hret h rfl dX10_offer_17
theorem c_K_offer {l : Launch} {D : va_G} {I : ClassId × ClassId × ClassId × ClassId} {ad : Nat → Nat} {q : St} {v1 : Int32} {v2 : Int32} {z : Int32 × St} (h : K_offer q v1 v2 = some z) : Ctr l D I (zK ad) 168 (shK I) ad yX10_offer cX10_offer 5 (some .int) rm_K_offer [.ref (ad 0), .int v1, .int v2] q (some z.1) z.2 :=
  ctr_ofI (by decide) (Nat.le_of_ble_eq_true rfl) (fun p e s m args below meth c Q H0 X hX C hret => by subst hX; exact w_K_offer C ⟨rfl, rfl, rfl⟩ hret _ _ _ h)
abbrev rm_K_graftNode : Room := { frames := 3, cells := 0, slots := 0, locals := 75 }
def K_graftNode (q : St) (v1 : Int32) (v2 : Int32) (v3 : Int32) (v4 : Int32) : Option (Int32 × St) :=
  b1 (K_isNode q v1) fun x1 =>
  if x1 = (0 : Int32) then
    some ((-1 : Int32), q)
  else
    b1 (K_isFormat q v2) fun x3 =>
    if x3 = (0 : Int32) then
      some ((-1 : Int32), q)
    else
      b1 (K_isLevel q v3) fun x5 =>
      if x5 = (0 : Int32) then
        some ((-1 : Int32), q)
      else
        if (0 : Int32) ≤ v4 then
          b1 (rd 16 q 28 v1) fun x8 =>
          if x8 = (0 : Int32) then
            b1 (Su_rateOf q v2 v3) fun x10 =>
            b2 (Gr_findPath q v1 x10) fun x11 q12 =>
            if x11 = (0 : Int32) then
              some ((-2 : Int32), q12)
            else
              if (gt q12 161 6) ≤ v4 then
                some ((-2 : Int32), q12)
              else
                b1 (rd 16 q12 164 v4) fun x15 =>
                some (x15, q12)
          else
            some ((-2 : Int32), q)
        else
          some ((-1 : Int32), q)
theorem w_K_graftNode {X : Cv} (C : Cx X cX10_graftNode RX10 rm_K_graftNode 5) (S : IsK X) {z : Int32 × St} (hret : RokI X cX10_graftNode .int z.1 z.2) (v1 : Int32) (v2 : Int32) (v3 : Int32) (v4 : Int32) (q : St) (h : K_graftNode q v1 v2 v3 v4 = some z) : At X 0 [(0, .ref (adOf X 0)), (1, .int v1), (2, .int v2), (3, .int v3), (4, .int v4)] [] q := by
  unfold K_graftNode at h
  refine a_aload_n C 0 rfl rfl dX10_graftNode_0 ?_
  refine a_iload_n C 1 rfl rfl dX10_graftNode_1 ?_
  obtain ⟨x1, e_x1, h⟩ := b1s h
  refine kK_10_149 C S e_x1 ⟨(Nat.le_of_ble_eq_true rfl), (Nat.le_of_ble_eq_true rfl)⟩ (Nat.le_of_ble_eq_true rfl) dX10_graftNode_2 ?_
  refine a_if_eq C 29 (by decide) dX10_graftNode_5 (fun c2 => ?_) (fun c2 => ?_)
  · replace h := ifp c2 h
    refine a_iconst (v := -1) C (by decide) dX10_graftNode_29 ?_
    exact a_iret hret h rfl dX10_graftNode_30
  · replace h := ifn c2 h
    refine a_aload_n C 0 rfl rfl dX10_graftNode_8 ?_
    refine a_iload_n C 2 rfl rfl dX10_graftNode_9 ?_
    obtain ⟨x3, e_x3, h⟩ := b1s h
    refine kK_10_138 C S e_x3 ⟨(Nat.le_of_ble_eq_true rfl), (Nat.le_of_ble_eq_true rfl)⟩ (Nat.le_of_ble_eq_true rfl) dX10_graftNode_10 ?_
    refine a_if_eq C 29 (by decide) dX10_graftNode_13 (fun c4 => ?_) (fun c4 => ?_)
    · replace h := ifp c4 h
      refine a_iconst (v := -1) C (by decide) dX10_graftNode_29 ?_
      exact a_iret hret h rfl dX10_graftNode_30
    · replace h := ifn c4 h
      refine a_aload_n C 0 rfl rfl dX10_graftNode_16 ?_
      refine a_iload_n C 3 rfl rfl dX10_graftNode_17 ?_
      obtain ⟨x5, e_x5, h⟩ := b1s h
      refine kK_10_142 C S e_x5 ⟨(Nat.le_of_ble_eq_true rfl), (Nat.le_of_ble_eq_true rfl)⟩ (Nat.le_of_ble_eq_true rfl) dX10_graftNode_18 ?_
      refine a_if_eq C 29 (by decide) dX10_graftNode_21 (fun c6 => ?_) (fun c6 => ?_)
      · replace h := ifp c6 h
        refine a_iconst (v := -1) C (by decide) dX10_graftNode_29 ?_
        exact a_iret hret h rfl dX10_graftNode_30
      · replace h := ifn c6 h
        refine a_iload C 4 rfl dX10_graftNode_24 ?_
        refine a_if_ge C 31 (by decide) dX10_graftNode_26 (fun c7 => ?_) (fun c7 => ?_)
        · replace h := ifp c7 h
          refine a_aload_n C 0 rfl rfl dX10_graftNode_31 ?_
          refine gK_10_22 C S dX10_graftNode_32 ?_
          refine gK_10_264 C S (Or.inl rfl) dX10_graftNode_35 ?_
          refine a_iload_n C 1 rfl rfl dX10_graftNode_38 ?_
          obtain ⟨x8, e_x8, h⟩ := b1s h
          refine lK_s9 (o := 19) C S (Or.inl rfl) e_x8 dX10_graftNode_39 ?_
          refine a_if_ne C 63 (by decide) dX10_graftNode_40 (fun c9 => ?_) (fun c9 => ?_)
          · replace h := ifn c9 h
            refine a_bipush (v := -2) C (by decide) dX10_graftNode_63 ?_
            exact a_iret hret h rfl dX10_graftNode_65
          · replace h := ifp c9 h
            refine a_aload_n C 0 rfl rfl dX10_graftNode_43 ?_
            refine gK_10_73 C S dX10_graftNode_44 ?_
            refine a_iload_n C 1 rfl rfl dX10_graftNode_47 ?_
            refine a_aload_n C 0 rfl rfl dX10_graftNode_48 ?_
            refine gK_10_12 C S dX10_graftNode_49 ?_
            refine a_iload_n C 2 rfl rfl dX10_graftNode_52 ?_
            refine a_iload_n C 3 rfl rfl dX10_graftNode_53 ?_
            obtain ⟨x10, e_x10, h⟩ := b1s h
            refine kK_10_145 C S e_x10 ⟨(Nat.le_of_ble_eq_true rfl), (Nat.le_of_ble_eq_true rfl)⟩ (Nat.le_of_ble_eq_true rfl) dX10_graftNode_54 ?_
            obtain ⟨x11, q12, e_q12, h⟩ := b2s h
            refine kK_10_303 C S e_q12 ⟨(Nat.le_of_ble_eq_true rfl), (Nat.le_of_ble_eq_true rfl)⟩ (Nat.le_of_ble_eq_true rfl) dX10_graftNode_57 ?_
            refine a_if_ne C 66 (by decide) dX10_graftNode_60 (fun c13 => ?_) (fun c13 => ?_)
            · replace h := ifn c13 h
              refine a_iload C 4 rfl dX10_graftNode_66 ?_
              refine a_aload_n C 0 rfl rfl dX10_graftNode_68 ?_
              refine gK_10_73 C S dX10_graftNode_69 ?_
              refine gK_10_306 C S dX10_graftNode_72 ?_
              refine a_icmp_ge C 91 (by decide) dX10_graftNode_75 (fun c14 => ?_) (fun c14 => ?_)
              · replace h := ifp c14 h
                refine a_bipush (v := -2) C (by decide) dX10_graftNode_91 ?_
                exact a_iret hret h rfl dX10_graftNode_93
              · replace h := ifn c14 h
                refine a_aload_n C 0 rfl rfl dX10_graftNode_78 ?_
                refine gK_10_73 C S dX10_graftNode_79 ?_
                refine gK_10_307 C S dX10_graftNode_82 ?_
                refine a_iload C 4 rfl dX10_graftNode_85 ?_
                obtain ⟨x15, e_x15, h⟩ := b1s h
                refine lK_164 C S e_x15 dX10_graftNode_87 ?_
                refine a_goto C 93 (by decide) dX10_graftNode_88 ?_
                exact a_iret hret h rfl dX10_graftNode_93
            · replace h := ifp c13 h
              refine a_bipush (v := -2) C (by decide) dX10_graftNode_63 ?_
              exact a_iret hret h rfl dX10_graftNode_65
        · replace h := ifn c7 h
          refine a_iconst (v := -1) C (by decide) dX10_graftNode_29 ?_
          exact a_iret hret h rfl dX10_graftNode_30
theorem c_K_graftNode {l : Launch} {D : va_G} {I : ClassId × ClassId × ClassId × ClassId} {ad : Nat → Nat} {q : St} {v1 : Int32} {v2 : Int32} {v3 : Int32} {v4 : Int32} {z : Int32 × St} (h : K_graftNode q v1 v2 v3 v4 = some z) : Ctr l D I (zK ad) 168 (shK I) ad yX10_graftNode cX10_graftNode 5 (some .int) rm_K_graftNode [.ref (ad 0), .int v1, .int v2, .int v3, .int v4] q (some z.1) z.2 :=
  ctr_ofI (by decide) (Nat.le_of_ble_eq_true rfl) (fun p e s m args below meth c Q H0 X hX C hret => by subst hX; exact w_K_graftNode C ⟨rfl, rfl, rfl⟩ hret _ _ _ _ _ h)
abbrev rm_K_gain : Room := { frames := 5, cells := 0, slots := 0, locals := 125 }
def K_gain (q : St) (v1 : Int32) (v2 : Int32) : Option (Int32 × St) :=
  b1 (K_isNode q v1) fun x1 =>
  if x1 = (0 : Int32) then
    some ((-1 : Int32), q)
  else
    b1 (K_isMadeFormat q v2) fun x3 =>
    if x3 = (0 : Int32) then
      some ((-1 : Int32), q)
    else
      b1 (Ss_copyFrom 30 19 q) fun q5 =>
      b2 (Tr_tryConverter q5 v1 v2) fun x6 q7 =>
      if x6 = (0 : Int32) then
        some ((-2 : Int32), q7)
      else
        b2 (Tr_raiseAll q7) fun x9 q10 =>
        b1 (Ss_copyFrom 19 30 q10) fun q11 =>
        some (x9, q11)
theorem w_K_gain {X : Cv} (C : Cx X cX10_gain RX10 rm_K_gain 4) (S : IsK X) {z : Int32 × St} (hret : RokI X cX10_gain .int z.1 z.2) (v1 : Int32) (v2 : Int32) (q : St) (h : K_gain q v1 v2 = some z) : At X 0 [(0, .ref (adOf X 0)), (1, .int v1), (2, .int v2)] [] q := by
  unfold K_gain at h
  refine a_aload_n C 0 rfl rfl dX10_gain_0 ?_
  refine a_iload_n C 1 rfl rfl dX10_gain_1 ?_
  obtain ⟨x1, e_x1, h⟩ := b1s h
  refine kK_10_149 C S e_x1 ⟨(Nat.le_of_ble_eq_true rfl), (Nat.le_of_ble_eq_true rfl)⟩ (Nat.le_of_ble_eq_true rfl) dX10_gain_2 ?_
  refine a_if_eq C 16 (by decide) dX10_gain_5 (fun c2 => ?_) (fun c2 => ?_)
  · replace h := ifp c2 h
    refine a_iconst (v := -1) C (by decide) dX10_gain_16 ?_
    exact a_iret hret h rfl dX10_gain_17
  · replace h := ifn c2 h
    refine a_aload_n C 0 rfl rfl dX10_gain_8 ?_
    refine a_iload_n C 2 rfl rfl dX10_gain_9 ?_
    obtain ⟨x3, e_x3, h⟩ := b1s h
    refine kK_10_207 C S e_x3 ⟨(Nat.le_of_ble_eq_true rfl), (Nat.le_of_ble_eq_true rfl)⟩ (Nat.le_of_ble_eq_true rfl) dX10_gain_10 ?_
    refine a_if_ne C 18 (by decide) dX10_gain_13 (fun c4 => ?_) (fun c4 => ?_)
    · replace h := ifn c4 h
      refine a_aload_n C 0 rfl rfl dX10_gain_18 ?_
      refine gK_10_26 C S dX10_gain_19 ?_
      refine a_aload_n C 0 rfl rfl dX10_gain_22 ?_
      refine gK_10_22 C S dX10_gain_23 ?_
      obtain ⟨q5, e_q5, h⟩ := b1s h
      refine kK_10_201 C S (Or.inr (Or.inl rfl)) (Or.inl rfl) e_q5 ⟨(Nat.le_of_ble_eq_true rfl), (Nat.le_of_ble_eq_true rfl)⟩ (Nat.le_of_ble_eq_true rfl) dX10_gain_26 ?_
      refine a_aload_n C 0 rfl rfl dX10_gain_29 ?_
      refine gK_10_82 C S dX10_gain_30 ?_
      refine a_iload_n C 1 rfl rfl dX10_gain_33 ?_
      refine a_iload_n C 2 rfl rfl dX10_gain_34 ?_
      obtain ⟨x6, q7, e_q7, h⟩ := b2s h
      refine kK_10_210 C S e_q7 ⟨(Nat.le_of_ble_eq_true rfl), (Nat.le_of_ble_eq_true rfl)⟩ (Nat.le_of_ble_eq_true rfl) dX10_gain_35 ?_
      refine a_if_ne C 44 (by decide) dX10_gain_38 (fun c8 => ?_) (fun c8 => ?_)
      · replace h := ifn c8 h
        refine a_aload_n C 0 rfl rfl dX10_gain_44 ?_
        refine gK_10_82 C S dX10_gain_45 ?_
        obtain ⟨x9, q10, e_q10, h⟩ := b2s h
        refine kK_10_223 C S e_q10 ⟨(Nat.le_of_ble_eq_true rfl), (Nat.le_of_ble_eq_true rfl)⟩ (Nat.le_of_ble_eq_true rfl) dX10_gain_48 ?_
        refine a_istore_n C [(3, .int x9), (0, .ref (adOf X 0)), (1, .int v1), (2, .int v2)] rfl (by decide) rfl dX10_gain_51 ?_
        refine a_aload_n C 1 rfl rfl dX10_gain_52 ?_
        refine gK_10_22 C S dX10_gain_53 ?_
        refine a_aload_n C 1 rfl rfl dX10_gain_56 ?_
        refine gK_10_26 C S dX10_gain_57 ?_
        obtain ⟨q11, e_q11, h⟩ := b1s h
        refine kK_10_201 C S (Or.inl rfl) (Or.inr (Or.inl rfl)) e_q11 ⟨(Nat.le_of_ble_eq_true rfl), (Nat.le_of_ble_eq_true rfl)⟩ (Nat.le_of_ble_eq_true rfl) dX10_gain_60 ?_
        refine a_iload_n C 0 rfl rfl dX10_gain_63 ?_
        exact a_iret hret h rfl dX10_gain_64
      · replace h := ifp c8 h
        refine a_bipush (v := -2) C (by decide) dX10_gain_41 ?_
        exact a_iret hret h rfl dX10_gain_43
    · replace h := ifp c4 h
      refine a_iconst (v := -1) C (by decide) dX10_gain_16 ?_
      exact a_iret hret h rfl dX10_gain_17
theorem c_K_gain {l : Launch} {D : va_G} {I : ClassId × ClassId × ClassId × ClassId} {ad : Nat → Nat} {q : St} {v1 : Int32} {v2 : Int32} {z : Int32 × St} (h : K_gain q v1 v2 = some z) : Ctr l D I (zK ad) 168 (shK I) ad yX10_gain cX10_gain 4 (some .int) rm_K_gain [.ref (ad 0), .int v1, .int v2] q (some z.1) z.2 :=
  ctr_ofI (by decide) (Nat.le_of_ble_eq_true rfl) (fun p e s m args below meth c Q H0 X hX C hret => by subst hX; exact w_K_gain C ⟨rfl, rfl, rfl⟩ hret _ _ _ h)
theorem kK_10_310 {X : Cv} {cc : ByteArray} {rm : Room} {nL1 pc : Nat} {lv : List (Nat × Value)} {sk : List Value} {q : St} {v1 : Int32} {v2 : Int32} {z : Int32} {q2 : St} (C : Cx X cc RX10 rm nL1) (S : IsK X) (h : K_gain q v1 v2 = some (z, q2)) (hz : rm_K_gain.frames + 1 ≤ rm.frames ∧ 8 + (4 + 11) + rm_K_gain.locals ≤ rm.locals) (hr : (sk.map fun v => v.category).sum ≤ 8) (hd : decode cc pc = .ok (.invokevirtual 310, 3)) (k : At X (pc + 3) lv (.int z :: sk) q2) : At X pc lv (.int v2 :: .int v1 :: .ref (adOf X 0) :: sk) q := a_callVi (as := [.int v1, .int v2]) C (kp := 0) (kLt S (by decide)) (by rw [S.2.1]; rfl) rfl (by have hh := c_K_gain (l := X.2.1) (D := dOf X) (I := idOf X) (ad := adOf X) h; rw [← S.1, ← S.2.1, ← S.2.2] at hh; exact hh) (gd_V (tg 1171 (by decide +kernel) rfl) (tg 1164 (by decide +kernel) rfl) (tg 1165 (by decide +kernel) rfl) (tg 115 (by decide +kernel) rfl) (tg 1166 (by decide +kernel) rfl)) ⟨rfl, rfl, hz.1, hz.2⟩ ⟨by decide, by decide, by show Option.map _ (parseMethodDescriptor yX10_gain.desc) = some 2; decide⟩ hr rfl hd k
abbrev rm_K_bestPlace : Room := { frames := 6, cells := 0, slots := 0, locals := 148 }
def K_bestPlace_B19 (rec : Int32 → Int32 → Int32 → Int32 → St → Option (Int32 × St)) (v1 : Int32) (v2 : Int32) (v3 : Int32) (v4 : Int32) (q : St) : Option (Int32 × St) :=
  if (gt q 1 0) ≤ v4 then
    some (v2, q)
  else
    b2 (K_gain q v4 v1) fun x4 q5 =>
    if x4 ≤ v3 then
      rec v1 v2 v3 (v4 + 1) q5
    else
      rec v1 v4 x4 (v4 + 1) q5
theorem w_K_bestPlace_B19 {X : Cv} (C : Cx X cX10_bestPlace RX10 rm_K_bestPlace 6) (S : IsK X) {z : Int32 × St} (hret : RokI X cX10_bestPlace .int z.1 z.2) (rec : Int32 → Int32 → Int32 → Int32 → St → Option (Int32 × St)) (hrec : ∀ (v1 : Int32) (v2 : Int32) (v3 : Int32) (v4 : Int32) (q : St), rec v1 v2 v3 v4 q = some z → At X 19 [(0, .ref (adOf X 0)), (1, .int v1), (2, .int v2), (3, .int v3), (4, .int v4)] [] q) (v1 : Int32) (v2 : Int32) (v3 : Int32) (v4 : Int32) (q : St) (h : K_bestPlace_B19 rec v1 v2 v3 v4 q = some z) : At X 19 [(0, .ref (adOf X 0)), (1, .int v1), (2, .int v2), (3, .int v3), (4, .int v4)] [] q := by
  unfold K_bestPlace_B19 at h
  refine a_iload C 4 rfl dX10_bestPlace_19 ?_
  refine a_aload_n C 0 rfl rfl dX10_bestPlace_21 ?_
  refine gK_10_12 C S dX10_bestPlace_22 ?_
  refine gK_10_126 C S (Or.inl rfl) dX10_bestPlace_25 ?_
  refine a_icmp_ge C 58 (by decide) dX10_bestPlace_28 (fun c3 => ?_) (fun c3 => ?_)
  · replace h := ifp c3 h
    refine a_iload_n C 2 rfl rfl dX10_bestPlace_58 ?_
    exact a_iret hret h rfl dX10_bestPlace_59
  · replace h := ifn c3 h
    refine a_aload_n C 0 rfl rfl dX10_bestPlace_31 ?_
    refine a_iload C 4 rfl dX10_bestPlace_32 ?_
    refine a_iload_n C 1 rfl rfl dX10_bestPlace_34 ?_
    obtain ⟨x4, q5, e_q5, h⟩ := b2s h
    refine kK_10_310 C S e_q5 ⟨(Nat.le_of_ble_eq_true rfl), (Nat.le_of_ble_eq_true rfl)⟩ (Nat.le_of_ble_eq_true rfl) dX10_bestPlace_35 ?_
    refine a_istore C [(5, .int x4), (0, .ref (adOf X 0)), (1, .int v1), (2, .int v2), (3, .int v3), (4, .int v4)] (by decide) rfl dX10_bestPlace_38 ?_
    refine a_iload C 0 rfl dX10_bestPlace_40 ?_
    refine a_iload_n C 4 rfl rfl dX10_bestPlace_42 ?_
    refine a_icmp_le C 52 (by decide) dX10_bestPlace_43 (fun c6 => ?_) (fun c6 => ?_)
    · replace h := ifp c6 h
      refine a_iinc (v := (v4 + 1)) C [(4, .int (v4 + 1)), (5, .int x4), (0, .ref (adOf X 0)), (1, .int v1), (2, .int v2), (3, .int v3)] 5 rfl (congrArg (HAdd.hAdd v4) (by decide : Int32.ofInt (1) = (1 : Int32))) (by decide) rfl dX10_bestPlace_52 ?_
      refine a_goto C 19 (by decide) dX10_bestPlace_55 ?_
      exact At.sub [2, 3, 4, 5, 0] rfl (hrec _ _ _ _ _ h)
    · replace h := ifn c6 h
      refine a_iload C 5 rfl dX10_bestPlace_46 ?_
      refine a_istore_n C [(2, .int v4), (5, .int x4), (0, .ref (adOf X 0)), (1, .int v1), (3, .int v3), (4, .int v4)] rfl (by decide) rfl dX10_bestPlace_48 ?_
      refine a_iload C 1 rfl dX10_bestPlace_49 ?_
      refine a_istore_n C [(3, .int x4), (2, .int v4), (5, .int x4), (0, .ref (adOf X 0)), (1, .int v1), (4, .int v4)] rfl (by decide) rfl dX10_bestPlace_51 ?_
      refine a_iinc (v := (v4 + 1)) C [(4, .int (v4 + 1)), (3, .int x4), (2, .int v4), (5, .int x4), (0, .ref (adOf X 0)), (1, .int v1)] 5 rfl (congrArg (HAdd.hAdd v4) (by decide : Int32.ofInt (1) = (1 : Int32))) (by decide) rfl dX10_bestPlace_52 ?_
      refine a_goto C 19 (by decide) dX10_bestPlace_55 ?_
      exact At.sub [4, 5, 2, 1, 0] rfl (hrec _ _ _ _ _ h)
def K_bestPlace_L19 : Nat → Int32 → Int32 → Int32 → Int32 → St → Option (Int32 × St)
  | 0, _, _, _, _, _ => none
  | n + 1, v1, v2, v3, v4, q => K_bestPlace_B19 (K_bestPlace_L19 n) v1 v2 v3 v4 q
theorem w_K_bestPlace_L19 {X : Cv} (C : Cx X cX10_bestPlace RX10 rm_K_bestPlace 6) (S : IsK X) {z : Int32 × St} (hret : RokI X cX10_bestPlace .int z.1 z.2) (n : Nat) : ∀ (v1 : Int32) (v2 : Int32) (v3 : Int32) (v4 : Int32) (q : St), K_bestPlace_L19 n v1 v2 v3 v4 q = some z → At X 19 [(0, .ref (adOf X 0)), (1, .int v1), (2, .int v2), (3, .int v3), (4, .int v4)] [] q := by
  induction n with
  | zero => intro v1 v2 v3 v4 q h; cases h
  | succ n ih => intro v1 v2 v3 v4 q h; exact w_K_bestPlace_B19 C S hret _ ih v1 v2 v3 v4 q h
def K_bestPlace (q : St) (v1 : Int32) : Option (Int32 × St) :=
  b1 (K_isMadeFormat q v1) fun x1 =>
  if x1 = (0 : Int32) then
    some ((-1 : Int32), q)
  else
    K_bestPlace_L19 FU v1 (-2 : Int32) (-2 : Int32) (0 : Int32) q
theorem w_K_bestPlace {X : Cv} (C : Cx X cX10_bestPlace RX10 rm_K_bestPlace 6) (S : IsK X) {z : Int32 × St} (hret : RokI X cX10_bestPlace .int z.1 z.2) (v1 : Int32) (q : St) (h : K_bestPlace q v1 = some z) : At X 0 [(0, .ref (adOf X 0)), (1, .int v1)] [] q := by
  unfold K_bestPlace at h
  refine a_aload_n C 0 rfl rfl dX10_bestPlace_0 ?_
  refine a_iload_n C 1 rfl rfl dX10_bestPlace_1 ?_
  obtain ⟨x1, e_x1, h⟩ := b1s h
  refine kK_10_207 C S e_x1 ⟨(Nat.le_of_ble_eq_true rfl), (Nat.le_of_ble_eq_true rfl)⟩ (Nat.le_of_ble_eq_true rfl) dX10_bestPlace_2 ?_
  refine a_if_ne C 10 (by decide) dX10_bestPlace_5 (fun c2 => ?_) (fun c2 => ?_)
  · replace h := ifn c2 h
    refine a_bipush (v := -2) C (by decide) dX10_bestPlace_10 ?_
    refine a_istore_n C [(2, .int (-2 : Int32)), (0, .ref (adOf X 0)), (1, .int v1)] rfl (by decide) rfl dX10_bestPlace_12 ?_
    refine a_bipush (v := -2) C (by decide) dX10_bestPlace_13 ?_
    refine a_istore_n C [(3, .int (-2 : Int32)), (2, .int (-2 : Int32)), (0, .ref (adOf X 0)), (1, .int v1)] rfl (by decide) rfl dX10_bestPlace_15 ?_
    refine a_iconst (v := 0) C (by decide) dX10_bestPlace_16 ?_
    refine a_istore C [(4, .int (0 : Int32)), (3, .int (-2 : Int32)), (2, .int (-2 : Int32)), (0, .ref (adOf X 0)), (1, .int v1)] (by decide) rfl dX10_bestPlace_17 ?_
    exact At.sub [3, 4, 2, 1, 0] rfl (w_K_bestPlace_L19 C S hret _ _ _ _ _ _ h)
  · replace h := ifp c2 h
    refine a_iconst (v := -1) C (by decide) dX10_bestPlace_8 ?_
    exact a_iret hret h rfl dX10_bestPlace_9
theorem c_K_bestPlace {l : Launch} {D : va_G} {I : ClassId × ClassId × ClassId × ClassId} {ad : Nat → Nat} {q : St} {v1 : Int32} {z : Int32 × St} (h : K_bestPlace q v1 = some z) : Ctr l D I (zK ad) 168 (shK I) ad yX10_bestPlace cX10_bestPlace 6 (some .int) rm_K_bestPlace [.ref (ad 0), .int v1] q (some z.1) z.2 :=
  ctr_ofI (by decide) (Nat.le_of_ble_eq_true rfl) (fun p e s m args below meth c Q H0 X hX C hret => by subst hX; exact w_K_bestPlace C ⟨rfl, rfl, rfl⟩ hret _ _ h)
abbrev rm_K_loss : Room := { frames := 6, cells := 0, slots := 0, locals := 146 }
def K_loss (q : St) (v1 : Int32) : Option (Int32 × St) :=
  b1 (K_isLink q v1) fun x1 =>
  if x1 = (0 : Int32) then
    some ((-1 : Int32), q)
  else
    b1 (rd 32 q 26 v1) fun x3 =>
    if x3 = (0 : Int32) then
      some ((0 : Int32), q)
    else
      b1 (Ss_copyFrom 30 19 q) fun q5 =>
      b2 (Tr_closeLink q5 v1) fun x6 q7 =>
      b1 (Ss_copyFrom 19 30 q7) fun q8 =>
      some (x6, q8)
theorem w_K_loss {X : Cv} (C : Cx X cX10_loss RX10 rm_K_loss 3) (S : IsK X) {z : Int32 × St} (hret : RokI X cX10_loss .int z.1 z.2) (v1 : Int32) (q : St) (h : K_loss q v1 = some z) : At X 0 [(0, .ref (adOf X 0)), (1, .int v1)] [] q := by
  unfold K_loss at h
  refine a_aload_n C 0 rfl rfl dX10_loss_0 ?_
  refine a_iload_n C 1 rfl rfl dX10_loss_1 ?_
  obtain ⟨x1, e_x1, h⟩ := b1s h
  refine kK_10_156 C S e_x1 ⟨(Nat.le_of_ble_eq_true rfl), (Nat.le_of_ble_eq_true rfl)⟩ (Nat.le_of_ble_eq_true rfl) dX10_loss_2 ?_
  refine a_if_ne C 10 (by decide) dX10_loss_5 (fun c2 => ?_) (fun c2 => ?_)
  · replace h := ifn c2 h
    refine a_aload_n C 0 rfl rfl dX10_loss_10 ?_
    refine gK_10_22 C S dX10_loss_11 ?_
    refine gK_10_162 C S (Or.inl rfl) dX10_loss_14 ?_
    refine a_iload_n C 1 rfl rfl dX10_loss_17 ?_
    obtain ⟨x3, e_x3, h⟩ := b1s h
    refine lK_s7 (o := 19) C S (Or.inl rfl) e_x3 dX10_loss_18 ?_
    refine a_if_ne C 24 (by decide) dX10_loss_19 (fun c4 => ?_) (fun c4 => ?_)
    · replace h := ifn c4 h
      refine a_aload_n C 0 rfl rfl dX10_loss_24 ?_
      refine gK_10_26 C S dX10_loss_25 ?_
      refine a_aload_n C 0 rfl rfl dX10_loss_28 ?_
      refine gK_10_22 C S dX10_loss_29 ?_
      obtain ⟨q5, e_q5, h⟩ := b1s h
      refine kK_10_201 C S (Or.inr (Or.inl rfl)) (Or.inl rfl) e_q5 ⟨(Nat.le_of_ble_eq_true rfl), (Nat.le_of_ble_eq_true rfl)⟩ (Nat.le_of_ble_eq_true rfl) dX10_loss_32 ?_
      refine a_aload_n C 0 rfl rfl dX10_loss_35 ?_
      refine gK_10_82 C S dX10_loss_36 ?_
      refine a_iload_n C 1 rfl rfl dX10_loss_39 ?_
      obtain ⟨x6, q7, e_q7, h⟩ := b2s h
      refine kK_10_220 C S e_q7 ⟨(Nat.le_of_ble_eq_true rfl), (Nat.le_of_ble_eq_true rfl)⟩ (Nat.le_of_ble_eq_true rfl) dX10_loss_40 ?_
      refine a_istore_n C [(2, .int x6), (0, .ref (adOf X 0)), (1, .int v1)] rfl (by decide) rfl dX10_loss_43 ?_
      refine a_aload_n C 1 rfl rfl dX10_loss_44 ?_
      refine gK_10_22 C S dX10_loss_45 ?_
      refine a_aload_n C 1 rfl rfl dX10_loss_48 ?_
      refine gK_10_26 C S dX10_loss_49 ?_
      obtain ⟨q8, e_q8, h⟩ := b1s h
      refine kK_10_201 C S (Or.inl rfl) (Or.inr (Or.inl rfl)) e_q8 ⟨(Nat.le_of_ble_eq_true rfl), (Nat.le_of_ble_eq_true rfl)⟩ (Nat.le_of_ble_eq_true rfl) dX10_loss_52 ?_
      refine a_iload_n C 0 rfl rfl dX10_loss_55 ?_
      exact a_iret hret h rfl dX10_loss_56
    · replace h := ifp c4 h
      refine a_iconst (v := 0) C (by decide) dX10_loss_22 ?_
      exact a_iret hret h rfl dX10_loss_23
  · replace h := ifp c2 h
    refine a_iconst (v := -1) C (by decide) dX10_loss_8 ?_
    exact a_iret hret h rfl dX10_loss_9
theorem c_K_loss {l : Launch} {D : va_G} {I : ClassId × ClassId × ClassId × ClassId} {ad : Nat → Nat} {q : St} {v1 : Int32} {z : Int32 × St} (h : K_loss q v1 = some z) : Ctr l D I (zK ad) 168 (shK I) ad yX10_loss cX10_loss 3 (some .int) rm_K_loss [.ref (ad 0), .int v1] q (some z.1) z.2 :=
  ctr_ofI (by decide) (Nat.le_of_ble_eq_true rfl) (fun p e s m args below meth c Q H0 X hX C hret => by subst hX; exact w_K_loss C ⟨rfl, rfl, rfl⟩ hret _ _ h)
abbrev rm_K_criticalLink : Room := { frames := 6, cells := 0, slots := 0, locals := 146 }
def K_criticalLink_B18 (rec : Int32 → Int32 → Int32 → St → Option (Int32 × St)) (v1 : Int32) (v2 : Int32) (v3 : Int32) (q : St) : Option (Int32 × St) :=
  if (gt q 1 1) ≤ v3 then
    some (v1, q)
  else
    b1 (rd 32 q 26 v3) fun x3 =>
    if x3 = (0 : Int32) then
      rec v1 v2 (v3 + 1) q
    else
      b2 (Tr_closeLink q v3) fun x5 q6 =>
      b1 (Ss_copyFrom 19 30 q6) fun q7 =>
      if v1 = (-2 : Int32) then
        rec v3 x5 (v3 + 1) q7
      else
        if x5 ≤ v2 then
          rec v1 v2 (v3 + 1) q7
        else
          rec v3 x5 (v3 + 1) q7
theorem w_K_criticalLink_B18 {X : Cv} (C : Cx X cX10_criticalLink RX10 rm_K_criticalLink 5) (S : IsK X) {z : Int32 × St} (hret : RokI X cX10_criticalLink .int z.1 z.2) (rec : Int32 → Int32 → Int32 → St → Option (Int32 × St)) (hrec : ∀ (v1 : Int32) (v2 : Int32) (v3 : Int32) (q : St), rec v1 v2 v3 q = some z → At X 18 [(0, .ref (adOf X 0)), (1, .int v1), (2, .int v2), (3, .int v3)] [] q) (v1 : Int32) (v2 : Int32) (v3 : Int32) (q : St) (h : K_criticalLink_B18 rec v1 v2 v3 q = some z) : At X 18 [(0, .ref (adOf X 0)), (1, .int v1), (2, .int v2), (3, .int v3)] [] q := by
  unfold K_criticalLink_B18 at h
  refine a_iload_n C 3 rfl rfl dX10_criticalLink_18 ?_
  refine a_aload_n C 0 rfl rfl dX10_criticalLink_19 ?_
  refine gK_10_12 C S dX10_criticalLink_20 ?_
  refine gK_10_129 C S (Or.inl rfl) dX10_criticalLink_23 ?_
  refine a_icmp_ge C 85 (by decide) dX10_criticalLink_26 (fun c2 => ?_) (fun c2 => ?_)
  · replace h := ifp c2 h
    refine a_iload_n C 1 rfl rfl dX10_criticalLink_85 ?_
    exact a_iret hret h rfl dX10_criticalLink_86
  · replace h := ifn c2 h
    refine a_aload_n C 0 rfl rfl dX10_criticalLink_29 ?_
    refine gK_10_22 C S dX10_criticalLink_30 ?_
    refine gK_10_162 C S (Or.inl rfl) dX10_criticalLink_33 ?_
    refine a_iload_n C 3 rfl rfl dX10_criticalLink_36 ?_
    obtain ⟨x3, e_x3, h⟩ := b1s h
    refine lK_s7 (o := 19) C S (Or.inl rfl) e_x3 dX10_criticalLink_37 ?_
    refine a_if_eq C 79 (by decide) dX10_criticalLink_38 (fun c4 => ?_) (fun c4 => ?_)
    · replace h := ifp c4 h
      refine a_iinc (v := (v3 + 1)) C [(3, .int (v3 + 1)), (0, .ref (adOf X 0)), (1, .int v1), (2, .int v2)] 3 rfl (congrArg (HAdd.hAdd v3) (by decide : Int32.ofInt (1) = (1 : Int32))) (by decide) rfl dX10_criticalLink_79 ?_
      refine a_goto C 18 (by decide) dX10_criticalLink_82 ?_
      exact At.sub [1, 2, 3, 0] rfl (hrec _ _ _ _ h)
    · replace h := ifn c4 h
      refine a_aload_n C 0 rfl rfl dX10_criticalLink_41 ?_
      refine gK_10_82 C S dX10_criticalLink_42 ?_
      refine a_iload_n C 3 rfl rfl dX10_criticalLink_45 ?_
      obtain ⟨x5, q6, e_q6, h⟩ := b2s h
      refine kK_10_220 C S e_q6 ⟨(Nat.le_of_ble_eq_true rfl), (Nat.le_of_ble_eq_true rfl)⟩ (Nat.le_of_ble_eq_true rfl) dX10_criticalLink_46 ?_
      refine a_istore C [(4, .int x5), (0, .ref (adOf X 0)), (1, .int v1), (2, .int v2), (3, .int v3)] (by decide) rfl dX10_criticalLink_49 ?_
      refine a_aload_n C 1 rfl rfl dX10_criticalLink_51 ?_
      refine gK_10_22 C S dX10_criticalLink_52 ?_
      refine a_aload_n C 1 rfl rfl dX10_criticalLink_55 ?_
      refine gK_10_26 C S dX10_criticalLink_56 ?_
      obtain ⟨q7, e_q7, h⟩ := b1s h
      refine kK_10_201 C S (Or.inl rfl) (Or.inr (Or.inl rfl)) e_q7 ⟨(Nat.le_of_ble_eq_true rfl), (Nat.le_of_ble_eq_true rfl)⟩ (Nat.le_of_ble_eq_true rfl) dX10_criticalLink_59 ?_
      refine a_iload_n C 2 rfl rfl dX10_criticalLink_62 ?_
      refine a_bipush (v := -2) C (by decide) dX10_criticalLink_63 ?_
      refine a_icmp_eq C 74 (by decide) dX10_criticalLink_65 (fun c8 => ?_) (fun c8 => ?_)
      · replace h := ifp c8 h
        refine a_iload_n C 4 rfl rfl dX10_criticalLink_74 ?_
        refine a_istore_n C [(1, .int v3), (4, .int x5), (0, .ref (adOf X 0)), (2, .int v2), (3, .int v3)] rfl (by decide) rfl dX10_criticalLink_75 ?_
        refine a_iload C 1 rfl dX10_criticalLink_76 ?_
        refine a_istore_n C [(2, .int x5), (1, .int v3), (4, .int x5), (0, .ref (adOf X 0)), (3, .int v3)] rfl (by decide) rfl dX10_criticalLink_78 ?_
        refine a_iinc (v := (v3 + 1)) C [(3, .int (v3 + 1)), (2, .int x5), (1, .int v3), (4, .int x5), (0, .ref (adOf X 0))] 4 rfl (congrArg (HAdd.hAdd v3) (by decide : Int32.ofInt (1) = (1 : Int32))) (by decide) rfl dX10_criticalLink_79 ?_
        refine a_goto C 18 (by decide) dX10_criticalLink_82 ?_
        exact At.sub [4, 2, 1, 0] rfl (hrec _ _ _ _ h)
      · replace h := ifn c8 h
        refine a_iload C 0 rfl dX10_criticalLink_68 ?_
        refine a_iload_n C 3 rfl rfl dX10_criticalLink_70 ?_
        refine a_icmp_le C 79 (by decide) dX10_criticalLink_71 (fun c9 => ?_) (fun c9 => ?_)
        · replace h := ifp c9 h
          refine a_iinc (v := (v3 + 1)) C [(3, .int (v3 + 1)), (4, .int x5), (0, .ref (adOf X 0)), (1, .int v1), (2, .int v2)] 4 rfl (congrArg (HAdd.hAdd v3) (by decide : Int32.ofInt (1) = (1 : Int32))) (by decide) rfl dX10_criticalLink_79 ?_
          refine a_goto C 18 (by decide) dX10_criticalLink_82 ?_
          exact At.sub [2, 3, 4, 0] rfl (hrec _ _ _ _ h)
        · replace h := ifn c9 h
          refine a_iload_n C 4 rfl rfl dX10_criticalLink_74 ?_
          refine a_istore_n C [(1, .int v3), (4, .int x5), (0, .ref (adOf X 0)), (2, .int v2), (3, .int v3)] rfl (by decide) rfl dX10_criticalLink_75 ?_
          refine a_iload C 1 rfl dX10_criticalLink_76 ?_
          refine a_istore_n C [(2, .int x5), (1, .int v3), (4, .int x5), (0, .ref (adOf X 0)), (3, .int v3)] rfl (by decide) rfl dX10_criticalLink_78 ?_
          refine a_iinc (v := (v3 + 1)) C [(3, .int (v3 + 1)), (2, .int x5), (1, .int v3), (4, .int x5), (0, .ref (adOf X 0))] 4 rfl (congrArg (HAdd.hAdd v3) (by decide : Int32.ofInt (1) = (1 : Int32))) (by decide) rfl dX10_criticalLink_79 ?_
          refine a_goto C 18 (by decide) dX10_criticalLink_82 ?_
          exact At.sub [4, 2, 1, 0] rfl (hrec _ _ _ _ h)
def K_criticalLink_L18 : Nat → Int32 → Int32 → Int32 → St → Option (Int32 × St)
  | 0, _, _, _, _ => none
  | n + 1, v1, v2, v3, q => K_criticalLink_B18 (K_criticalLink_L18 n) v1 v2 v3 q
theorem w_K_criticalLink_L18 {X : Cv} (C : Cx X cX10_criticalLink RX10 rm_K_criticalLink 5) (S : IsK X) {z : Int32 × St} (hret : RokI X cX10_criticalLink .int z.1 z.2) (n : Nat) : ∀ (v1 : Int32) (v2 : Int32) (v3 : Int32) (q : St), K_criticalLink_L18 n v1 v2 v3 q = some z → At X 18 [(0, .ref (adOf X 0)), (1, .int v1), (2, .int v2), (3, .int v3)] [] q := by
  induction n with
  | zero => intro v1 v2 v3 q h; cases h
  | succ n ih => intro v1 v2 v3 q h; exact w_K_criticalLink_B18 C S hret _ ih v1 v2 v3 q h
def K_criticalLink (q : St) : Option (Int32 × St) :=
  b1 (Ss_copyFrom 30 19 q) fun q1 =>
  K_criticalLink_L18 FU (-2 : Int32) (0 : Int32) (0 : Int32) q1
theorem w_K_criticalLink {X : Cv} (C : Cx X cX10_criticalLink RX10 rm_K_criticalLink 5) (S : IsK X) {z : Int32 × St} (hret : RokI X cX10_criticalLink .int z.1 z.2) (q : St) (h : K_criticalLink q = some z) : At X 0 [(0, .ref (adOf X 0))] [] q := by
  unfold K_criticalLink at h
  refine a_bipush (v := -2) C (by decide) dX10_criticalLink_0 ?_
  refine a_istore_n C [(1, .int (-2 : Int32)), (0, .ref (adOf X 0))] rfl (by decide) rfl dX10_criticalLink_2 ?_
  refine a_iconst (v := 0) C (by decide) dX10_criticalLink_3 ?_
  refine a_istore_n C [(2, .int (0 : Int32)), (1, .int (-2 : Int32)), (0, .ref (adOf X 0))] rfl (by decide) rfl dX10_criticalLink_4 ?_
  refine a_aload_n C 2 rfl rfl dX10_criticalLink_5 ?_
  refine gK_10_26 C S dX10_criticalLink_6 ?_
  refine a_aload_n C 2 rfl rfl dX10_criticalLink_9 ?_
  refine gK_10_22 C S dX10_criticalLink_10 ?_
  obtain ⟨q1, e_q1, h⟩ := b1s h
  refine kK_10_201 C S (Or.inr (Or.inl rfl)) (Or.inl rfl) e_q1 ⟨(Nat.le_of_ble_eq_true rfl), (Nat.le_of_ble_eq_true rfl)⟩ (Nat.le_of_ble_eq_true rfl) dX10_criticalLink_13 ?_
  refine a_iconst (v := 0) C (by decide) dX10_criticalLink_16 ?_
  refine a_istore_n C [(3, .int (0 : Int32)), (2, .int (0 : Int32)), (1, .int (-2 : Int32)), (0, .ref (adOf X 0))] rfl (by decide) rfl dX10_criticalLink_17 ?_
  exact At.sub [3, 2, 1, 0] rfl (w_K_criticalLink_L18 C S hret _ _ _ _ _ h)
theorem c_K_criticalLink {l : Launch} {D : va_G} {I : ClassId × ClassId × ClassId × ClassId} {ad : Nat → Nat} {q : St} {z : Int32 × St} (h : K_criticalLink q = some z) : Ctr l D I (zK ad) 168 (shK I) ad yX10_criticalLink cX10_criticalLink 5 (some .int) rm_K_criticalLink [.ref (ad 0)] q (some z.1) z.2 :=
  ctr_ofI (by decide) (Nat.le_of_ble_eq_true rfl) (fun p e s m args below meth c Q H0 X hX C hret => by subst hX; exact w_K_criticalLink C ⟨rfl, rfl, rfl⟩ hret _ h)
abbrev rm_Rp_put : Room := { frames := 0, cells := 0, slots := 0, locals := 0 }
def Rp_put (q : St) (v1 : Int32) : Option (St) :=
  if (176 : Int32) ≤ (gt q 166 4) then
    some q
  else
    b1 (wr 176 q 167 (gt q 166 4) v1) fun q2 =>
    lt_ (st q2 166 4 ((gt q2 166 4) + (1 : Int32))) fun q3 =>
    some q3
theorem w_Rp_put {X : Cv} (C : Cx X cX3_put RX3 rm_Rp_put 2) (S : IsK X) {z : St} (hret : RokV X cX3_put z) (v1 : Int32) (q : St) (h : Rp_put q v1 = some z) : At X 0 [(0, .ref (adOf X 166)), (1, .int v1)] [] q := by
  unfold Rp_put at h
  refine a_aload_n C 0 rfl rfl dX3_put_0 ?_
  refine gK_3_32 C S dX3_put_1 ?_
  refine a_aload_n C 0 rfl rfl dX3_put_4 ?_
  refine gK_3_11 C S dX3_put_5 ?_
  refine nK_167 C S dX3_put_8 ?_
  refine a_icmp_ge C 32 (by decide) dX3_put_9 (fun c1 => ?_) (fun c1 => ?_)
  · replace h := ifp c1 h
    exact a_vret hret h dX3_put_32
  · replace h := ifn c1 h
    refine a_aload_n C 0 rfl rfl dX3_put_12 ?_
    refine gK_3_11 C S dX3_put_13 ?_
    refine a_aload_n C 0 rfl rfl dX3_put_16 ?_
    refine gK_3_32 C S dX3_put_17 ?_
    refine a_iload_n C 1 rfl rfl dX3_put_20 ?_
    obtain ⟨q2, e_q2, h⟩ := b1s h
    refine sK_167 C S e_q2 dX3_put_21 ?_
    refine a_aload_n C 0 rfl rfl dX3_put_22 ?_
    refine a_dup C rfl dX3_put_23 ?_
    refine gK_3_32 C S dX3_put_24 ?_
    refine a_iconst (v := 1) C (by decide) dX3_put_27 ?_
    refine a_iadd C dX3_put_28 ?_
    obtain ⟨q3, e_q3, h⟩ := lts h
    refine pK_3_32 C S e_q3 dX3_put_29 ?_
    exact a_vret hret h dX3_put_32
theorem c_Rp_put {l : Launch} {D : va_G} {I : ClassId × ClassId × ClassId × ClassId} {ad : Nat → Nat} {q : St} {v1 : Int32} {z : St} (h : Rp_put q v1 = some z) : Ctr l D I (zK ad) 168 (shK I) ad yX3_put cX3_put 2 none rm_Rp_put [.ref (ad 166), .int v1] q none z :=
  ctr_ofV (by decide) (Nat.le_of_ble_eq_true rfl) (fun p e s m args below meth c Q H0 X hX C hret => by subst hX; exact w_Rp_put C ⟨rfl, rfl, rfl⟩ hret _ _ h)
theorem kK_3_54 {X : Cv} {cc : ByteArray} {rm : Room} {nL1 pc : Nat} {lv : List (Nat × Value)} {sk : List Value} {q : St} {v1 : Int32} {q2 : St} (C : Cx X cc RX3 rm nL1) (S : IsK X) (h : Rp_put q v1 = some q2) (hz : rm_Rp_put.frames + 1 ≤ rm.frames ∧ 8 + (2 + 11) + rm_Rp_put.locals ≤ rm.locals) (hr : (sk.map fun v => v.category).sum ≤ 8) (hd : decode cc pc = .ok (.invokevirtual 54, 3)) (k : At X (pc + 3) lv sk q2) : At X pc lv (.int v1 :: .ref (adOf X 166) :: sk) q := a_callVv (as := [.int v1]) C (kp := 166) (kLt S (by decide)) (by rw [S.2.1]; rfl) rfl (by have hh := c_Rp_put (l := X.2.1) (D := dOf X) (I := idOf X) (ad := adOf X) h; rw [← S.1, ← S.2.1, ← S.2.2] at hh; exact hh) (gd_V (tg 1197 (by decide +kernel) rfl) (tg 1199 (by decide +kernel) rfl) (tg 45 (by decide +kernel) rfl) (tg 125 (by decide +kernel) rfl) (tg 1200 (by decide +kernel) rfl)) ⟨rfl, rfl, hz.1, hz.2⟩ ⟨by decide, by decide, by show Option.map _ (parseMethodDescriptor yX3_put.desc) = some 1; decide⟩ hr rfl hd k
abbrev rm_Rp_putNumber : Room := { frames := 1, cells := 0, slots := 0, locals := 21 }
def Rp_putNumber_J17 (v1 : Int32) (q : St) : Option (St) :=
  b1 (Rp_put q ((48 : Int32) + (v1 - v1 / (10 : Int32) * (10 : Int32)))) fun q2 =>
  some q2
theorem w_Rp_putNumber_J17 {X : Cv} (C : Cx X cX3_putNumber RX3 rm_Rp_putNumber 2) (S : IsK X) {z : St} (hret : RokV X cX3_putNumber z) (v1 : Int32) (q : St) (h : Rp_putNumber_J17 v1 q = some z) : At X 17 [(0, .ref (adOf X 166)), (1, .int v1)] [] q := by
  unfold Rp_putNumber_J17 at h
  refine a_aload_n C 0 rfl rfl dX3_putNumber_17 ?_
  refine a_bipush (v := 48) C (by decide) dX3_putNumber_18 ?_
  refine a_iload_n C 1 rfl rfl dX3_putNumber_20 ?_
  refine a_bipush (v := 10) C (by decide) dX3_putNumber_21 ?_
  refine a_irem C (by decide) dX3_putNumber_23 ?_
  refine a_iadd C dX3_putNumber_24 ?_
  obtain ⟨q2, e_q2, h⟩ := b1s h
  refine kK_3_54 C S e_q2 ⟨(Nat.le_of_ble_eq_true rfl), (Nat.le_of_ble_eq_true rfl)⟩ (Nat.le_of_ble_eq_true rfl) dX3_putNumber_25 ?_
  exact a_vret hret h dX3_putNumber_28
def Rp_putNumber (q : St) (v1 : Int32) : Option (St) :=
  if v1 < (10 : Int32) then
    Rp_putNumber_J17 v1 q
  else
    b1 (Rp_put q ((48 : Int32) + (v1 / (10 : Int32)))) fun q3 =>
    Rp_putNumber_J17 v1 q3
theorem w_Rp_putNumber {X : Cv} (C : Cx X cX3_putNumber RX3 rm_Rp_putNumber 2) (S : IsK X) {z : St} (hret : RokV X cX3_putNumber z) (v1 : Int32) (q : St) (h : Rp_putNumber q v1 = some z) : At X 0 [(0, .ref (adOf X 166)), (1, .int v1)] [] q := by
  unfold Rp_putNumber at h
  refine a_iload_n C 1 rfl rfl dX3_putNumber_0 ?_
  refine a_bipush (v := 10) C (by decide) dX3_putNumber_1 ?_
  refine a_icmp_lt C 17 (by decide) dX3_putNumber_3 (fun c1 => ?_) (fun c1 => ?_)
  · replace h := ifp c1 h
    exact At.sub [0, 1] rfl (w_Rp_putNumber_J17 C S hret _ _ h)
  · replace h := ifn c1 h
    refine a_aload_n C 0 rfl rfl dX3_putNumber_6 ?_
    refine a_bipush (v := 48) C (by decide) dX3_putNumber_7 ?_
    refine a_iload_n C 1 rfl rfl dX3_putNumber_9 ?_
    refine a_bipush (v := 10) C (by decide) dX3_putNumber_10 ?_
    refine a_idiv C (by decide) dX3_putNumber_12 ?_
    refine a_iadd C dX3_putNumber_13 ?_
    obtain ⟨q3, e_q3, h⟩ := b1s h
    refine kK_3_54 C S e_q3 ⟨(Nat.le_of_ble_eq_true rfl), (Nat.le_of_ble_eq_true rfl)⟩ (Nat.le_of_ble_eq_true rfl) dX3_putNumber_14 ?_
    exact At.sub [0, 1] rfl (w_Rp_putNumber_J17 C S hret _ _ h)
theorem c_Rp_putNumber {l : Launch} {D : va_G} {I : ClassId × ClassId × ClassId × ClassId} {ad : Nat → Nat} {q : St} {v1 : Int32} {z : St} (h : Rp_putNumber q v1 = some z) : Ctr l D I (zK ad) 168 (shK I) ad yX3_putNumber cX3_putNumber 2 none rm_Rp_putNumber [.ref (ad 166), .int v1] q none z :=
  ctr_ofV (by decide) (Nat.le_of_ble_eq_true rfl) (fun p e s m args below meth c Q H0 X hX C hret => by subst hX; exact w_Rp_putNumber C ⟨rfl, rfl, rfl⟩ hret _ _ h)
theorem kK_3_51 {X : Cv} {cc : ByteArray} {rm : Room} {nL1 pc : Nat} {lv : List (Nat × Value)} {sk : List Value} {q : St} {v1 : Int32} {q2 : St} (C : Cx X cc RX3 rm nL1) (S : IsK X) (h : Rp_putNumber q v1 = some q2) (hz : rm_Rp_putNumber.frames + 1 ≤ rm.frames ∧ 8 + (2 + 11) + rm_Rp_putNumber.locals ≤ rm.locals) (hr : (sk.map fun v => v.category).sum ≤ 8) (hd : decode cc pc = .ok (.invokevirtual 51, 3)) (k : At X (pc + 3) lv sk q2) : At X pc lv (.int v1 :: .ref (adOf X 166) :: sk) q := a_callVv (as := [.int v1]) C (kp := 166) (kLt S (by decide)) (by rw [S.2.1]; rfl) rfl (by have hh := c_Rp_putNumber (l := X.2.1) (D := dOf X) (I := idOf X) (ad := adOf X) h; rw [← S.1, ← S.2.1, ← S.2.2] at hh; exact hh) (gd_V (tg 1193 (by decide +kernel) rfl) (tg 1195 (by decide +kernel) rfl) (tg 44 (by decide +kernel) rfl) (tg 125 (by decide +kernel) rfl) (tg 1196 (by decide +kernel) rfl)) ⟨rfl, rfl, hz.1, hz.2⟩ ⟨by decide, by decide, by show Option.map _ (parseMethodDescriptor yX3_putNumber.desc) = some 1; decide⟩ hr rfl hd k
abbrev rm_Rp_writeLine : Room := { frames := 2, cells := 0, slots := 0, locals := 42 }
def Rp_writeLine_B32 (k : St → Option (St)) (rec : Int32 → Int32 → St → Option (St)) (v1 : Int32) (v2 : Int32) (q : St) : Option (St) :=
  if (gt q 1 2) ≤ v2 then
    k  q
  else
    b1 (Fl_asked q v1 v2) fun x7 =>
    b1 (Rp_putNumber q x7) fun q8 =>
    rec v1 (v2 + 1) q8
theorem w_Rp_writeLine_B32 {X : Cv} (C : Cx X cX3_writeLine RX3 rm_Rp_writeLine 3) (S : IsK X) {z : St} (hret : RokV X cX3_writeLine z) (k : St → Option (St)) (hk : ∀ (q : St), k q = some z → At X 62 [(0, .ref (adOf X 166))] [] q) (rec : Int32 → Int32 → St → Option (St)) (hrec : ∀ (v1 : Int32) (v2 : Int32) (q : St), rec v1 v2 q = some z → At X 32 [(0, .ref (adOf X 166)), (1, .int v1), (2, .int v2)] [] q) (v1 : Int32) (v2 : Int32) (q : St) (h : Rp_writeLine_B32 k rec v1 v2 q = some z) : At X 32 [(0, .ref (adOf X 166)), (1, .int v1), (2, .int v2)] [] q := by
  unfold Rp_writeLine_B32 at h
  refine a_iload_n C 2 rfl rfl dX3_writeLine_32 ?_
  refine a_aload_n C 0 rfl rfl dX3_writeLine_33 ?_
  refine gK_3_15 C S dX3_writeLine_34 ?_
  refine gK_3_60 C S (Or.inl rfl) dX3_writeLine_37 ?_
  refine a_icmp_ge C 62 (by decide) dX3_writeLine_40 (fun c6 => ?_) (fun c6 => ?_)
  · replace h := ifp c6 h
    exact At.sub [0] rfl (hk  _ h)
  · replace h := ifn c6 h
    refine a_aload_n C 0 rfl rfl dX3_writeLine_43 ?_
    refine a_aload_n C 0 rfl rfl dX3_writeLine_44 ?_
    refine gK_3_23 C S dX3_writeLine_45 ?_
    refine a_iload_n C 1 rfl rfl dX3_writeLine_48 ?_
    refine a_iload_n C 2 rfl rfl dX3_writeLine_49 ?_
    obtain ⟨x7, e_x7, h⟩ := b1s h
    refine kK_3_63 C S e_x7 ⟨(Nat.le_of_ble_eq_true rfl), (Nat.le_of_ble_eq_true rfl)⟩ (Nat.le_of_ble_eq_true rfl) dX3_writeLine_50 ?_
    obtain ⟨q8, e_q8, h⟩ := b1s h
    refine kK_3_51 C S e_q8 ⟨(Nat.le_of_ble_eq_true rfl), (Nat.le_of_ble_eq_true rfl)⟩ (Nat.le_of_ble_eq_true rfl) dX3_writeLine_53 ?_
    refine a_iinc (v := (v2 + 1)) C [(2, .int (v2 + 1)), (0, .ref (adOf X 166)), (1, .int v1)] 2 rfl (congrArg (HAdd.hAdd v2) (by decide : Int32.ofInt (1) = (1 : Int32))) (by decide) rfl dX3_writeLine_56 ?_
    refine a_goto C 32 (by decide) dX3_writeLine_59 ?_
    exact At.sub [1, 2, 0] rfl (hrec _ _ _ h)
def Rp_writeLine_L32 (k : St → Option (St)) : Nat → Int32 → Int32 → St → Option (St)
  | 0, _, _, _ => none
  | n + 1, v1, v2, q => Rp_writeLine_B32 k (Rp_writeLine_L32 k n) v1 v2 q
theorem w_Rp_writeLine_L32 {X : Cv} (C : Cx X cX3_writeLine RX3 rm_Rp_writeLine 3) (S : IsK X) {z : St} (hret : RokV X cX3_writeLine z) (k : St → Option (St)) (hk : ∀ (q : St), k q = some z → At X 62 [(0, .ref (adOf X 166))] [] q) (n : Nat) : ∀ (v1 : Int32) (v2 : Int32) (q : St), Rp_writeLine_L32 k n v1 v2 q = some z → At X 32 [(0, .ref (adOf X 166)), (1, .int v1), (2, .int v2)] [] q := by
  induction n with
  | zero => intro v1 v2 q h; cases h
  | succ n ih => intro v1 v2 q h; exact w_Rp_writeLine_B32 C S hret k hk _ ih v1 v2 q h
def Rp_writeLine (q : St) (v1 : Int32) : Option (St) :=
  b1 (Rp_putNumber q v1) fun q1 =>
  b1 (Rp_put q1 (32 : Int32)) fun q2 =>
  b1 (rd 16 q2 29 v1) fun x3 =>
  b1 (Rp_putNumber q2 x3) fun q4 =>
  b1 (Rp_put q4 (32 : Int32)) fun q5 =>
  Rp_writeLine_L32 (fun q9 =>
    b1 (Rp_put q9 (10 : Int32)) fun q10 =>
    some q10
    ) FU v1 (0 : Int32) q5
theorem w_Rp_writeLine {X : Cv} (C : Cx X cX3_writeLine RX3 rm_Rp_writeLine 3) (S : IsK X) {z : St} (hret : RokV X cX3_writeLine z) (v1 : Int32) (q : St) (h : Rp_writeLine q v1 = some z) : At X 0 [(0, .ref (adOf X 166)), (1, .int v1)] [] q := by
  unfold Rp_writeLine at h
  refine a_aload_n C 0 rfl rfl dX3_writeLine_0 ?_
  refine a_iload_n C 1 rfl rfl dX3_writeLine_1 ?_
  obtain ⟨q1, e_q1, h⟩ := b1s h
  refine kK_3_51 C S e_q1 ⟨(Nat.le_of_ble_eq_true rfl), (Nat.le_of_ble_eq_true rfl)⟩ (Nat.le_of_ble_eq_true rfl) dX3_writeLine_2 ?_
  refine a_aload_n C 0 rfl rfl dX3_writeLine_5 ?_
  refine a_bipush (v := 32) C (by decide) dX3_writeLine_6 ?_
  obtain ⟨q2, e_q2, h⟩ := b1s h
  refine kK_3_54 C S e_q2 ⟨(Nat.le_of_ble_eq_true rfl), (Nat.le_of_ble_eq_true rfl)⟩ (Nat.le_of_ble_eq_true rfl) dX3_writeLine_8 ?_
  refine a_aload_n C 0 rfl rfl dX3_writeLine_11 ?_
  refine a_aload_n C 0 rfl rfl dX3_writeLine_12 ?_
  refine gK_3_19 C S dX3_writeLine_13 ?_
  refine gK_3_57 C S (Or.inl rfl) dX3_writeLine_16 ?_
  refine a_iload_n C 1 rfl rfl dX3_writeLine_19 ?_
  obtain ⟨x3, e_x3, h⟩ := b1s h
  refine lK_s10 (o := 19) C S (Or.inl rfl) e_x3 dX3_writeLine_20 ?_
  obtain ⟨q4, e_q4, h⟩ := b1s h
  refine kK_3_51 C S e_q4 ⟨(Nat.le_of_ble_eq_true rfl), (Nat.le_of_ble_eq_true rfl)⟩ (Nat.le_of_ble_eq_true rfl) dX3_writeLine_21 ?_
  refine a_aload_n C 0 rfl rfl dX3_writeLine_24 ?_
  refine a_bipush (v := 32) C (by decide) dX3_writeLine_25 ?_
  obtain ⟨q5, e_q5, h⟩ := b1s h
  refine kK_3_54 C S e_q5 ⟨(Nat.le_of_ble_eq_true rfl), (Nat.le_of_ble_eq_true rfl)⟩ (Nat.le_of_ble_eq_true rfl) dX3_writeLine_27 ?_
  refine a_iconst (v := 0) C (by decide) dX3_writeLine_30 ?_
  refine a_istore_n C [(2, .int (0 : Int32)), (0, .ref (adOf X 166)), (1, .int v1)] rfl (by decide) rfl dX3_writeLine_31 ?_
  refine At.sub [1, 2, 0] rfl (w_Rp_writeLine_L32 C S hret _ ?_ _ _ _ _ h)
  intro q9 h
  refine a_aload_n C 0 rfl rfl dX3_writeLine_62 ?_
  refine a_bipush (v := 10) C (by decide) dX3_writeLine_63 ?_
  obtain ⟨q10, e_q10, h⟩ := b1s h
  refine kK_3_54 C S e_q10 ⟨(Nat.le_of_ble_eq_true rfl), (Nat.le_of_ble_eq_true rfl)⟩ (Nat.le_of_ble_eq_true rfl) dX3_writeLine_65 ?_
  exact a_vret hret h dX3_writeLine_68
theorem c_Rp_writeLine {l : Launch} {D : va_G} {I : ClassId × ClassId × ClassId × ClassId} {ad : Nat → Nat} {q : St} {v1 : Int32} {z : St} (h : Rp_writeLine q v1 = some z) : Ctr l D I (zK ad) 168 (shK I) ad yX3_writeLine cX3_writeLine 3 none rm_Rp_writeLine [.ref (ad 166), .int v1] q none z :=
  ctr_ofV (by decide) (Nat.le_of_ble_eq_true rfl) (fun p e s m args below meth c Q H0 X hX C hret => by subst hX; exact w_Rp_writeLine C ⟨rfl, rfl, rfl⟩ hret _ _ h)
theorem kK_3_47 {X : Cv} {cc : ByteArray} {rm : Room} {nL1 pc : Nat} {lv : List (Nat × Value)} {sk : List Value} {q : St} {v1 : Int32} {q2 : St} (C : Cx X cc RX3 rm nL1) (S : IsK X) (h : Rp_writeLine q v1 = some q2) (hz : rm_Rp_writeLine.frames + 1 ≤ rm.frames ∧ 8 + (3 + 11) + rm_Rp_writeLine.locals ≤ rm.locals) (hr : (sk.map fun v => v.category).sum ≤ 8) (hd : decode cc pc = .ok (.invokevirtual 47, 3)) (k : At X (pc + 3) lv sk q2) : At X pc lv (.int v1 :: .ref (adOf X 166) :: sk) q := a_callVv (as := [.int v1]) C (kp := 166) (kLt S (by decide)) (by rw [S.2.1]; rfl) rfl (by have hh := c_Rp_writeLine (l := X.2.1) (D := dOf X) (I := idOf X) (ad := adOf X) h; rw [← S.1, ← S.2.1, ← S.2.2] at hh; exact hh) (gd_V (tg 1189 (by decide +kernel) rfl) (tg 1191 (by decide +kernel) rfl) (tg 43 (by decide +kernel) rfl) (tg 125 (by decide +kernel) rfl) (tg 1192 (by decide +kernel) rfl)) ⟨rfl, rfl, hz.1, hz.2⟩ ⟨by decide, by decide, by show Option.map _ (parseMethodDescriptor yX3_writeLine.desc) = some 1; decide⟩ hr rfl hd k
abbrev rm_Rp_write : Room := { frames := 3, cells := 0, slots := 0, locals := 71 }
def Rp_write_B14 (rec : Int32 → St → Option (St)) (v1 : Int32) (q : St) : Option (St) :=
  if (gt q 1 0) ≤ v1 then
    some q
  else
    b1 (rd 16 q 28 v1) fun x4 =>
    if x4 = (0 : Int32) then
      rec (v1 + 1) q
    else
      b1 (Rp_writeLine q v1) fun q6 =>
      rec (v1 + 1) q6
theorem w_Rp_write_B14 {X : Cv} (C : Cx X cX3_write RX3 rm_Rp_write 2) (S : IsK X) {z : St} (hret : RokV X cX3_write z) (rec : Int32 → St → Option (St)) (hrec : ∀ (v1 : Int32) (q : St), rec v1 q = some z → At X 14 [(0, .ref (adOf X 166)), (1, .int v1)] [] q) (v1 : Int32) (q : St) (h : Rp_write_B14 rec v1 q = some z) : At X 14 [(0, .ref (adOf X 166)), (1, .int v1)] [] q := by
  unfold Rp_write_B14 at h
  refine a_iload_n C 1 rfl rfl dX3_write_14 ?_
  refine a_aload_n C 0 rfl rfl dX3_write_15 ?_
  refine gK_3_15 C S dX3_write_16 ?_
  refine gK_3_36 C S (Or.inl rfl) dX3_write_19 ?_
  refine a_icmp_ge C 48 (by decide) dX3_write_22 (fun c3 => ?_) (fun c3 => ?_)
  · replace h := ifp c3 h
    exact a_vret hret h dX3_write_48
  · replace h := ifn c3 h
    refine a_aload_n C 0 rfl rfl dX3_write_25 ?_
    refine gK_3_19 C S dX3_write_26 ?_
    refine gK_3_41 C S (Or.inl rfl) dX3_write_29 ?_
    refine a_iload_n C 1 rfl rfl dX3_write_32 ?_
    obtain ⟨x4, e_x4, h⟩ := b1s h
    refine lK_s9 (o := 19) C S (Or.inl rfl) e_x4 dX3_write_33 ?_
    refine a_if_eq C 42 (by decide) dX3_write_34 (fun c5 => ?_) (fun c5 => ?_)
    · replace h := ifp c5 h
      refine a_iinc (v := (v1 + 1)) C [(1, .int (v1 + 1)), (0, .ref (adOf X 166))] 1 rfl (congrArg (HAdd.hAdd v1) (by decide : Int32.ofInt (1) = (1 : Int32))) (by decide) rfl dX3_write_42 ?_
      refine a_goto C 14 (by decide) dX3_write_45 ?_
      exact At.sub [1, 0] rfl (hrec _ _ h)
    · replace h := ifn c5 h
      refine a_aload_n C 0 rfl rfl dX3_write_37 ?_
      refine a_iload_n C 1 rfl rfl dX3_write_38 ?_
      obtain ⟨q6, e_q6, h⟩ := b1s h
      refine kK_3_47 C S e_q6 ⟨(Nat.le_of_ble_eq_true rfl), (Nat.le_of_ble_eq_true rfl)⟩ (Nat.le_of_ble_eq_true rfl) dX3_write_39 ?_
      refine a_iinc (v := (v1 + 1)) C [(1, .int (v1 + 1)), (0, .ref (adOf X 166))] 1 rfl (congrArg (HAdd.hAdd v1) (by decide : Int32.ofInt (1) = (1 : Int32))) (by decide) rfl dX3_write_42 ?_
      refine a_goto C 14 (by decide) dX3_write_45 ?_
      exact At.sub [1, 0] rfl (hrec _ _ h)
def Rp_write_L14 : Nat → Int32 → St → Option (St)
  | 0, _, _ => none
  | n + 1, v1, q => Rp_write_B14 (Rp_write_L14 n) v1 q
theorem w_Rp_write_L14 {X : Cv} (C : Cx X cX3_write RX3 rm_Rp_write 2) (S : IsK X) {z : St} (hret : RokV X cX3_write z) (n : Nat) : ∀ (v1 : Int32) (q : St), Rp_write_L14 n v1 q = some z → At X 14 [(0, .ref (adOf X 166)), (1, .int v1)] [] q := by
  induction n with
  | zero => intro v1 q h; cases h
  | succ n ih => intro v1 q h; exact w_Rp_write_B14 C S hret _ ih v1 q h
def Rp_write (q : St) : Option (St) :=
  b1 (Fl_measure q) fun q1 =>
  lt_ (st q1 166 4 (0 : Int32)) fun q2 =>
  Rp_write_L14 FU (1 : Int32) q2
theorem w_Rp_write {X : Cv} (C : Cx X cX3_write RX3 rm_Rp_write 2) (S : IsK X) {z : St} (hret : RokV X cX3_write z) (q : St) (h : Rp_write q = some z) : At X 0 [(0, .ref (adOf X 166))] [] q := by
  unfold Rp_write at h
  refine a_aload_n C 0 rfl rfl dX3_write_0 ?_
  refine gK_3_23 C S dX3_write_1 ?_
  obtain ⟨q1, e_q1, h⟩ := b1s h
  refine kK_3_27 C S e_q1 ⟨(Nat.le_of_ble_eq_true rfl), (Nat.le_of_ble_eq_true rfl)⟩ (Nat.le_of_ble_eq_true rfl) dX3_write_4 ?_
  refine a_aload_n C 0 rfl rfl dX3_write_7 ?_
  refine a_iconst (v := 0) C (by decide) dX3_write_8 ?_
  obtain ⟨q2, e_q2, h⟩ := lts h
  refine pK_3_32 C S e_q2 dX3_write_9 ?_
  refine a_iconst (v := 1) C (by decide) dX3_write_12 ?_
  refine a_istore_n C [(1, .int (1 : Int32)), (0, .ref (adOf X 166))] rfl (by decide) rfl dX3_write_13 ?_
  exact At.sub [1, 0] rfl (w_Rp_write_L14 C S hret _ _ _ h)
theorem c_Rp_write {l : Launch} {D : va_G} {I : ClassId × ClassId × ClassId × ClassId} {ad : Nat → Nat} {q : St} {z : St} (h : Rp_write q = some z) : Ctr l D I (zK ad) 168 (shK I) ad yX3_write cX3_write 2 none rm_Rp_write [.ref (ad 166)] q none z :=
  ctr_ofV (by decide) (Nat.le_of_ble_eq_true rfl) (fun p e s m args below meth c Q H0 X hX C hret => by subst hX; exact w_Rp_write C ⟨rfl, rfl, rfl⟩ hret _ h)
theorem kK_10_313 {X : Cv} {cc : ByteArray} {rm : Room} {nL1 pc : Nat} {lv : List (Nat × Value)} {sk : List Value} {q : St} {q2 : St} (C : Cx X cc RX10 rm nL1) (S : IsK X) (h : Rp_write q = some q2) (hz : rm_Rp_write.frames + 1 ≤ rm.frames ∧ 8 + (2 + 11) + rm_Rp_write.locals ≤ rm.locals) (hr : (sk.map fun v => v.category).sum ≤ 8) (hd : decode cc pc = .ok (.invokevirtual 313, 3)) (k : At X (pc + 3) lv sk q2) : At X pc lv (.ref (adOf X 166) :: sk) q := a_callVv (as := []) C (kp := 166) (kLt S (by decide)) (by rw [S.2.1]; rfl) rfl (by have hh := c_Rp_write (l := X.2.1) (D := dOf X) (I := idOf X) (ad := adOf X) h; rw [← S.1, ← S.2.1, ← S.2.2] at hh; exact hh) (gd_V (tg 1184 (by decide +kernel) rfl) (tg 1185 (by decide +kernel) rfl) (tg 1186 (by decide +kernel) rfl) (tg 125 (by decide +kernel) rfl) (tg 1187 (by decide +kernel) rfl)) ⟨rfl, rfl, hz.1, hz.2⟩ ⟨by decide, by decide, by show Option.map _ (parseMethodDescriptor yX3_write.desc) = some 0; decide⟩ hr rfl hd k
abbrev rm_K_reportLength : Room := { frames := 4, cells := 0, slots := 0, locals := 92 }
def K_reportLength (q : St) : Option (Int32 × St) :=
  b1 (Rp_write q) fun q1 =>
  some ((gt q1 166 4), q1)
theorem w_K_reportLength {X : Cv} (C : Cx X cX10_reportLength RX10 rm_K_reportLength 1) (S : IsK X) {z : Int32 × St} (hret : RokI X cX10_reportLength .int z.1 z.2) (q : St) (h : K_reportLength q = some z) : At X 0 [(0, .ref (adOf X 0))] [] q := by
  unfold K_reportLength at h
  refine a_aload_n C 0 rfl rfl dX10_reportLength_0 ?_
  refine gK_10_91 C S dX10_reportLength_1 ?_
  obtain ⟨q1, e_q1, h⟩ := b1s h
  refine kK_10_313 C S e_q1 ⟨(Nat.le_of_ble_eq_true rfl), (Nat.le_of_ble_eq_true rfl)⟩ (Nat.le_of_ble_eq_true rfl) dX10_reportLength_4 ?_
  refine a_aload_n C 0 rfl rfl dX10_reportLength_7 ?_
  refine gK_10_91 C S dX10_reportLength_8 ?_
  refine gK_10_316 C S dX10_reportLength_11 ?_
  exact a_iret hret h rfl dX10_reportLength_14
theorem c_K_reportLength {l : Launch} {D : va_G} {I : ClassId × ClassId × ClassId × ClassId} {ad : Nat → Nat} {q : St} {z : Int32 × St} (h : K_reportLength q = some z) : Ctr l D I (zK ad) 168 (shK I) ad yX10_reportLength cX10_reportLength 1 (some .int) rm_K_reportLength [.ref (ad 0)] q (some z.1) z.2 :=
  ctr_ofI (by decide) (Nat.le_of_ble_eq_true rfl) (fun p e s m args below meth c Q H0 X hX C hret => by subst hX; exact w_K_reportLength C ⟨rfl, rfl, rfl⟩ hret _ h)
abbrev rm_K_reportByte : Room := { frames := 4, cells := 0, slots := 0, locals := 92 }
def K_reportByte (q : St) (v1 : Int32) : Option (Int32 × St) :=
  if (0 : Int32) ≤ v1 then
    b1 (Rp_write q) fun q2 =>
    if (gt q2 166 4) ≤ v1 then
      some ((-2 : Int32), q2)
    else
      b1 (rd 176 q2 167 v1) fun x4 =>
      some (x4, q2)
  else
    some ((-1 : Int32), q)
theorem w_K_reportByte {X : Cv} (C : Cx X cX10_reportByte RX10 rm_K_reportByte 2) (S : IsK X) {z : Int32 × St} (hret : RokI X cX10_reportByte .int z.1 z.2) (v1 : Int32) (q : St) (h : K_reportByte q v1 = some z) : At X 0 [(0, .ref (adOf X 0)), (1, .int v1)] [] q := by
  unfold K_reportByte at h
  refine a_iload_n C 1 rfl rfl dX10_reportByte_0 ?_
  refine a_if_ge C 6 (by decide) dX10_reportByte_1 (fun c1 => ?_) (fun c1 => ?_)
  · replace h := ifp c1 h
    refine a_aload_n C 0 rfl rfl dX10_reportByte_6 ?_
    refine gK_10_91 C S dX10_reportByte_7 ?_
    obtain ⟨q2, e_q2, h⟩ := b1s h
    refine kK_10_313 C S e_q2 ⟨(Nat.le_of_ble_eq_true rfl), (Nat.le_of_ble_eq_true rfl)⟩ (Nat.le_of_ble_eq_true rfl) dX10_reportByte_10 ?_
    refine a_iload_n C 1 rfl rfl dX10_reportByte_13 ?_
    refine a_aload_n C 0 rfl rfl dX10_reportByte_14 ?_
    refine gK_10_91 C S dX10_reportByte_15 ?_
    refine gK_10_316 C S dX10_reportByte_18 ?_
    refine a_icmp_ge C 36 (by decide) dX10_reportByte_21 (fun c3 => ?_) (fun c3 => ?_)
    · replace h := ifp c3 h
      refine a_bipush (v := -2) C (by decide) dX10_reportByte_36 ?_
      exact a_iret hret h rfl dX10_reportByte_38
    · replace h := ifn c3 h
      refine a_aload_n C 0 rfl rfl dX10_reportByte_24 ?_
      refine gK_10_91 C S dX10_reportByte_25 ?_
      refine gK_10_317 C S dX10_reportByte_28 ?_
      refine a_iload_n C 1 rfl rfl dX10_reportByte_31 ?_
      obtain ⟨x4, e_x4, h⟩ := b1s h
      refine lK_167 C S e_x4 dX10_reportByte_32 ?_
      refine a_goto C 38 (by decide) dX10_reportByte_33 ?_
      exact a_iret hret h rfl dX10_reportByte_38
  · replace h := ifn c1 h
    refine a_iconst (v := -1) C (by decide) dX10_reportByte_4 ?_
    exact a_iret hret h rfl dX10_reportByte_5
theorem c_K_reportByte {l : Launch} {D : va_G} {I : ClassId × ClassId × ClassId × ClassId} {ad : Nat → Nat} {q : St} {v1 : Int32} {z : Int32 × St} (h : K_reportByte q v1 = some z) : Ctr l D I (zK ad) 168 (shK I) ad yX10_reportByte cX10_reportByte 2 (some .int) rm_K_reportByte [.ref (ad 0), .int v1] q (some z.1) z.2 :=
  ctr_ofI (by decide) (Nat.le_of_ble_eq_true rfl) (fun p e s m args below meth c Q H0 X hX C hret => by subst hX; exact w_K_reportByte C ⟨rfl, rfl, rfl⟩ hret _ _ h)
abbrev rm_K_tapeLength : Room := { frames := 0, cells := 0, slots := 0, locals := 0 }
def K_tapeLength (q : St) : Option (Int32) :=
  some (gt q 153 1)
theorem w_K_tapeLength {X : Cv} (C : Cx X cX10_tapeLength RX10 rm_K_tapeLength 1) (S : IsK X) {q : St} {z : Int32} (hret : RokI X cX10_tapeLength .int z q) (h : K_tapeLength q = some z) : At X 0 [(0, .ref (adOf X 0))] [] q := by
  unfold K_tapeLength at h
  refine a_aload_n C 0 rfl rfl dX10_tapeLength_0 ?_
  refine gK_10_39 C S dX10_tapeLength_1 ?_
  refine gK_10_106 C S dX10_tapeLength_4 ?_
  exact a_iretR hret h rfl dX10_tapeLength_7
theorem c_K_tapeLength {l : Launch} {D : va_G} {I : ClassId × ClassId × ClassId × ClassId} {ad : Nat → Nat} {q : St} {z : Int32} (h : K_tapeLength q = some z) : Ctr l D I (zK ad) 168 (shK I) ad yX10_tapeLength cX10_tapeLength 1 (some .int) rm_K_tapeLength [.ref (ad 0)] q (some z) q :=
  ctr_ofI (by decide) (Nat.le_of_ble_eq_true rfl) (fun p e s m args below meth c Q H0 X hX C hret => by subst hX; exact w_K_tapeLength C ⟨rfl, rfl, rfl⟩ hret h)
abbrev rm_Su_makeSmallest : Room := { frames := 2, cells := 0, slots := 0, locals := 70 }
def Su_makeSmallest (q : St) : Option (St) :=
  b1 (Su_clear 1 q) fun q1 =>
  lt_ (st q1 1 0 (2 : Int32)) fun q2 =>
  lt_ (st q2 1 2 (1 : Int32)) fun q3 =>
  lt_ (st q3 1 3 (1 : Int32)) fun q4 =>
  b1 (Su_putRate 1 q4 (0 : Int32) (1 : Int32) (1 : Int32)) fun q5 =>
  some q5
theorem w_Su_makeSmallest {X : Cv} (C : Cx X cX4_makeSmallest RX4 rm_Su_makeSmallest 1) (S : IsK X) {z : St} (hret : RokV X cX4_makeSmallest z) (q : St) (h : Su_makeSmallest q = some z) : At X 0 [(0, .ref (adOf X 1))] [] q := by
  unfold Su_makeSmallest at h
  refine a_aload_n C 0 rfl rfl dX4_makeSmallest_0 ?_
  obtain ⟨q1, e_q1, h⟩ := b1s h
  refine kK_4_55 C S (Or.inl rfl) e_q1 ⟨(Nat.le_of_ble_eq_true rfl), (Nat.le_of_ble_eq_true rfl)⟩ (Nat.le_of_ble_eq_true rfl) dX4_makeSmallest_1 ?_
  refine a_aload_n C 0 rfl rfl dX4_makeSmallest_4 ?_
  refine a_iconst (v := 2) C (by decide) dX4_makeSmallest_5 ?_
  obtain ⟨q2, e_q2, h⟩ := lts h
  refine pK_4_36 C S (Or.inl rfl) e_q2 dX4_makeSmallest_6 ?_
  refine a_aload_n C 0 rfl rfl dX4_makeSmallest_9 ?_
  refine a_iconst (v := 1) C (by decide) dX4_makeSmallest_10 ?_
  obtain ⟨q3, e_q3, h⟩ := lts h
  refine pK_4_43 C S (Or.inl rfl) e_q3 dX4_makeSmallest_11 ?_
  refine a_aload_n C 0 rfl rfl dX4_makeSmallest_14 ?_
  refine a_iconst (v := 1) C (by decide) dX4_makeSmallest_15 ?_
  obtain ⟨q4, e_q4, h⟩ := lts h
  refine pK_4_46 C S (Or.inl rfl) e_q4 dX4_makeSmallest_16 ?_
  refine a_aload_n C 0 rfl rfl dX4_makeSmallest_19 ?_
  refine a_iconst (v := 0) C (by decide) dX4_makeSmallest_20 ?_
  refine a_iconst (v := 1) C (by decide) dX4_makeSmallest_21 ?_
  refine a_iconst (v := 1) C (by decide) dX4_makeSmallest_22 ?_
  obtain ⟨q5, e_q5, h⟩ := b1s h
  refine kK_4_58 C S (Or.inl rfl) e_q5 ⟨(Nat.le_of_ble_eq_true rfl), (Nat.le_of_ble_eq_true rfl)⟩ (Nat.le_of_ble_eq_true rfl) dX4_makeSmallest_23 ?_
  exact a_vret hret h dX4_makeSmallest_26
theorem c_Su_makeSmallest {l : Launch} {D : va_G} {I : ClassId × ClassId × ClassId × ClassId} {ad : Nat → Nat} {q : St} {z : St} (h : Su_makeSmallest q = some z) : Ctr l D I (zK ad) 168 (shK I) ad yX4_makeSmallest cX4_makeSmallest 1 none rm_Su_makeSmallest [.ref (ad 1)] q none z :=
  ctr_ofV (by decide) (Nat.le_of_ble_eq_true rfl) (fun p e s m args below meth c Q H0 X hX C hret => by subst hX; exact w_Su_makeSmallest C ⟨rfl, rfl, rfl⟩ hret _ h)
theorem kK_10_99 {X : Cv} {cc : ByteArray} {rm : Room} {nL1 pc : Nat} {lv : List (Nat × Value)} {sk : List Value} {q : St} {q2 : St} (C : Cx X cc RX10 rm nL1) (S : IsK X) (h : Su_makeSmallest q = some q2) (hz : rm_Su_makeSmallest.frames + 1 ≤ rm.frames ∧ 8 + (1 + 11) + rm_Su_makeSmallest.locals ≤ rm.locals) (hr : (sk.map fun v => v.category).sum ≤ 8) (hd : decode cc pc = .ok (.invokevirtual 99, 3)) (k : At X (pc + 3) lv sk q2) : At X pc lv (.ref (adOf X 1) :: sk) q := a_callVv (as := []) C (kp := 1) (kLt S (by have hS2 : IsSu 1 := (Or.inl rfl); unfold IsSu at hS2; omega)) (by rw [S.2.1]; exact shK_su (o := 1) (j := 0) (Or.inl rfl) (by decide)) rfl (by have hh := c_Su_makeSmallest (l := X.2.1) (D := dOf X) (I := idOf X) (ad := adOf X) h; rw [← S.1, ← S.2.1, ← S.2.2] at hh; exact hh) (gd_V (tg 474 (by decide +kernel) rfl) (tg 475 (by decide +kernel) rfl) (tg 476 (by decide +kernel) rfl) (tg 116 (by decide +kernel) rfl) (tg 477 (by decide +kernel) rfl)) ⟨rfl, rfl, hz.1, hz.2⟩ ⟨by decide, by decide, by show Option.map _ (parseMethodDescriptor yX4_makeSmallest.desc) = some 0; decide⟩ hr rfl hd k
