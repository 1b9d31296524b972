abbrev rmM_neediest : Room := { frames := 1, cells := 0, slots := 0, locals := 22 }
def M_neediest_B7 (q : St) (rec : Int32 → Int32 → Int32 → Option (Int32)) (v1 : Int32) (v2 : Int32) (v3 : Int32) : Option (Int32) :=
  b1 (rd 202 q 4 (96 : Int32)) fun x1 =>
  if x1 ≤ v3 then
    some v1
  else
    b1 (M_of q v3 (4 : Int32)) fun x3 =>
    if x3 = (0 : Int32) then
      b1 (M_of q v3 (2 : Int32)) fun x5 =>
      b1 (M_of q v3 (3 : Int32)) fun x6 =>
      if (x5 - x6) ≤ v2 then
        rec v1 v2 (v3 + 1)
      else
        b1 (M_of q v3 (2 : Int32)) fun x8 =>
        b1 (M_of q v3 (3 : Int32)) fun x9 =>
        lt_ (x8 - x9) fun w10 =>
        rec v3 w10 (v3 + 1)
    else
      rec v1 v2 (v3 + 1)
theorem w_M_neediest_B7 {X : Cv} (C : Cx X cX11_neediest RX11 rmM_neediest 4) (S : IsM X) (q : St) {z : Int32} (hret : RokI X cX11_neediest .int z q) (rec : Int32 → Int32 → Int32 → Option (Int32)) (hrec : ∀ (v1 : Int32) (v2 : Int32) (v3 : Int32), rec v1 v2 v3 = some z → At X 7 [(0, .ref (adOf X 0)), (1, .int v1), (2, .int v2), (3, .int v3)] [] q) (v1 : Int32) (v2 : Int32) (v3 : Int32) (h : M_neediest_B7 q rec v1 v2 v3 = some z) : At X 7 [(0, .ref (adOf X 0)), (1, .int v1), (2, .int v2), (3, .int v3)] [] q := by
  unfold M_neediest_B7 at h
  refine a_iload_n C 3 rfl rfl dX11_neediest_7 ?_
  refine a_aload_n C 0 rfl rfl dX11_neediest_8 ?_
  refine gM_world C S dX11_neediest_9 ?_
  refine a_bipush (v := 96) C (by decide) dX11_neediest_12 ?_
  obtain ⟨x1, e_x1, h⟩ := b1s h
  refine lM_world C S e_x1 dX11_neediest_14 ?_
  refine a_icmp_ge C 66 (by decide) dX11_neediest_15 (fun c2 => ?_) (fun c2 => ?_)
  · replace h := ifp c2 h
    refine a_iload_n C 1 rfl rfl dX11_neediest_66 ?_
    exact a_iretR hret h rfl dX11_neediest_67
  · replace h := ifn c2 h
    refine a_aload_n C 0 rfl rfl dX11_neediest_18 ?_
    refine a_iload_n C 3 rfl rfl dX11_neediest_19 ?_
    refine a_iconst (v := 4) C (by decide) dX11_neediest_20 ?_
    obtain ⟨x3, e_x3, h⟩ := b1s h
    refine k_M_of C S e_x3 ⟨Nat.le_of_ble_eq_true rfl, Nat.le_of_ble_eq_true rfl⟩ (Nat.le_of_ble_eq_true rfl) dX11_neediest_21 ?_
    refine a_if_ne C 60 (by decide) dX11_neediest_24 (fun c4 => ?_) (fun c4 => ?_)
    · replace h := ifn c4 h
      refine a_iinc (v := (v3 + 1)) C [(3, .int (v3 + 1)), (0, .ref (adOf X 0)), (1, .int v1), (2, .int v2)] 3 rfl (congrArg (HAdd.hAdd v3) (by decide : Int32.ofInt (1) = (1 : Int32))) (by decide) rfl dX11_neediest_60 ?_
      refine a_goto C 7 (by decide) dX11_neediest_63 ?_
      exact At.sub [1, 2, 3, 0] rfl (hrec _ _ _ h)
    · replace h := ifp c4 h
      refine a_aload_n C 0 rfl rfl dX11_neediest_27 ?_
      refine a_iload_n C 3 rfl rfl dX11_neediest_28 ?_
      refine a_iconst (v := 2) C (by decide) dX11_neediest_29 ?_
      obtain ⟨x5, e_x5, h⟩ := b1s h
      refine k_M_of C S e_x5 ⟨Nat.le_of_ble_eq_true rfl, Nat.le_of_ble_eq_true rfl⟩ (Nat.le_of_ble_eq_true rfl) dX11_neediest_30 ?_
      refine a_aload_n C 0 rfl rfl dX11_neediest_33 ?_
      refine a_iload_n C 3 rfl rfl dX11_neediest_34 ?_
      refine a_iconst (v := 3) C (by decide) dX11_neediest_35 ?_
      obtain ⟨x6, e_x6, h⟩ := b1s h
      refine k_M_of C S e_x6 ⟨Nat.le_of_ble_eq_true rfl, Nat.le_of_ble_eq_true rfl⟩ (Nat.le_of_ble_eq_true rfl) dX11_neediest_36 ?_
      refine a_isub C dX11_neediest_39 ?_
      refine a_iload_n C 2 rfl rfl dX11_neediest_40 ?_
      refine a_icmp_le C 60 (by decide) dX11_neediest_41 (fun c7 => ?_) (fun c7 => ?_)
      · replace h := ifp c7 h
        refine a_iinc (v := (v3 + 1)) C [(3, .int (v3 + 1)), (0, .ref (adOf X 0)), (1, .int v1), (2, .int v2)] 3 rfl (congrArg (HAdd.hAdd v3) (by decide : Int32.ofInt (1) = (1 : Int32))) (by decide) rfl dX11_neediest_60 ?_
        refine a_goto C 7 (by decide) dX11_neediest_63 ?_
        exact At.sub [1, 2, 3, 0] rfl (hrec _ _ _ h)
      · replace h := ifn c7 h
        refine a_iload_n C 3 rfl rfl dX11_neediest_44 ?_
        refine a_istore_n C [(1, .int v3), (0, .ref (adOf X 0)), (2, .int v2), (3, .int v3)] rfl (by decide) rfl dX11_neediest_45 ?_
        refine a_aload_n C 1 rfl rfl dX11_neediest_46 ?_
        refine a_iload_n C 3 rfl rfl dX11_neediest_47 ?_
        refine a_iconst (v := 2) C (by decide) dX11_neediest_48 ?_
        obtain ⟨x8, e_x8, h⟩ := b1s h
        refine k_M_of C S e_x8 ⟨Nat.le_of_ble_eq_true rfl, Nat.le_of_ble_eq_true rfl⟩ (Nat.le_of_ble_eq_true rfl) dX11_neediest_49 ?_
        refine a_aload_n C 1 rfl rfl dX11_neediest_52 ?_
        refine a_iload_n C 3 rfl rfl dX11_neediest_53 ?_
        refine a_iconst (v := 3) C (by decide) dX11_neediest_54 ?_
        obtain ⟨x9, e_x9, h⟩ := b1s h
        refine k_M_of C S e_x9 ⟨Nat.le_of_ble_eq_true rfl, Nat.le_of_ble_eq_true rfl⟩ (Nat.le_of_ble_eq_true rfl) dX11_neediest_55 ?_
        refine a_isub C dX11_neediest_58 ?_
        obtain ⟨w10, e_w10, h⟩ := lts h
        refine a_top e_w10 ?_
        refine a_istore_n C [(2, .int w10), (1, .int v3), (0, .ref (adOf X 0)), (3, .int v3)] rfl (by decide) rfl dX11_neediest_59 ?_
        refine a_iinc (v := (v3 + 1)) C [(3, .int (v3 + 1)), (2, .int w10), (1, .int v3), (0, .ref (adOf X 0))] 3 rfl (congrArg (HAdd.hAdd v3) (by decide : Int32.ofInt (1) = (1 : Int32))) (by decide) rfl dX11_neediest_60 ?_
        refine a_goto C 7 (by decide) dX11_neediest_63 ?_
        exact At.sub [3, 2, 1, 0] rfl (hrec _ _ _ h)
def M_neediest_L7 (q : St) : Nat → Int32 → Int32 → Int32 → Option (Int32)
  | 0, _, _, _ => none
  | n + 1, v1, v2, v3 => M_neediest_B7 q (M_neediest_L7 q n) v1 v2 v3
theorem w_M_neediest_L7 {X : Cv} (C : Cx X cX11_neediest RX11 rmM_neediest 4) (S : IsM X) (q : St) {z : Int32} (hret : RokI X cX11_neediest .int z q) (n : Nat) : ∀ (v1 : Int32) (v2 : Int32) (v3 : Int32), M_neediest_L7 q n v1 v2 v3 = some z → At X 7 [(0, .ref (adOf X 0)), (1, .int v1), (2, .int v2), (3, .int v3)] [] q := by
  induction n with
  | zero => intro v1 v2 v3 h; cases h
  | succ n ih => intro v1 v2 v3 h; exact w_M_neediest_B7 C S _ hret _ ih v1 v2 v3 h
def M_neediest (q : St) : Option (Int32) :=
  M_neediest_L7 q FU (-2 : Int32) (0 : Int32) (0 : Int32)
theorem w_M_neediest {X : Cv} (C : Cx X cX11_neediest RX11 rmM_neediest 4) (S : IsM X) {q : St} {z : Int32} (hret : RokI X cX11_neediest .int z q) (h : M_neediest q = some z) : At X 0 [(0, .ref (adOf X 0))] [] q := by
  unfold M_neediest at h
  refine a_bipush (v := -2) C (by decide) dX11_neediest_0 ?_
  refine a_istore_n C [(1, .int (-2 : Int32)), (0, .ref (adOf X 0))] rfl (by decide) rfl dX11_neediest_2 ?_
  refine a_iconst (v := 0) C (by decide) dX11_neediest_3 ?_
  refine a_istore_n C [(2, .int (0 : Int32)), (1, .int (-2 : Int32)), (0, .ref (adOf X 0))] rfl (by decide) rfl dX11_neediest_4 ?_
  refine a_iconst (v := 0) C (by decide) dX11_neediest_5 ?_
  refine a_istore_n C [(3, .int (0 : Int32)), (2, .int (0 : Int32)), (1, .int (-2 : Int32)), (0, .ref (adOf X 0))] rfl (by decide) rfl dX11_neediest_6 ?_
  exact At.sub [3, 2, 1, 0] rfl (w_M_neediest_L7 C S _ hret _ _ _ _ h)
theorem c_M_neediest {l : Launch} {D : va_G} {I : ClassId × ClassId × ClassId × ClassId} {ad : Nat → Nat} {q : St} {z : Int32} (h : M_neediest q = some z) : Ctr l D I zT 18 (shM I) ad yX11_neediest cX11_neediest 4 (some .int) rmM_neediest [.ref (ad 0)] q (some z) q :=
  ctr_ofI (by decide) (Nat.le_of_ble_eq_true rfl) (fun p e s m args below meth c Q H0 X hX C hret => by subst hX; exact w_M_neediest C ⟨rfl, rfl, rfl⟩ hret h)
abbrev rmM_isInTree : Room := { frames := 2, cells := 0, slots := 0, locals := 46 }
def M_isInTree (q : St) (v1 : Int32) : Option (Int32) :=
  b1 (M_isNode q v1) fun x1 =>
  if x1 = (0 : Int32) then
    some (0 : Int32)
  else
    b1 (M_isIn q v1) fun x3 =>
    if x3 = (0 : Int32) then
      some (0 : Int32)
    else
      some (1 : Int32)
theorem w_M_isInTree {X : Cv} (C : Cx X cX11_isInTree RX11 rmM_isInTree 2) (S : IsM X) {q : St} {z : Int32} (hret : RokI X cX11_isInTree .boolean z q) (v1 : Int32) (h : M_isInTree q v1 = some z) : At X 0 [(0, .ref (adOf X 0)), (1, .int v1)] [] q := by
  unfold M_isInTree at h
  refine a_aload_n C 0 rfl rfl dX11_isInTree_0 ?_
  refine a_iload_n C 1 rfl rfl dX11_isInTree_1 ?_
  obtain ⟨x1, e_x1, h⟩ := b1s h
  refine k_M_isNode C S e_x1 ⟨Nat.le_of_ble_eq_true rfl, Nat.le_of_ble_eq_true rfl⟩ (Nat.le_of_ble_eq_true rfl) dX11_isInTree_2 ?_
  refine a_if_eq C 20 (by decide) dX11_isInTree_5 (fun c2 => ?_) (fun c2 => ?_)
  · replace h := ifp c2 h
    refine a_iconst (v := 0) C (by decide) dX11_isInTree_20 ?_
    exact a_iretR hret h rfl dX11_isInTree_21
  · replace h := ifn c2 h
    refine a_aload_n C 0 rfl rfl dX11_isInTree_8 ?_
    refine a_iload_n C 1 rfl rfl dX11_isInTree_9 ?_
    obtain ⟨x3, e_x3, h⟩ := b1s h
    refine k_M_isIn C S e_x3 ⟨Nat.le_of_ble_eq_true rfl, Nat.le_of_ble_eq_true rfl⟩ (Nat.le_of_ble_eq_true rfl) dX11_isInTree_10 ?_
    refine a_if_eq C 20 (by decide) dX11_isInTree_13 (fun c4 => ?_) (fun c4 => ?_)
    · replace h := ifp c4 h
      refine a_iconst (v := 0) C (by decide) dX11_isInTree_20 ?_
      exact a_iretR hret h rfl dX11_isInTree_21
    · replace h := ifn c4 h
      refine a_iconst (v := 1) C (by decide) dX11_isInTree_16 ?_
      refine a_goto C 21 (by decide) dX11_isInTree_17 ?_
      exact a_iretR hret h rfl dX11_isInTree_21
theorem c_M_isInTree {l : Launch} {D : va_G} {I : ClassId × ClassId × ClassId × ClassId} {ad : Nat → Nat} {q : St} {v1 : Int32} {z : Int32} (h : M_isInTree q v1 = some z) : Ctr l D I zT 18 (shM I) ad yX11_isInTree cX11_isInTree 2 (some .boolean) rmM_isInTree [.ref (ad 0), .int v1] q (some z) q :=
  ctr_ofI (by decide) (Nat.le_of_ble_eq_true rfl) (fun p e s m args below meth c Q H0 X hX C hret => by subst hX; exact w_M_isInTree C ⟨rfl, rfl, rfl⟩ hret _ h)
abbrev rmM_parent : Room := { frames := 2, cells := 0, slots := 0, locals := 46 }
def M_parent (q : St) (v1 : Int32) : Option (Int32) :=
  b1 (M_isNode q v1) fun x1 =>
  if x1 = (0 : Int32) then
    some (-1 : Int32)
  else
    b1 (M_up q v1) fun x3 =>
    if x3 < (0 : Int32) then
      some (-2 : Int32)
    else
      b1 (M_up q v1) fun x5 =>
      some x5
theorem w_M_parent {X : Cv} (C : Cx X cX11_parent RX11 rmM_parent 2) (S : IsM X) {q : St} {z : Int32} (hret : RokI X cX11_parent .int z q) (v1 : Int32) (h : M_parent q v1 = some z) : At X 0 [(0, .ref (adOf X 0)), (1, .int v1)] [] q := by
  unfold M_parent at h
  refine a_aload_n C 0 rfl rfl dX11_parent_0 ?_
  refine a_iload_n C 1 rfl rfl dX11_parent_1 ?_
  obtain ⟨x1, e_x1, h⟩ := b1s h
  refine k_M_isNode C S e_x1 ⟨Nat.le_of_ble_eq_true rfl, Nat.le_of_ble_eq_true rfl⟩ (Nat.le_of_ble_eq_true rfl) dX11_parent_2 ?_
  refine a_if_ne C 10 (by decide) dX11_parent_5 (fun c2 => ?_) (fun c2 => ?_)
  · replace h := ifn c2 h
    refine a_aload_n C 0 rfl rfl dX11_parent_10 ?_
    refine a_iload_n C 1 rfl rfl dX11_parent_11 ?_
    obtain ⟨x3, e_x3, h⟩ := b1s h
    refine k_M_up C S e_x3 ⟨Nat.le_of_ble_eq_true rfl, Nat.le_of_ble_eq_true rfl⟩ (Nat.le_of_ble_eq_true rfl) dX11_parent_12 ?_
    refine a_if_lt C 26 (by decide) dX11_parent_15 (fun c4 => ?_) (fun c4 => ?_)
    · replace h := ifp c4 h
      refine a_bipush (v := -2) C (by decide) dX11_parent_26 ?_
      exact a_iretR hret h rfl dX11_parent_28
    · replace h := ifn c4 h
      refine a_aload_n C 0 rfl rfl dX11_parent_18 ?_
      refine a_iload_n C 1 rfl rfl dX11_parent_19 ?_
      obtain ⟨x5, e_x5, h⟩ := b1s h
      refine k_M_up C S e_x5 ⟨Nat.le_of_ble_eq_true rfl, Nat.le_of_ble_eq_true rfl⟩ (Nat.le_of_ble_eq_true rfl) dX11_parent_20 ?_
      refine a_goto C 28 (by decide) dX11_parent_23 ?_
      exact a_iretR hret h rfl dX11_parent_28
  · replace h := ifp c2 h
    refine a_iconst (v := -1) C (by decide) dX11_parent_8 ?_
    exact a_iretR hret h rfl dX11_parent_9
theorem c_M_parent {l : Launch} {D : va_G} {I : ClassId × ClassId × ClassId × ClassId} {ad : Nat → Nat} {q : St} {v1 : Int32} {z : Int32} (h : M_parent q v1 = some z) : Ctr l D I zT 18 (shM I) ad yX11_parent cX11_parent 2 (some .int) rmM_parent [.ref (ad 0), .int v1] q (some z) q :=
  ctr_ofI (by decide) (Nat.le_of_ble_eq_true rfl) (fun p e s m args below meth c Q H0 X hX C hret => by subst hX; exact w_M_parent C ⟨rfl, rfl, rfl⟩ hret _ h)
abbrev rmM_delay : Room := { frames := 3, cells := 0, slots := 0, locals := 68 }
def M_delay (q : St) (v1 : Int32) : Option (Int32) :=
  b1 (M_isNode q v1) fun x1 =>
  if x1 = (0 : Int32) then
    some (-1 : Int32)
  else
    b1 (M_isIn q v1) fun x3 =>
    if x3 = (0 : Int32) then
      some (-2 : Int32)
    else
      b1 (M_delayTo q v1) fun x5 =>
      some x5
theorem w_M_delay {X : Cv} (C : Cx X cX11_delay RX11 rmM_delay 2) (S : IsM X) {q : St} {z : Int32} (hret : RokI X cX11_delay .int z q) (v1 : Int32) (h : M_delay q v1 = some z) : At X 0 [(0, .ref (adOf X 0)), (1, .int v1)] [] q := by
  unfold M_delay at h
  refine a_aload_n C 0 rfl rfl dX11_delay_0 ?_
  refine a_iload_n C 1 rfl rfl dX11_delay_1 ?_
  obtain ⟨x1, e_x1, h⟩ := b1s h
  refine k_M_isNode C S e_x1 ⟨Nat.le_of_ble_eq_true rfl, Nat.le_of_ble_eq_true rfl⟩ (Nat.le_of_ble_eq_true rfl) dX11_delay_2 ?_
  refine a_if_ne C 10 (by decide) dX11_delay_5 (fun c2 => ?_) (fun c2 => ?_)
  · replace h := ifn c2 h
    refine a_aload_n C 0 rfl rfl dX11_delay_10 ?_
    refine a_iload_n C 1 rfl rfl dX11_delay_11 ?_
    obtain ⟨x3, e_x3, h⟩ := b1s h
    refine k_M_isIn C S e_x3 ⟨Nat.le_of_ble_eq_true rfl, Nat.le_of_ble_eq_true rfl⟩ (Nat.le_of_ble_eq_true rfl) dX11_delay_12 ?_
    refine a_if_eq C 26 (by decide) dX11_delay_15 (fun c4 => ?_) (fun c4 => ?_)
    · replace h := ifp c4 h
      refine a_bipush (v := -2) C (by decide) dX11_delay_26 ?_
      exact a_iretR hret h rfl dX11_delay_28
    · replace h := ifn c4 h
      refine a_aload_n C 0 rfl rfl dX11_delay_18 ?_
      refine a_iload_n C 1 rfl rfl dX11_delay_19 ?_
      obtain ⟨x5, e_x5, h⟩ := b1s h
      refine k_M_delayTo C S e_x5 ⟨Nat.le_of_ble_eq_true rfl, Nat.le_of_ble_eq_true rfl⟩ (Nat.le_of_ble_eq_true rfl) dX11_delay_20 ?_
      refine a_goto C 28 (by decide) dX11_delay_23 ?_
      exact a_iretR hret h rfl dX11_delay_28
  · replace h := ifp c2 h
    refine a_iconst (v := -1) C (by decide) dX11_delay_8 ?_
    exact a_iretR hret h rfl dX11_delay_9
theorem c_M_delay {l : Launch} {D : va_G} {I : ClassId × ClassId × ClassId × ClassId} {ad : Nat → Nat} {q : St} {v1 : Int32} {z : Int32} (h : M_delay q v1 = some z) : Ctr l D I zT 18 (shM I) ad yX11_delay cX11_delay 2 (some .int) rmM_delay [.ref (ad 0), .int v1] q (some z) q :=
  ctr_ofI (by decide) (Nat.le_of_ble_eq_true rfl) (fun p e s m args below meth c Q H0 X hX C hret => by subst hX; exact w_M_delay C ⟨rfl, rfl, rfl⟩ hret _ h)
abbrev rmM_below : Room := { frames := 2, cells := 0, slots := 0, locals := 46 }
def M_below_B25 (q : St) (rec : Int32 → Int32 → Int32 → Option (Int32)) (v1 : Int32) (v2 : Int32) (v3 : Int32) : Option (Int32) :=
  b1 (rd 172 q 2 (0 : Int32)) fun x5 =>
  if x5 ≤ v3 then
    some v2
  else
    if v3 = v1 then
      lt_ (v2 + (0 : Int32)) fun w8 =>
      rec v1 w8 (v3 + 1)
    else
      b1 (M_isIn q v3) fun x9 =>
      if x9 = (0 : Int32) then
        lt_ (v2 + (0 : Int32)) fun w11 =>
        rec v1 w11 (v3 + 1)
      else
        b1 (M_isBelow q v3 v1) fun x12 =>
        if x12 = (0 : Int32) then
          lt_ (v2 + (0 : Int32)) fun w14 =>
          rec v1 w14 (v3 + 1)
        else
          lt_ (v2 + (1 : Int32)) fun w15 =>
          rec v1 w15 (v3 + 1)
theorem w_M_below_B25 {X : Cv} (C : Cx X cX11_below RX11 rmM_below 4) (S : IsM X) (q : St) {z : Int32} (hret : RokI X cX11_below .int z q) (rec : Int32 → Int32 → Int32 → Option (Int32)) (hrec : ∀ (v1 : Int32) (v2 : Int32) (v3 : Int32), rec v1 v2 v3 = some z → At X 25 [(0, .ref (adOf X 0)), (1, .int v1), (2, .int v2), (3, .int v3)] [] q) (v1 : Int32) (v2 : Int32) (v3 : Int32) (h : M_below_B25 q rec v1 v2 v3 = some z) : At X 25 [(0, .ref (adOf X 0)), (1, .int v1), (2, .int v2), (3, .int v3)] [] q := by
  unfold M_below_B25 at h
  refine a_iload_n C 3 rfl rfl dX11_below_25 ?_
  refine a_aload_n C 0 rfl rfl dX11_below_26 ?_
  refine gM_setup C S dX11_below_27 ?_
  refine a_iconst (v := 0) C (by decide) dX11_below_30 ?_
  obtain ⟨x5, e_x5, h⟩ := b1s h
  refine lM_setup C S e_x5 dX11_below_31 ?_
  refine a_icmp_ge C 71 (by decide) dX11_below_32 (fun c6 => ?_) (fun c6 => ?_)
  · replace h := ifp c6 h
    refine a_iload_n C 2 rfl rfl dX11_below_71 ?_
    exact a_iretR hret h rfl dX11_below_72
  · replace h := ifn c6 h
    refine a_iload_n C 2 rfl rfl dX11_below_35 ?_
    refine a_iload_n C 3 rfl rfl dX11_below_36 ?_
    refine a_iload_n C 1 rfl rfl dX11_below_37 ?_
    refine a_icmp_eq C 62 (by decide) dX11_below_38 (fun c7 => ?_) (fun c7 => ?_)
    · replace h := ifp c7 h
      refine a_iconst (v := 0) C (by decide) dX11_below_62 ?_
      refine a_iadd C dX11_below_63 ?_
      obtain ⟨w8, e_w8, h⟩ := lts h
      refine a_top e_w8 ?_
      refine a_istore_n C [(2, .int w8), (0, .ref (adOf X 0)), (1, .int v1), (3, .int v3)] rfl (by decide) rfl dX11_below_64 ?_
      refine a_iinc (v := (v3 + 1)) C [(3, .int (v3 + 1)), (2, .int w8), (0, .ref (adOf X 0)), (1, .int v1)] 3 rfl (congrArg (HAdd.hAdd v3) (by decide : Int32.ofInt (1) = (1 : Int32))) (by decide) rfl dX11_below_65 ?_
      refine a_goto C 25 (by decide) dX11_below_68 ?_
      exact At.sub [2, 3, 1, 0] rfl (hrec _ _ _ h)
    · replace h := ifn c7 h
      refine a_aload_n C 0 rfl rfl dX11_below_41 ?_
      refine a_iload_n C 3 rfl rfl dX11_below_42 ?_
      obtain ⟨x9, e_x9, h⟩ := b1s h
      refine k_M_isIn C S e_x9 ⟨Nat.le_of_ble_eq_true rfl, Nat.le_of_ble_eq_true rfl⟩ (Nat.le_of_ble_eq_true rfl) dX11_below_43 ?_
      refine a_if_eq C 62 (by decide) dX11_below_46 (fun c10 => ?_) (fun c10 => ?_)
      · replace h := ifp c10 h
        refine a_iconst (v := 0) C (by decide) dX11_below_62 ?_
        refine a_iadd C dX11_below_63 ?_
        obtain ⟨w11, e_w11, h⟩ := lts h
        refine a_top e_w11 ?_
        refine a_istore_n C [(2, .int w11), (0, .ref (adOf X 0)), (1, .int v1), (3, .int v3)] rfl (by decide) rfl dX11_below_64 ?_
        refine a_iinc (v := (v3 + 1)) C [(3, .int (v3 + 1)), (2, .int w11), (0, .ref (adOf X 0)), (1, .int v1)] 3 rfl (congrArg (HAdd.hAdd v3) (by decide : Int32.ofInt (1) = (1 : Int32))) (by decide) rfl dX11_below_65 ?_
        refine a_goto C 25 (by decide) dX11_below_68 ?_
        exact At.sub [2, 3, 1, 0] rfl (hrec _ _ _ h)
      · replace h := ifn c10 h
        refine a_aload_n C 0 rfl rfl dX11_below_49 ?_
        refine a_iload_n C 3 rfl rfl dX11_below_50 ?_
        refine a_iload_n C 1 rfl rfl dX11_below_51 ?_
        obtain ⟨x12, e_x12, h⟩ := b1s h
        refine k_M_isBelow C S e_x12 ⟨Nat.le_of_ble_eq_true rfl, Nat.le_of_ble_eq_true rfl⟩ (Nat.le_of_ble_eq_true rfl) dX11_below_52 ?_
        refine a_if_eq C 62 (by decide) dX11_below_55 (fun c13 => ?_) (fun c13 => ?_)
        · replace h := ifp c13 h
          refine a_iconst (v := 0) C (by decide) dX11_below_62 ?_
          refine a_iadd C dX11_below_63 ?_
          obtain ⟨w14, e_w14, h⟩ := lts h
          refine a_top e_w14 ?_
          refine a_istore_n C [(2, .int w14), (0, .ref (adOf X 0)), (1, .int v1), (3, .int v3)] rfl (by decide) rfl dX11_below_64 ?_
          refine a_iinc (v := (v3 + 1)) C [(3, .int (v3 + 1)), (2, .int w14), (0, .ref (adOf X 0)), (1, .int v1)] 3 rfl (congrArg (HAdd.hAdd v3) (by decide : Int32.ofInt (1) = (1 : Int32))) (by decide) rfl dX11_below_65 ?_
          refine a_goto C 25 (by decide) dX11_below_68 ?_
          exact At.sub [2, 3, 1, 0] rfl (hrec _ _ _ h)
        · replace h := ifn c13 h
          refine a_iconst (v := 1) C (by decide) dX11_below_58 ?_
          refine a_goto C 63 (by decide) dX11_below_59 ?_
          refine a_iadd C dX11_below_63 ?_
          obtain ⟨w15, e_w15, h⟩ := lts h
          refine a_top e_w15 ?_
          refine a_istore_n C [(2, .int w15), (0, .ref (adOf X 0)), (1, .int v1), (3, .int v3)] rfl (by decide) rfl dX11_below_64 ?_
          refine a_iinc (v := (v3 + 1)) C [(3, .int (v3 + 1)), (2, .int w15), (0, .ref (adOf X 0)), (1, .int v1)] 3 rfl (congrArg (HAdd.hAdd v3) (by decide : Int32.ofInt (1) = (1 : Int32))) (by decide) rfl dX11_below_65 ?_
          refine a_goto C 25 (by decide) dX11_below_68 ?_
          exact At.sub [2, 3, 1, 0] rfl (hrec _ _ _ h)
def M_below_L25 (q : St) : Nat → Int32 → Int32 → Int32 → Option (Int32)
  | 0, _, _, _ => none
  | n + 1, v1, v2, v3 => M_below_B25 q (M_below_L25 q n) v1 v2 v3
theorem w_M_below_L25 {X : Cv} (C : Cx X cX11_below RX11 rmM_below 4) (S : IsM X) (q : St) {z : Int32} (hret : RokI X cX11_below .int z q) (n : Nat) : ∀ (v1 : Int32) (v2 : Int32) (v3 : Int32), M_below_L25 q n v1 v2 v3 = some z → At X 25 [(0, .ref (adOf X 0)), (1, .int v1), (2, .int v2), (3, .int v3)] [] q := by
  induction n with
  | zero => intro v1 v2 v3 h; cases h
  | succ n ih => intro v1 v2 v3 h; exact w_M_below_B25 C S _ hret _ ih v1 v2 v3 h
def M_below (q : St) (v1 : Int32) : Option (Int32) :=
  b1 (M_isNode q v1) fun x1 =>
  if x1 = (0 : Int32) then
    some (-1 : Int32)
  else
    b1 (M_isIn q v1) fun x3 =>
    if x3 = (0 : Int32) then
      some (-2 : Int32)
    else
      M_below_L25 q FU v1 (0 : Int32) (0 : Int32)
theorem w_M_below {X : Cv} (C : Cx X cX11_below RX11 rmM_below 4) (S : IsM X) {q : St} {z : Int32} (hret : RokI X cX11_below .int z q) (v1 : Int32) (h : M_below q v1 = some z) : At X 0 [(0, .ref (adOf X 0)), (1, .int v1)] [] q := by
  unfold M_below at h
  refine a_aload_n C 0 rfl rfl dX11_below_0 ?_
  refine a_iload_n C 1 rfl rfl dX11_below_1 ?_
  obtain ⟨x1, e_x1, h⟩ := b1s h
  refine k_M_isNode C S e_x1 ⟨Nat.le_of_ble_eq_true rfl, Nat.le_of_ble_eq_true rfl⟩ (Nat.le_of_ble_eq_true rfl) dX11_below_2 ?_
  refine a_if_ne C 10 (by decide) dX11_below_5 (fun c2 => ?_) (fun c2 => ?_)
  · replace h := ifn c2 h
    refine a_aload_n C 0 rfl rfl dX11_below_10 ?_
    refine a_iload_n C 1 rfl rfl dX11_below_11 ?_
    obtain ⟨x3, e_x3, h⟩ := b1s h
    refine k_M_isIn C S e_x3 ⟨Nat.le_of_ble_eq_true rfl, Nat.le_of_ble_eq_true rfl⟩ (Nat.le_of_ble_eq_true rfl) dX11_below_12 ?_
    refine a_if_ne C 21 (by decide) dX11_below_15 (fun c4 => ?_) (fun c4 => ?_)
    · replace h := ifn c4 h
      refine a_iconst (v := 0) C (by decide) dX11_below_21 ?_
      refine a_istore_n C [(2, .int (0 : Int32)), (0, .ref (adOf X 0)), (1, .int v1)] rfl (by decide) rfl dX11_below_22 ?_
      refine a_iconst (v := 0) C (by decide) dX11_below_23 ?_
      refine a_istore_n C [(3, .int (0 : Int32)), (2, .int (0 : Int32)), (0, .ref (adOf X 0)), (1, .int v1)] rfl (by decide) rfl dX11_below_24 ?_
      exact At.sub [2, 3, 1, 0] rfl (w_M_below_L25 C S _ hret _ _ _ _ h)
    · replace h := ifp c4 h
      refine a_bipush (v := -2) C (by decide) dX11_below_18 ?_
      exact a_iretR hret h rfl dX11_below_20
  · replace h := ifp c2 h
    refine a_iconst (v := -1) C (by decide) dX11_below_8 ?_
    exact a_iretR hret h rfl dX11_below_9
theorem c_M_below {l : Launch} {D : va_G} {I : ClassId × ClassId × ClassId × ClassId} {ad : Nat → Nat} {q : St} {v1 : Int32} {z : Int32} (h : M_below q v1 = some z) : Ctr l D I zT 18 (shM I) ad yX11_below cX11_below 4 (some .int) rmM_below [.ref (ad 0), .int v1] q (some z) q :=
  ctr_ofI (by decide) (Nat.le_of_ble_eq_true rfl) (fun p e s m args below meth c Q H0 X hX C hret => by subst hX; exact w_M_below C ⟨rfl, rfl, rfl⟩ hret _ h)
abbrev rmM_demand : Room := { frames := 4, cells := 0, slots := 0, locals := 91 }
def M_demand (q : St) (v1 : Int32) (v2 : Int32) : Option (Int32 × St) :=
  b1 (M_isNode q v1) fun x1 =>
  if x1 = (0 : Int32) then
    some ((-1 : Int32), q)
  else
    b1 (M_isFormat q v2) fun x3 =>
    if x3 = (0 : Int32) then
      some ((-1 : Int32), q)
    else
      b1 (M_measures q) fun q5 =>
      b1 (rd 64 q5 7 (((4 : Int32) * v1) + v2)) fun x6 =>
      some (x6, q5)
theorem w_M_demand {X : Cv} (C : Cx X cX11_demand RX11 rmM_demand 3) (S : IsM X) {z : Int32 × St} (hret : RokI X cX11_demand .int z.1 z.2) (v1 : Int32) (v2 : Int32) (q : St) (h : M_demand q v1 v2 = some z) : At X 0 [(0, .ref (adOf X 0)), (1, .int v1), (2, .int v2)] [] q := by
  unfold M_demand at h
  refine a_aload_n C 0 rfl rfl dX11_demand_0 ?_
  refine a_iload_n C 1 rfl rfl dX11_demand_1 ?_
  obtain ⟨x1, e_x1, h⟩ := b1s h
  refine k_M_isNode C S e_x1 ⟨Nat.le_of_ble_eq_true rfl, Nat.le_of_ble_eq_true rfl⟩ (Nat.le_of_ble_eq_true rfl) dX11_demand_2 ?_
  refine a_if_eq C 16 (by decide) dX11_demand_5 (fun c2 => ?_) (fun c2 => ?_)
  · replace h := ifp c2 h
    refine a_iconst (v := -1) C (by decide) dX11_demand_16 ?_
    exact a_iret hret h rfl dX11_demand_17
  · replace h := ifn c2 h
    refine a_aload_n C 0 rfl rfl dX11_demand_8 ?_
    refine a_iload_n C 2 rfl rfl dX11_demand_9 ?_
    obtain ⟨x3, e_x3, h⟩ := b1s h
    refine k_M_isFormat C S e_x3 ⟨Nat.le_of_ble_eq_true rfl, Nat.le_of_ble_eq_true rfl⟩ (Nat.le_of_ble_eq_true rfl) dX11_demand_10 ?_
    refine a_if_ne C 18 (by decide) dX11_demand_13 (fun c4 => ?_) (fun c4 => ?_)
    · replace h := ifn c4 h
      refine a_aload_n C 0 rfl rfl dX11_demand_18 ?_
      obtain ⟨q5, e_q5, h⟩ := b1s h
      refine k_M_measures C S e_q5 ⟨Nat.le_of_ble_eq_true rfl, Nat.le_of_ble_eq_true rfl⟩ (Nat.le_of_ble_eq_true rfl) dX11_demand_19 ?_
      refine a_aload_n C 0 rfl rfl dX11_demand_22 ?_
      refine gM_demands C S dX11_demand_23 ?_
      refine a_iconst (v := 4) C (by decide) dX11_demand_26 ?_
      refine a_iload_n C 1 rfl rfl dX11_demand_27 ?_
      refine a_imul C dX11_demand_28 ?_
      refine a_iload_n C 2 rfl rfl dX11_demand_29 ?_
      refine a_iadd C dX11_demand_30 ?_
      obtain ⟨x6, e_x6, h⟩ := b1s h
      refine lM_demands C S e_x6 dX11_demand_31 ?_
      exact a_iret hret h rfl dX11_demand_32
    · replace h := ifp c4 h
      refine a_iconst (v := -1) C (by decide) dX11_demand_16 ?_
      exact a_iret hret h rfl dX11_demand_17
theorem c_M_demand {l : Launch} {D : va_G} {I : ClassId × ClassId × ClassId × ClassId} {ad : Nat → Nat} {q : St} {v1 : Int32} {v2 : Int32} {z : Int32 × St} (h : M_demand q v1 v2 = some z) : Ctr l D I zT 18 (shM I) ad yX11_demand cX11_demand 3 (some .int) rmM_demand [.ref (ad 0), .int v1, .int v2] q (some z.1) z.2 :=
  ctr_ofI (by decide) (Nat.le_of_ble_eq_true rfl) (fun p e s m args below meth c Q H0 X hX C hret => by subst hX; exact w_M_demand C ⟨rfl, rfl, rfl⟩ hret _ _ _ h)
abbrev rmM_linkLoad : Room := { frames := 4, cells := 0, slots := 0, locals := 91 }
def M_linkLoad (q : St) (v1 : Int32) : Option (Int32 × St) :=
  b1 (M_isLink q v1) fun x1 =>
  if x1 = (0 : Int32) then
    some ((-1 : Int32), q)
  else
    b1 (M_measures q) fun q3 =>
    b1 (rd 32 q3 9 v1) fun x4 =>
    some (x4, q3)
theorem w_M_linkLoad {X : Cv} (C : Cx X cX11_linkLoad RX11 rmM_linkLoad 2) (S : IsM X) {z : Int32 × St} (hret : RokI X cX11_linkLoad .int z.1 z.2) (v1 : Int32) (q : St) (h : M_linkLoad q v1 = some z) : At X 0 [(0, .ref (adOf X 0)), (1, .int v1)] [] q := by
  unfold M_linkLoad at h
  refine a_aload_n C 0 rfl rfl dX11_linkLoad_0 ?_
  refine a_iload_n C 1 rfl rfl dX11_linkLoad_1 ?_
  obtain ⟨x1, e_x1, h⟩ := b1s h
  refine k_M_isLink C S e_x1 ⟨Nat.le_of_ble_eq_true rfl, Nat.le_of_ble_eq_true rfl⟩ (Nat.le_of_ble_eq_true rfl) dX11_linkLoad_2 ?_
  refine a_if_ne C 10 (by decide) dX11_linkLoad_5 (fun c2 => ?_) (fun c2 => ?_)
  · replace h := ifn c2 h
    refine a_aload_n C 0 rfl rfl dX11_linkLoad_10 ?_
    obtain ⟨q3, e_q3, h⟩ := b1s h
    refine k_M_measures C S e_q3 ⟨Nat.le_of_ble_eq_true rfl, Nat.le_of_ble_eq_true rfl⟩ (Nat.le_of_ble_eq_true rfl) dX11_linkLoad_11 ?_
    refine a_aload_n C 0 rfl rfl dX11_linkLoad_14 ?_
    refine gM_linkLoads C S dX11_linkLoad_15 ?_
    refine a_iload_n C 1 rfl rfl dX11_linkLoad_18 ?_
    obtain ⟨x4, e_x4, h⟩ := b1s h
    refine lM_linkLoads C S e_x4 dX11_linkLoad_19 ?_
    exact a_iret hret h rfl dX11_linkLoad_20
  · replace h := ifp c2 h
    refine a_iconst (v := -1) C (by decide) dX11_linkLoad_8 ?_
    exact a_iret hret h rfl dX11_linkLoad_9
theorem c_M_linkLoad {l : Launch} {D : va_G} {I : ClassId × ClassId × ClassId × ClassId} {ad : Nat → Nat} {q : St} {v1 : Int32} {z : Int32 × St} (h : M_linkLoad q v1 = some z) : Ctr l D I zT 18 (shM I) ad yX11_linkLoad cX11_linkLoad 2 (some .int) rmM_linkLoad [.ref (ad 0), .int v1] q (some z.1) z.2 :=
  ctr_ofI (by decide) (Nat.le_of_ble_eq_true rfl) (fun p e s m args below meth c Q H0 X hX C hret => by subst hX; exact w_M_linkLoad C ⟨rfl, rfl, rfl⟩ hret _ _ h)
abbrev rmM_cpuLoad : Room := { frames := 4, cells := 0, slots := 0, locals := 91 }
def M_cpuLoad (q : St) (v1 : Int32) : Option (Int32 × St) :=
  b1 (M_isNode q v1) fun x1 =>
  if x1 = (0 : Int32) then
    some ((-1 : Int32), q)
  else
    b1 (M_measures q) fun q3 =>
    b1 (rd 16 q3 10 v1) fun x4 =>
    some (x4, q3)
theorem w_M_cpuLoad {X : Cv} (C : Cx X cX11_cpuLoad RX11 rmM_cpuLoad 2) (S : IsM X) {z : Int32 × St} (hret : RokI X cX11_cpuLoad .int z.1 z.2) (v1 : Int32) (q : St) (h : M_cpuLoad q v1 = some z) : At X 0 [(0, .ref (adOf X 0)), (1, .int v1)] [] q := by
  unfold M_cpuLoad at h
  refine a_aload_n C 0 rfl rfl dX11_cpuLoad_0 ?_
  refine a_iload_n C 1 rfl rfl dX11_cpuLoad_1 ?_
  obtain ⟨x1, e_x1, h⟩ := b1s h
  refine k_M_isNode C S e_x1 ⟨Nat.le_of_ble_eq_true rfl, Nat.le_of_ble_eq_true rfl⟩ (Nat.le_of_ble_eq_true rfl) dX11_cpuLoad_2 ?_
  refine a_if_ne C 10 (by decide) dX11_cpuLoad_5 (fun c2 => ?_) (fun c2 => ?_)
  · replace h := ifn c2 h
    refine a_aload_n C 0 rfl rfl dX11_cpuLoad_10 ?_
    obtain ⟨q3, e_q3, h⟩ := b1s h
    refine k_M_measures C S e_q3 ⟨Nat.le_of_ble_eq_true rfl, Nat.le_of_ble_eq_true rfl⟩ (Nat.le_of_ble_eq_true rfl) dX11_cpuLoad_11 ?_
    refine a_aload_n C 0 rfl rfl dX11_cpuLoad_14 ?_
    refine gM_cpuLoads C S dX11_cpuLoad_15 ?_
    refine a_iload_n C 1 rfl rfl dX11_cpuLoad_18 ?_
    obtain ⟨x4, e_x4, h⟩ := b1s h
    refine lM_cpuLoads C S e_x4 dX11_cpuLoad_19 ?_
    exact a_iret hret h rfl dX11_cpuLoad_20
  · replace h := ifp c2 h
    refine a_iconst (v := -1) C (by decide) dX11_cpuLoad_8 ?_
    exact a_iret hret h rfl dX11_cpuLoad_9
theorem c_M_cpuLoad {l : Launch} {D : va_G} {I : ClassId × ClassId × ClassId × ClassId} {ad : Nat → Nat} {q : St} {v1 : Int32} {z : Int32 × St} (h : M_cpuLoad q v1 = some z) : Ctr l D I zT 18 (shM I) ad yX11_cpuLoad cX11_cpuLoad 2 (some .int) rmM_cpuLoad [.ref (ad 0), .int v1] q (some z.1) z.2 :=
  ctr_ofI (by decide) (Nat.le_of_ble_eq_true rfl) (fun p e s m args below meth c Q H0 X hX C hret => by subst hX; exact w_M_cpuLoad C ⟨rfl, rfl, rfl⟩ hret _ _ h)
abbrev rmM_isPlaced : Room := { frames := 2, cells := 0, slots := 0, locals := 46 }
def M_isPlaced (q : St) (v1 : Int32) (v2 : Int32) : Option (Int32) :=
  b1 (M_isNode q v1) fun x1 =>
  if x1 = (0 : Int32) then
    some (0 : Int32)
  else
    b1 (M_isFormat q v2) fun x3 =>
    if x3 = (0 : Int32) then
      some (0 : Int32)
    else
      b1 (M_has q v1 v2) fun x5 =>
      if x5 = (0 : Int32) then
        some (0 : Int32)
      else
        some (1 : Int32)
theorem w_M_isPlaced {X : Cv} (C : Cx X cX11_isPlaced RX11 rmM_isPlaced 3) (S : IsM X) {q : St} {z : Int32} (hret : RokI X cX11_isPlaced .boolean z q) (v1 : Int32) (v2 : Int32) (h : M_isPlaced q v1 v2 = some z) : At X 0 [(0, .ref (adOf X 0)), (1, .int v1), (2, .int v2)] [] q := by
  unfold M_isPlaced at h
  refine a_aload_n C 0 rfl rfl dX11_isPlaced_0 ?_
  refine a_iload_n C 1 rfl rfl dX11_isPlaced_1 ?_
  obtain ⟨x1, e_x1, h⟩ := b1s h
  refine k_M_isNode C S e_x1 ⟨Nat.le_of_ble_eq_true rfl, Nat.le_of_ble_eq_true rfl⟩ (Nat.le_of_ble_eq_true rfl) dX11_isPlaced_2 ?_
  refine a_if_eq C 29 (by decide) dX11_isPlaced_5 (fun c2 => ?_) (fun c2 => ?_)
  · replace h := ifp c2 h
    refine a_iconst (v := 0) C (by decide) dX11_isPlaced_29 ?_
    exact a_iretR hret h rfl dX11_isPlaced_30
  · replace h := ifn c2 h
    refine a_aload_n C 0 rfl rfl dX11_isPlaced_8 ?_
    refine a_iload_n C 2 rfl rfl dX11_isPlaced_9 ?_
    obtain ⟨x3, e_x3, h⟩ := b1s h
    refine k_M_isFormat C S e_x3 ⟨Nat.le_of_ble_eq_true rfl, Nat.le_of_ble_eq_true rfl⟩ (Nat.le_of_ble_eq_true rfl) dX11_isPlaced_10 ?_
    refine a_if_eq C 29 (by decide) dX11_isPlaced_13 (fun c4 => ?_) (fun c4 => ?_)
    · replace h := ifp c4 h
      refine a_iconst (v := 0) C (by decide) dX11_isPlaced_29 ?_
      exact a_iretR hret h rfl dX11_isPlaced_30
    · replace h := ifn c4 h
      refine a_aload_n C 0 rfl rfl dX11_isPlaced_16 ?_
      refine a_iload_n C 1 rfl rfl dX11_isPlaced_17 ?_
      refine a_iload_n C 2 rfl rfl dX11_isPlaced_18 ?_
      obtain ⟨x5, e_x5, h⟩ := b1s h
      refine k_M_has C S e_x5 ⟨Nat.le_of_ble_eq_true rfl, Nat.le_of_ble_eq_true rfl⟩ (Nat.le_of_ble_eq_true rfl) dX11_isPlaced_19 ?_
      refine a_if_eq C 29 (by decide) dX11_isPlaced_22 (fun c6 => ?_) (fun c6 => ?_)
      · replace h := ifp c6 h
        refine a_iconst (v := 0) C (by decide) dX11_isPlaced_29 ?_
        exact a_iretR hret h rfl dX11_isPlaced_30
      · replace h := ifn c6 h
        refine a_iconst (v := 1) C (by decide) dX11_isPlaced_25 ?_
        refine a_goto C 30 (by decide) dX11_isPlaced_26 ?_
        exact a_iretR hret h rfl dX11_isPlaced_30
theorem c_M_isPlaced {l : Launch} {D : va_G} {I : ClassId × ClassId × ClassId × ClassId} {ad : Nat → Nat} {q : St} {v1 : Int32} {v2 : Int32} {z : Int32} (h : M_isPlaced q v1 v2 = some z) : Ctr l D I zT 18 (shM I) ad yX11_isPlaced cX11_isPlaced 3 (some .boolean) rmM_isPlaced [.ref (ad 0), .int v1, .int v2] q (some z) q :=
  ctr_ofI (by decide) (Nat.le_of_ble_eq_true rfl) (fun p e s m args below meth c Q H0 X hX C hret => by subst hX; exact w_M_isPlaced C ⟨rfl, rfl, rfl⟩ hret _ _ h)
abbrev rmM_sumLoads : Room := { frames := 0, cells := 0, slots := 0, locals := 0 }
def M_sumLoads_B4 (q : St) (rec : Int32 → Int32 → Option (Int32)) (v1 : Int32) (v2 : Int32) : Option (Int32) :=
  b1 (rd 172 q 2 (1 : Int32)) fun x1 =>
  if x1 ≤ v2 then
    some v1
  else
    b1 (rd 32 q 9 v2) fun x3 =>
    lt_ (v1 + x3) fun w4 =>
    rec w4 (v2 + 1)
theorem w_M_sumLoads_B4 {X : Cv} (C : Cx X cX11_sumLoads RX11 rmM_sumLoads 3) (S : IsM X) (q : St) {z : Int32} (hret : RokI X cX11_sumLoads .int z q) (rec : Int32 → Int32 → Option (Int32)) (hrec : ∀ (v1 : Int32) (v2 : Int32), rec v1 v2 = some z → At X 4 [(0, .ref (adOf X 0)), (1, .int v1), (2, .int v2)] [] q) (v1 : Int32) (v2 : Int32) (h : M_sumLoads_B4 q rec v1 v2 = some z) : At X 4 [(0, .ref (adOf X 0)), (1, .int v1), (2, .int v2)] [] q := by
  unfold M_sumLoads_B4 at h
  refine a_iload_n C 2 rfl rfl dX11_sumLoads_4 ?_
  refine a_aload_n C 0 rfl rfl dX11_sumLoads_5 ?_
  refine gM_setup C S dX11_sumLoads_6 ?_
  refine a_iconst (v := 1) C (by decide) dX11_sumLoads_9 ?_
  obtain ⟨x1, e_x1, h⟩ := b1s h
  refine lM_setup C S e_x1 dX11_sumLoads_10 ?_
  refine a_icmp_ge C 29 (by decide) dX11_sumLoads_11 (fun c2 => ?_) (fun c2 => ?_)
  · replace h := ifp c2 h
    refine a_iload_n C 1 rfl rfl dX11_sumLoads_29 ?_
    exact a_iretR hret h rfl dX11_sumLoads_30
  · replace h := ifn c2 h
    refine a_iload_n C 1 rfl rfl dX11_sumLoads_14 ?_
    refine a_aload_n C 0 rfl rfl dX11_sumLoads_15 ?_
    refine gM_linkLoads C S dX11_sumLoads_16 ?_
    refine a_iload_n C 2 rfl rfl dX11_sumLoads_19 ?_
    obtain ⟨x3, e_x3, h⟩ := b1s h
    refine lM_linkLoads C S e_x3 dX11_sumLoads_20 ?_
    refine a_iadd C dX11_sumLoads_21 ?_
    obtain ⟨w4, e_w4, h⟩ := lts h
    refine a_top e_w4 ?_
    refine a_istore_n C [(1, .int w4), (0, .ref (adOf X 0)), (2, .int v2)] rfl (by decide) rfl dX11_sumLoads_22 ?_
    refine a_iinc (v := (v2 + 1)) C [(2, .int (v2 + 1)), (1, .int w4), (0, .ref (adOf X 0))] 2 rfl (congrArg (HAdd.hAdd v2) (by decide : Int32.ofInt (1) = (1 : Int32))) (by decide) rfl dX11_sumLoads_23 ?_
    refine a_goto C 4 (by decide) dX11_sumLoads_26 ?_
    exact At.sub [2, 1, 0] rfl (hrec _ _ h)
def M_sumLoads_L4 (q : St) : Nat → Int32 → Int32 → Option (Int32)
  | 0, _, _ => none
  | n + 1, v1, v2 => M_sumLoads_B4 q (M_sumLoads_L4 q n) v1 v2
theorem w_M_sumLoads_L4 {X : Cv} (C : Cx X cX11_sumLoads RX11 rmM_sumLoads 3) (S : IsM X) (q : St) {z : Int32} (hret : RokI X cX11_sumLoads .int z q) (n : Nat) : ∀ (v1 : Int32) (v2 : Int32), M_sumLoads_L4 q n v1 v2 = some z → At X 4 [(0, .ref (adOf X 0)), (1, .int v1), (2, .int v2)] [] q := by
  induction n with
  | zero => intro v1 v2 h; cases h
  | succ n ih => intro v1 v2 h; exact w_M_sumLoads_B4 C S _ hret _ ih v1 v2 h
def M_sumLoads (q : St) : Option (Int32) :=
  M_sumLoads_L4 q FU (0 : Int32) (0 : Int32)
theorem w_M_sumLoads {X : Cv} (C : Cx X cX11_sumLoads RX11 rmM_sumLoads 3) (S : IsM X) {q : St} {z : Int32} (hret : RokI X cX11_sumLoads .int z q) (h : M_sumLoads q = some z) : At X 0 [(0, .ref (adOf X 0))] [] q := by
  unfold M_sumLoads at h
  refine a_iconst (v := 0) C (by decide) dX11_sumLoads_0 ?_
  refine a_istore_n C [(1, .int (0 : Int32)), (0, .ref (adOf X 0))] rfl (by decide) rfl dX11_sumLoads_1 ?_
  refine a_iconst (v := 0) C (by decide) dX11_sumLoads_2 ?_
  refine a_istore_n C [(2, .int (0 : Int32)), (1, .int (0 : Int32)), (0, .ref (adOf X 0))] rfl (by decide) rfl dX11_sumLoads_3 ?_
  exact At.sub [2, 1, 0] rfl (w_M_sumLoads_L4 C S _ hret _ _ _ h)
theorem c_M_sumLoads {l : Launch} {D : va_G} {I : ClassId × ClassId × ClassId × ClassId} {ad : Nat → Nat} {q : St} {z : Int32} (h : M_sumLoads q = some z) : Ctr l D I zT 18 (shM I) ad yX11_sumLoads cX11_sumLoads 3 (some .int) rmM_sumLoads [.ref (ad 0)] q (some z) q :=
  ctr_ofI (by decide) (Nat.le_of_ble_eq_true rfl) (fun p e s m args below meth c Q H0 X hX C hret => by subst hX; exact w_M_sumLoads C ⟨rfl, rfl, rfl⟩ hret h)
theorem g_M_sumLoads : GoodIn lw_tg (wsV RX11 329 RX11 yX11_sumLoads (Cond.code yX11_sumLoads cX11_sumLoads 3 (some .int) :: lw_tg)) := gd_V (tg 1735 (by decide +kernel) rfl) (tg 1737 (by decide +kernel) rfl) (tg 108 (by decide +kernel) rfl) (tg 128 (by decide +kernel) rfl) (tg 1738 (by decide +kernel) rfl)
theorem k_M_sumLoads {X : Cv} {cc : ByteArray} {rm : Room} {nL1 pc : Nat} {lv : List (Nat × Value)} {sk : List Value} {q : St} {z : Int32} (C : Cx X cc RX11 rm nL1) (S : IsM X) (h : M_sumLoads q = some z) (hz : rmM_sumLoads.frames + 1 ≤ rm.frames ∧ 8 + (3 + 11) + rmM_sumLoads.locals ≤ rm.locals) (hr : (sk.map fun v => v.category).sum ≤ 8) (hd : decode cc pc = .ok (.invokevirtual 329, 3)) (k : At X (pc + 3) lv (.int z :: sk) q) : At X pc lv (.ref (adOf X 0) :: sk) q := a_callVi (as := []) C (kp := 0) (by rw [S.1]; decide) (by rw [S.2.1]; rfl) rfl (by have hh := c_M_sumLoads (l := X.2.1) (D := dOf X) (I := idOf X) (ad := adOf X) h; rw [← S.1, ← S.2.1, ← S.2.2] at hh; exact hh) g_M_sumLoads ⟨rfl, rfl, hz.1, hz.2⟩ ⟨by decide, by decide, by show Option.map _ (parseMethodDescriptor yX11_sumLoads.desc) = some 0; decide⟩ hr rfl hd k
abbrev rmM_countReceivers : Room := { frames := 1, cells := 0, slots := 0, locals := 22 }
def M_countReceivers_J29 (rec : Int32 → Int32 → Int32 → Option (Int32)) (v1 : Int32) (v2 : Int32) (v3 : Int32) (z0 : Int32) (q : St) : Option (Int32) :=
  if z0 = (0 : Int32) then
    lt_ (v2 + (0 : Int32)) fun w16 =>
    rec v1 w16 (v3 + 1)
  else
    if v1 = (1 : Int32) then
      b1 (M_of q v3 (2 : Int32)) fun x14 =>
      lt_ (v2 + x14) fun w15 =>
      rec v1 w15 (v3 + 1)
    else
      if v1 = (6 : Int32) then
        b1 (M_of q v3 (2 : Int32)) fun x9 =>
        b1 (M_of q v3 (3 : Int32)) fun x10 =>
        if x9 = x10 then
          lt_ (v2 + (1 : Int32)) fun w13 =>
          rec v1 w13 (v3 + 1)
        else
          lt_ (v2 + (0 : Int32)) fun w12 =>
          rec v1 w12 (v3 + 1)
      else
        lt_ (v2 + (1 : Int32)) fun w8 =>
        rec v1 w8 (v3 + 1)
theorem w_M_countReceivers_J29 {X : Cv} (C : Cx X cX11_countReceivers RX11 rmM_countReceivers 5) (S : IsM X) {q : St} {z : Int32} (hret : RokI X cX11_countReceivers .int z q) (rec : Int32 → Int32 → Int32 → Option (Int32)) (hrec : ∀ (v1 : Int32) (v2 : Int32) (v3 : Int32), rec v1 v2 v3 = some z → At X 4 [(0, .ref (adOf X 0)), (1, .int v1), (2, .int v2), (3, .int v3)] [] q) (v1 : Int32) (v2 : Int32) (v3 : Int32) (z0 : Int32) (h : M_countReceivers_J29 rec v1 v2 v3 z0 q = some z) : At X 29 [(0, .ref (adOf X 0)), (1, .int v1), (2, .int v2), (3, .int v3)] [.int z0] q := by
  unfold M_countReceivers_J29 at h
  refine a_istore C [(4, .int z0), (0, .ref (adOf X 0)), (1, .int v1), (2, .int v2), (3, .int v3)] (by decide) rfl dX11_countReceivers_29 ?_
  refine a_iload_n C 3 rfl rfl dX11_countReceivers_31 ?_
  refine a_iload C 0 rfl dX11_countReceivers_32 ?_
  refine a_if_ne C 41 (by decide) dX11_countReceivers_34 (fun c5 => ?_) (fun c5 => ?_)
  · replace h := ifn c5 h
    refine a_iload_n C 2 rfl rfl dX11_countReceivers_41 ?_
    refine a_iconst (v := 1) C (by decide) dX11_countReceivers_42 ?_
    refine a_icmp_ne C 55 (by decide) dX11_countReceivers_43 (fun c6 => ?_) (fun c6 => ?_)
    · replace h := ifn c6 h
      refine a_iload_n C 2 rfl rfl dX11_countReceivers_55 ?_
      refine a_bipush (v := 6) C (by decide) dX11_countReceivers_56 ?_
      refine a_icmp_ne C 84 (by decide) dX11_countReceivers_58 (fun c7 => ?_) (fun c7 => ?_)
      · replace h := ifn c7 h
        refine a_iconst (v := 1) C (by decide) dX11_countReceivers_84 ?_
        refine a_iadd C dX11_countReceivers_85 ?_
        obtain ⟨w8, e_w8, h⟩ := lts h
        refine a_top e_w8 ?_
        refine a_istore_n C [(2, .int w8), (4, .int z0), (0, .ref (adOf X 0)), (1, .int v1), (3, .int v3)] rfl (by decide) rfl dX11_countReceivers_86 ?_
        refine a_iinc (v := (v3 + 1)) C [(3, .int (v3 + 1)), (2, .int w8), (4, .int z0), (0, .ref (adOf X 0)), (1, .int v1)] 4 rfl (congrArg (HAdd.hAdd v3) (by decide : Int32.ofInt (1) = (1 : Int32))) (by decide) rfl dX11_countReceivers_87 ?_
        refine a_goto C 4 (by decide) dX11_countReceivers_90 ?_
        exact At.sub [3, 4, 1, 0] rfl (hrec _ _ _ h)
      · replace h := ifp c7 h
        refine a_aload_n C 1 rfl rfl dX11_countReceivers_61 ?_
        refine a_iload_n C 4 rfl rfl dX11_countReceivers_62 ?_
        refine a_iconst (v := 2) C (by decide) dX11_countReceivers_63 ?_
        obtain ⟨x9, e_x9, h⟩ := b1s h
        refine k_M_of C S e_x9 ⟨Nat.le_of_ble_eq_true rfl, Nat.le_of_ble_eq_true rfl⟩ (Nat.le_of_ble_eq_true rfl) dX11_countReceivers_64 ?_
        refine a_aload_n C 1 rfl rfl dX11_countReceivers_67 ?_
        refine a_iload_n C 4 rfl rfl dX11_countReceivers_68 ?_
        refine a_iconst (v := 3) C (by decide) dX11_countReceivers_69 ?_
        obtain ⟨x10, e_x10, h⟩ := b1s h
        refine k_M_of C S e_x10 ⟨Nat.le_of_ble_eq_true rfl, Nat.le_of_ble_eq_true rfl⟩ (Nat.le_of_ble_eq_true rfl) dX11_countReceivers_70 ?_
        refine a_icmp_ne C 80 (by decide) dX11_countReceivers_73 (fun c11 => ?_) (fun c11 => ?_)
        · replace h := ifn c11 h
          refine a_iconst (v := 0) C (by decide) dX11_countReceivers_80 ?_
          refine a_goto C 85 (by decide) dX11_countReceivers_81 ?_
          refine a_iadd C dX11_countReceivers_85 ?_
          obtain ⟨w12, e_w12, h⟩ := lts h
          refine a_top e_w12 ?_
          refine a_istore_n C [(2, .int w12), (4, .int z0), (0, .ref (adOf X 0)), (1, .int v1), (3, .int v3)] rfl (by decide) rfl dX11_countReceivers_86 ?_
          refine a_iinc (v := (v3 + 1)) C [(3, .int (v3 + 1)), (2, .int w12), (4, .int z0), (0, .ref (adOf X 0)), (1, .int v1)] 4 rfl (congrArg (HAdd.hAdd v3) (by decide : Int32.ofInt (1) = (1 : Int32))) (by decide) rfl dX11_countReceivers_87 ?_
          refine a_goto C 4 (by decide) dX11_countReceivers_90 ?_
          exact At.sub [3, 4, 1, 0] rfl (hrec _ _ _ h)
        · replace h := ifp c11 h
          refine a_iconst (v := 1) C (by decide) dX11_countReceivers_76 ?_
          refine a_goto C 85 (by decide) dX11_countReceivers_77 ?_
          refine a_iadd C dX11_countReceivers_85 ?_
          obtain ⟨w13, e_w13, h⟩ := lts h
          refine a_top e_w13 ?_
          refine a_istore_n C [(2, .int w13), (4, .int z0), (0, .ref (adOf X 0)), (1, .int v1), (3, .int v3)] rfl (by decide) rfl dX11_countReceivers_86 ?_
          refine a_iinc (v := (v3 + 1)) C [(3, .int (v3 + 1)), (2, .int w13), (4, .int z0), (0, .ref (adOf X 0)), (1, .int v1)] 4 rfl (congrArg (HAdd.hAdd v3) (by decide : Int32.ofInt (1) = (1 : Int32))) (by decide) rfl dX11_countReceivers_87 ?_
          refine a_goto C 4 (by decide) dX11_countReceivers_90 ?_
          exact At.sub [3, 4, 1, 0] rfl (hrec _ _ _ h)
    · replace h := ifp c6 h
      refine a_aload_n C 1 rfl rfl dX11_countReceivers_46 ?_
      refine a_iload_n C 4 rfl rfl dX11_countReceivers_47 ?_
      refine a_iconst (v := 2) C (by decide) dX11_countReceivers_48 ?_
      obtain ⟨x14, e_x14, h⟩ := b1s h
      refine k_M_of C S e_x14 ⟨Nat.le_of_ble_eq_true rfl, Nat.le_of_ble_eq_true rfl⟩ (Nat.le_of_ble_eq_true rfl) dX11_countReceivers_49 ?_
      refine a_goto C 85 (by decide) dX11_countReceivers_52 ?_
      refine a_iadd C dX11_countReceivers_85 ?_
      obtain ⟨w15, e_w15, h⟩ := lts h
      refine a_top e_w15 ?_
      refine a_istore_n C [(2, .int w15), (4, .int z0), (0, .ref (adOf X 0)), (1, .int v1), (3, .int v3)] rfl (by decide) rfl dX11_countReceivers_86 ?_
      refine a_iinc (v := (v3 + 1)) C [(3, .int (v3 + 1)), (2, .int w15), (4, .int z0), (0, .ref (adOf X 0)), (1, .int v1)] 4 rfl (congrArg (HAdd.hAdd v3) (by decide : Int32.ofInt (1) = (1 : Int32))) (by decide) rfl dX11_countReceivers_87 ?_
      refine a_goto C 4 (by decide) dX11_countReceivers_90 ?_
      exact At.sub [3, 4, 1, 0] rfl (hrec _ _ _ h)
  · replace h := ifp c5 h
    refine a_iconst (v := 0) C (by decide) dX11_countReceivers_37 ?_
    refine a_goto C 85 (by decide) dX11_countReceivers_38 ?_
    refine a_iadd C dX11_countReceivers_85 ?_
    obtain ⟨w16, e_w16, h⟩ := lts h
    refine a_top e_w16 ?_
    refine a_istore_n C [(2, .int w16), (4, .int z0), (0, .ref (adOf X 0)), (1, .int v1), (3, .int v3)] rfl (by decide) rfl dX11_countReceivers_86 ?_
    refine a_iinc (v := (v3 + 1)) C [(3, .int (v3 + 1)), (2, .int w16), (4, .int z0), (0, .ref (adOf X 0)), (1, .int v1)] 4 rfl (congrArg (HAdd.hAdd v3) (by decide : Int32.ofInt (1) = (1 : Int32))) (by decide) rfl dX11_countReceivers_87 ?_
    refine a_goto C 4 (by decide) dX11_countReceivers_90 ?_
    exact At.sub [3, 4, 1, 0] rfl (hrec _ _ _ h)
def M_countReceivers_B4 (q : St) (rec : Int32 → Int32 → Int32 → Option (Int32)) (v1 : Int32) (v2 : Int32) (v3 : Int32) : Option (Int32) :=
  b1 (rd 202 q 4 (96 : Int32)) fun x1 =>
  if x1 ≤ v3 then
    some v2
  else
    b1 (M_of q v3 (4 : Int32)) fun x3 =>
    if x3 = (0 : Int32) then
      M_countReceivers_J29 rec v1 v2 v3 (1 : Int32) q
    else
      M_countReceivers_J29 rec v1 v2 v3 (0 : Int32) q
theorem w_M_countReceivers_B4 {X : Cv} (C : Cx X cX11_countReceivers RX11 rmM_countReceivers 5) (S : IsM X) (q : St) {z : Int32} (hret : RokI X cX11_countReceivers .int z q) (rec : Int32 → Int32 → Int32 → Option (Int32)) (hrec : ∀ (v1 : Int32) (v2 : Int32) (v3 : Int32), rec v1 v2 v3 = some z → At X 4 [(0, .ref (adOf X 0)), (1, .int v1), (2, .int v2), (3, .int v3)] [] q) (v1 : Int32) (v2 : Int32) (v3 : Int32) (h : M_countReceivers_B4 q rec v1 v2 v3 = some z) : At X 4 [(0, .ref (adOf X 0)), (1, .int v1), (2, .int v2), (3, .int v3)] [] q := by
  unfold M_countReceivers_B4 at h
  refine a_iload_n C 3 rfl rfl dX11_countReceivers_4 ?_
  refine a_aload_n C 0 rfl rfl dX11_countReceivers_5 ?_
  refine gM_world C S dX11_countReceivers_6 ?_
  refine a_bipush (v := 96) C (by decide) dX11_countReceivers_9 ?_
  obtain ⟨x1, e_x1, h⟩ := b1s h
  refine lM_world C S e_x1 dX11_countReceivers_11 ?_
  refine a_icmp_ge C 93 (by decide) dX11_countReceivers_12 (fun c2 => ?_) (fun c2 => ?_)
  · replace h := ifp c2 h
    refine a_iload_n C 2 rfl rfl dX11_countReceivers_93 ?_
    exact a_iretR hret h rfl dX11_countReceivers_94
  · replace h := ifn c2 h
    refine a_aload_n C 0 rfl rfl dX11_countReceivers_15 ?_
    refine a_iload_n C 3 rfl rfl dX11_countReceivers_16 ?_
    refine a_iconst (v := 4) C (by decide) dX11_countReceivers_17 ?_
    obtain ⟨x3, e_x3, h⟩ := b1s h
    refine k_M_of C S e_x3 ⟨Nat.le_of_ble_eq_true rfl, Nat.le_of_ble_eq_true rfl⟩ (Nat.le_of_ble_eq_true rfl) dX11_countReceivers_18 ?_
    refine a_if_ne C 28 (by decide) dX11_countReceivers_21 (fun c4 => ?_) (fun c4 => ?_)
    · replace h := ifn c4 h
      refine a_iconst (v := 0) C (by decide) dX11_countReceivers_28 ?_
      exact At.sub [0, 1, 2, 3] rfl (w_M_countReceivers_J29 C S hret _ hrec _ _ _ _ h)
    · replace h := ifp c4 h
      refine a_iconst (v := 1) C (by decide) dX11_countReceivers_24 ?_
      refine a_goto C 29 (by decide) dX11_countReceivers_25 ?_
      exact At.sub [0, 1, 2, 3] rfl (w_M_countReceivers_J29 C S hret _ hrec _ _ _ _ h)
def M_countReceivers_L4 (q : St) : Nat → Int32 → Int32 → Int32 → Option (Int32)
  | 0, _, _, _ => none
  | n + 1, v1, v2, v3 => M_countReceivers_B4 q (M_countReceivers_L4 q n) v1 v2 v3
theorem w_M_countReceivers_L4 {X : Cv} (C : Cx X cX11_countReceivers RX11 rmM_countReceivers 5) (S : IsM X) (q : St) {z : Int32} (hret : RokI X cX11_countReceivers .int z q) (n : Nat) : ∀ (v1 : Int32) (v2 : Int32) (v3 : Int32), M_countReceivers_L4 q n v1 v2 v3 = some z → At X 4 [(0, .ref (adOf X 0)), (1, .int v1), (2, .int v2), (3, .int v3)] [] q := by
  induction n with
  | zero => intro v1 v2 v3 h; cases h
  | succ n ih => intro v1 v2 v3 h; exact w_M_countReceivers_B4 C S _ hret _ ih v1 v2 v3 h
def M_countReceivers (q : St) (v1 : Int32) : Option (Int32) :=
  M_countReceivers_L4 q FU v1 (0 : Int32) (0 : Int32)
theorem w_M_countReceivers {X : Cv} (C : Cx X cX11_countReceivers RX11 rmM_countReceivers 5) (S : IsM X) {q : St} {z : Int32} (hret : RokI X cX11_countReceivers .int z q) (v1 : Int32) (h : M_countReceivers q v1 = some z) : At X 0 [(0, .ref (adOf X 0)), (1, .int v1)] [] q := by
  unfold M_countReceivers at h
  refine a_iconst (v := 0) C (by decide) dX11_countReceivers_0 ?_
  refine a_istore_n C [(2, .int (0 : Int32)), (0, .ref (adOf X 0)), (1, .int v1)] rfl (by decide) rfl dX11_countReceivers_1 ?_
  refine a_iconst (v := 0) C (by decide) dX11_countReceivers_2 ?_
  refine a_istore_n C [(3, .int (0 : Int32)), (2, .int (0 : Int32)), (0, .ref (adOf X 0)), (1, .int v1)] rfl (by decide) rfl dX11_countReceivers_3 ?_
  exact At.sub [2, 3, 1, 0] rfl (w_M_countReceivers_L4 C S _ hret _ _ _ _ h)
theorem c_M_countReceivers {l : Launch} {D : va_G} {I : ClassId × ClassId × ClassId × ClassId} {ad : Nat → Nat} {q : St} {v1 : Int32} {z : Int32} (h : M_countReceivers q v1 = some z) : Ctr l D I zT 18 (shM I) ad yX11_countReceivers cX11_countReceivers 5 (some .int) rmM_countReceivers [.ref (ad 0), .int v1] q (some z) q :=
  ctr_ofI (by decide) (Nat.le_of_ble_eq_true rfl) (fun p e s m args below meth c Q H0 X hX C hret => by subst hX; exact w_M_countReceivers C ⟨rfl, rfl, rfl⟩ hret _ h)
theorem g_M_countReceivers : GoodIn lw_tg (wsV RX11 326 RX11 yX11_countReceivers (Cond.code yX11_countReceivers cX11_countReceivers 5 (some .int) :: lw_tg)) := gd_V (tg 1731 (by decide +kernel) rfl) (tg 1733 (by decide +kernel) rfl) (tg 107 (by decide +kernel) rfl) (tg 128 (by decide +kernel) rfl) (tg 1734 (by decide +kernel) rfl)
theorem k_M_countReceivers {X : Cv} {cc : ByteArray} {rm : Room} {nL1 pc : Nat} {lv : List (Nat × Value)} {sk : List Value} {q : St} {v1 : Int32} {z : Int32} (C : Cx X cc RX11 rm nL1) (S : IsM X) (h : M_countReceivers q v1 = some z) (hz : rmM_countReceivers.frames + 1 ≤ rm.frames ∧ 8 + (5 + 11) + rmM_countReceivers.locals ≤ rm.locals) (hr : (sk.map fun v => v.category).sum ≤ 8) (hd : decode cc pc = .ok (.invokevirtual 326, 3)) (k : At X (pc + 3) lv (.int z :: sk) q) : At X pc lv (.int v1 :: .ref (adOf X 0) :: sk) q := a_callVi (as := [.int v1]) C (kp := 0) (by rw [S.1]; decide) (by rw [S.2.1]; rfl) rfl (by have hh := c_M_countReceivers (l := X.2.1) (D := dOf X) (I := idOf X) (ad := adOf X) h; rw [← S.1, ← S.2.1, ← S.2.2] at hh; exact hh) g_M_countReceivers ⟨rfl, rfl, hz.1, hz.2⟩ ⟨by decide, by decide, by show Option.map _ (parseMethodDescriptor yX11_countReceivers.desc) = some 1; decide⟩ hr rfl hd k
abbrev rmM_countNodes : Room := { frames := 3, cells := 0, slots := 0, locals := 68 }
def M_countNodes_B68 (q : St) (k : Int32 → Int32 → Int32 → Option (Int32)) (rec : Int32 → Int32 → Int32 → Int32 → Option (Int32)) (v1 : Int32) (v2 : Int32) (v3 : Int32) (v4 : Int32) : Option (Int32) :=
  b1 (rd 172 q 2 (2 : Int32)) fun x5 =>
  if x5 ≤ v4 then
    k v1 v2 v3
  else
    if v1 = (4 : Int32) then
      b1 (M_has q v3 v4) fun x8 =>
      if x8 = (0 : Int32) then
        lt_ (v2 + (0 : Int32)) fun w10 =>
        rec v1 w10 v3 (v4 + 1)
      else
        lt_ (v2 + (1 : Int32)) fun w11 =>
        rec v1 w11 v3 (v4 + 1)
    else
      k v1 v2 v3
theorem w_M_countNodes_B68 {X : Cv} (C : Cx X cX11_countNodes RX11 rmM_countNodes 5) (S : IsM X) (q : St) {z : Int32} (hret : RokI X cX11_countNodes .int z q) (k : Int32 → Int32 → Int32 → Option (Int32)) (hk : ∀ (v1 : Int32) (v2 : Int32) (v3 : Int32), k v1 v2 v3 = some z → At X 108 [(0, .ref (adOf X 0)), (1, .int v1), (2, .int v2), (3, .int v3)] [] q) (rec : Int32 → Int32 → Int32 → Int32 → Option (Int32)) (hrec : ∀ (v1 : Int32) (v2 : Int32) (v3 : Int32) (v4 : Int32), rec v1 v2 v3 v4 = some z → At X 68 [(0, .ref (adOf X 0)), (1, .int v1), (2, .int v2), (3, .int v3), (4, .int v4)] [] q) (v1 : Int32) (v2 : Int32) (v3 : Int32) (v4 : Int32) (h : M_countNodes_B68 q k rec v1 v2 v3 v4 = some z) : At X 68 [(0, .ref (adOf X 0)), (1, .int v1), (2, .int v2), (3, .int v3), (4, .int v4)] [] q := by
  unfold M_countNodes_B68 at h
  refine a_iload C 4 rfl dX11_countNodes_68 ?_
  refine a_aload_n C 0 rfl rfl dX11_countNodes_70 ?_
  refine gM_setup C S dX11_countNodes_71 ?_
  refine a_iconst (v := 2) C (by decide) dX11_countNodes_74 ?_
  obtain ⟨x5, e_x5, h⟩ := b1s h
  refine lM_setup C S e_x5 dX11_countNodes_75 ?_
  refine a_icmp_ge C 108 (by decide) dX11_countNodes_76 (fun c6 => ?_) (fun c6 => ?_)
  · replace h := ifp c6 h
    exact At.sub [0, 1, 2, 3] rfl (hk _ _ _ h)
  · replace h := ifn c6 h
    refine a_iload_n C 1 rfl rfl dX11_countNodes_79 ?_
    refine a_iconst (v := 4) C (by decide) dX11_countNodes_80 ?_
    refine a_icmp_ne C 108 (by decide) dX11_countNodes_81 (fun c7 => ?_) (fun c7 => ?_)
    · replace h := ifn c7 h
      exact At.sub [0, 1, 2, 3] rfl (hk _ _ _ h)
    · replace h := ifp c7 h
      refine a_iload_n C 2 rfl rfl dX11_countNodes_84 ?_
      refine a_aload_n C 0 rfl rfl dX11_countNodes_85 ?_
      refine a_iload_n C 3 rfl rfl dX11_countNodes_86 ?_
      refine a_iload C 4 rfl dX11_countNodes_87 ?_
      obtain ⟨x8, e_x8, h⟩ := b1s h
      refine k_M_has C S e_x8 ⟨Nat.le_of_ble_eq_true rfl, Nat.le_of_ble_eq_true rfl⟩ (Nat.le_of_ble_eq_true rfl) dX11_countNodes_89 ?_
      refine a_if_eq C 99 (by decide) dX11_countNodes_92 (fun c9 => ?_) (fun c9 => ?_)
      · replace h := ifp c9 h
        refine a_iconst (v := 0) C (by decide) dX11_countNodes_99 ?_
        refine a_iadd C dX11_countNodes_100 ?_
        obtain ⟨w10, e_w10, h⟩ := lts h
        refine a_top e_w10 ?_
        refine a_istore_n C [(2, .int w10), (0, .ref (adOf X 0)), (1, .int v1), (3, .int v3), (4, .int v4)] rfl (by decide) rfl dX11_countNodes_101 ?_
        refine a_iinc (v := (v4 + 1)) C [(4, .int (v4 + 1)), (2, .int w10), (0, .ref (adOf X 0)), (1, .int v1), (3, .int v3)] 4 rfl (congrArg (HAdd.hAdd v4) (by decide : Int32.ofInt (1) = (1 : Int32))) (by decide) rfl dX11_countNodes_102 ?_
        refine a_goto C 68 (by decide) dX11_countNodes_105 ?_
        exact At.sub [2, 3, 1, 4, 0] rfl (hrec _ _ _ _ h)
      · replace h := ifn c9 h
        refine a_iconst (v := 1) C (by decide) dX11_countNodes_95 ?_
        refine a_goto C 100 (by decide) dX11_countNodes_96 ?_
        refine a_iadd C dX11_countNodes_100 ?_
        obtain ⟨w11, e_w11, h⟩ := lts h
        refine a_top e_w11 ?_
        refine a_istore_n C [(2, .int w11), (0, .ref (adOf X 0)), (1, .int v1), (3, .int v3), (4, .int v4)] rfl (by decide) rfl dX11_countNodes_101 ?_
        refine a_iinc (v := (v4 + 1)) C [(4, .int (v4 + 1)), (2, .int w11), (0, .ref (adOf X 0)), (1, .int v1), (3, .int v3)] 4 rfl (congrArg (HAdd.hAdd v4) (by decide : Int32.ofInt (1) = (1 : Int32))) (by decide) rfl dX11_countNodes_102 ?_
        refine a_goto C 68 (by decide) dX11_countNodes_105 ?_
        exact At.sub [2, 3, 1, 4, 0] rfl (hrec _ _ _ _ h)
def M_countNodes_L68 (q : St) (k : Int32 → Int32 → Int32 → Option (Int32)) : Nat → Int32 → Int32 → Int32 → Int32 → Option (Int32)
  | 0, _, _, _, _ => none
  | n + 1, v1, v2, v3, v4 => M_countNodes_B68 q k (M_countNodes_L68 q k n) v1 v2 v3 v4
theorem w_M_countNodes_L68 {X : Cv} (C : Cx X cX11_countNodes RX11 rmM_countNodes 5) (S : IsM X) (q : St) {z : Int32} (hret : RokI X cX11_countNodes .int z q) (k : Int32 → Int32 → Int32 → Option (Int32)) (hk : ∀ (v1 : Int32) (v2 : Int32) (v3 : Int32), k v1 v2 v3 = some z → At X 108 [(0, .ref (adOf X 0)), (1, .int v1), (2, .int v2), (3, .int v3)] [] q) (n : Nat) : ∀ (v1 : Int32) (v2 : Int32) (v3 : Int32) (v4 : Int32), M_countNodes_L68 q k n v1 v2 v3 v4 = some z → At X 68 [(0, .ref (adOf X 0)), (1, .int v1), (2, .int v2), (3, .int v3), (4, .int v4)] [] q := by
  induction n with
  | zero => intro v1 v2 v3 v4 h; cases h
  | succ n ih => intro v1 v2 v3 v4 h; exact w_M_countNodes_B68 C S _ hret k hk _ ih v1 v2 v3 v4 h
def M_countNodes_B4 (q : St) (rec : Int32 → Int32 → Int32 → Option (Int32)) (v1 : Int32) (v2 : Int32) (v3 : Int32) : Option (Int32) :=
  b1 (rd 172 q 2 (0 : Int32)) fun x1 =>
  if x1 ≤ v3 then
    some v2
  else
    if v1 = (3 : Int32) then
      b1 (M_isIn q v3) fun x25 =>
      if x25 = (0 : Int32) then
        lt_ (v2 + (0 : Int32)) fun w27 =>
        M_countNodes_L68 q (fun y28 y29 y30 =>
          rec y28 y29 (y30 + 1)
          ) FU v1 w27 v3 (1 : Int32)
      else
        lt_ (v2 + (1 : Int32)) fun w31 =>
        M_countNodes_L68 q (fun y32 y33 y34 =>
          rec y32 y33 (y34 + 1)
          ) FU v1 w31 v3 (1 : Int32)
    else
      if v1 = (5 : Int32) then
        b1 (M_isIn q v3) fun x15 =>
        if x15 = (0 : Int32) then
          M_countNodes_L68 q (fun y17 y18 y19 =>
            rec y17 y18 (y19 + 1)
            ) FU v1 v2 v3 (1 : Int32)
        else
          b1 (M_delayTo q v3) fun x20 =>
          b1 (M_most q v2 x20) fun x21 =>
          M_countNodes_L68 q (fun y22 y23 y24 =>
            rec y22 y23 (y24 + 1)
            ) FU v1 x21 v3 (1 : Int32)
      else
        M_countNodes_L68 q (fun y12 y13 y14 =>
          rec y12 y13 (y14 + 1)
          ) FU v1 v2 v3 (1 : Int32)
theorem w_M_countNodes_B4 {X : Cv} (C : Cx X cX11_countNodes RX11 rmM_countNodes 5) (S : IsM X) (q : St) {z : Int32} (hret : RokI X cX11_countNodes .int z q) (rec : Int32 → Int32 → Int32 → Option (Int32)) (hrec : ∀ (v1 : Int32) (v2 : Int32) (v3 : Int32), rec v1 v2 v3 = some z → At X 4 [(0, .ref (adOf X 0)), (1, .int v1), (2, .int v2), (3, .int v3)] [] q) (v1 : Int32) (v2 : Int32) (v3 : Int32) (h : M_countNodes_B4 q rec v1 v2 v3 = some z) : At X 4 [(0, .ref (adOf X 0)), (1, .int v1), (2, .int v2), (3, .int v3)] [] q := by
  unfold M_countNodes_B4 at h
  refine a_iload_n C 3 rfl rfl dX11_countNodes_4 ?_
  refine a_aload_n C 0 rfl rfl dX11_countNodes_5 ?_
  refine gM_setup C S dX11_countNodes_6 ?_
  refine a_iconst (v := 0) C (by decide) dX11_countNodes_9 ?_
  obtain ⟨x1, e_x1, h⟩ := b1s h
  refine lM_setup C S e_x1 dX11_countNodes_10 ?_
  refine a_icmp_ge C 114 (by decide) dX11_countNodes_11 (fun c2 => ?_) (fun c2 => ?_)
  · replace h := ifp c2 h
    refine a_iload_n C 2 rfl rfl dX11_countNodes_114 ?_
    exact a_iretR hret h rfl dX11_countNodes_115
  · replace h := ifn c2 h
    refine a_iload_n C 1 rfl rfl dX11_countNodes_14 ?_
    refine a_iconst (v := 3) C (by decide) dX11_countNodes_15 ?_
    refine a_icmp_ne C 38 (by decide) dX11_countNodes_16 (fun c3 => ?_) (fun c3 => ?_)
    · replace h := ifn c3 h
      refine a_iload_n C 1 rfl rfl dX11_countNodes_38 ?_
      refine a_iconst (v := 5) C (by decide) dX11_countNodes_39 ?_
      refine a_icmp_ne C 65 (by decide) dX11_countNodes_40 (fun c4 => ?_) (fun c4 => ?_)
      · replace h := ifn c4 h
        refine a_iconst (v := 1) C (by decide) dX11_countNodes_65 ?_
        refine a_istore C [(4, .int (1 : Int32)), (0, .ref (adOf X 0)), (1, .int v1), (2, .int v2), (3, .int v3)] (by decide) rfl dX11_countNodes_66 ?_
        refine At.sub [1, 2, 3, 4, 0] rfl (w_M_countNodes_L68 C S _ hret _ ?_ _ _ _ _ _ h)
        intro y12 y13 y14 h
        refine a_iinc (v := (y14 + 1)) C [(3, .int (y14 + 1)), (0, .ref (adOf X 0)), (1, .int y12), (2, .int y13)] 3 rfl (congrArg (HAdd.hAdd y14) (by decide : Int32.ofInt (1) = (1 : Int32))) (by decide) rfl dX11_countNodes_108 ?_
        refine a_goto C 4 (by decide) dX11_countNodes_111 ?_
        exact At.sub [1, 2, 3, 0] rfl (hrec _ _ _ h)
      · replace h := ifp c4 h
        refine a_aload_n C 0 rfl rfl dX11_countNodes_43 ?_
        refine a_iload_n C 3 rfl rfl dX11_countNodes_44 ?_
        obtain ⟨x15, e_x15, h⟩ := b1s h
        refine k_M_isIn C S e_x15 ⟨Nat.le_of_ble_eq_true rfl, Nat.le_of_ble_eq_true rfl⟩ (Nat.le_of_ble_eq_true rfl) dX11_countNodes_45 ?_
        refine a_if_eq C 63 (by decide) dX11_countNodes_48 (fun c16 => ?_) (fun c16 => ?_)
        · replace h := ifp c16 h
          refine a_iload_n C 2 rfl rfl dX11_countNodes_63 ?_
          refine a_istore_n C [(2, .int v2), (0, .ref (adOf X 0)), (1, .int v1), (3, .int v3)] rfl (by decide) rfl dX11_countNodes_64 ?_
          refine a_iconst (v := 1) C (by decide) dX11_countNodes_65 ?_
          refine a_istore C [(4, .int (1 : Int32)), (2, .int v2), (0, .ref (adOf X 0)), (1, .int v1), (3, .int v3)] (by decide) rfl dX11_countNodes_66 ?_
          refine At.sub [2, 3, 1, 4, 0] rfl (w_M_countNodes_L68 C S _ hret _ ?_ _ _ _ _ _ h)
          intro y17 y18 y19 h
          refine a_iinc (v := (y19 + 1)) C [(3, .int (y19 + 1)), (0, .ref (adOf X 0)), (1, .int y17), (2, .int y18)] 3 rfl (congrArg (HAdd.hAdd y19) (by decide : Int32.ofInt (1) = (1 : Int32))) (by decide) rfl dX11_countNodes_108 ?_
          refine a_goto C 4 (by decide) dX11_countNodes_111 ?_
          exact At.sub [1, 2, 3, 0] rfl (hrec _ _ _ h)
        · replace h := ifn c16 h
          refine a_iload_n C 2 rfl rfl dX11_countNodes_51 ?_
          refine a_aload_n C 0 rfl rfl dX11_countNodes_52 ?_
          refine a_iload_n C 3 rfl rfl dX11_countNodes_53 ?_
          obtain ⟨x20, e_x20, h⟩ := b1s h
          refine k_M_delayTo C S e_x20 ⟨Nat.le_of_ble_eq_true rfl, Nat.le_of_ble_eq_true rfl⟩ (Nat.le_of_ble_eq_true rfl) dX11_countNodes_54 ?_
          obtain ⟨x21, e_x21, h⟩ := b1s h
          refine k_M_most C S e_x21 ⟨Nat.le_of_ble_eq_true rfl, Nat.le_of_ble_eq_true rfl⟩ (Nat.le_of_ble_eq_true rfl) dX11_countNodes_57 ?_
          refine a_goto C 64 (by decide) dX11_countNodes_60 ?_
          refine a_istore_n C [(2, .int x21), (0, .ref (adOf X 0)), (1, .int v1), (3, .int v3)] rfl (by decide) rfl dX11_countNodes_64 ?_
          refine a_iconst (v := 1) C (by decide) dX11_countNodes_65 ?_
          refine a_istore C [(4, .int (1 : Int32)), (2, .int x21), (0, .ref (adOf X 0)), (1, .int v1), (3, .int v3)] (by decide) rfl dX11_countNodes_66 ?_
          refine At.sub [2, 3, 1, 4, 0] rfl (w_M_countNodes_L68 C S _ hret _ ?_ _ _ _ _ _ h)
          intro y22 y23 y24 h
          refine a_iinc (v := (y24 + 1)) C [(3, .int (y24 + 1)), (0, .ref (adOf X 0)), (1, .int y22), (2, .int y23)] 3 rfl (congrArg (HAdd.hAdd y24) (by decide : Int32.ofInt (1) = (1 : Int32))) (by decide) rfl dX11_countNodes_108 ?_
          refine a_goto C 4 (by decide) dX11_countNodes_111 ?_
          exact At.sub [1, 2, 3, 0] rfl (hrec _ _ _ h)
    · replace h := ifp c3 h
      refine a_iload_n C 2 rfl rfl dX11_countNodes_19 ?_
      refine a_aload_n C 0 rfl rfl dX11_countNodes_20 ?_
      refine a_iload_n C 3 rfl rfl dX11_countNodes_21 ?_
      obtain ⟨x25, e_x25, h⟩ := b1s h
      refine k_M_isIn C S e_x25 ⟨Nat.le_of_ble_eq_true rfl, Nat.le_of_ble_eq_true rfl⟩ (Nat.le_of_ble_eq_true rfl) dX11_countNodes_22 ?_
      refine a_if_eq C 32 (by decide) dX11_countNodes_25 (fun c26 => ?_) (fun c26 => ?_)
      · replace h := ifp c26 h
        refine a_iconst (v := 0) C (by decide) dX11_countNodes_32 ?_
        refine a_iadd C dX11_countNodes_33 ?_
        obtain ⟨w27, e_w27, h⟩ := lts h
        refine a_top e_w27 ?_
        refine a_istore_n C [(2, .int w27), (0, .ref (adOf X 0)), (1, .int v1), (3, .int v3)] rfl (by decide) rfl dX11_countNodes_34 ?_
        refine a_goto C 65 (by decide) dX11_countNodes_35 ?_
        refine a_iconst (v := 1) C (by decide) dX11_countNodes_65 ?_
        refine a_istore C [(4, .int (1 : Int32)), (2, .int w27), (0, .ref (adOf X 0)), (1, .int v1), (3, .int v3)] (by decide) rfl dX11_countNodes_66 ?_
        refine At.sub [2, 3, 1, 4, 0] rfl (w_M_countNodes_L68 C S _ hret _ ?_ _ _ _ _ _ h)
        intro y28 y29 y30 h
        refine a_iinc (v := (y30 + 1)) C [(3, .int (y30 + 1)), (0, .ref (adOf X 0)), (1, .int y28), (2, .int y29)] 3 rfl (congrArg (HAdd.hAdd y30) (by decide : Int32.ofInt (1) = (1 : Int32))) (by decide) rfl dX11_countNodes_108 ?_
        refine a_goto C 4 (by decide) dX11_countNodes_111 ?_
        exact At.sub [1, 2, 3, 0] rfl (hrec _ _ _ h)
      · replace h := ifn c26 h
        refine a_iconst (v := 1) C (by decide) dX11_countNodes_28 ?_
        refine a_goto C 33 (by decide) dX11_countNodes_29 ?_
        refine a_iadd C dX11_countNodes_33 ?_
        obtain ⟨w31, e_w31, h⟩ := lts h
        refine a_top e_w31 ?_
        refine a_istore_n C [(2, .int w31), (0, .ref (adOf X 0)), (1, .int v1), (3, .int v3)] rfl (by decide) rfl dX11_countNodes_34 ?_
        refine a_goto C 65 (by decide) dX11_countNodes_35 ?_
        refine a_iconst (v := 1) C (by decide) dX11_countNodes_65 ?_
        refine a_istore C [(4, .int (1 : Int32)), (2, .int w31), (0, .ref (adOf X 0)), (1, .int v1), (3, .int v3)] (by decide) rfl dX11_countNodes_66 ?_
        refine At.sub [2, 3, 1, 4, 0] rfl (w_M_countNodes_L68 C S _ hret _ ?_ _ _ _ _ _ h)
        intro y32 y33 y34 h
        refine a_iinc (v := (y34 + 1)) C [(3, .int (y34 + 1)), (0, .ref (adOf X 0)), (1, .int y32), (2, .int y33)] 3 rfl (congrArg (HAdd.hAdd y34) (by decide : Int32.ofInt (1) = (1 : Int32))) (by decide) rfl dX11_countNodes_108 ?_
        refine a_goto C 4 (by decide) dX11_countNodes_111 ?_
        exact At.sub [1, 2, 3, 0] rfl (hrec _ _ _ h)
def M_countNodes_L4 (q : St) : Nat → Int32 → Int32 → Int32 → Option (Int32)
  | 0, _, _, _ => none
  | n + 1, v1, v2, v3 => M_countNodes_B4 q (M_countNodes_L4 q n) v1 v2 v3
theorem w_M_countNodes_L4 {X : Cv} (C : Cx X cX11_countNodes RX11 rmM_countNodes 5) (S : IsM X) (q : St) {z : Int32} (hret : RokI X cX11_countNodes .int z q) (n : Nat) : ∀ (v1 : Int32) (v2 : Int32) (v3 : Int32), M_countNodes_L4 q n v1 v2 v3 = some z → At X 4 [(0, .ref (adOf X 0)), (1, .int v1), (2, .int v2), (3, .int v3)] [] q := by
  induction n with
  | zero => intro v1 v2 v3 h; cases h
  | succ n ih => intro v1 v2 v3 h; exact w_M_countNodes_B4 C S _ hret _ ih v1 v2 v3 h
def M_countNodes (q : St) (v1 : Int32) : Option (Int32) :=
  M_countNodes_L4 q FU v1 (0 : Int32) (0 : Int32)
theorem w_M_countNodes {X : Cv} (C : Cx X cX11_countNodes RX11 rmM_countNodes 5) (S : IsM X) {q : St} {z : Int32} (hret : RokI X cX11_countNodes .int z q) (v1 : Int32) (h : M_countNodes q v1 = some z) : At X 0 [(0, .ref (adOf X 0)), (1, .int v1)] [] q := by
  unfold M_countNodes at h
  refine a_iconst (v := 0) C (by decide) dX11_countNodes_0 ?_
  refine a_istore_n C [(2, .int (0 : Int32)), (0, .ref (adOf X 0)), (1, .int v1)] rfl (by decide) rfl dX11_countNodes_1 ?_
  refine a_iconst (v := 0) C (by decide) dX11_countNodes_2 ?_
  refine a_istore_n C [(3, .int (0 : Int32)), (2, .int (0 : Int32)), (0, .ref (adOf X 0)), (1, .int v1)] rfl (by decide) rfl dX11_countNodes_3 ?_
  exact At.sub [2, 3, 1, 0] rfl (w_M_countNodes_L4 C S _ hret _ _ _ _ h)
theorem c_M_countNodes {l : Launch} {D : va_G} {I : ClassId × ClassId × ClassId × ClassId} {ad : Nat → Nat} {q : St} {v1 : Int32} {z : Int32} (h : M_countNodes q v1 = some z) : Ctr l D I zT 18 (shM I) ad yX11_countNodes cX11_countNodes 5 (some .int) rmM_countNodes [.ref (ad 0), .int v1] q (some z) q :=
  ctr_ofI (by decide) (Nat.le_of_ble_eq_true rfl) (fun p e s m args below meth c Q H0 X hX C hret => by subst hX; exact w_M_countNodes C ⟨rfl, rfl, rfl⟩ hret _ h)
theorem g_M_countNodes : GoodIn lw_tg (wsV RX11 332 RX11 yX11_countNodes (Cond.code yX11_countNodes cX11_countNodes 5 (some .int) :: lw_tg)) := gd_V (tg 1739 (by decide +kernel) rfl) (tg 1741 (by decide +kernel) rfl) (tg 109 (by decide +kernel) rfl) (tg 128 (by decide +kernel) rfl) (tg 1742 (by decide +kernel) rfl)
theorem k_M_countNodes {X : Cv} {cc : ByteArray} {rm : Room} {nL1 pc : Nat} {lv : List (Nat × Value)} {sk : List Value} {q : St} {v1 : Int32} {z : Int32} (C : Cx X cc RX11 rm nL1) (S : IsM X) (h : M_countNodes q v1 = some z) (hz : rmM_countNodes.frames + 1 ≤ rm.frames ∧ 8 + (5 + 11) + rmM_countNodes.locals ≤ rm.locals) (hr : (sk.map fun v => v.category).sum ≤ 8) (hd : decode cc pc = .ok (.invokevirtual 332, 3)) (k : At X (pc + 3) lv (.int z :: sk) q) : At X pc lv (.int v1 :: .ref (adOf X 0) :: sk) q := a_callVi (as := [.int v1]) C (kp := 0) (by rw [S.1]; decide) (by rw [S.2.1]; rfl) rfl (by have hh := c_M_countNodes (l := X.2.1) (D := dOf X) (I := idOf X) (ad := adOf X) h; rw [← S.1, ← S.2.1, ← S.2.2] at hh; exact hh) g_M_countNodes ⟨rfl, rfl, hz.1, hz.2⟩ ⟨by decide, by decide, by show Option.map _ (parseMethodDescriptor yX11_countNodes.desc) = some 1; decide⟩ hr rfl hd k
abbrev rmM_total : Room := { frames := 4, cells := 0, slots := 0, locals := 92 }
def M_total (q : St) (v1 : Int32) : Option (Int32 × St) :=
  if v1 = (0 : Int32) then
    b1 (M_levels q) fun x2 =>
    some (x2, q)
  else
  if v1 = (1 : Int32) then
    b1 (M_countReceivers q v1) fun x4 =>
    some (x4, q)
  else
  if v1 = (2 : Int32) then
    b1 (M_measures q) fun q6 =>
    b1 (M_sumLoads q6) fun x7 =>
    some (x7, q6)
  else
  if v1 = (3 : Int32) then
    b1 (M_countNodes q v1) fun x9 =>
    some (x9, q)
  else
  if v1 = (4 : Int32) then
    b1 (M_countNodes q v1) fun x11 =>
    some (x11, q)
  else
  if v1 = (5 : Int32) then
    b1 (M_countNodes q v1) fun x13 =>
    some (x13, q)
  else
  if v1 = (6 : Int32) then
    b1 (M_countReceivers q v1) fun x15 =>
    some (x15, q)
  else
  if v1 = (7 : Int32) then
    b1 (M_countReceivers q v1) fun x17 =>
    some (x17, q)
  else
  some ((-1 : Int32), q)
theorem w_M_total {X : Cv} (C : Cx X cX11_total RX11 rmM_total 2) (S : IsM X) {z : Int32 × St} (hret : RokI X cX11_total .int z.1 z.2) (v1 : Int32) (q : St) (h : M_total q v1 = some z) : At X 0 [(0, .ref (adOf X 0)), (1, .int v1)] [] q := by
  unfold M_total at h
  refine a_iload_n C 1 rfl rfl dX11_total_0 ?_
  by_cases c1 : v1 = (0 : Int32)
  · replace h := ifp c1 h
    refine a_tabIn C 48 dX11_total_1 (by rw [c1]; decide) (by rw [c1]; decide) (by rw [c1]; rfl) (by decide) ?_
    refine a_aload_n C 0 rfl rfl dX11_total_48 ?_
    obtain ⟨x2, e_x2, h⟩ := b1s h
    refine k_M_levels C S e_x2 ⟨Nat.le_of_ble_eq_true rfl, Nat.le_of_ble_eq_true rfl⟩ (Nat.le_of_ble_eq_true rfl) dX11_total_49 ?_
    exact a_iret hret h rfl dX11_total_52
  replace h := ifn c1 h
  by_cases c3 : v1 = (1 : Int32)
  · replace h := ifp c3 h
    refine a_tabIn C 53 dX11_total_1 (by rw [c3]; decide) (by rw [c3]; decide) (by rw [c3]; rfl) (by decide) ?_
    refine a_aload_n C 0 rfl rfl dX11_total_53 ?_
    refine a_iload_n C 1 rfl rfl dX11_total_54 ?_
    obtain ⟨x4, e_x4, h⟩ := b1s h
    refine k_M_countReceivers C S e_x4 ⟨Nat.le_of_ble_eq_true rfl, Nat.le_of_ble_eq_true rfl⟩ (Nat.le_of_ble_eq_true rfl) dX11_total_55 ?_
    exact a_iret hret h rfl dX11_total_58
  replace h := ifn c3 h
  by_cases c5 : v1 = (2 : Int32)
  · replace h := ifp c5 h
    refine a_tabIn C 59 dX11_total_1 (by rw [c5]; decide) (by rw [c5]; decide) (by rw [c5]; rfl) (by decide) ?_
    refine a_aload_n C 0 rfl rfl dX11_total_59 ?_
    obtain ⟨q6, e_q6, h⟩ := b1s h
    refine k_M_measures C S e_q6 ⟨Nat.le_of_ble_eq_true rfl, Nat.le_of_ble_eq_true rfl⟩ (Nat.le_of_ble_eq_true rfl) dX11_total_60 ?_
    refine a_aload_n C 0 rfl rfl dX11_total_63 ?_
    obtain ⟨x7, e_x7, h⟩ := b1s h
    refine k_M_sumLoads C S e_x7 ⟨Nat.le_of_ble_eq_true rfl, Nat.le_of_ble_eq_true rfl⟩ (Nat.le_of_ble_eq_true rfl) dX11_total_64 ?_
    exact a_iret hret h rfl dX11_total_67
  replace h := ifn c5 h
  by_cases c8 : v1 = (3 : Int32)
  · replace h := ifp c8 h
    refine a_tabIn C 68 dX11_total_1 (by rw [c8]; decide) (by rw [c8]; decide) (by rw [c8]; rfl) (by decide) ?_
    refine a_aload_n C 0 rfl rfl dX11_total_68 ?_
    refine a_iload_n C 1 rfl rfl dX11_total_69 ?_
    obtain ⟨x9, e_x9, h⟩ := b1s h
    refine k_M_countNodes C S e_x9 ⟨Nat.le_of_ble_eq_true rfl, Nat.le_of_ble_eq_true rfl⟩ (Nat.le_of_ble_eq_true rfl) dX11_total_70 ?_
    exact a_iret hret h rfl dX11_total_73
  replace h := ifn c8 h
  by_cases c10 : v1 = (4 : Int32)
  · replace h := ifp c10 h
    refine a_tabIn C 68 dX11_total_1 (by rw [c10]; decide) (by rw [c10]; decide) (by rw [c10]; rfl) (by decide) ?_
    refine a_aload_n C 0 rfl rfl dX11_total_68 ?_
    refine a_iload_n C 1 rfl rfl dX11_total_69 ?_
    obtain ⟨x11, e_x11, h⟩ := b1s h
    refine k_M_countNodes C S e_x11 ⟨Nat.le_of_ble_eq_true rfl, Nat.le_of_ble_eq_true rfl⟩ (Nat.le_of_ble_eq_true rfl) dX11_total_70 ?_
    exact a_iret hret h rfl dX11_total_73
  replace h := ifn c10 h
  by_cases c12 : v1 = (5 : Int32)
  · replace h := ifp c12 h
    refine a_tabIn C 68 dX11_total_1 (by rw [c12]; decide) (by rw [c12]; decide) (by rw [c12]; rfl) (by decide) ?_
    refine a_aload_n C 0 rfl rfl dX11_total_68 ?_
    refine a_iload_n C 1 rfl rfl dX11_total_69 ?_
    obtain ⟨x13, e_x13, h⟩ := b1s h
    refine k_M_countNodes C S e_x13 ⟨Nat.le_of_ble_eq_true rfl, Nat.le_of_ble_eq_true rfl⟩ (Nat.le_of_ble_eq_true rfl) dX11_total_70 ?_
    exact a_iret hret h rfl dX11_total_73
  replace h := ifn c12 h
  by_cases c14 : v1 = (6 : Int32)
  · replace h := ifp c14 h
    refine a_tabIn C 53 dX11_total_1 (by rw [c14]; decide) (by rw [c14]; decide) (by rw [c14]; rfl) (by decide) ?_
    refine a_aload_n C 0 rfl rfl dX11_total_53 ?_
    refine a_iload_n C 1 rfl rfl dX11_total_54 ?_
    obtain ⟨x15, e_x15, h⟩ := b1s h
    refine k_M_countReceivers C S e_x15 ⟨Nat.le_of_ble_eq_true rfl, Nat.le_of_ble_eq_true rfl⟩ (Nat.le_of_ble_eq_true rfl) dX11_total_55 ?_
    exact a_iret hret h rfl dX11_total_58
  replace h := ifn c14 h
  by_cases c16 : v1 = (7 : Int32)
  · replace h := ifp c16 h
    refine a_tabIn C 53 dX11_total_1 (by rw [c16]; decide) (by rw [c16]; decide) (by rw [c16]; rfl) (by decide) ?_
    refine a_aload_n C 0 rfl rfl dX11_total_53 ?_
    refine a_iload_n C 1 rfl rfl dX11_total_54 ?_
    obtain ⟨x17, e_x17, h⟩ := b1s h
    refine k_M_countReceivers C S e_x17 ⟨Nat.le_of_ble_eq_true rfl, Nat.le_of_ble_eq_true rfl⟩ (Nat.le_of_ble_eq_true rfl) dX11_total_55 ?_
    exact a_iret hret h rfl dX11_total_58
  replace h := ifn c16 h
  refine a_tabOut C 74 dX11_total_1 (by have t0 := tsn (k := 0) (by decide) c1; have t1 := tsn (k := 1) (by decide) c3; have t2 := tsn (k := 2) (by decide) c5; have t3 := tsn (k := 3) (by decide) c8; have t4 := tsn (k := 4) (by decide) c10; have t5 := tsn (k := 5) (by decide) c12; have t6 := tsn (k := 6) (by decide) c14; have t7 := tsn (k := 7) (by decide) c16; omega) (by decide) ?_
  refine a_iconst (v := -1) C (by decide) dX11_total_74 ?_
  exact a_iret hret h rfl dX11_total_75
theorem c_M_total {l : Launch} {D : va_G} {I : ClassId × ClassId × ClassId × ClassId} {ad : Nat → Nat} {q : St} {v1 : Int32} {z : Int32 × St} (h : M_total q v1 = some z) : Ctr l D I zT 18 (shM I) ad yX11_total cX11_total 2 (some .int) rmM_total [.ref (ad 0), .int v1] q (some z.1) z.2 :=
  ctr_ofI (by decide) (Nat.le_of_ble_eq_true rfl) (fun p e s m args below meth c Q H0 X hX C hret => by subst hX; exact w_M_total C ⟨rfl, rfl, rfl⟩ hret _ _ h)
abbrev rmM_busy : Room := { frames := 0, cells := 0, slots := 0, locals := 0 }
def M_busy (q : St) (v1 : Int32) : Option (Int32) :=
  b1 (rd 32 q 9 v1) fun x1 =>
  if x1 = (0 : Int32) then
    some (0 : Int32)
  else
    b1 (rd 32 q 9 v1) fun x3 =>
    b1 (rd 202 q 4 ((0 : Int32) + v1)) fun x4 =>
    dv x4 <|
    some ((x3 * (1000 : Int32)) / x4)
theorem w_M_busy {X : Cv} (C : Cx X cX11_busy RX11 rmM_busy 2) (S : IsM X) {q : St} {z : Int32} (hret : RokI X cX11_busy .int z q) (v1 : Int32) (h : M_busy q v1 = some z) : At X 0 [(0, .ref (adOf X 0)), (1, .int v1)] [] q := by
  unfold M_busy at h
  refine a_aload_n C 0 rfl rfl dX11_busy_0 ?_
  refine gM_linkLoads C S dX11_busy_1 ?_
  refine a_iload_n C 1 rfl rfl dX11_busy_4 ?_
  obtain ⟨x1, e_x1, h⟩ := b1s h
  refine lM_linkLoads C S e_x1 dX11_busy_5 ?_
  refine a_if_ne C 13 (by decide) dX11_busy_6 (fun c2 => ?_) (fun c2 => ?_)
  · replace h := ifn c2 h
    refine a_aload_n C 0 rfl rfl dX11_busy_13 ?_
    refine gM_linkLoads C S dX11_busy_14 ?_
    refine a_iload_n C 1 rfl rfl dX11_busy_17 ?_
    obtain ⟨x3, e_x3, h⟩ := b1s h
    refine lM_linkLoads C S e_x3 dX11_busy_18 ?_
    refine a_sipush (v := 1000) C (by decide) dX11_busy_19 ?_
    refine a_imul C dX11_busy_22 ?_
    refine a_aload_n C 0 rfl rfl dX11_busy_23 ?_
    refine gM_world C S dX11_busy_24 ?_
    refine a_iconst (v := 0) C (by decide) dX11_busy_27 ?_
    refine a_iload_n C 1 rfl rfl dX11_busy_28 ?_
    refine a_iadd C dX11_busy_29 ?_
    obtain ⟨x4, e_x4, h⟩ := b1s h
    refine lM_world C S e_x4 dX11_busy_30 ?_
    obtain ⟨n5, h⟩ := dvs h
    refine a_idiv C n5 dX11_busy_31 ?_
    exact a_iretR hret h rfl dX11_busy_32
  · replace h := ifp c2 h
    refine a_iconst (v := 0) C (by decide) dX11_busy_9 ?_
    refine a_goto C 32 (by decide) dX11_busy_10 ?_
    exact a_iretR hret h rfl dX11_busy_32
theorem c_M_busy {l : Launch} {D : va_G} {I : ClassId × ClassId × ClassId × ClassId} {ad : Nat → Nat} {q : St} {v1 : Int32} {z : Int32} (h : M_busy q v1 = some z) : Ctr l D I zT 18 (shM I) ad yX11_busy cX11_busy 2 (some .int) rmM_busy [.ref (ad 0), .int v1] q (some z) q :=
  ctr_ofI (by decide) (Nat.le_of_ble_eq_true rfl) (fun p e s m args below meth c Q H0 X hX C hret => by subst hX; exact w_M_busy C ⟨rfl, rfl, rfl⟩ hret _ h)
theorem g_M_busy : GoodIn lw_tg (wsV RX11 335 RX11 yX11_busy (Cond.code yX11_busy cX11_busy 2 (some .int) :: lw_tg)) := gd_V (tg 1747 (by decide +kernel) rfl) (tg 1749 (by decide +kernel) rfl) (tg 110 (by decide +kernel) rfl) (tg 128 (by decide +kernel) rfl) (tg 1750 (by decide +kernel) rfl)
theorem k_M_busy {X : Cv} {cc : ByteArray} {rm : Room} {nL1 pc : Nat} {lv : List (Nat × Value)} {sk : List Value} {q : St} {v1 : Int32} {z : Int32} (C : Cx X cc RX11 rm nL1) (S : IsM X) (h : M_busy q v1 = some z) (hz : rmM_busy.frames + 1 ≤ rm.frames ∧ 8 + (2 + 11) + rmM_busy.locals ≤ rm.locals) (hr : (sk.map fun v => v.category).sum ≤ 8) (hd : decode cc pc = .ok (.invokevirtual 335, 3)) (k : At X (pc + 3) lv (.int z :: sk) q) : At X pc lv (.int v1 :: .ref (adOf X 0) :: sk) q := a_callVi (as := [.int v1]) C (kp := 0) (by rw [S.1]; decide) (by rw [S.2.1]; rfl) rfl (by have hh := c_M_busy (l := X.2.1) (D := dOf X) (I := idOf X) (ad := adOf X) h; rw [← S.1, ← S.2.1, ← S.2.2] at hh; exact hh) g_M_busy ⟨rfl, rfl, hz.1, hz.2⟩ ⟨by decide, by decide, by show Option.map _ (parseMethodDescriptor yX11_busy.desc) = some 1; decide⟩ hr rfl hd k
abbrev rmM_busiest : Room := { frames := 4, cells := 0, slots := 0, locals := 91 }
def M_busiest_B27 (q : St) (k : Int32 → Int32 → Int32 → Option (Int32 × St)) (rec : Int32 → Int32 → Int32 → Int32 → Option (Int32 × St)) (v1 : Int32) (v2 : Int32) (v3 : Int32) (v4 : Int32) : Option (Int32 × St) :=
  b1 (rd 172 q 2 (1 : Int32)) fun x5 =>
  if x5 ≤ v4 then
    k v1 v2 v3
  else
    b1 (M_busy q v4) fun x7 =>
    b1 (M_busy q v2) fun x8 =>
    if x8 < x7 then
      lt_ (v3 + (1 : Int32)) fun w10 =>
      rec v1 v2 w10 (v4 + 1)
    else
      b1 (M_busy q v4) fun x11 =>
      b1 (M_busy q v2) fun x12 =>
      if x11 = x12 then
        if v2 ≤ v4 then
          lt_ (v3 + (0 : Int32)) fun w16 =>
          rec v1 v2 w16 (v4 + 1)
        else
          lt_ (v3 + (1 : Int32)) fun w17 =>
          rec v1 v2 w17 (v4 + 1)
      else
        lt_ (v3 + (0 : Int32)) fun w14 =>
        rec v1 v2 w14 (v4 + 1)
theorem w_M_busiest_B27 {X : Cv} (C : Cx X cX11_busiest RX11 rmM_busiest 5) (S : IsM X) (q : St) {z : Int32 × St} (hret : RokI X cX11_busiest .int z.1 z.2) (k : Int32 → Int32 → Int32 → Option (Int32 × St)) (hk : ∀ (v1 : Int32) (v2 : Int32) (v3 : Int32), k v1 v2 v3 = some z → At X 86 [(0, .ref (adOf X 0)), (1, .int v1), (2, .int v2), (3, .int v3)] [] q) (rec : Int32 → Int32 → Int32 → Int32 → Option (Int32 × St)) (hrec : ∀ (v1 : Int32) (v2 : Int32) (v3 : Int32) (v4 : Int32), rec v1 v2 v3 v4 = some z → At X 27 [(0, .ref (adOf X 0)), (1, .int v1), (2, .int v2), (3, .int v3), (4, .int v4)] [] q) (v1 : Int32) (v2 : Int32) (v3 : Int32) (v4 : Int32) (h : M_busiest_B27 q k rec v1 v2 v3 v4 = some z) : At X 27 [(0, .ref (adOf X 0)), (1, .int v1), (2, .int v2), (3, .int v3), (4, .int v4)] [] q := by
  unfold M_busiest_B27 at h
  refine a_iload C 4 rfl dX11_busiest_27 ?_
  refine a_aload_n C 0 rfl rfl dX11_busiest_29 ?_
  refine gM_setup C S dX11_busiest_30 ?_
  refine a_iconst (v := 1) C (by decide) dX11_busiest_33 ?_
  obtain ⟨x5, e_x5, h⟩ := b1s h
  refine lM_setup C S e_x5 dX11_busiest_34 ?_
  refine a_icmp_ge C 86 (by decide) dX11_busiest_35 (fun c6 => ?_) (fun c6 => ?_)
  · replace h := ifp c6 h
    exact At.sub [0, 1, 2, 3] rfl (hk _ _ _ h)
  · replace h := ifn c6 h
    refine a_iload_n C 3 rfl rfl dX11_busiest_38 ?_
    refine a_aload_n C 0 rfl rfl dX11_busiest_39 ?_
    refine a_iload C 4 rfl dX11_busiest_40 ?_
    obtain ⟨x7, e_x7, h⟩ := b1s h
    refine k_M_busy C S e_x7 ⟨Nat.le_of_ble_eq_true rfl, Nat.le_of_ble_eq_true rfl⟩ (Nat.le_of_ble_eq_true rfl) dX11_busiest_42 ?_
    refine a_aload_n C 0 rfl rfl dX11_busiest_45 ?_
    refine a_iload_n C 2 rfl rfl dX11_busiest_46 ?_
    obtain ⟨x8, e_x8, h⟩ := b1s h
    refine k_M_busy C S e_x8 ⟨Nat.le_of_ble_eq_true rfl, Nat.le_of_ble_eq_true rfl⟩ (Nat.le_of_ble_eq_true rfl) dX11_busiest_47 ?_
    refine a_icmp_gt C 73 (by decide) dX11_busiest_50 (fun c9 => ?_) (fun c9 => ?_)
    · replace h := ifp c9 h
      refine a_iconst (v := 1) C (by decide) dX11_busiest_73 ?_
      refine a_goto C 78 (by decide) dX11_busiest_74 ?_
      refine a_iadd C dX11_busiest_78 ?_
      obtain ⟨w10, e_w10, h⟩ := lts h
      refine a_top e_w10 ?_
      refine a_istore_n C [(3, .int w10), (0, .ref (adOf X 0)), (1, .int v1), (2, .int v2), (4, .int v4)] rfl (by decide) rfl dX11_busiest_79 ?_
      refine a_iinc (v := (v4 + 1)) C [(4, .int (v4 + 1)), (3, .int w10), (0, .ref (adOf X 0)), (1, .int v1), (2, .int v2)] 4 rfl (congrArg (HAdd.hAdd v4) (by decide : Int32.ofInt (1) = (1 : Int32))) (by decide) rfl dX11_busiest_80 ?_
      refine a_goto C 27 (by decide) dX11_busiest_83 ?_
      exact At.sub [2, 3, 4, 1, 0] rfl (hrec _ _ _ _ h)
    · replace h := ifn c9 h
      refine a_aload_n C 0 rfl rfl dX11_busiest_53 ?_
      refine a_iload C 4 rfl dX11_busiest_54 ?_
      obtain ⟨x11, e_x11, h⟩ := b1s h
      refine k_M_busy C S e_x11 ⟨Nat.le_of_ble_eq_true rfl, Nat.le_of_ble_eq_true rfl⟩ (Nat.le_of_ble_eq_true rfl) dX11_busiest_56 ?_
      refine a_aload_n C 0 rfl rfl dX11_busiest_59 ?_
      refine a_iload_n C 2 rfl rfl dX11_busiest_60 ?_
      obtain ⟨x12, e_x12, h⟩ := b1s h
      refine k_M_busy C S e_x12 ⟨Nat.le_of_ble_eq_true rfl, Nat.le_of_ble_eq_true rfl⟩ (Nat.le_of_ble_eq_true rfl) dX11_busiest_61 ?_
      refine a_icmp_ne C 77 (by decide) dX11_busiest_64 (fun c13 => ?_) (fun c13 => ?_)
      · replace h := ifn c13 h
        refine a_iconst (v := 0) C (by decide) dX11_busiest_77 ?_
        refine a_iadd C dX11_busiest_78 ?_
        obtain ⟨w14, e_w14, h⟩ := lts h
        refine a_top e_w14 ?_
        refine a_istore_n C [(3, .int w14), (0, .ref (adOf X 0)), (1, .int v1), (2, .int v2), (4, .int v4)] rfl (by decide) rfl dX11_busiest_79 ?_
        refine a_iinc (v := (v4 + 1)) C [(4, .int (v4 + 1)), (3, .int w14), (0, .ref (adOf X 0)), (1, .int v1), (2, .int v2)] 4 rfl (congrArg (HAdd.hAdd v4) (by decide : Int32.ofInt (1) = (1 : Int32))) (by decide) rfl dX11_busiest_80 ?_
        refine a_goto C 27 (by decide) dX11_busiest_83 ?_
        exact At.sub [2, 3, 4, 1, 0] rfl (hrec _ _ _ _ h)
      · replace h := ifp c13 h
        refine a_iload C 4 rfl dX11_busiest_67 ?_
        refine a_iload_n C 2 rfl rfl dX11_busiest_69 ?_
        refine a_icmp_ge C 77 (by decide) dX11_busiest_70 (fun c15 => ?_) (fun c15 => ?_)
        · replace h := ifp c15 h
          refine a_iconst (v := 0) C (by decide) dX11_busiest_77 ?_
          refine a_iadd C dX11_busiest_78 ?_
          obtain ⟨w16, e_w16, h⟩ := lts h
          refine a_top e_w16 ?_
          refine a_istore_n C [(3, .int w16), (0, .ref (adOf X 0)), (1, .int v1), (2, .int v2), (4, .int v4)] rfl (by decide) rfl dX11_busiest_79 ?_
          refine a_iinc (v := (v4 + 1)) C [(4, .int (v4 + 1)), (3, .int w16), (0, .ref (adOf X 0)), (1, .int v1), (2, .int v2)] 4 rfl (congrArg (HAdd.hAdd v4) (by decide : Int32.ofInt (1) = (1 : Int32))) (by decide) rfl dX11_busiest_80 ?_
          refine a_goto C 27 (by decide) dX11_busiest_83 ?_
          exact At.sub [2, 3, 4, 1, 0] rfl (hrec _ _ _ _ h)
        · replace h := ifn c15 h
          refine a_iconst (v := 1) C (by decide) dX11_busiest_73 ?_
          refine a_goto C 78 (by decide) dX11_busiest_74 ?_
          refine a_iadd C dX11_busiest_78 ?_
          obtain ⟨w17, e_w17, h⟩ := lts h
          refine a_top e_w17 ?_
          refine a_istore_n C [(3, .int w17), (0, .ref (adOf X 0)), (1, .int v1), (2, .int v2), (4, .int v4)] rfl (by decide) rfl dX11_busiest_79 ?_
          refine a_iinc (v := (v4 + 1)) C [(4, .int (v4 + 1)), (3, .int w17), (0, .ref (adOf X 0)), (1, .int v1), (2, .int v2)] 4 rfl (congrArg (HAdd.hAdd v4) (by decide : Int32.ofInt (1) = (1 : Int32))) (by decide) rfl dX11_busiest_80 ?_
          refine a_goto C 27 (by decide) dX11_busiest_83 ?_
          exact At.sub [2, 3, 4, 1, 0] rfl (hrec _ _ _ _ h)
def M_busiest_L27 (q : St) (k : Int32 → Int32 → Int32 → Option (Int32 × St)) : Nat → Int32 → Int32 → Int32 → Int32 → Option (Int32 × St)
  | 0, _, _, _, _ => none
  | n + 1, v1, v2, v3, v4 => M_busiest_B27 q k (M_busiest_L27 q k n) v1 v2 v3 v4
theorem w_M_busiest_L27 {X : Cv} (C : Cx X cX11_busiest RX11 rmM_busiest 5) (S : IsM X) (q : St) {z : Int32 × St} (hret : RokI X cX11_busiest .int z.1 z.2) (k : Int32 → Int32 → Int32 → Option (Int32 × St)) (hk : ∀ (v1 : Int32) (v2 : Int32) (v3 : Int32), k v1 v2 v3 = some z → At X 86 [(0, .ref (adOf X 0)), (1, .int v1), (2, .int v2), (3, .int v3)] [] q) (n : Nat) : ∀ (v1 : Int32) (v2 : Int32) (v3 : Int32) (v4 : Int32), M_busiest_L27 q k n v1 v2 v3 v4 = some z → At X 27 [(0, .ref (adOf X 0)), (1, .int v1), (2, .int v2), (3, .int v3), (4, .int v4)] [] q := by
  induction n with
  | zero => intro v1 v2 v3 v4 h; cases h
  | succ n ih => intro v1 v2 v3 v4 h; exact w_M_busiest_B27 C S _ hret k hk _ ih v1 v2 v3 v4 h
def M_busiest_B12 (q : St) (rec : Int32 → Int32 → Option (Int32 × St)) (v1 : Int32) (v2 : Int32) : Option (Int32 × St) :=
  b1 (rd 172 q 2 (1 : Int32)) fun x3 =>
  if x3 ≤ v2 then
    some ((-2 : Int32), q)
  else
    M_busiest_L27 q (fun y18 y19 y20 =>
      if y20 = y18 then
        some (y19, q)
      else
        rec y18 (y19 + 1)
      ) FU v1 v2 (0 : Int32) (0 : Int32)
theorem w_M_busiest_B12 {X : Cv} (C : Cx X cX11_busiest RX11 rmM_busiest 5) (S : IsM X) (q : St) {z : Int32 × St} (hret : RokI X cX11_busiest .int z.1 z.2) (rec : Int32 → Int32 → Option (Int32 × St)) (hrec : ∀ (v1 : Int32) (v2 : Int32), rec v1 v2 = some z → At X 12 [(0, .ref (adOf X 0)), (1, .int v1), (2, .int v2)] [] q) (v1 : Int32) (v2 : Int32) (h : M_busiest_B12 q rec v1 v2 = some z) : At X 12 [(0, .ref (adOf X 0)), (1, .int v1), (2, .int v2)] [] q := by
  unfold M_busiest_B12 at h
  refine a_iload_n C 2 rfl rfl dX11_busiest_12 ?_
  refine a_aload_n C 0 rfl rfl dX11_busiest_13 ?_
  refine gM_setup C S dX11_busiest_14 ?_
  refine a_iconst (v := 1) C (by decide) dX11_busiest_17 ?_
  obtain ⟨x3, e_x3, h⟩ := b1s h
  refine lM_setup C S e_x3 dX11_busiest_18 ?_
  refine a_icmp_ge C 99 (by decide) dX11_busiest_19 (fun c4 => ?_) (fun c4 => ?_)
  · replace h := ifp c4 h
    refine a_bipush (v := -2) C (by decide) dX11_busiest_99 ?_
    exact a_iret hret h rfl dX11_busiest_101
  · replace h := ifn c4 h
    refine a_iconst (v := 0) C (by decide) dX11_busiest_22 ?_
    refine a_istore_n C [(3, .int (0 : Int32)), (0, .ref (adOf X 0)), (1, .int v1), (2, .int v2)] rfl (by decide) rfl dX11_busiest_23 ?_
    refine a_iconst (v := 0) C (by decide) dX11_busiest_24 ?_
    refine a_istore C [(4, .int (0 : Int32)), (3, .int (0 : Int32)), (0, .ref (adOf X 0)), (1, .int v1), (2, .int v2)] (by decide) rfl dX11_busiest_25 ?_
    refine At.sub [2, 3, 4, 1, 0] rfl (w_M_busiest_L27 C S _ hret _ ?_ _ _ _ _ _ h)
    intro y18 y19 y20 h
    refine a_iload_n C 3 rfl rfl dX11_busiest_86 ?_
    refine a_iload_n C 1 rfl rfl dX11_busiest_87 ?_
    refine a_icmp_ne C 93 (by decide) dX11_busiest_88 (fun c21 => ?_) (fun c21 => ?_)
    · replace h := ifn c21 h
      refine a_iinc (v := (y19 + 1)) C [(2, .int (y19 + 1)), (0, .ref (adOf X 0)), (1, .int y18), (3, .int y20)] 2 rfl (congrArg (HAdd.hAdd y19) (by decide : Int32.ofInt (1) = (1 : Int32))) (by decide) rfl dX11_busiest_93 ?_
      refine a_goto C 12 (by decide) dX11_busiest_96 ?_
      exact At.sub [1, 2, 0] rfl (hrec _ _ h)
    · replace h := ifp c21 h
      refine a_iload_n C 2 rfl rfl dX11_busiest_91 ?_
      exact a_iret hret h rfl dX11_busiest_92
def M_busiest_L12 (q : St) : Nat → Int32 → Int32 → Option (Int32 × St)
  | 0, _, _ => none
  | n + 1, v1, v2 => M_busiest_B12 q (M_busiest_L12 q n) v1 v2
theorem w_M_busiest_L12 {X : Cv} (C : Cx X cX11_busiest RX11 rmM_busiest 5) (S : IsM X) (q : St) {z : Int32 × St} (hret : RokI X cX11_busiest .int z.1 z.2) (n : Nat) : ∀ (v1 : Int32) (v2 : Int32), M_busiest_L12 q n v1 v2 = some z → At X 12 [(0, .ref (adOf X 0)), (1, .int v1), (2, .int v2)] [] q := by
  induction n with
  | zero => intro v1 v2 h; cases h
  | succ n ih => intro v1 v2 h; exact w_M_busiest_B12 C S _ hret _ ih v1 v2 h
def M_busiest (q : St) (v1 : Int32) : Option (Int32 × St) :=
  if (0 : Int32) ≤ v1 then
    b1 (M_measures q) fun q2 =>
    M_busiest_L12 q2 FU v1 (0 : Int32)
  else
    some ((-1 : Int32), q)
theorem w_M_busiest {X : Cv} (C : Cx X cX11_busiest RX11 rmM_busiest 5) (S : IsM X) {z : Int32 × St} (hret : RokI X cX11_busiest .int z.1 z.2) (v1 : Int32) (q : St) (h : M_busiest q v1 = some z) : At X 0 [(0, .ref (adOf X 0)), (1, .int v1)] [] q := by
  unfold M_busiest at h
  refine a_iload_n C 1 rfl rfl dX11_busiest_0 ?_
  refine a_if_ge C 6 (by decide) dX11_busiest_1 (fun c1 => ?_) (fun c1 => ?_)
  · replace h := ifp c1 h
    refine a_aload_n C 0 rfl rfl dX11_busiest_6 ?_
    obtain ⟨q2, e_q2, h⟩ := b1s h
    refine k_M_measures C S e_q2 ⟨Nat.le_of_ble_eq_true rfl, Nat.le_of_ble_eq_true rfl⟩ (Nat.le_of_ble_eq_true rfl) dX11_busiest_7 ?_
    refine a_iconst (v := 0) C (by decide) dX11_busiest_10 ?_
    refine a_istore_n C [(2, .int (0 : Int32)), (0, .ref (adOf X 0)), (1, .int v1)] rfl (by decide) rfl dX11_busiest_11 ?_
    exact At.sub [1, 2, 0] rfl (w_M_busiest_L12 C S _ hret _ _ _ h)
  · replace h := ifn c1 h
    refine a_iconst (v := -1) C (by decide) dX11_busiest_4 ?_
    exact a_iret hret h rfl dX11_busiest_5
theorem c_M_busiest {l : Launch} {D : va_G} {I : ClassId × ClassId × ClassId × ClassId} {ad : Nat → Nat} {q : St} {v1 : Int32} {z : Int32 × St} (h : M_busiest q v1 = some z) : Ctr l D I zT 18 (shM I) ad yX11_busiest cX11_busiest 5 (some .int) rmM_busiest [.ref (ad 0), .int v1] q (some z.1) z.2 :=
  ctr_ofI (by decide) (Nat.le_of_ble_eq_true rfl) (fun p e s m args below meth c Q H0 X hX C hret => by subst hX; exact w_M_busiest C ⟨rfl, rfl, rfl⟩ hret _ _ h)
abbrev rmM_offer : Room := { frames := 7, cells := 0, slots := 0, locals := 159 }
def M_offer (q : St) (v1 : Int32) (v2 : Int32) : Option (Int32 × St) :=
  b1 (M_isNode q v1) fun x1 =>
  if x1 = (0 : Int32) then
    some ((-1 : Int32), q)
  else
    b1 (M_isFormat q v2) fun x3 =>
    if x3 = (0 : Int32) then
      some ((-1 : Int32), q)
    else
      b1 (M_laysAside q) fun q5 =>
      b1 (rd 172 q5 2 (3 : Int32)) fun x6 =>
      b1 (M_begins q5 (20 : Int32) v1 v2 x6) fun q7 =>
      b1 (M_joins q7 (20 : Int32)) fun q8 =>
      b1 (M_of q8 (20 : Int32) (3 : Int32)) fun x9 =>
      b1 (M_comesBack q8) fun q10 =>
      some (x9, q10)
theorem w_M_offer {X : Cv} (C : Cx X cX11_offer RX11 rmM_offer 4) (S : IsM X) {z : Int32 × St} (hret : RokI X cX11_offer .int z.1 z.2) (v1 : Int32) (v2 : Int32) (q : St) (h : M_offer q v1 v2 = some z) : At X 0 [(0, .ref (adOf X 0)), (1, .int v1), (2, .int v2)] [] q := by
  unfold M_offer at h
  refine a_aload_n C 0 rfl rfl dX11_offer_0 ?_
  refine a_iload_n C 1 rfl rfl dX11_offer_1 ?_
  obtain ⟨x1, e_x1, h⟩ := b1s h
  refine k_M_isNode C S e_x1 ⟨Nat.le_of_ble_eq_true rfl, Nat.le_of_ble_eq_true rfl⟩ (Nat.le_of_ble_eq_true rfl) dX11_offer_2 ?_
  refine a_if_eq C 16 (by decide) dX11_offer_5 (fun c2 => ?_) (fun c2 => ?_)
  · replace h := ifp c2 h
    refine a_iconst (v := -1) C (by decide) dX11_offer_16 ?_
    exact a_iret hret h rfl dX11_offer_17
  · replace h := ifn c2 h
    refine a_aload_n C 0 rfl rfl dX11_offer_8 ?_
    refine a_iload_n C 2 rfl rfl dX11_offer_9 ?_
    obtain ⟨x3, e_x3, h⟩ := b1s h
    refine k_M_isFormat C S e_x3 ⟨Nat.le_of_ble_eq_true rfl, Nat.le_of_ble_eq_true rfl⟩ (Nat.le_of_ble_eq_true rfl) dX11_offer_10 ?_
    refine a_if_ne C 18 (by decide) dX11_offer_13 (fun c4 => ?_) (fun c4 => ?_)
    · replace h := ifn c4 h
      refine a_aload_n C 0 rfl rfl dX11_offer_18 ?_
      obtain ⟨q5, e_q5, h⟩ := b1s h
      refine k_M_laysAside C S e_q5 ⟨Nat.le_of_ble_eq_true rfl, Nat.le_of_ble_eq_true rfl⟩ (Nat.le_of_ble_eq_true rfl) dX11_offer_19 ?_
      refine a_aload_n C 0 rfl rfl dX11_offer_22 ?_
      refine a_bipush (v := 20) C (by decide) dX11_offer_23 ?_
      refine a_iload_n C 1 rfl rfl dX11_offer_25 ?_
      refine a_iload_n C 2 rfl rfl dX11_offer_26 ?_
      refine a_aload_n C 0 rfl rfl dX11_offer_27 ?_
      refine gM_setup C S dX11_offer_28 ?_
      refine a_iconst (v := 3) C (by decide) dX11_offer_31 ?_
      obtain ⟨x6, e_x6, h⟩ := b1s h
      refine lM_setup C S e_x6 dX11_offer_32 ?_
      obtain ⟨q7, e_q7, h⟩ := b1s h
      refine k_M_begins C S e_q7 ⟨Nat.le_of_ble_eq_true rfl, Nat.le_of_ble_eq_true rfl⟩ (Nat.le_of_ble_eq_true rfl) dX11_offer_33 ?_
      refine a_aload_n C 0 rfl rfl dX11_offer_36 ?_
      refine a_bipush (v := 20) C (by decide) dX11_offer_37 ?_
      obtain ⟨q8, e_q8, h⟩ := b1s h
      refine k_M_joins C S e_q8 ⟨Nat.le_of_ble_eq_true rfl, Nat.le_of_ble_eq_true rfl⟩ (Nat.le_of_ble_eq_true rfl) dX11_offer_39 ?_
      refine a_aload_n C 0 rfl rfl dX11_offer_42 ?_
      refine a_bipush (v := 20) C (by decide) dX11_offer_43 ?_
      refine a_iconst (v := 3) C (by decide) dX11_offer_45 ?_
      obtain ⟨x9, e_x9, h⟩ := b1s h
      refine k_M_of C S e_x9 ⟨Nat.le_of_ble_eq_true rfl, Nat.le_of_ble_eq_true rfl⟩ (Nat.le_of_ble_eq_true rfl) dX11_offer_46 ?_
      refine a_istore_n C [(3, .int x9), (0, .ref (adOf X 0)), (1, .int v1), (2, .int v2)] rfl (by decide) rfl dX11_offer_49 ?_
      refine a_aload_n C 1 rfl rfl dX11_offer_50 ?_
      obtain ⟨q10, e_q10, h⟩ := b1s h
      refine k_M_comesBack C S e_q10 ⟨Nat.le_of_ble_eq_true rfl, Nat.le_of_ble_eq_true rfl⟩ (Nat.le_of_ble_eq_true rfl) dX11_offer_51 ?_
      refine a_iload_n C 0 rfl rfl dX11_offer_54 ?_
      exact a_iret hret h rfl dX11_offer_55
    · replace h := ifp c4 h
      refine a_iconst (v := -1) C (by decide) dX11_offer_16 ?_
      exact a_iret hret h rfl dX11_offer_17
theorem c_M_offer {l : Launch} {D : va_G} {I : ClassId × ClassId × ClassId × ClassId} {ad : Nat → Nat} {q : St} {v1 : Int32} {v2 : Int32} {z : Int32 × St} (h : M_offer q v1 v2 = some z) : Ctr l D I zT 18 (shM I) ad yX11_offer cX11_offer 4 (some .int) rmM_offer [.ref (ad 0), .int v1, .int v2] q (some z.1) z.2 :=
  ctr_ofI (by decide) (Nat.le_of_ble_eq_true rfl) (fun p e s m args below meth c Q H0 X hX C hret => by subst hX; exact w_M_offer C ⟨rfl, rfl, rfl⟩ hret _ _ _ h)
