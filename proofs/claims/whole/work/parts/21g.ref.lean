abbrev rmM_setOpen : Room := { frames := 8, cells := 0, slots := 0, locals := 182 }
def M_setOpen_J68 (v4 : Int32) (q : St) : Option (Int32 × St) :=
  b1 (M_levels q) fun x10 =>
  some ((v4 - x10), q)
theorem w_M_setOpen_J68 {X : Cv} (C : Cx X cX11_setOpen RX11 rmM_setOpen 5) (S : IsM X) {z : Int32 × St} (hret : RokI X cX11_setOpen .int z.1 z.2) (v4 : Int32) (q : St) (h : M_setOpen_J68 v4 q = some z) : At X 68 [(0, .ref (adOf X 0)), (4, .int v4)] [] q := by
  unfold M_setOpen_J68 at h
  refine a_iload C 1 rfl dX11_setOpen_68 ?_
  refine a_aload_n C 0 rfl rfl dX11_setOpen_70 ?_
  obtain ⟨x10, e_x10, h⟩ := b1s h
  refine k_M_levels C S e_x10 ⟨Nat.le_of_ble_eq_true rfl, Nat.le_of_ble_eq_true rfl⟩ (Nat.le_of_ble_eq_true rfl) dX11_setOpen_71 ?_
  refine a_isub C dX11_setOpen_74 ?_
  exact a_iret hret h rfl dX11_setOpen_75
def M_setOpen_J19 (v1 : Int32) (v2 : Int32) (z0 : Int32) (q : St) : Option (Int32 × St) :=
  b1 (rd 202 q 4 ((32 : Int32) + v1)) fun x4 =>
  if x4 = z0 then
    some ((-2 : Int32), q)
  else
    b1 (M_keeps q) fun q6 =>
    b1 (M_levels q6) fun x7 =>
    if v2 = (0 : Int32) then
      b1 (M_closes q6 v1) fun q9 =>
      M_setOpen_J68 x7 q9
    else
      b1 (wr 202 q6 4 ((32 : Int32) + v1) (1 : Int32)) fun q11 =>
      M_setOpen_J68 x7 q11
theorem w_M_setOpen_J19 {X : Cv} (C : Cx X cX11_setOpen RX11 rmM_setOpen 5) (S : IsM X) {z : Int32 × St} (hret : RokI X cX11_setOpen .int z.1 z.2) (v1 : Int32) (v2 : Int32) (z0 : Int32) (q : St) (h : M_setOpen_J19 v1 v2 z0 q = some z) : At X 19 [(0, .ref (adOf X 0)), (1, .int v1), (2, .int v2)] [.int z0] q := by
  unfold M_setOpen_J19 at h
  refine a_istore_n C [(3, .int z0), (0, .ref (adOf X 0)), (1, .int v1), (2, .int v2)] rfl (by decide) rfl dX11_setOpen_19 ?_
  refine a_aload_n C 1 rfl rfl dX11_setOpen_20 ?_
  refine gM_world C S dX11_setOpen_21 ?_
  refine a_bipush (v := 32) C (by decide) dX11_setOpen_24 ?_
  refine a_iload_n C 2 rfl rfl dX11_setOpen_26 ?_
  refine a_iadd C dX11_setOpen_27 ?_
  obtain ⟨x4, e_x4, h⟩ := b1s h
  refine lM_world C S e_x4 dX11_setOpen_28 ?_
  refine a_iload_n C 0 rfl rfl dX11_setOpen_29 ?_
  refine a_icmp_ne C 36 (by decide) dX11_setOpen_30 (fun c5 => ?_) (fun c5 => ?_)
  · replace h := ifn c5 h
    refine a_aload_n C 1 rfl rfl dX11_setOpen_36 ?_
    obtain ⟨q6, e_q6, h⟩ := b1s h
    refine k_M_keeps C S e_q6 ⟨Nat.le_of_ble_eq_true rfl, Nat.le_of_ble_eq_true rfl⟩ (Nat.le_of_ble_eq_true rfl) dX11_setOpen_37 ?_
    refine a_aload_n C 1 rfl rfl dX11_setOpen_40 ?_
    obtain ⟨x7, e_x7, h⟩ := b1s h
    refine k_M_levels C S e_x7 ⟨Nat.le_of_ble_eq_true rfl, Nat.le_of_ble_eq_true rfl⟩ (Nat.le_of_ble_eq_true rfl) dX11_setOpen_41 ?_
    refine a_istore C [(4, .int x7), (3, .int z0), (0, .ref (adOf X 0)), (1, .int v1), (2, .int v2)] (by decide) rfl dX11_setOpen_44 ?_
    refine a_iload_n C 4 rfl rfl dX11_setOpen_46 ?_
    refine a_if_eq C 63 (by decide) dX11_setOpen_47 (fun c8 => ?_) (fun c8 => ?_)
    · replace h := ifp c8 h
      refine a_aload_n C 2 rfl rfl dX11_setOpen_63 ?_
      refine a_iload_n C 3 rfl rfl dX11_setOpen_64 ?_
      obtain ⟨q9, e_q9, h⟩ := b1s h
      refine k_M_closes C S e_q9 ⟨Nat.le_of_ble_eq_true rfl, Nat.le_of_ble_eq_true rfl⟩ (Nat.le_of_ble_eq_true rfl) dX11_setOpen_65 ?_
      exact At.sub [2, 0] rfl (w_M_setOpen_J68 C S hret _ _ h)
    · replace h := ifn c8 h
      refine a_aload_n C 2 rfl rfl dX11_setOpen_50 ?_
      refine gM_world C S dX11_setOpen_51 ?_
      refine a_bipush (v := 32) C (by decide) dX11_setOpen_54 ?_
      refine a_iload_n C 3 rfl rfl dX11_setOpen_56 ?_
      refine a_iadd C dX11_setOpen_57 ?_
      refine a_iconst (v := 1) C (by decide) dX11_setOpen_58 ?_
      obtain ⟨q11, e_q11, h⟩ := b1s h
      refine sM_world C S e_q11 dX11_setOpen_59 ?_
      refine a_goto C 68 (by decide) dX11_setOpen_60 ?_
      exact At.sub [2, 0] rfl (w_M_setOpen_J68 C S hret _ _ h)
  · replace h := ifp c5 h
    refine a_bipush (v := -2) C (by decide) dX11_setOpen_33 ?_
    exact a_iret hret h rfl dX11_setOpen_35
def M_setOpen (q : St) (v1 : Int32) (v2 : Int32) : Option (Int32 × St) :=
  b1 (M_isLink q v1) fun x1 =>
  if x1 = (0 : Int32) then
    some ((-1 : Int32), q)
  else
    if v2 = (0 : Int32) then
      M_setOpen_J19 v1 v2 (0 : Int32) q
    else
      M_setOpen_J19 v1 v2 (1 : Int32) q
theorem w_M_setOpen {X : Cv} (C : Cx X cX11_setOpen RX11 rmM_setOpen 5) (S : IsM X) {z : Int32 × St} (hret : RokI X cX11_setOpen .int z.1 z.2) (v1 : Int32) (v2 : Int32) (q : St) (h : M_setOpen q v1 v2 = some z) : At X 0 [(0, .ref (adOf X 0)), (1, .int v1), (2, .int v2)] [] q := by
  unfold M_setOpen at h
  refine a_aload_n C 0 rfl rfl dX11_setOpen_0 ?_
  refine a_iload_n C 1 rfl rfl dX11_setOpen_1 ?_
  obtain ⟨x1, e_x1, h⟩ := b1s h
  refine k_M_isLink C S e_x1 ⟨Nat.le_of_ble_eq_true rfl, Nat.le_of_ble_eq_true rfl⟩ (Nat.le_of_ble_eq_true rfl) dX11_setOpen_2 ?_
  refine a_if_ne C 10 (by decide) dX11_setOpen_5 (fun c2 => ?_) (fun c2 => ?_)
  · replace h := ifn c2 h
    refine a_iload_n C 2 rfl rfl dX11_setOpen_10 ?_
    refine a_if_eq C 18 (by decide) dX11_setOpen_11 (fun c3 => ?_) (fun c3 => ?_)
    · replace h := ifp c3 h
      refine a_iconst (v := 0) C (by decide) dX11_setOpen_18 ?_
      exact At.sub [0, 1, 2] rfl (w_M_setOpen_J19 C S hret _ _ _ _ h)
    · replace h := ifn c3 h
      refine a_iconst (v := 1) C (by decide) dX11_setOpen_14 ?_
      refine a_goto C 19 (by decide) dX11_setOpen_15 ?_
      exact At.sub [0, 1, 2] rfl (w_M_setOpen_J19 C S hret _ _ _ _ h)
  · replace h := ifp c2 h
    refine a_iconst (v := -1) C (by decide) dX11_setOpen_8 ?_
    exact a_iret hret h rfl dX11_setOpen_9
theorem c_M_setOpen {l : Launch} {D : va_G} {I : ClassId × ClassId × ClassId × ClassId} {ad : Nat → Nat} {q : St} {v1 : Int32} {v2 : Int32} {z : Int32 × St} (h : M_setOpen q v1 v2 = some z) : Ctr l D I zT 18 (shM I) ad yX11_setOpen cX11_setOpen 5 (some .int) rmM_setOpen [.ref (ad 0), .int v1, .int v2] q (some z.1) z.2 :=
  ctr_ofI (by decide) (Nat.le_of_ble_eq_true rfl) (fun p e s m args below meth c Q H0 X hX C hret => by subst hX; exact w_M_setOpen C ⟨rfl, rfl, rfl⟩ hret _ _ _ h)
abbrev rmM_raises : Room := { frames := 6, cells := 0, slots := 0, locals := 137 }
def M_raises_B12 (k : Int32 → Int32 → St → Option (Int32 × St)) (rec : Int32 → Int32 → Int32 → St → Option (Int32 × St)) (v1 : Int32) (v2 : Int32) (v3 : Int32) (q : St) : Option (Int32 × St) :=
  b1 (rd 202 q 4 (96 : Int32)) fun x2 =>
  if x2 ≤ v3 then
    k v1 v2 q
  else
    b1 (M_of q v3 (4 : Int32)) fun x4 =>
    if x4 = (0 : Int32) then
      b1 (M_of q v3 (3 : Int32)) fun x6 =>
      b1 (M_of q v3 (2 : Int32)) fun x7 =>
      if x7 ≤ x6 then
        rec v1 v2 (v3 + 1) q
      else
        b1 (M_of q v3 (3 : Int32)) fun x9 =>
        b2 (M_tries q v3 (x9 + (1 : Int32))) fun x10 q11 =>
        if x10 = (0 : Int32) then
          rec v1 v2 (v3 + 1) q11
        else
          rec (v1 + 1) (1 : Int32) (v3 + 1) q11
    else
      rec v1 v2 (v3 + 1) q
theorem w_M_raises_B12 {X : Cv} (C : Cx X cX11_raises RX11 rmM_raises 4) (S : IsM X) {z : Int32 × St} (hret : RokI X cX11_raises .int z.1 z.2) (k : Int32 → Int32 → St → Option (Int32 × St)) (hk : ∀ (v1 : Int32) (v2 : Int32) (q : St), k v1 v2 q = some z → At X 74 [(0, .ref (adOf X 0)), (1, .int v1), (2, .int v2)] [] q) (rec : Int32 → Int32 → Int32 → St → Option (Int32 × St)) (hrec : ∀ (v1 : Int32) (v2 : Int32) (v3 : Int32) (q : St), rec v1 v2 v3 q = some z → At X 12 [(0, .ref (adOf X 0)), (1, .int v1), (2, .int v2), (3, .int v3)] [] q) (v1 : Int32) (v2 : Int32) (v3 : Int32) (q : St) (h : M_raises_B12 k rec v1 v2 v3 q = some z) : At X 12 [(0, .ref (adOf X 0)), (1, .int v1), (2, .int v2), (3, .int v3)] [] q := by
  unfold M_raises_B12 at h
  refine a_iload_n C 3 rfl rfl dX11_raises_12 ?_
  refine a_aload_n C 0 rfl rfl dX11_raises_13 ?_
  refine gM_world C S dX11_raises_14 ?_
  refine a_bipush (v := 96) C (by decide) dX11_raises_17 ?_
  obtain ⟨x2, e_x2, h⟩ := b1s h
  refine lM_world C S e_x2 dX11_raises_19 ?_
  refine a_icmp_ge C 74 (by decide) dX11_raises_20 (fun c3 => ?_) (fun c3 => ?_)
  · replace h := ifp c3 h
    exact At.sub [0, 1, 2] rfl (hk _ _ _ h)
  · replace h := ifn c3 h
    refine a_aload_n C 0 rfl rfl dX11_raises_23 ?_
    refine a_iload_n C 3 rfl rfl dX11_raises_24 ?_
    refine a_iconst (v := 4) C (by decide) dX11_raises_25 ?_
    obtain ⟨x4, e_x4, h⟩ := b1s h
    refine k_M_of C S e_x4 ⟨Nat.le_of_ble_eq_true rfl, Nat.le_of_ble_eq_true rfl⟩ (Nat.le_of_ble_eq_true rfl) dX11_raises_26 ?_
    refine a_if_ne C 68 (by decide) dX11_raises_29 (fun c5 => ?_) (fun c5 => ?_)
    · replace h := ifn c5 h
      refine a_iinc (v := (v3 + 1)) C [(3, .int (v3 + 1)), (0, .ref (adOf X 0)), (1, .int v1), (2, .int v2)] 3 rfl (congrArg (HAdd.hAdd v3) (by decide : Int32.ofInt (1) = (1 : Int32))) (by decide) rfl dX11_raises_68 ?_
      refine a_goto C 12 (by decide) dX11_raises_71 ?_
      exact At.sub [1, 2, 3, 0] rfl (hrec _ _ _ _ h)
    · replace h := ifp c5 h
      refine a_aload_n C 0 rfl rfl dX11_raises_32 ?_
      refine a_iload_n C 3 rfl rfl dX11_raises_33 ?_
      refine a_iconst (v := 3) C (by decide) dX11_raises_34 ?_
      obtain ⟨x6, e_x6, h⟩ := b1s h
      refine k_M_of C S e_x6 ⟨Nat.le_of_ble_eq_true rfl, Nat.le_of_ble_eq_true rfl⟩ (Nat.le_of_ble_eq_true rfl) dX11_raises_35 ?_
      refine a_aload_n C 0 rfl rfl dX11_raises_38 ?_
      refine a_iload_n C 3 rfl rfl dX11_raises_39 ?_
      refine a_iconst (v := 2) C (by decide) dX11_raises_40 ?_
      obtain ⟨x7, e_x7, h⟩ := b1s h
      refine k_M_of C S e_x7 ⟨Nat.le_of_ble_eq_true rfl, Nat.le_of_ble_eq_true rfl⟩ (Nat.le_of_ble_eq_true rfl) dX11_raises_41 ?_
      refine a_icmp_ge C 68 (by decide) dX11_raises_44 (fun c8 => ?_) (fun c8 => ?_)
      · replace h := ifp c8 h
        refine a_iinc (v := (v3 + 1)) C [(3, .int (v3 + 1)), (0, .ref (adOf X 0)), (1, .int v1), (2, .int v2)] 3 rfl (congrArg (HAdd.hAdd v3) (by decide : Int32.ofInt (1) = (1 : Int32))) (by decide) rfl dX11_raises_68 ?_
        refine a_goto C 12 (by decide) dX11_raises_71 ?_
        exact At.sub [1, 2, 3, 0] rfl (hrec _ _ _ _ h)
      · replace h := ifn c8 h
        refine a_aload_n C 0 rfl rfl dX11_raises_47 ?_
        refine a_iload_n C 3 rfl rfl dX11_raises_48 ?_
        refine a_aload_n C 0 rfl rfl dX11_raises_49 ?_
        refine a_iload_n C 3 rfl rfl dX11_raises_50 ?_
        refine a_iconst (v := 3) C (by decide) dX11_raises_51 ?_
        obtain ⟨x9, e_x9, h⟩ := b1s h
        refine k_M_of C S e_x9 ⟨Nat.le_of_ble_eq_true rfl, Nat.le_of_ble_eq_true rfl⟩ (Nat.le_of_ble_eq_true rfl) dX11_raises_52 ?_
        refine a_iconst (v := 1) C (by decide) dX11_raises_55 ?_
        refine a_iadd C dX11_raises_56 ?_
        obtain ⟨x10, q11, e_q11, h⟩ := b2s h
        refine k_M_tries C S e_q11 ⟨Nat.le_of_ble_eq_true rfl, Nat.le_of_ble_eq_true rfl⟩ (Nat.le_of_ble_eq_true rfl) dX11_raises_57 ?_
        refine a_if_eq C 68 (by decide) dX11_raises_60 (fun c12 => ?_) (fun c12 => ?_)
        · replace h := ifp c12 h
          refine a_iinc (v := (v3 + 1)) C [(3, .int (v3 + 1)), (0, .ref (adOf X 0)), (1, .int v1), (2, .int v2)] 3 rfl (congrArg (HAdd.hAdd v3) (by decide : Int32.ofInt (1) = (1 : Int32))) (by decide) rfl dX11_raises_68 ?_
          refine a_goto C 12 (by decide) dX11_raises_71 ?_
          exact At.sub [1, 2, 3, 0] rfl (hrec _ _ _ _ h)
        · replace h := ifn c12 h
          refine a_iinc (v := (v1 + 1)) C [(1, .int (v1 + 1)), (0, .ref (adOf X 0)), (2, .int v2), (3, .int v3)] 1 rfl (congrArg (HAdd.hAdd v1) (by decide : Int32.ofInt (1) = (1 : Int32))) (by decide) rfl dX11_raises_63 ?_
          refine a_iconst (v := 1) C (by decide) dX11_raises_66 ?_
          refine a_istore_n C [(2, .int (1 : Int32)), (1, .int (v1 + 1)), (0, .ref (adOf X 0)), (3, .int v3)] rfl (by decide) rfl dX11_raises_67 ?_
          refine a_iinc (v := (v3 + 1)) C [(3, .int (v3 + 1)), (2, .int (1 : Int32)), (1, .int (v1 + 1)), (0, .ref (adOf X 0))] 3 rfl (congrArg (HAdd.hAdd v3) (by decide : Int32.ofInt (1) = (1 : Int32))) (by decide) rfl dX11_raises_68 ?_
          refine a_goto C 12 (by decide) dX11_raises_71 ?_
          exact At.sub [3, 2, 1, 0] rfl (hrec _ _ _ _ h)
def M_raises_L12 (k : Int32 → Int32 → St → Option (Int32 × St)) : Nat → Int32 → Int32 → Int32 → St → Option (Int32 × St)
  | 0, _, _, _, _ => none
  | n + 1, v1, v2, v3, q => M_raises_B12 k (M_raises_L12 k n) v1 v2 v3 q
theorem w_M_raises_L12 {X : Cv} (C : Cx X cX11_raises RX11 rmM_raises 4) (S : IsM X) {z : Int32 × St} (hret : RokI X cX11_raises .int z.1 z.2) (k : Int32 → Int32 → St → Option (Int32 × St)) (hk : ∀ (v1 : Int32) (v2 : Int32) (q : St), k v1 v2 q = some z → At X 74 [(0, .ref (adOf X 0)), (1, .int v1), (2, .int v2)] [] q) (n : Nat) : ∀ (v1 : Int32) (v2 : Int32) (v3 : Int32) (q : St), M_raises_L12 k n v1 v2 v3 q = some z → At X 12 [(0, .ref (adOf X 0)), (1, .int v1), (2, .int v2), (3, .int v3)] [] q := by
  induction n with
  | zero => intro v1 v2 v3 q h; cases h
  | succ n ih => intro v1 v2 v3 q h; exact w_M_raises_B12 C S hret k hk _ ih v1 v2 v3 q h
def M_raises_B4 (rec : Int32 → Int32 → St → Option (Int32 × St)) (v1 : Int32) (v2 : Int32) (q : St) : Option (Int32 × St) :=
  if v2 = (0 : Int32) then
    some (v1, q)
  else
    M_raises_L12 (fun y13 y14 q15 =>
      rec y13 y14 q15
      ) FU v1 (0 : Int32) (0 : Int32) q
theorem w_M_raises_B4 {X : Cv} (C : Cx X cX11_raises RX11 rmM_raises 4) (S : IsM X) {z : Int32 × St} (hret : RokI X cX11_raises .int z.1 z.2) (rec : Int32 → Int32 → St → Option (Int32 × St)) (hrec : ∀ (v1 : Int32) (v2 : Int32) (q : St), rec v1 v2 q = some z → At X 4 [(0, .ref (adOf X 0)), (1, .int v1), (2, .int v2)] [] q) (v1 : Int32) (v2 : Int32) (q : St) (h : M_raises_B4 rec v1 v2 q = some z) : At X 4 [(0, .ref (adOf X 0)), (1, .int v1), (2, .int v2)] [] q := by
  unfold M_raises_B4 at h
  refine a_iload_n C 2 rfl rfl dX11_raises_4 ?_
  refine a_if_eq C 77 (by decide) dX11_raises_5 (fun c1 => ?_) (fun c1 => ?_)
  · replace h := ifp c1 h
    refine a_iload_n C 1 rfl rfl dX11_raises_77 ?_
    exact a_iret hret h rfl dX11_raises_78
  · replace h := ifn c1 h
    refine a_iconst (v := 0) C (by decide) dX11_raises_8 ?_
    refine a_istore_n C [(2, .int (0 : Int32)), (0, .ref (adOf X 0)), (1, .int v1)] rfl (by decide) rfl dX11_raises_9 ?_
    refine a_iconst (v := 0) C (by decide) dX11_raises_10 ?_
    refine a_istore_n C [(3, .int (0 : Int32)), (2, .int (0 : Int32)), (0, .ref (adOf X 0)), (1, .int v1)] rfl (by decide) rfl dX11_raises_11 ?_
    refine At.sub [2, 3, 1, 0] rfl (w_M_raises_L12 C S hret _ ?_ _ _ _ _ _ h)
    intro y13 y14 q15 h
    refine a_goto C 4 (by decide) dX11_raises_74 ?_
    exact At.sub [0, 1, 2] rfl (hrec _ _ _ h)
def M_raises_L4 : Nat → Int32 → Int32 → St → Option (Int32 × St)
  | 0, _, _, _ => none
  | n + 1, v1, v2, q => M_raises_B4 (M_raises_L4 n) v1 v2 q
theorem w_M_raises_L4 {X : Cv} (C : Cx X cX11_raises RX11 rmM_raises 4) (S : IsM X) {z : Int32 × St} (hret : RokI X cX11_raises .int z.1 z.2) (n : Nat) : ∀ (v1 : Int32) (v2 : Int32) (q : St), M_raises_L4 n v1 v2 q = some z → At X 4 [(0, .ref (adOf X 0)), (1, .int v1), (2, .int v2)] [] q := by
  induction n with
  | zero => intro v1 v2 q h; cases h
  | succ n ih => intro v1 v2 q h; exact w_M_raises_B4 C S hret _ ih v1 v2 q h
def M_raises (q : St) : Option (Int32 × St) :=
  M_raises_L4 FU (0 : Int32) (1 : Int32) q
theorem w_M_raises {X : Cv} (C : Cx X cX11_raises RX11 rmM_raises 4) (S : IsM X) {z : Int32 × St} (hret : RokI X cX11_raises .int z.1 z.2) (q : St) (h : M_raises q = some z) : At X 0 [(0, .ref (adOf X 0))] [] q := by
  unfold M_raises at h
  refine a_iconst (v := 0) C (by decide) dX11_raises_0 ?_
  refine a_istore_n C [(1, .int (0 : Int32)), (0, .ref (adOf X 0))] rfl (by decide) rfl dX11_raises_1 ?_
  refine a_iconst (v := 1) C (by decide) dX11_raises_2 ?_
  refine a_istore_n C [(2, .int (1 : Int32)), (1, .int (0 : Int32)), (0, .ref (adOf X 0))] rfl (by decide) rfl dX11_raises_3 ?_
  exact At.sub [2, 1, 0] rfl (w_M_raises_L4 C S hret _ _ _ _ h)
theorem c_M_raises {l : Launch} {D : va_G} {I : ClassId × ClassId × ClassId × ClassId} {ad : Nat → Nat} {q : St} {z : Int32 × St} (h : M_raises q = some z) : Ctr l D I zT 18 (shM I) ad yX11_raises cX11_raises 4 (some .int) rmM_raises [.ref (ad 0)] q (some z.1) z.2 :=
  ctr_ofI (by decide) (Nat.le_of_ble_eq_true rfl) (fun p e s m args below meth c Q H0 X hX C hret => by subst hX; exact w_M_raises C ⟨rfl, rfl, rfl⟩ hret _ h)
theorem g_M_raises : GoodIn lw_tg (wsV RX11 320 RX11 yX11_raises (Cond.code yX11_raises cX11_raises 4 (some .int) :: lw_tg)) := gd_V (tg 1615 (by decide +kernel) rfl) (tg 1617 (by decide +kernel) rfl) (tg 105 (by decide +kernel) rfl) (tg 128 (by decide +kernel) rfl) (tg 1618 (by decide +kernel) rfl)
theorem k_M_raises {X : Cv} {cc : ByteArray} {rm : Room} {nL1 pc : Nat} {lv : List (Nat × Value)} {sk : List Value} {q : St} {z : Int32} {q2 : St} (C : Cx X cc RX11 rm nL1) (S : IsM X) (h : M_raises q = some (z, q2)) (hz : rmM_raises.frames + 1 ≤ rm.frames ∧ 8 + (4 + 11) + rmM_raises.locals ≤ rm.locals) (hr : (sk.map fun v => v.category).sum ≤ 8) (hd : decode cc pc = .ok (.invokevirtual 320, 3)) (k : At X (pc + 3) lv (.int z :: sk) q2) : At X pc lv (.ref (adOf X 0) :: sk) q := a_callVi (as := []) C (kp := 0) (by rw [S.1]; decide) (by rw [S.2.1]; rfl) rfl (by have hh := c_M_raises (l := X.2.1) (D := dOf X) (I := idOf X) (ad := adOf X) h; rw [← S.1, ← S.2.1, ← S.2.2] at hh; exact hh) g_M_raises ⟨rfl, rfl, hz.1, hz.2⟩ ⟨by decide, by decide, by show Option.map _ (parseMethodDescriptor yX11_raises.desc) = some 0; decide⟩ hr rfl hd k
abbrev rmM_improve : Room := { frames := 7, cells := 0, slots := 0, locals := 160 }
def M_improve (q : St) : Option (Int32 × St) :=
  b1 (M_laysAside q) fun q1 =>
  b2 (M_raises q1) fun x2 q3 =>
  b1 (M_comesBack q3) fun q4 =>
  if x2 = (0 : Int32) then
    some ((-2 : Int32), q4)
  else
    b1 (M_keeps q4) fun q6 =>
    b2 (M_raises q6) fun x7 q8 =>
    some (x7, q8)
theorem w_M_improve {X : Cv} (C : Cx X cX11_improve RX11 rmM_improve 2) (S : IsM X) {z : Int32 × St} (hret : RokI X cX11_improve .int z.1 z.2) (q : St) (h : M_improve q = some z) : At X 0 [(0, .ref (adOf X 0))] [] q := by
  unfold M_improve at h
  refine a_aload_n C 0 rfl rfl dX11_improve_0 ?_
  obtain ⟨q1, e_q1, h⟩ := b1s h
  refine k_M_laysAside C S e_q1 ⟨Nat.le_of_ble_eq_true rfl, Nat.le_of_ble_eq_true rfl⟩ (Nat.le_of_ble_eq_true rfl) dX11_improve_1 ?_
  refine a_aload_n C 0 rfl rfl dX11_improve_4 ?_
  obtain ⟨x2, q3, e_q3, h⟩ := b2s h
  refine k_M_raises C S e_q3 ⟨Nat.le_of_ble_eq_true rfl, Nat.le_of_ble_eq_true rfl⟩ (Nat.le_of_ble_eq_true rfl) dX11_improve_5 ?_
  refine a_istore_n C [(1, .int x2), (0, .ref (adOf X 0))] rfl (by decide) rfl dX11_improve_8 ?_
  refine a_aload_n C 1 rfl rfl dX11_improve_9 ?_
  obtain ⟨q4, e_q4, h⟩ := b1s h
  refine k_M_comesBack C S e_q4 ⟨Nat.le_of_ble_eq_true rfl, Nat.le_of_ble_eq_true rfl⟩ (Nat.le_of_ble_eq_true rfl) dX11_improve_10 ?_
  refine a_iload_n C 0 rfl rfl dX11_improve_13 ?_
  refine a_if_ne C 20 (by decide) dX11_improve_14 (fun c5 => ?_) (fun c5 => ?_)
  · replace h := ifn c5 h
    refine a_aload_n C 1 rfl rfl dX11_improve_20 ?_
    obtain ⟨q6, e_q6, h⟩ := b1s h
    refine k_M_keeps C S e_q6 ⟨Nat.le_of_ble_eq_true rfl, Nat.le_of_ble_eq_true rfl⟩ (Nat.le_of_ble_eq_true rfl) dX11_improve_21 ?_
    refine a_aload_n C 1 rfl rfl dX11_improve_24 ?_
    obtain ⟨x7, q8, e_q8, h⟩ := b2s h
    refine k_M_raises C S e_q8 ⟨Nat.le_of_ble_eq_true rfl, Nat.le_of_ble_eq_true rfl⟩ (Nat.le_of_ble_eq_true rfl) dX11_improve_25 ?_
    exact a_iret hret h rfl dX11_improve_28
  · replace h := ifp c5 h
    refine a_bipush (v := -2) C (by decide) dX11_improve_17 ?_
    exact a_iret hret h rfl dX11_improve_19
theorem c_M_improve {l : Launch} {D : va_G} {I : ClassId × ClassId × ClassId × ClassId} {ad : Nat → Nat} {q : St} {z : Int32 × St} (h : M_improve q = some z) : Ctr l D I zT 18 (shM I) ad yX11_improve cX11_improve 2 (some .int) rmM_improve [.ref (ad 0)] q (some z.1) z.2 :=
  ctr_ofI (by decide) (Nat.le_of_ble_eq_true rfl) (fun p e s m args below meth c Q H0 X hX C hret => by subst hX; exact w_M_improve C ⟨rfl, rfl, rfl⟩ hret _ h)
abbrev rmM_buildsAnew : Room := { frames := 7, cells := 0, slots := 0, locals := 159 }
def M_buildsAnew_B6 (k : St → Option (St)) (rec : Int32 → St → Option (St)) (v1 : Int32) (q : St) : Option (St) :=
  b1 (rd 202 q 4 (96 : Int32)) fun x2 =>
  if x2 ≤ v1 then
    k  q
  else
    b1 (M_set q v1 (3 : Int32) (0 : Int32)) fun q4 =>
    rec (v1 + 1) q4
theorem w_M_buildsAnew_B6 {X : Cv} (C : Cx X cX11_buildsAnew RX11 rmM_buildsAnew 2) (S : IsM X) {z : St} (hret : RokV X cX11_buildsAnew z) (k : St → Option (St)) (hk : ∀ (q : St), k q = some z → At X 30 [(0, .ref (adOf X 0))] [] q) (rec : Int32 → St → Option (St)) (hrec : ∀ (v1 : Int32) (q : St), rec v1 q = some z → At X 6 [(0, .ref (adOf X 0)), (1, .int v1)] [] q) (v1 : Int32) (q : St) (h : M_buildsAnew_B6 k rec v1 q = some z) : At X 6 [(0, .ref (adOf X 0)), (1, .int v1)] [] q := by
  unfold M_buildsAnew_B6 at h
  refine a_iload_n C 1 rfl rfl dX11_buildsAnew_6 ?_
  refine a_aload_n C 0 rfl rfl dX11_buildsAnew_7 ?_
  refine gM_world C S dX11_buildsAnew_8 ?_
  refine a_bipush (v := 96) C (by decide) dX11_buildsAnew_11 ?_
  obtain ⟨x2, e_x2, h⟩ := b1s h
  refine lM_world C S e_x2 dX11_buildsAnew_13 ?_
  refine a_icmp_ge C 30 (by decide) dX11_buildsAnew_14 (fun c3 => ?_) (fun c3 => ?_)
  · replace h := ifp c3 h
    exact At.sub [0] rfl (hk  _ h)
  · replace h := ifn c3 h
    refine a_aload_n C 0 rfl rfl dX11_buildsAnew_17 ?_
    refine a_iload_n C 1 rfl rfl dX11_buildsAnew_18 ?_
    refine a_iconst (v := 3) C (by decide) dX11_buildsAnew_19 ?_
    refine a_iconst (v := 0) C (by decide) dX11_buildsAnew_20 ?_
    obtain ⟨q4, e_q4, h⟩ := b1s h
    refine k_M_set C S e_q4 ⟨Nat.le_of_ble_eq_true rfl, Nat.le_of_ble_eq_true rfl⟩ (Nat.le_of_ble_eq_true rfl) dX11_buildsAnew_21 ?_
    refine a_iinc (v := (v1 + 1)) C [(1, .int (v1 + 1)), (0, .ref (adOf X 0))] 1 rfl (congrArg (HAdd.hAdd v1) (by decide : Int32.ofInt (1) = (1 : Int32))) (by decide) rfl dX11_buildsAnew_24 ?_
    refine a_goto C 6 (by decide) dX11_buildsAnew_27 ?_
    exact At.sub [1, 0] rfl (hrec _ _ h)
def M_buildsAnew_L6 (k : St → Option (St)) : Nat → Int32 → St → Option (St)
  | 0, _, _ => none
  | n + 1, v1, q => M_buildsAnew_B6 k (M_buildsAnew_L6 k n) v1 q
theorem w_M_buildsAnew_L6 {X : Cv} (C : Cx X cX11_buildsAnew RX11 rmM_buildsAnew 2) (S : IsM X) {z : St} (hret : RokV X cX11_buildsAnew z) (k : St → Option (St)) (hk : ∀ (q : St), k q = some z → At X 30 [(0, .ref (adOf X 0))] [] q) (n : Nat) : ∀ (v1 : Int32) (q : St), M_buildsAnew_L6 k n v1 q = some z → At X 6 [(0, .ref (adOf X 0)), (1, .int v1)] [] q := by
  induction n with
  | zero => intro v1 q h; cases h
  | succ n ih => intro v1 q h; exact w_M_buildsAnew_B6 C S hret k hk _ ih v1 q h
def M_buildsAnew_B32 (rec : Int32 → St → Option (St)) (v1 : Int32) (q : St) : Option (St) :=
  b1 (rd 202 q 4 (96 : Int32)) fun x6 =>
  if x6 ≤ v1 then
    some q
  else
    b1 (M_of q v1 (4 : Int32)) fun x8 =>
    if x8 = (0 : Int32) then
      b1 (M_joins q v1) fun q10 =>
      rec (v1 + 1) q10
    else
      rec (v1 + 1) q
theorem w_M_buildsAnew_B32 {X : Cv} (C : Cx X cX11_buildsAnew RX11 rmM_buildsAnew 2) (S : IsM X) {z : St} (hret : RokV X cX11_buildsAnew z) (rec : Int32 → St → Option (St)) (hrec : ∀ (v1 : Int32) (q : St), rec v1 q = some z → At X 32 [(0, .ref (adOf X 0)), (1, .int v1)] [] q) (v1 : Int32) (q : St) (h : M_buildsAnew_B32 rec v1 q = some z) : At X 32 [(0, .ref (adOf X 0)), (1, .int v1)] [] q := by
  unfold M_buildsAnew_B32 at h
  refine a_iload_n C 1 rfl rfl dX11_buildsAnew_32 ?_
  refine a_aload_n C 0 rfl rfl dX11_buildsAnew_33 ?_
  refine gM_world C S dX11_buildsAnew_34 ?_
  refine a_bipush (v := 96) C (by decide) dX11_buildsAnew_37 ?_
  obtain ⟨x6, e_x6, h⟩ := b1s h
  refine lM_world C S e_x6 dX11_buildsAnew_39 ?_
  refine a_icmp_ge C 63 (by decide) dX11_buildsAnew_40 (fun c7 => ?_) (fun c7 => ?_)
  · replace h := ifp c7 h
    exact a_vret hret h dX11_buildsAnew_63
  · replace h := ifn c7 h
    refine a_aload_n C 0 rfl rfl dX11_buildsAnew_43 ?_
    refine a_iload_n C 1 rfl rfl dX11_buildsAnew_44 ?_
    refine a_iconst (v := 4) C (by decide) dX11_buildsAnew_45 ?_
    obtain ⟨x8, e_x8, h⟩ := b1s h
    refine k_M_of C S e_x8 ⟨Nat.le_of_ble_eq_true rfl, Nat.le_of_ble_eq_true rfl⟩ (Nat.le_of_ble_eq_true rfl) dX11_buildsAnew_46 ?_
    refine a_if_ne C 57 (by decide) dX11_buildsAnew_49 (fun c9 => ?_) (fun c9 => ?_)
    · replace h := ifn c9 h
      refine a_iinc (v := (v1 + 1)) C [(1, .int (v1 + 1)), (0, .ref (adOf X 0))] 1 rfl (congrArg (HAdd.hAdd v1) (by decide : Int32.ofInt (1) = (1 : Int32))) (by decide) rfl dX11_buildsAnew_57 ?_
      refine a_goto C 32 (by decide) dX11_buildsAnew_60 ?_
      exact At.sub [1, 0] rfl (hrec _ _ h)
    · replace h := ifp c9 h
      refine a_aload_n C 0 rfl rfl dX11_buildsAnew_52 ?_
      refine a_iload_n C 1 rfl rfl dX11_buildsAnew_53 ?_
      obtain ⟨q10, e_q10, h⟩ := b1s h
      refine k_M_joins C S e_q10 ⟨Nat.le_of_ble_eq_true rfl, Nat.le_of_ble_eq_true rfl⟩ (Nat.le_of_ble_eq_true rfl) dX11_buildsAnew_54 ?_
      refine a_iinc (v := (v1 + 1)) C [(1, .int (v1 + 1)), (0, .ref (adOf X 0))] 1 rfl (congrArg (HAdd.hAdd v1) (by decide : Int32.ofInt (1) = (1 : Int32))) (by decide) rfl dX11_buildsAnew_57 ?_
      refine a_goto C 32 (by decide) dX11_buildsAnew_60 ?_
      exact At.sub [1, 0] rfl (hrec _ _ h)
def M_buildsAnew_L32 : Nat → Int32 → St → Option (St)
  | 0, _, _ => none
  | n + 1, v1, q => M_buildsAnew_B32 (M_buildsAnew_L32 n) v1 q
theorem w_M_buildsAnew_L32 {X : Cv} (C : Cx X cX11_buildsAnew RX11 rmM_buildsAnew 2) (S : IsM X) {z : St} (hret : RokV X cX11_buildsAnew z) (n : Nat) : ∀ (v1 : Int32) (q : St), M_buildsAnew_L32 n v1 q = some z → At X 32 [(0, .ref (adOf X 0)), (1, .int v1)] [] q := by
  induction n with
  | zero => intro v1 q h; cases h
  | succ n ih => intro v1 q h; exact w_M_buildsAnew_B32 C S hret _ ih v1 q h
def M_buildsAnew (q : St) : Option (St) :=
  b1 (M_emptiesTree q) fun q1 =>
  M_buildsAnew_L6 (fun q5 =>
    M_buildsAnew_L32 FU (0 : Int32) q5
    ) FU (0 : Int32) q1
theorem w_M_buildsAnew {X : Cv} (C : Cx X cX11_buildsAnew RX11 rmM_buildsAnew 2) (S : IsM X) {z : St} (hret : RokV X cX11_buildsAnew z) (q : St) (h : M_buildsAnew q = some z) : At X 0 [(0, .ref (adOf X 0))] [] q := by
  unfold M_buildsAnew at h
  refine a_aload_n C 0 rfl rfl dX11_buildsAnew_0 ?_
  obtain ⟨q1, e_q1, h⟩ := b1s h
  refine k_M_emptiesTree C S e_q1 ⟨Nat.le_of_ble_eq_true rfl, Nat.le_of_ble_eq_true rfl⟩ (Nat.le_of_ble_eq_true rfl) dX11_buildsAnew_1 ?_
  refine a_iconst (v := 0) C (by decide) dX11_buildsAnew_4 ?_
  refine a_istore_n C [(1, .int (0 : Int32)), (0, .ref (adOf X 0))] rfl (by decide) rfl dX11_buildsAnew_5 ?_
  refine At.sub [1, 0] rfl (w_M_buildsAnew_L6 C S hret _ ?_ _ _ _ h)
  intro q5 h
  refine a_iconst (v := 0) C (by decide) dX11_buildsAnew_30 ?_
  refine a_istore_n C [(1, .int (0 : Int32)), (0, .ref (adOf X 0))] rfl (by decide) rfl dX11_buildsAnew_31 ?_
  exact At.sub [1, 0] rfl (w_M_buildsAnew_L32 C S hret _ _ _ h)
theorem c_M_buildsAnew {l : Launch} {D : va_G} {I : ClassId × ClassId × ClassId × ClassId} {ad : Nat → Nat} {q : St} {z : St} (h : M_buildsAnew q = some z) : Ctr l D I zT 18 (shM I) ad yX11_buildsAnew cX11_buildsAnew 2 none rmM_buildsAnew [.ref (ad 0)] q none z :=
  ctr_ofV (by decide) (Nat.le_of_ble_eq_true rfl) (fun p e s m args below meth c Q H0 X hX C hret => by subst hX; exact w_M_buildsAnew C ⟨rfl, rfl, rfl⟩ hret _ h)
theorem g_M_buildsAnew : GoodIn lw_tg (wsV RX11 323 RX11 yX11_buildsAnew (Cond.code yX11_buildsAnew cX11_buildsAnew 2 none :: lw_tg)) := gd_V (tg 1623 (by decide +kernel) rfl) (tg 1625 (by decide +kernel) rfl) (tg 106 (by decide +kernel) rfl) (tg 128 (by decide +kernel) rfl) (tg 1626 (by decide +kernel) rfl)
theorem k_M_buildsAnew {X : Cv} {cc : ByteArray} {rm : Room} {nL1 pc : Nat} {lv : List (Nat × Value)} {sk : List Value} {q : St} {q2 : St} (C : Cx X cc RX11 rm nL1) (S : IsM X) (h : M_buildsAnew q = some q2) (hz : rmM_buildsAnew.frames + 1 ≤ rm.frames ∧ 8 + (2 + 11) + rmM_buildsAnew.locals ≤ rm.locals) (hr : (sk.map fun v => v.category).sum ≤ 8) (hd : decode cc pc = .ok (.invokevirtual 323, 3)) (k : At X (pc + 3) lv sk q2) : At X pc lv (.ref (adOf X 0) :: sk) q := a_callVv (as := []) C (kp := 0) (by rw [S.1]; decide) (by rw [S.2.1]; rfl) rfl (by have hh := c_M_buildsAnew (l := X.2.1) (D := dOf X) (I := idOf X) (ad := adOf X) h; rw [← S.1, ← S.2.1, ← S.2.2] at hh; exact hh) g_M_buildsAnew ⟨rfl, rfl, hz.1, hz.2⟩ ⟨by decide, by decide, by show Option.map _ (parseMethodDescriptor yX11_buildsAnew.desc) = some 0; decide⟩ hr rfl hd k
abbrev rmM_rebuild : Room := { frames := 8, cells := 0, slots := 0, locals := 180 }
def M_rebuild (q : St) : Option (Int32 × St) :=
  b1 (M_levels q) fun x1 =>
  b1 (M_laysAside q) fun q2 =>
  b1 (M_buildsAnew q2) fun q3 =>
  b1 (M_levels q3) fun x4 =>
  b1 (M_comesBack q3) fun q5 =>
  if x1 < x4 then
    b1 (M_keeps q5) fun q7 =>
    b1 (M_buildsAnew q7) fun q8 =>
    some ((x4 - x1), q8)
  else
    some ((-2 : Int32), q5)
theorem w_M_rebuild {X : Cv} (C : Cx X cX11_rebuild RX11 rmM_rebuild 3) (S : IsM X) {z : Int32 × St} (hret : RokI X cX11_rebuild .int z.1 z.2) (q : St) (h : M_rebuild q = some z) : At X 0 [(0, .ref (adOf X 0))] [] q := by
  unfold M_rebuild at h
  refine a_aload_n C 0 rfl rfl dX11_rebuild_0 ?_
  obtain ⟨x1, e_x1, h⟩ := b1s h
  refine k_M_levels C S e_x1 ⟨Nat.le_of_ble_eq_true rfl, Nat.le_of_ble_eq_true rfl⟩ (Nat.le_of_ble_eq_true rfl) dX11_rebuild_1 ?_
  refine a_istore_n C [(1, .int x1), (0, .ref (adOf X 0))] rfl (by decide) rfl dX11_rebuild_4 ?_
  refine a_aload_n C 1 rfl rfl dX11_rebuild_5 ?_
  obtain ⟨q2, e_q2, h⟩ := b1s h
  refine k_M_laysAside C S e_q2 ⟨Nat.le_of_ble_eq_true rfl, Nat.le_of_ble_eq_true rfl⟩ (Nat.le_of_ble_eq_true rfl) dX11_rebuild_6 ?_
  refine a_aload_n C 1 rfl rfl dX11_rebuild_9 ?_
  obtain ⟨q3, e_q3, h⟩ := b1s h
  refine k_M_buildsAnew C S e_q3 ⟨Nat.le_of_ble_eq_true rfl, Nat.le_of_ble_eq_true rfl⟩ (Nat.le_of_ble_eq_true rfl) dX11_rebuild_10 ?_
  refine a_aload_n C 1 rfl rfl dX11_rebuild_13 ?_
  obtain ⟨x4, e_x4, h⟩ := b1s h
  refine k_M_levels C S e_x4 ⟨Nat.le_of_ble_eq_true rfl, Nat.le_of_ble_eq_true rfl⟩ (Nat.le_of_ble_eq_true rfl) dX11_rebuild_14 ?_
  refine a_istore_n C [(2, .int x4), (1, .int x1), (0, .ref (adOf X 0))] rfl (by decide) rfl dX11_rebuild_17 ?_
  refine a_aload_n C 2 rfl rfl dX11_rebuild_18 ?_
  obtain ⟨q5, e_q5, h⟩ := b1s h
  refine k_M_comesBack C S e_q5 ⟨Nat.le_of_ble_eq_true rfl, Nat.le_of_ble_eq_true rfl⟩ (Nat.le_of_ble_eq_true rfl) dX11_rebuild_19 ?_
  refine a_iload_n C 0 rfl rfl dX11_rebuild_22 ?_
  refine a_iload_n C 1 rfl rfl dX11_rebuild_23 ?_
  refine a_icmp_gt C 30 (by decide) dX11_rebuild_24 (fun c6 => ?_) (fun c6 => ?_)
  · replace h := ifp c6 h
    refine a_aload_n C 2 rfl rfl dX11_rebuild_30 ?_
    obtain ⟨q7, e_q7, h⟩ := b1s h
    refine k_M_keeps C S e_q7 ⟨Nat.le_of_ble_eq_true rfl, Nat.le_of_ble_eq_true rfl⟩ (Nat.le_of_ble_eq_true rfl) dX11_rebuild_31 ?_
    refine a_aload_n C 2 rfl rfl dX11_rebuild_34 ?_
    obtain ⟨q8, e_q8, h⟩ := b1s h
    refine k_M_buildsAnew C S e_q8 ⟨Nat.le_of_ble_eq_true rfl, Nat.le_of_ble_eq_true rfl⟩ (Nat.le_of_ble_eq_true rfl) dX11_rebuild_35 ?_
    refine a_iload_n C 0 rfl rfl dX11_rebuild_38 ?_
    refine a_iload_n C 1 rfl rfl dX11_rebuild_39 ?_
    refine a_isub C dX11_rebuild_40 ?_
    exact a_iret hret h rfl dX11_rebuild_41
  · replace h := ifn c6 h
    refine a_bipush (v := -2) C (by decide) dX11_rebuild_27 ?_
    exact a_iret hret h rfl dX11_rebuild_29
theorem c_M_rebuild {l : Launch} {D : va_G} {I : ClassId × ClassId × ClassId × ClassId} {ad : Nat → Nat} {q : St} {z : Int32 × St} (h : M_rebuild q = some z) : Ctr l D I zT 18 (shM I) ad yX11_rebuild cX11_rebuild 3 (some .int) rmM_rebuild [.ref (ad 0)] q (some z.1) z.2 :=
  ctr_ofI (by decide) (Nat.le_of_ble_eq_true rfl) (fun p e s m args below meth c Q H0 X hX C hret => by subst hX; exact w_M_rebuild C ⟨rfl, rfl, rfl⟩ hret _ h)
abbrev rmM_nodes : Room := { frames := 0, cells := 0, slots := 0, locals := 0 }
def M_nodes (q : St) : Option (Int32) :=
  b1 (rd 172 q 2 (0 : Int32)) fun x1 =>
  some x1
theorem w_M_nodes {X : Cv} (C : Cx X cX11_nodes RX11 rmM_nodes 1) (S : IsM X) {q : St} {z : Int32} (hret : RokI X cX11_nodes .int z q) (h : M_nodes q = some z) : At X 0 [(0, .ref (adOf X 0))] [] q := by
  unfold M_nodes at h
  refine a_aload_n C 0 rfl rfl dX11_nodes_0 ?_
  refine gM_setup C S dX11_nodes_1 ?_
  refine a_iconst (v := 0) C (by decide) dX11_nodes_4 ?_
  obtain ⟨x1, e_x1, h⟩ := b1s h
  refine lM_setup C S e_x1 dX11_nodes_5 ?_
  exact a_iretR hret h rfl dX11_nodes_6
theorem c_M_nodes {l : Launch} {D : va_G} {I : ClassId × ClassId × ClassId × ClassId} {ad : Nat → Nat} {q : St} {z : Int32} (h : M_nodes q = some z) : Ctr l D I zT 18 (shM I) ad yX11_nodes cX11_nodes 1 (some .int) rmM_nodes [.ref (ad 0)] q (some z) q :=
  ctr_ofI (by decide) (Nat.le_of_ble_eq_true rfl) (fun p e s m args below meth c Q H0 X hX C hret => by subst hX; exact w_M_nodes C ⟨rfl, rfl, rfl⟩ hret h)
abbrev rmM_links : Room := { frames := 0, cells := 0, slots := 0, locals := 0 }
def M_links (q : St) : Option (Int32) :=
  b1 (rd 172 q 2 (1 : Int32)) fun x1 =>
  some x1
theorem w_M_links {X : Cv} (C : Cx X cX11_links RX11 rmM_links 1) (S : IsM X) {q : St} {z : Int32} (hret : RokI X cX11_links .int z q) (h : M_links q = some z) : At X 0 [(0, .ref (adOf X 0))] [] q := by
  unfold M_links at h
  refine a_aload_n C 0 rfl rfl dX11_links_0 ?_
  refine gM_setup C S dX11_links_1 ?_
  refine a_iconst (v := 1) C (by decide) dX11_links_4 ?_
  obtain ⟨x1, e_x1, h⟩ := b1s h
  refine lM_setup C S e_x1 dX11_links_5 ?_
  exact a_iretR hret h rfl dX11_links_6
theorem c_M_links {l : Launch} {D : va_G} {I : ClassId × ClassId × ClassId × ClassId} {ad : Nat → Nat} {q : St} {z : Int32} (h : M_links q = some z) : Ctr l D I zT 18 (shM I) ad yX11_links cX11_links 1 (some .int) rmM_links [.ref (ad 0)] q (some z) q :=
  ctr_ofI (by decide) (Nat.le_of_ble_eq_true rfl) (fun p e s m args below meth c Q H0 X hX C hret => by subst hX; exact w_M_links C ⟨rfl, rfl, rfl⟩ hret h)
abbrev rmM_formats : Room := { frames := 0, cells := 0, slots := 0, locals := 0 }
def M_formats (q : St) : Option (Int32) :=
  b1 (rd 172 q 2 (2 : Int32)) fun x1 =>
  some x1
theorem w_M_formats {X : Cv} (C : Cx X cX11_formats RX11 rmM_formats 1) (S : IsM X) {q : St} {z : Int32} (hret : RokI X cX11_formats .int z q) (h : M_formats q = some z) : At X 0 [(0, .ref (adOf X 0))] [] q := by
  unfold M_formats at h
  refine a_aload_n C 0 rfl rfl dX11_formats_0 ?_
  refine gM_setup C S dX11_formats_1 ?_
  refine a_iconst (v := 2) C (by decide) dX11_formats_4 ?_
  obtain ⟨x1, e_x1, h⟩ := b1s h
  refine lM_setup C S e_x1 dX11_formats_5 ?_
  exact a_iretR hret h rfl dX11_formats_6
theorem c_M_formats {l : Launch} {D : va_G} {I : ClassId × ClassId × ClassId × ClassId} {ad : Nat → Nat} {q : St} {z : Int32} (h : M_formats q = some z) : Ctr l D I zT 18 (shM I) ad yX11_formats cX11_formats 1 (some .int) rmM_formats [.ref (ad 0)] q (some z) q :=
  ctr_ofI (by decide) (Nat.le_of_ble_eq_true rfl) (fun p e s m args below meth c Q H0 X hX C hret => by subst hX; exact w_M_formats C ⟨rfl, rfl, rfl⟩ hret h)
abbrev rmM_layers : Room := { frames := 0, cells := 0, slots := 0, locals := 0 }
def M_layers (q : St) : Option (Int32) :=
  b1 (rd 172 q 2 (3 : Int32)) fun x1 =>
  some x1
theorem w_M_layers {X : Cv} (C : Cx X cX11_layers RX11 rmM_layers 1) (S : IsM X) {q : St} {z : Int32} (hret : RokI X cX11_layers .int z q) (h : M_layers q = some z) : At X 0 [(0, .ref (adOf X 0))] [] q := by
  unfold M_layers at h
  refine a_aload_n C 0 rfl rfl dX11_layers_0 ?_
  refine gM_setup C S dX11_layers_1 ?_
  refine a_iconst (v := 3) C (by decide) dX11_layers_4 ?_
  obtain ⟨x1, e_x1, h⟩ := b1s h
  refine lM_setup C S e_x1 dX11_layers_5 ?_
  exact a_iretR hret h rfl dX11_layers_6
theorem c_M_layers {l : Launch} {D : va_G} {I : ClassId × ClassId × ClassId × ClassId} {ad : Nat → Nat} {q : St} {z : Int32} (h : M_layers q = some z) : Ctr l D I zT 18 (shM I) ad yX11_layers cX11_layers 1 (some .int) rmM_layers [.ref (ad 0)] q (some z) q :=
  ctr_ofI (by decide) (Nat.le_of_ble_eq_true rfl) (fun p e s m args below meth c Q H0 X hX C hret => by subst hX; exact w_M_layers C ⟨rfl, rfl, rfl⟩ hret h)
abbrev rmM_rate : Room := { frames := 2, cells := 0, slots := 0, locals := 46 }
def M_rate (q : St) (v1 : Int32) (v2 : Int32) : Option (Int32) :=
  b1 (M_isFormat q v1) fun x1 =>
  if x1 = (0 : Int32) then
    some (-1 : Int32)
  else
    b1 (M_isLevel q v2) fun x3 =>
    if x3 = (0 : Int32) then
      some (-1 : Int32)
    else
      b1 (M_rateOf q v1 v2) fun x5 =>
      some x5
theorem w_M_rate {X : Cv} (C : Cx X cX11_rate RX11 rmM_rate 3) (S : IsM X) {q : St} {z : Int32} (hret : RokI X cX11_rate .int z q) (v1 : Int32) (v2 : Int32) (h : M_rate q v1 v2 = some z) : At X 0 [(0, .ref (adOf X 0)), (1, .int v1), (2, .int v2)] [] q := by
  unfold M_rate at h
  refine a_aload_n C 0 rfl rfl dX11_rate_0 ?_
  refine a_iload_n C 1 rfl rfl dX11_rate_1 ?_
  obtain ⟨x1, e_x1, h⟩ := b1s h
  refine k_M_isFormat C S e_x1 ⟨Nat.le_of_ble_eq_true rfl, Nat.le_of_ble_eq_true rfl⟩ (Nat.le_of_ble_eq_true rfl) dX11_rate_2 ?_
  refine a_if_eq C 25 (by decide) dX11_rate_5 (fun c2 => ?_) (fun c2 => ?_)
  · replace h := ifp c2 h
    refine a_iconst (v := -1) C (by decide) dX11_rate_25 ?_
    exact a_iretR hret h rfl dX11_rate_26
  · replace h := ifn c2 h
    refine a_aload_n C 0 rfl rfl dX11_rate_8 ?_
    refine a_iload_n C 2 rfl rfl dX11_rate_9 ?_
    obtain ⟨x3, e_x3, h⟩ := b1s h
    refine k_M_isLevel C S e_x3 ⟨Nat.le_of_ble_eq_true rfl, Nat.le_of_ble_eq_true rfl⟩ (Nat.le_of_ble_eq_true rfl) dX11_rate_10 ?_
    refine a_if_eq C 25 (by decide) dX11_rate_13 (fun c4 => ?_) (fun c4 => ?_)
    · replace h := ifp c4 h
      refine a_iconst (v := -1) C (by decide) dX11_rate_25 ?_
      exact a_iretR hret h rfl dX11_rate_26
    · replace h := ifn c4 h
      refine a_aload_n C 0 rfl rfl dX11_rate_16 ?_
      refine a_iload_n C 1 rfl rfl dX11_rate_17 ?_
      refine a_iload_n C 2 rfl rfl dX11_rate_18 ?_
      obtain ⟨x5, e_x5, h⟩ := b1s h
      refine k_M_rateOf C S e_x5 ⟨Nat.le_of_ble_eq_true rfl, Nat.le_of_ble_eq_true rfl⟩ (Nat.le_of_ble_eq_true rfl) dX11_rate_19 ?_
      refine a_goto C 26 (by decide) dX11_rate_22 ?_
      exact a_iretR hret h rfl dX11_rate_26
theorem c_M_rate {l : Launch} {D : va_G} {I : ClassId × ClassId × ClassId × ClassId} {ad : Nat → Nat} {q : St} {v1 : Int32} {v2 : Int32} {z : Int32} (h : M_rate q v1 v2 = some z) : Ctr l D I zT 18 (shM I) ad yX11_rate cX11_rate 3 (some .int) rmM_rate [.ref (ad 0), .int v1, .int v2] q (some z) q :=
  ctr_ofI (by decide) (Nat.le_of_ble_eq_true rfl) (fun p e s m args below meth c Q H0 X hX C hret => by subst hX; exact w_M_rate C ⟨rfl, rfl, rfl⟩ hret _ _ h)
abbrev rmM_linkBetween : Room := { frames := 2, cells := 0, slots := 0, locals := 46 }
def M_linkBetween (q : St) (v1 : Int32) (v2 : Int32) : Option (Int32) :=
  b1 (M_isNode q v1) fun x1 =>
  if x1 = (0 : Int32) then
    some (-1 : Int32)
  else
    b1 (M_isNode q v2) fun x3 =>
    if x3 = (0 : Int32) then
      some (-1 : Int32)
    else
      b1 (M_linkAt q v1 v2) fun x5 =>
      some x5
theorem w_M_linkBetween {X : Cv} (C : Cx X cX11_linkBetween RX11 rmM_linkBetween 3) (S : IsM X) {q : St} {z : Int32} (hret : RokI X cX11_linkBetween .int z q) (v1 : Int32) (v2 : Int32) (h : M_linkBetween q v1 v2 = some z) : At X 0 [(0, .ref (adOf X 0)), (1, .int v1), (2, .int v2)] [] q := by
  unfold M_linkBetween at h
  refine a_aload_n C 0 rfl rfl dX11_linkBetween_0 ?_
  refine a_iload_n C 1 rfl rfl dX11_linkBetween_1 ?_
  obtain ⟨x1, e_x1, h⟩ := b1s h
  refine k_M_isNode C S e_x1 ⟨Nat.le_of_ble_eq_true rfl, Nat.le_of_ble_eq_true rfl⟩ (Nat.le_of_ble_eq_true rfl) dX11_linkBetween_2 ?_
  refine a_if_eq C 25 (by decide) dX11_linkBetween_5 (fun c2 => ?_) (fun c2 => ?_)
  · replace h := ifp c2 h
    refine a_iconst (v := -1) C (by decide) dX11_linkBetween_25 ?_
    exact a_iretR hret h rfl dX11_linkBetween_26
  · replace h := ifn c2 h
    refine a_aload_n C 0 rfl rfl dX11_linkBetween_8 ?_
    refine a_iload_n C 2 rfl rfl dX11_linkBetween_9 ?_
    obtain ⟨x3, e_x3, h⟩ := b1s h
    refine k_M_isNode C S e_x3 ⟨Nat.le_of_ble_eq_true rfl, Nat.le_of_ble_eq_true rfl⟩ (Nat.le_of_ble_eq_true rfl) dX11_linkBetween_10 ?_
    refine a_if_eq C 25 (by decide) dX11_linkBetween_13 (fun c4 => ?_) (fun c4 => ?_)
    · replace h := ifp c4 h
      refine a_iconst (v := -1) C (by decide) dX11_linkBetween_25 ?_
      exact a_iretR hret h rfl dX11_linkBetween_26
    · replace h := ifn c4 h
      refine a_aload_n C 0 rfl rfl dX11_linkBetween_16 ?_
      refine a_iload_n C 1 rfl rfl dX11_linkBetween_17 ?_
      refine a_iload_n C 2 rfl rfl dX11_linkBetween_18 ?_
      obtain ⟨x5, e_x5, h⟩ := b1s h
      refine k_M_linkAt C S e_x5 ⟨Nat.le_of_ble_eq_true rfl, Nat.le_of_ble_eq_true rfl⟩ (Nat.le_of_ble_eq_true rfl) dX11_linkBetween_19 ?_
      refine a_goto C 26 (by decide) dX11_linkBetween_22 ?_
      exact a_iretR hret h rfl dX11_linkBetween_26
theorem c_M_linkBetween {l : Launch} {D : va_G} {I : ClassId × ClassId × ClassId × ClassId} {ad : Nat → Nat} {q : St} {v1 : Int32} {v2 : Int32} {z : Int32} (h : M_linkBetween q v1 v2 = some z) : Ctr l D I zT 18 (shM I) ad yX11_linkBetween cX11_linkBetween 3 (some .int) rmM_linkBetween [.ref (ad 0), .int v1, .int v2] q (some z) q :=
  ctr_ofI (by decide) (Nat.le_of_ble_eq_true rfl) (fun p e s m args below meth c Q H0 X hX C hret => by subst hX; exact w_M_linkBetween C ⟨rfl, rfl, rfl⟩ hret _ _ h)
abbrev rmM_capacity : Room := { frames := 2, cells := 0, slots := 0, locals := 46 }
def M_capacity (q : St) (v1 : Int32) : Option (Int32) :=
  b1 (M_isLink q v1) fun x1 =>
  if x1 = (0 : Int32) then
    some (-1 : Int32)
  else
    b1 (rd 202 q 4 ((0 : Int32) + v1)) fun x3 =>
    some x3
theorem w_M_capacity {X : Cv} (C : Cx X cX11_capacity RX11 rmM_capacity 2) (S : IsM X) {q : St} {z : Int32} (hret : RokI X cX11_capacity .int z q) (v1 : Int32) (h : M_capacity q v1 = some z) : At X 0 [(0, .ref (adOf X 0)), (1, .int v1)] [] q := by
  unfold M_capacity at h
  refine a_aload_n C 0 rfl rfl dX11_capacity_0 ?_
  refine a_iload_n C 1 rfl rfl dX11_capacity_1 ?_
  obtain ⟨x1, e_x1, h⟩ := b1s h
  refine k_M_isLink C S e_x1 ⟨Nat.le_of_ble_eq_true rfl, Nat.le_of_ble_eq_true rfl⟩ (Nat.le_of_ble_eq_true rfl) dX11_capacity_2 ?_
  refine a_if_eq C 19 (by decide) dX11_capacity_5 (fun c2 => ?_) (fun c2 => ?_)
  · replace h := ifp c2 h
    refine a_iconst (v := -1) C (by decide) dX11_capacity_19 ?_
    exact a_iretR hret h rfl dX11_capacity_20
  · replace h := ifn c2 h
    refine a_aload_n C 0 rfl rfl dX11_capacity_8 ?_
    refine gM_world C S dX11_capacity_9 ?_
    refine a_iconst (v := 0) C (by decide) dX11_capacity_12 ?_
    refine a_iload_n C 1 rfl rfl dX11_capacity_13 ?_
    refine a_iadd C dX11_capacity_14 ?_
    obtain ⟨x3, e_x3, h⟩ := b1s h
    refine lM_world C S e_x3 dX11_capacity_15 ?_
    refine a_goto C 20 (by decide) dX11_capacity_16 ?_
    exact a_iretR hret h rfl dX11_capacity_20
theorem c_M_capacity {l : Launch} {D : va_G} {I : ClassId × ClassId × ClassId × ClassId} {ad : Nat → Nat} {q : St} {v1 : Int32} {z : Int32} (h : M_capacity q v1 = some z) : Ctr l D I zT 18 (shM I) ad yX11_capacity cX11_capacity 2 (some .int) rmM_capacity [.ref (ad 0), .int v1] q (some z) q :=
  ctr_ofI (by decide) (Nat.le_of_ble_eq_true rfl) (fun p e s m args below meth c Q H0 X hX C hret => by subst hX; exact w_M_capacity C ⟨rfl, rfl, rfl⟩ hret _ h)
abbrev rmM_isOpen : Room := { frames := 2, cells := 0, slots := 0, locals := 46 }
def M_isOpen (q : St) (v1 : Int32) : Option (Int32) :=
  b1 (M_isLink q v1) fun x1 =>
  if x1 = (0 : Int32) then
    some (0 : Int32)
  else
    b1 (rd 202 q 4 ((32 : Int32) + v1)) fun x3 =>
    if x3 = (1 : Int32) then
      some (1 : Int32)
    else
      some (0 : Int32)
theorem w_M_isOpen {X : Cv} (C : Cx X cX11_isOpen RX11 rmM_isOpen 2) (S : IsM X) {q : St} {z : Int32} (hret : RokI X cX11_isOpen .boolean z q) (v1 : Int32) (h : M_isOpen q v1 = some z) : At X 0 [(0, .ref (adOf X 0)), (1, .int v1)] [] q := by
  unfold M_isOpen at h
  refine a_aload_n C 0 rfl rfl dX11_isOpen_0 ?_
  refine a_iload_n C 1 rfl rfl dX11_isOpen_1 ?_
  obtain ⟨x1, e_x1, h⟩ := b1s h
  refine k_M_isLink C S e_x1 ⟨Nat.le_of_ble_eq_true rfl, Nat.le_of_ble_eq_true rfl⟩ (Nat.le_of_ble_eq_true rfl) dX11_isOpen_2 ?_
  refine a_if_eq C 25 (by decide) dX11_isOpen_5 (fun c2 => ?_) (fun c2 => ?_)
  · replace h := ifp c2 h
    refine a_iconst (v := 0) C (by decide) dX11_isOpen_25 ?_
    exact a_iretR hret h rfl dX11_isOpen_26
  · replace h := ifn c2 h
    refine a_aload_n C 0 rfl rfl dX11_isOpen_8 ?_
    refine gM_world C S dX11_isOpen_9 ?_
    refine a_bipush (v := 32) C (by decide) dX11_isOpen_12 ?_
    refine a_iload_n C 1 rfl rfl dX11_isOpen_14 ?_
    refine a_iadd C dX11_isOpen_15 ?_
    obtain ⟨x3, e_x3, h⟩ := b1s h
    refine lM_world C S e_x3 dX11_isOpen_16 ?_
    refine a_iconst (v := 1) C (by decide) dX11_isOpen_17 ?_
    refine a_icmp_ne C 25 (by decide) dX11_isOpen_18 (fun c4 => ?_) (fun c4 => ?_)
    · replace h := ifn c4 h
      refine a_iconst (v := 0) C (by decide) dX11_isOpen_25 ?_
      exact a_iretR hret h rfl dX11_isOpen_26
    · replace h := ifp c4 h
      refine a_iconst (v := 1) C (by decide) dX11_isOpen_21 ?_
      refine a_goto C 26 (by decide) dX11_isOpen_22 ?_
      exact a_iretR hret h rfl dX11_isOpen_26
theorem c_M_isOpen {l : Launch} {D : va_G} {I : ClassId × ClassId × ClassId × ClassId} {ad : Nat → Nat} {q : St} {v1 : Int32} {z : Int32} (h : M_isOpen q v1 = some z) : Ctr l D I zT 18 (shM I) ad yX11_isOpen cX11_isOpen 2 (some .boolean) rmM_isOpen [.ref (ad 0), .int v1] q (some z) q :=
  ctr_ofI (by decide) (Nat.le_of_ble_eq_true rfl) (fun p e s m args below meth c Q H0 X hX C hret => by subst hX; exact w_M_isOpen C ⟨rfl, rfl, rfl⟩ hret _ h)
abbrev rmM_receivers : Room := { frames := 0, cells := 0, slots := 0, locals := 0 }
def M_receivers (q : St) : Option (Int32) :=
  b1 (rd 202 q 4 (96 : Int32)) fun x1 =>
  some x1
theorem w_M_receivers {X : Cv} (C : Cx X cX11_receivers RX11 rmM_receivers 1) (S : IsM X) {q : St} {z : Int32} (hret : RokI X cX11_receivers .int z q) (h : M_receivers q = some z) : At X 0 [(0, .ref (adOf X 0))] [] q := by
  unfold M_receivers at h
  refine a_aload_n C 0 rfl rfl dX11_receivers_0 ?_
  refine gM_world C S dX11_receivers_1 ?_
  refine a_bipush (v := 96) C (by decide) dX11_receivers_4 ?_
  obtain ⟨x1, e_x1, h⟩ := b1s h
  refine lM_world C S e_x1 dX11_receivers_6 ?_
  exact a_iretR hret h rfl dX11_receivers_7
theorem c_M_receivers {l : Launch} {D : va_G} {I : ClassId × ClassId × ClassId × ClassId} {ad : Nat → Nat} {q : St} {z : Int32} (h : M_receivers q = some z) : Ctr l D I zT 18 (shM I) ad yX11_receivers cX11_receivers 1 (some .int) rmM_receivers [.ref (ad 0)] q (some z) q :=
  ctr_ofI (by decide) (Nat.le_of_ble_eq_true rfl) (fun p e s m args below meth c Q H0 X hX C hret => by subst hX; exact w_M_receivers C ⟨rfl, rfl, rfl⟩ hret h)
abbrev rmM_hasLeft : Room := { frames := 1, cells := 0, slots := 0, locals := 25 }
def M_hasLeft (q : St) (v1 : Int32) : Option (Int32) :=
  b1 (rd 202 q 4 (96 : Int32)) fun x1 =>
  b1 (M_in q v1.toInt64 (0 : Int64) ((x1 - (1 : Int32))).toInt64) fun x2 =>
  if x2 = (0 : Int32) then
    some (0 : Int32)
  else
    b1 (M_of q v1 (4 : Int32)) fun x4 =>
    if x4 = (1 : Int32) then
      some (1 : Int32)
    else
      some (0 : Int32)
theorem w_M_hasLeft {X : Cv} (C : Cx X cX11_hasLeft RX11 rmM_hasLeft 2) (S : IsM X) {q : St} {z : Int32} (hret : RokI X cX11_hasLeft .boolean z q) (v1 : Int32) (h : M_hasLeft q v1 = some z) : At X 0 [(0, .ref (adOf X 0)), (1, .int v1)] [] q := by
  unfold M_hasLeft at h
  refine a_iload_n C 1 rfl rfl dX11_hasLeft_0 ?_
  refine a_i2l C dX11_hasLeft_1 ?_
  refine a_lconst (v := 0) C (by decide) dX11_hasLeft_2 ?_
  refine a_aload_n C 0 rfl rfl dX11_hasLeft_3 ?_
  refine gM_world C S dX11_hasLeft_4 ?_
  refine a_bipush (v := 96) C (by decide) dX11_hasLeft_7 ?_
  obtain ⟨x1, e_x1, h⟩ := b1s h
  refine lM_world C S e_x1 dX11_hasLeft_9 ?_
  refine a_iconst (v := 1) C (by decide) dX11_hasLeft_10 ?_
  refine a_isub C dX11_hasLeft_11 ?_
  refine a_i2l C dX11_hasLeft_12 ?_
  obtain ⟨x2, e_x2, h⟩ := b1s h
  refine k_M_in C S e_x2 ⟨Nat.le_of_ble_eq_true rfl, Nat.le_of_ble_eq_true rfl⟩ (Nat.le_of_ble_eq_true rfl) dX11_hasLeft_13 ?_
  refine a_if_eq C 33 (by decide) dX11_hasLeft_16 (fun c3 => ?_) (fun c3 => ?_)
  · replace h := ifp c3 h
    refine a_iconst (v := 0) C (by decide) dX11_hasLeft_33 ?_
    exact a_iretR hret h rfl dX11_hasLeft_34
  · replace h := ifn c3 h
    refine a_aload_n C 0 rfl rfl dX11_hasLeft_19 ?_
    refine a_iload_n C 1 rfl rfl dX11_hasLeft_20 ?_
    refine a_iconst (v := 4) C (by decide) dX11_hasLeft_21 ?_
    obtain ⟨x4, e_x4, h⟩ := b1s h
    refine k_M_of C S e_x4 ⟨Nat.le_of_ble_eq_true rfl, Nat.le_of_ble_eq_true rfl⟩ (Nat.le_of_ble_eq_true rfl) dX11_hasLeft_22 ?_
    refine a_iconst (v := 1) C (by decide) dX11_hasLeft_25 ?_
    refine a_icmp_ne C 33 (by decide) dX11_hasLeft_26 (fun c5 => ?_) (fun c5 => ?_)
    · replace h := ifn c5 h
      refine a_iconst (v := 0) C (by decide) dX11_hasLeft_33 ?_
      exact a_iretR hret h rfl dX11_hasLeft_34
    · replace h := ifp c5 h
      refine a_iconst (v := 1) C (by decide) dX11_hasLeft_29 ?_
      refine a_goto C 34 (by decide) dX11_hasLeft_30 ?_
      exact a_iretR hret h rfl dX11_hasLeft_34
theorem c_M_hasLeft {l : Launch} {D : va_G} {I : ClassId × ClassId × ClassId × ClassId} {ad : Nat → Nat} {q : St} {v1 : Int32} {z : Int32} (h : M_hasLeft q v1 = some z) : Ctr l D I zT 18 (shM I) ad yX11_hasLeft cX11_hasLeft 2 (some .boolean) rmM_hasLeft [.ref (ad 0), .int v1] q (some z) q :=
  ctr_ofI (by decide) (Nat.le_of_ble_eq_true rfl) (fun p e s m args below meth c Q H0 X hX C hret => by subst hX; exact w_M_hasLeft C ⟨rfl, rfl, rfl⟩ hret _ h)
abbrev rmM_level : Room := { frames := 1, cells := 0, slots := 0, locals := 25 }
def M_level (q : St) (v1 : Int32) : Option (Int32) :=
  b1 (rd 202 q 4 (96 : Int32)) fun x1 =>
  b1 (M_in q v1.toInt64 (0 : Int64) ((x1 - (1 : Int32))).toInt64) fun x2 =>
  if x2 = (0 : Int32) then
    some (-1 : Int32)
  else
    b1 (M_of q v1 (3 : Int32)) fun x4 =>
    some x4
theorem w_M_level {X : Cv} (C : Cx X cX11_level RX11 rmM_level 2) (S : IsM X) {q : St} {z : Int32} (hret : RokI X cX11_level .int z q) (v1 : Int32) (h : M_level q v1 = some z) : At X 0 [(0, .ref (adOf X 0)), (1, .int v1)] [] q := by
  unfold M_level at h
  refine a_iload_n C 1 rfl rfl dX11_level_0 ?_
  refine a_i2l C dX11_level_1 ?_
  refine a_lconst (v := 0) C (by decide) dX11_level_2 ?_
  refine a_aload_n C 0 rfl rfl dX11_level_3 ?_
  refine gM_world C S dX11_level_4 ?_
  refine a_bipush (v := 96) C (by decide) dX11_level_7 ?_
  obtain ⟨x1, e_x1, h⟩ := b1s h
  refine lM_world C S e_x1 dX11_level_9 ?_
  refine a_iconst (v := 1) C (by decide) dX11_level_10 ?_
  refine a_isub C dX11_level_11 ?_
  refine a_i2l C dX11_level_12 ?_
  obtain ⟨x2, e_x2, h⟩ := b1s h
  refine k_M_in C S e_x2 ⟨Nat.le_of_ble_eq_true rfl, Nat.le_of_ble_eq_true rfl⟩ (Nat.le_of_ble_eq_true rfl) dX11_level_13 ?_
  refine a_if_eq C 28 (by decide) dX11_level_16 (fun c3 => ?_) (fun c3 => ?_)
  · replace h := ifp c3 h
    refine a_iconst (v := -1) C (by decide) dX11_level_28 ?_
    exact a_iretR hret h rfl dX11_level_29
  · replace h := ifn c3 h
    refine a_aload_n C 0 rfl rfl dX11_level_19 ?_
    refine a_iload_n C 1 rfl rfl dX11_level_20 ?_
    refine a_iconst (v := 3) C (by decide) dX11_level_21 ?_
    obtain ⟨x4, e_x4, h⟩ := b1s h
    refine k_M_of C S e_x4 ⟨Nat.le_of_ble_eq_true rfl, Nat.le_of_ble_eq_true rfl⟩ (Nat.le_of_ble_eq_true rfl) dX11_level_22 ?_
    refine a_goto C 29 (by decide) dX11_level_25 ?_
    exact a_iretR hret h rfl dX11_level_29
theorem c_M_level {l : Launch} {D : va_G} {I : ClassId × ClassId × ClassId × ClassId} {ad : Nat → Nat} {q : St} {v1 : Int32} {z : Int32} (h : M_level q v1 = some z) : Ctr l D I zT 18 (shM I) ad yX11_level cX11_level 2 (some .int) rmM_level [.ref (ad 0), .int v1] q (some z) q :=
  ctr_ofI (by decide) (Nat.le_of_ble_eq_true rfl) (fun p e s m args below meth c Q H0 X hX C hret => by subst hX; exact w_M_level C ⟨rfl, rfl, rfl⟩ hret _ h)
abbrev rmM_wanted : Room := { frames := 2, cells := 0, slots := 0, locals := 46 }
def M_wanted (q : St) (v1 : Int32) : Option (Int32) :=
  b1 (M_isReceiver q v1) fun x1 =>
  if x1 = (0 : Int32) then
    some (-1 : Int32)
  else
    b1 (M_of q v1 (2 : Int32)) fun x3 =>
    some x3
theorem w_M_wanted {X : Cv} (C : Cx X cX11_wanted RX11 rmM_wanted 2) (S : IsM X) {q : St} {z : Int32} (hret : RokI X cX11_wanted .int z q) (v1 : Int32) (h : M_wanted q v1 = some z) : At X 0 [(0, .ref (adOf X 0)), (1, .int v1)] [] q := by
  unfold M_wanted at h
  refine a_aload_n C 0 rfl rfl dX11_wanted_0 ?_
  refine a_iload_n C 1 rfl rfl dX11_wanted_1 ?_
  obtain ⟨x1, e_x1, h⟩ := b1s h
  refine k_M_isReceiver C S e_x1 ⟨Nat.le_of_ble_eq_true rfl, Nat.le_of_ble_eq_true rfl⟩ (Nat.le_of_ble_eq_true rfl) dX11_wanted_2 ?_
  refine a_if_eq C 17 (by decide) dX11_wanted_5 (fun c2 => ?_) (fun c2 => ?_)
  · replace h := ifp c2 h
    refine a_iconst (v := -1) C (by decide) dX11_wanted_17 ?_
    exact a_iretR hret h rfl dX11_wanted_18
  · replace h := ifn c2 h
    refine a_aload_n C 0 rfl rfl dX11_wanted_8 ?_
    refine a_iload_n C 1 rfl rfl dX11_wanted_9 ?_
    refine a_iconst (v := 2) C (by decide) dX11_wanted_10 ?_
    obtain ⟨x3, e_x3, h⟩ := b1s h
    refine k_M_of C S e_x3 ⟨Nat.le_of_ble_eq_true rfl, Nat.le_of_ble_eq_true rfl⟩ (Nat.le_of_ble_eq_true rfl) dX11_wanted_11 ?_
    refine a_goto C 18 (by decide) dX11_wanted_14 ?_
    exact a_iretR hret h rfl dX11_wanted_18
theorem c_M_wanted {l : Launch} {D : va_G} {I : ClassId × ClassId × ClassId × ClassId} {ad : Nat → Nat} {q : St} {v1 : Int32} {z : Int32} (h : M_wanted q v1 = some z) : Ctr l D I zT 18 (shM I) ad yX11_wanted cX11_wanted 2 (some .int) rmM_wanted [.ref (ad 0), .int v1] q (some z) q :=
  ctr_ofI (by decide) (Nat.le_of_ble_eq_true rfl) (fun p e s m args below meth c Q H0 X hX C hret => by subst hX; exact w_M_wanted C ⟨rfl, rfl, rfl⟩ hret _ h)
abbrev rmM_servedAt : Room := { frames := 2, cells := 0, slots := 0, locals := 46 }
def M_servedAt (q : St) (v1 : Int32) : Option (Int32) :=
  b1 (M_isReceiver q v1) fun x1 =>
  if x1 = (0 : Int32) then
    some (-1 : Int32)
  else
    b1 (M_servedBy q v1) fun x3 =>
    some x3
theorem w_M_servedAt {X : Cv} (C : Cx X cX11_servedAt RX11 rmM_servedAt 2) (S : IsM X) {q : St} {z : Int32} (hret : RokI X cX11_servedAt .int z q) (v1 : Int32) (h : M_servedAt q v1 = some z) : At X 0 [(0, .ref (adOf X 0)), (1, .int v1)] [] q := by
  unfold M_servedAt at h
  refine a_aload_n C 0 rfl rfl dX11_servedAt_0 ?_
  refine a_iload_n C 1 rfl rfl dX11_servedAt_1 ?_
  obtain ⟨x1, e_x1, h⟩ := b1s h
  refine k_M_isReceiver C S e_x1 ⟨Nat.le_of_ble_eq_true rfl, Nat.le_of_ble_eq_true rfl⟩ (Nat.le_of_ble_eq_true rfl) dX11_servedAt_2 ?_
  refine a_if_eq C 16 (by decide) dX11_servedAt_5 (fun c2 => ?_) (fun c2 => ?_)
  · replace h := ifp c2 h
    refine a_iconst (v := -1) C (by decide) dX11_servedAt_16 ?_
    exact a_iretR hret h rfl dX11_servedAt_17
  · replace h := ifn c2 h
    refine a_aload_n C 0 rfl rfl dX11_servedAt_8 ?_
    refine a_iload_n C 1 rfl rfl dX11_servedAt_9 ?_
    obtain ⟨x3, e_x3, h⟩ := b1s h
    refine k_M_servedBy C S e_x3 ⟨Nat.le_of_ble_eq_true rfl, Nat.le_of_ble_eq_true rfl⟩ (Nat.le_of_ble_eq_true rfl) dX11_servedAt_10 ?_
    refine a_goto C 17 (by decide) dX11_servedAt_13 ?_
    exact a_iretR hret h rfl dX11_servedAt_17
theorem c_M_servedAt {l : Launch} {D : va_G} {I : ClassId × ClassId × ClassId × ClassId} {ad : Nat → Nat} {q : St} {v1 : Int32} {z : Int32} (h : M_servedAt q v1 = some z) : Ctr l D I zT 18 (shM I) ad yX11_servedAt cX11_servedAt 2 (some .int) rmM_servedAt [.ref (ad 0), .int v1] q (some z) q :=
  ctr_ofI (by decide) (Nat.le_of_ble_eq_true rfl) (fun p e s m args below meth c Q H0 X hX C hret => by subst hX; exact w_M_servedAt C ⟨rfl, rfl, rfl⟩ hret _ h)
abbrev rmM_pathNode : Room := { frames := 2, cells := 0, slots := 0, locals := 46 }
def M_pathNode_B50 (q : St) (rec : Int32 → Int32 → Int32 → Option (Int32)) (v2 : Int32) (v3 : Int32) (v4 : Int32) : Option (Int32) :=
  if v2 ≤ v4 then
    some v3
  else
    b1 (M_up q v3) fun x11 =>
    rec v2 x11 (v4 + 1)
theorem w_M_pathNode_B50 {X : Cv} (C : Cx X cX11_pathNode RX11 rmM_pathNode 5) (S : IsM X) (q : St) {z : Int32} (hret : RokI X cX11_pathNode .int z q) (rec : Int32 → Int32 → Int32 → Option (Int32)) (hrec : ∀ (v2 : Int32) (v3 : Int32) (v4 : Int32), rec v2 v3 v4 = some z → At X 50 [(0, .ref (adOf X 0)), (2, .int v2), (3, .int v3), (4, .int v4)] [] q) (v2 : Int32) (v3 : Int32) (v4 : Int32) (h : M_pathNode_B50 q rec v2 v3 v4 = some z) : At X 50 [(0, .ref (adOf X 0)), (2, .int v2), (3, .int v3), (4, .int v4)] [] q := by
  unfold M_pathNode_B50 at h
  refine a_iload C 3 rfl dX11_pathNode_50 ?_
  refine a_iload_n C 1 rfl rfl dX11_pathNode_52 ?_
  refine a_icmp_ge C 68 (by decide) dX11_pathNode_53 (fun c10 => ?_) (fun c10 => ?_)
  · replace h := ifp c10 h
    refine a_iload_n C 2 rfl rfl dX11_pathNode_68 ?_
    exact a_iretR hret h rfl dX11_pathNode_69
  · replace h := ifn c10 h
    refine a_aload_n C 0 rfl rfl dX11_pathNode_56 ?_
    refine a_iload_n C 2 rfl rfl dX11_pathNode_57 ?_
    obtain ⟨x11, e_x11, h⟩ := b1s h
    refine k_M_up C S e_x11 ⟨Nat.le_of_ble_eq_true rfl, Nat.le_of_ble_eq_true rfl⟩ (Nat.le_of_ble_eq_true rfl) dX11_pathNode_58 ?_
    refine a_istore_n C [(3, .int x11), (0, .ref (adOf X 0)), (2, .int v2), (4, .int v4)] rfl (by decide) rfl dX11_pathNode_61 ?_
    refine a_iinc (v := (v4 + 1)) C [(4, .int (v4 + 1)), (3, .int x11), (0, .ref (adOf X 0)), (2, .int v2)] 3 rfl (congrArg (HAdd.hAdd v4) (by decide : Int32.ofInt (1) = (1 : Int32))) (by decide) rfl dX11_pathNode_62 ?_
    refine a_goto C 50 (by decide) dX11_pathNode_65 ?_
    exact At.sub [2, 3, 1, 0] rfl (hrec _ _ _ h)
def M_pathNode_L50 (q : St) : Nat → Int32 → Int32 → Int32 → Option (Int32)
  | 0, _, _, _ => none
  | n + 1, v2, v3, v4 => M_pathNode_B50 q (M_pathNode_L50 q n) v2 v3 v4
theorem w_M_pathNode_L50 {X : Cv} (C : Cx X cX11_pathNode RX11 rmM_pathNode 5) (S : IsM X) (q : St) {z : Int32} (hret : RokI X cX11_pathNode .int z q) (n : Nat) : ∀ (v2 : Int32) (v3 : Int32) (v4 : Int32), M_pathNode_L50 q n v2 v3 v4 = some z → At X 50 [(0, .ref (adOf X 0)), (2, .int v2), (3, .int v3), (4, .int v4)] [] q := by
  induction n with
  | zero => intro v2 v3 v4 h; cases h
  | succ n ih => intro v2 v3 v4 h; exact w_M_pathNode_B50 C S _ hret _ ih v2 v3 v4 h
def M_pathNode (q : St) (v1 : Int32) (v2 : Int32) : Option (Int32) :=
  b1 (M_isReceiver q v1) fun x1 =>
  if x1 = (0 : Int32) then
    some (-1 : Int32)
  else
    if (0 : Int32) ≤ v2 then
      b1 (M_of q v1 (3 : Int32)) fun x4 =>
      if x4 = (0 : Int32) then
        some (-2 : Int32)
      else
        b1 (M_of q v1 (0 : Int32)) fun x6 =>
        b1 (M_depth q x6) fun x7 =>
        if v2 ≤ x7 then
          b1 (M_of q v1 (0 : Int32)) fun x9 =>
          M_pathNode_L50 q FU v2 x9 (0 : Int32)
        else
          some (-2 : Int32)
    else
      some (-1 : Int32)
theorem w_M_pathNode {X : Cv} (C : Cx X cX11_pathNode RX11 rmM_pathNode 5) (S : IsM X) {q : St} {z : Int32} (hret : RokI X cX11_pathNode .int z q) (v1 : Int32) (v2 : Int32) (h : M_pathNode q v1 v2 = some z) : At X 0 [(0, .ref (adOf X 0)), (1, .int v1), (2, .int v2)] [] q := by
  unfold M_pathNode at h
  refine a_aload_n C 0 rfl rfl dX11_pathNode_0 ?_
  refine a_iload_n C 1 rfl rfl dX11_pathNode_1 ?_
  obtain ⟨x1, e_x1, h⟩ := b1s h
  refine k_M_isReceiver C S e_x1 ⟨Nat.le_of_ble_eq_true rfl, Nat.le_of_ble_eq_true rfl⟩ (Nat.le_of_ble_eq_true rfl) dX11_pathNode_2 ?_
  refine a_if_eq C 12 (by decide) dX11_pathNode_5 (fun c2 => ?_) (fun c2 => ?_)
  · replace h := ifp c2 h
    refine a_iconst (v := -1) C (by decide) dX11_pathNode_12 ?_
    exact a_iretR hret h rfl dX11_pathNode_13
  · replace h := ifn c2 h
    refine a_iload_n C 2 rfl rfl dX11_pathNode_8 ?_
    refine a_if_ge C 14 (by decide) dX11_pathNode_9 (fun c3 => ?_) (fun c3 => ?_)
    · replace h := ifp c3 h
      refine a_aload_n C 0 rfl rfl dX11_pathNode_14 ?_
      refine a_iload_n C 1 rfl rfl dX11_pathNode_15 ?_
      refine a_iconst (v := 3) C (by decide) dX11_pathNode_16 ?_
      obtain ⟨x4, e_x4, h⟩ := b1s h
      refine k_M_of C S e_x4 ⟨Nat.le_of_ble_eq_true rfl, Nat.le_of_ble_eq_true rfl⟩ (Nat.le_of_ble_eq_true rfl) dX11_pathNode_17 ?_
      refine a_if_eq C 37 (by decide) dX11_pathNode_20 (fun c5 => ?_) (fun c5 => ?_)
      · replace h := ifp c5 h
        refine a_bipush (v := -2) C (by decide) dX11_pathNode_37 ?_
        exact a_iretR hret h rfl dX11_pathNode_39
      · replace h := ifn c5 h
        refine a_iload_n C 2 rfl rfl dX11_pathNode_23 ?_
        refine a_aload_n C 0 rfl rfl dX11_pathNode_24 ?_
        refine a_aload_n C 0 rfl rfl dX11_pathNode_25 ?_
        refine a_iload_n C 1 rfl rfl dX11_pathNode_26 ?_
        refine a_iconst (v := 0) C (by decide) dX11_pathNode_27 ?_
        obtain ⟨x6, e_x6, h⟩ := b1s h
        refine k_M_of C S e_x6 ⟨Nat.le_of_ble_eq_true rfl, Nat.le_of_ble_eq_true rfl⟩ (Nat.le_of_ble_eq_true rfl) dX11_pathNode_28 ?_
        obtain ⟨x7, e_x7, h⟩ := b1s h
        refine k_M_depth C S e_x7 ⟨Nat.le_of_ble_eq_true rfl, Nat.le_of_ble_eq_true rfl⟩ (Nat.le_of_ble_eq_true rfl) dX11_pathNode_31 ?_
        refine a_icmp_le C 40 (by decide) dX11_pathNode_34 (fun c8 => ?_) (fun c8 => ?_)
        · replace h := ifp c8 h
          refine a_aload_n C 0 rfl rfl dX11_pathNode_40 ?_
          refine a_iload_n C 1 rfl rfl dX11_pathNode_41 ?_
          refine a_iconst (v := 0) C (by decide) dX11_pathNode_42 ?_
          obtain ⟨x9, e_x9, h⟩ := b1s h
          refine k_M_of C S e_x9 ⟨Nat.le_of_ble_eq_true rfl, Nat.le_of_ble_eq_true rfl⟩ (Nat.le_of_ble_eq_true rfl) dX11_pathNode_43 ?_
          refine a_istore_n C [(3, .int x9), (0, .ref (adOf X 0)), (1, .int v1), (2, .int v2)] rfl (by decide) rfl dX11_pathNode_46 ?_
          refine a_iconst (v := 0) C (by decide) dX11_pathNode_47 ?_
          refine a_istore C [(4, .int (0 : Int32)), (3, .int x9), (0, .ref (adOf X 0)), (1, .int v1), (2, .int v2)] (by decide) rfl dX11_pathNode_48 ?_
          exact At.sub [2, 4, 1, 0] rfl (w_M_pathNode_L50 C S _ hret _ _ _ _ h)
        · replace h := ifn c8 h
          refine a_bipush (v := -2) C (by decide) dX11_pathNode_37 ?_
          exact a_iretR hret h rfl dX11_pathNode_39
    · replace h := ifn c3 h
      refine a_iconst (v := -1) C (by decide) dX11_pathNode_12 ?_
      exact a_iretR hret h rfl dX11_pathNode_13
theorem c_M_pathNode {l : Launch} {D : va_G} {I : ClassId × ClassId × ClassId × ClassId} {ad : Nat → Nat} {q : St} {v1 : Int32} {v2 : Int32} {z : Int32} (h : M_pathNode q v1 v2 = some z) : Ctr l D I zT 18 (shM I) ad yX11_pathNode cX11_pathNode 5 (some .int) rmM_pathNode [.ref (ad 0), .int v1, .int v2] q (some z) q :=
  ctr_ofI (by decide) (Nat.le_of_ble_eq_true rfl) (fun p e s m args below meth c Q H0 X hX C hret => by subst hX; exact w_M_pathNode C ⟨rfl, rfl, rfl⟩ hret _ _ h)
abbrev rmM_bottleneck : Room := { frames := 4, cells := 0, slots := 0, locals := 91 }
def M_bottleneck_B19 (q : St) (rec : Int32 → Int32 → Int32 → Option (Int32 × St)) (v1 : Int32) (v2 : Int32) (v3 : Int32) : Option (Int32 × St) :=
  b1 (rd 172 q 2 (1 : Int32)) fun x4 =>
  if x4 ≤ v3 then
    some (v2, q)
  else
    b1 (M_isOver q v1 v3) fun x6 =>
    if x6 = (0 : Int32) then
      rec v1 v2 (v3 + 1)
    else
      if v2 < (0 : Int32) then
        rec v1 v3 (v3 + 1)
      else
        b1 (rd 202 q 4 ((0 : Int32) + v3)) fun x9 =>
        b1 (rd 32 q 9 v3) fun x10 =>
        b1 (rd 202 q 4 ((0 : Int32) + v2)) fun x11 =>
        b1 (rd 32 q 9 v2) fun x12 =>
        if (x11 - x12) ≤ (x9 - x10) then
          rec v1 v2 (v3 + 1)
        else
          rec v1 v3 (v3 + 1)
theorem w_M_bottleneck_B19 {X : Cv} (C : Cx X cX11_bottleneck RX11 rmM_bottleneck 4) (S : IsM X) (q : St) {z : Int32 × St} (hret : RokI X cX11_bottleneck .int z.1 z.2) (rec : Int32 → Int32 → Int32 → Option (Int32 × St)) (hrec : ∀ (v1 : Int32) (v2 : Int32) (v3 : Int32), rec v1 v2 v3 = some z → At X 19 [(0, .ref (adOf X 0)), (1, .int v1), (2, .int v2), (3, .int v3)] [] q) (v1 : Int32) (v2 : Int32) (v3 : Int32) (h : M_bottleneck_B19 q rec v1 v2 v3 = some z) : At X 19 [(0, .ref (adOf X 0)), (1, .int v1), (2, .int v2), (3, .int v3)] [] q := by
  unfold M_bottleneck_B19 at h
  refine a_iload_n C 3 rfl rfl dX11_bottleneck_19 ?_
  refine a_aload_n C 0 rfl rfl dX11_bottleneck_20 ?_
  refine gM_setup C S dX11_bottleneck_21 ?_
  refine a_iconst (v := 1) C (by decide) dX11_bottleneck_24 ?_
  obtain ⟨x4, e_x4, h⟩ := b1s h
  refine lM_setup C S e_x4 dX11_bottleneck_25 ?_
  refine a_icmp_ge C 83 (by decide) dX11_bottleneck_26 (fun c5 => ?_) (fun c5 => ?_)
  · replace h := ifp c5 h
    refine a_iload_n C 2 rfl rfl dX11_bottleneck_83 ?_
    exact a_iret hret h rfl dX11_bottleneck_84
  · replace h := ifn c5 h
    refine a_aload_n C 0 rfl rfl dX11_bottleneck_29 ?_
    refine a_iload_n C 1 rfl rfl dX11_bottleneck_30 ?_
    refine a_iload_n C 3 rfl rfl dX11_bottleneck_31 ?_
    obtain ⟨x6, e_x6, h⟩ := b1s h
    refine k_M_isOver C S e_x6 ⟨Nat.le_of_ble_eq_true rfl, Nat.le_of_ble_eq_true rfl⟩ (Nat.le_of_ble_eq_true rfl) dX11_bottleneck_32 ?_
    refine a_if_eq C 77 (by decide) dX11_bottleneck_35 (fun c7 => ?_) (fun c7 => ?_)
    · replace h := ifp c7 h
      refine a_iinc (v := (v3 + 1)) C [(3, .int (v3 + 1)), (0, .ref (adOf X 0)), (1, .int v1), (2, .int v2)] 3 rfl (congrArg (HAdd.hAdd v3) (by decide : Int32.ofInt (1) = (1 : Int32))) (by decide) rfl dX11_bottleneck_77 ?_
      refine a_goto C 19 (by decide) dX11_bottleneck_80 ?_
      exact At.sub [1, 2, 3, 0] rfl (hrec _ _ _ h)
    · replace h := ifn c7 h
      refine a_iload_n C 2 rfl rfl dX11_bottleneck_38 ?_
      refine a_if_lt C 75 (by decide) dX11_bottleneck_39 (fun c8 => ?_) (fun c8 => ?_)
      · replace h := ifp c8 h
        refine a_iload_n C 3 rfl rfl dX11_bottleneck_75 ?_
        refine a_istore_n C [(2, .int v3), (0, .ref (adOf X 0)), (1, .int v1), (3, .int v3)] rfl (by decide) rfl dX11_bottleneck_76 ?_
        refine a_iinc (v := (v3 + 1)) C [(3, .int (v3 + 1)), (2, .int v3), (0, .ref (adOf X 0)), (1, .int v1)] 3 rfl (congrArg (HAdd.hAdd v3) (by decide : Int32.ofInt (1) = (1 : Int32))) (by decide) rfl dX11_bottleneck_77 ?_
        refine a_goto C 19 (by decide) dX11_bottleneck_80 ?_
        exact At.sub [2, 3, 1, 0] rfl (hrec _ _ _ h)
      · replace h := ifn c8 h
        refine a_aload_n C 0 rfl rfl dX11_bottleneck_42 ?_
        refine gM_world C S dX11_bottleneck_43 ?_
        refine a_iconst (v := 0) C (by decide) dX11_bottleneck_46 ?_
        refine a_iload_n C 3 rfl rfl dX11_bottleneck_47 ?_
        refine a_iadd C dX11_bottleneck_48 ?_
        obtain ⟨x9, e_x9, h⟩ := b1s h
        refine lM_world C S e_x9 dX11_bottleneck_49 ?_
        refine a_aload_n C 0 rfl rfl dX11_bottleneck_50 ?_
        refine gM_linkLoads C S dX11_bottleneck_51 ?_
        refine a_iload_n C 3 rfl rfl dX11_bottleneck_54 ?_
        obtain ⟨x10, e_x10, h⟩ := b1s h
        refine lM_linkLoads C S e_x10 dX11_bottleneck_55 ?_
        refine a_isub C dX11_bottleneck_56 ?_
        refine a_aload_n C 0 rfl rfl dX11_bottleneck_57 ?_
        refine gM_world C S dX11_bottleneck_58 ?_
        refine a_iconst (v := 0) C (by decide) dX11_bottleneck_61 ?_
        refine a_iload_n C 2 rfl rfl dX11_bottleneck_62 ?_
        refine a_iadd C dX11_bottleneck_63 ?_
        obtain ⟨x11, e_x11, h⟩ := b1s h
        refine lM_world C S e_x11 dX11_bottleneck_64 ?_
        refine a_aload_n C 0 rfl rfl dX11_bottleneck_65 ?_
        refine gM_linkLoads C S dX11_bottleneck_66 ?_
        refine a_iload_n C 2 rfl rfl dX11_bottleneck_69 ?_
        obtain ⟨x12, e_x12, h⟩ := b1s h
        refine lM_linkLoads C S e_x12 dX11_bottleneck_70 ?_
        refine a_isub C dX11_bottleneck_71 ?_
        refine a_icmp_ge C 77 (by decide) dX11_bottleneck_72 (fun c13 => ?_) (fun c13 => ?_)
        · replace h := ifp c13 h
          refine a_iinc (v := (v3 + 1)) C [(3, .int (v3 + 1)), (0, .ref (adOf X 0)), (1, .int v1), (2, .int v2)] 3 rfl (congrArg (HAdd.hAdd v3) (by decide : Int32.ofInt (1) = (1 : Int32))) (by decide) rfl dX11_bottleneck_77 ?_
          refine a_goto C 19 (by decide) dX11_bottleneck_80 ?_
          exact At.sub [1, 2, 3, 0] rfl (hrec _ _ _ h)
        · replace h := ifn c13 h
          refine a_iload_n C 3 rfl rfl dX11_bottleneck_75 ?_
          refine a_istore_n C [(2, .int v3), (0, .ref (adOf X 0)), (1, .int v1), (3, .int v3)] rfl (by decide) rfl dX11_bottleneck_76 ?_
          refine a_iinc (v := (v3 + 1)) C [(3, .int (v3 + 1)), (2, .int v3), (0, .ref (adOf X 0)), (1, .int v1)] 3 rfl (congrArg (HAdd.hAdd v3) (by decide : Int32.ofInt (1) = (1 : Int32))) (by decide) rfl dX11_bottleneck_77 ?_
          refine a_goto C 19 (by decide) dX11_bottleneck_80 ?_
          exact At.sub [2, 3, 1, 0] rfl (hrec _ _ _ h)
def M_bottleneck_L19 (q : St) : Nat → Int32 → Int32 → Int32 → Option (Int32 × St)
  | 0, _, _, _ => none
  | n + 1, v1, v2, v3 => M_bottleneck_B19 q (M_bottleneck_L19 q n) v1 v2 v3
theorem w_M_bottleneck_L19 {X : Cv} (C : Cx X cX11_bottleneck RX11 rmM_bottleneck 4) (S : IsM X) (q : St) {z : Int32 × St} (hret : RokI X cX11_bottleneck .int z.1 z.2) (n : Nat) : ∀ (v1 : Int32) (v2 : Int32) (v3 : Int32), M_bottleneck_L19 q n v1 v2 v3 = some z → At X 19 [(0, .ref (adOf X 0)), (1, .int v1), (2, .int v2), (3, .int v3)] [] q := by
  induction n with
  | zero => intro v1 v2 v3 h; cases h
  | succ n ih => intro v1 v2 v3 h; exact w_M_bottleneck_B19 C S _ hret _ ih v1 v2 v3 h
def M_bottleneck (q : St) (v1 : Int32) : Option (Int32 × St) :=
  b1 (M_isReceiver q v1) fun x1 =>
  if x1 = (0 : Int32) then
    some ((-1 : Int32), q)
  else
    b1 (M_measures q) fun q3 =>
    M_bottleneck_L19 q3 FU v1 (-2 : Int32) (0 : Int32)
theorem w_M_bottleneck {X : Cv} (C : Cx X cX11_bottleneck RX11 rmM_bottleneck 4) (S : IsM X) {z : Int32 × St} (hret : RokI X cX11_bottleneck .int z.1 z.2) (v1 : Int32) (q : St) (h : M_bottleneck q v1 = some z) : At X 0 [(0, .ref (adOf X 0)), (1, .int v1)] [] q := by
  unfold M_bottleneck at h
  refine a_aload_n C 0 rfl rfl dX11_bottleneck_0 ?_
  refine a_iload_n C 1 rfl rfl dX11_bottleneck_1 ?_
  obtain ⟨x1, e_x1, h⟩ := b1s h
  refine k_M_isReceiver C S e_x1 ⟨Nat.le_of_ble_eq_true rfl, Nat.le_of_ble_eq_true rfl⟩ (Nat.le_of_ble_eq_true rfl) dX11_bottleneck_2 ?_
  refine a_if_ne C 10 (by decide) dX11_bottleneck_5 (fun c2 => ?_) (fun c2 => ?_)
  · replace h := ifn c2 h
    refine a_aload_n C 0 rfl rfl dX11_bottleneck_10 ?_
    obtain ⟨q3, e_q3, h⟩ := b1s h
    refine k_M_measures C S e_q3 ⟨Nat.le_of_ble_eq_true rfl, Nat.le_of_ble_eq_true rfl⟩ (Nat.le_of_ble_eq_true rfl) dX11_bottleneck_11 ?_
    refine a_bipush (v := -2) C (by decide) dX11_bottleneck_14 ?_
    refine a_istore_n C [(2, .int (-2 : Int32)), (0, .ref (adOf X 0)), (1, .int v1)] rfl (by decide) rfl dX11_bottleneck_16 ?_
    refine a_iconst (v := 0) C (by decide) dX11_bottleneck_17 ?_
    refine a_istore_n C [(3, .int (0 : Int32)), (2, .int (-2 : Int32)), (0, .ref (adOf X 0)), (1, .int v1)] rfl (by decide) rfl dX11_bottleneck_18 ?_
    exact At.sub [2, 3, 1, 0] rfl (w_M_bottleneck_L19 C S _ hret _ _ _ _ h)
  · replace h := ifp c2 h
    refine a_iconst (v := -1) C (by decide) dX11_bottleneck_8 ?_
    exact a_iret hret h rfl dX11_bottleneck_9
theorem c_M_bottleneck {l : Launch} {D : va_G} {I : ClassId × ClassId × ClassId × ClassId} {ad : Nat → Nat} {q : St} {v1 : Int32} {z : Int32 × St} (h : M_bottleneck q v1 = some z) : Ctr l D I zT 18 (shM I) ad yX11_bottleneck cX11_bottleneck 4 (some .int) rmM_bottleneck [.ref (ad 0), .int v1] q (some z.1) z.2 :=
  ctr_ofI (by decide) (Nat.le_of_ble_eq_true rfl) (fun p e s m args below meth c Q H0 X hX C hret => by subst hX; exact w_M_bottleneck C ⟨rfl, rfl, rfl⟩ hret _ _ h)
abbrev rmM_shared : Room := { frames := 3, cells := 0, slots := 0, locals := 68 }
def M_shared_B23 (q : St) (rec : Int32 → Int32 → Int32 → Int32 → Option (Int32)) (v1 : Int32) (v2 : Int32) (v3 : Int32) (v4 : Int32) : Option (Int32) :=
  b1 (rd 172 q 2 (1 : Int32)) fun x5 =>
  if x5 ≤ v4 then
    some v3
  else
    b1 (M_isOver q v1 v4) fun x7 =>
    if x7 = (0 : Int32) then
      lt_ (v3 + (0 : Int32)) fun w9 =>
      rec v1 v2 w9 (v4 + 1)
    else
      b1 (M_isOver q v2 v4) fun x10 =>
      if x10 = (0 : Int32) then
        lt_ (v3 + (0 : Int32)) fun w12 =>
        rec v1 v2 w12 (v4 + 1)
      else
        lt_ (v3 + (1 : Int32)) fun w13 =>
        rec v1 v2 w13 (v4 + 1)
theorem w_M_shared_B23 {X : Cv} (C : Cx X cX11_shared RX11 rmM_shared 5) (S : IsM X) (q : St) {z : Int32} (hret : RokI X cX11_shared .int z q) (rec : Int32 → Int32 → Int32 → Int32 → Option (Int32)) (hrec : ∀ (v1 : Int32) (v2 : Int32) (v3 : Int32) (v4 : Int32), rec v1 v2 v3 v4 = some z → At X 23 [(0, .ref (adOf X 0)), (1, .int v1), (2, .int v2), (3, .int v3), (4, .int v4)] [] q) (v1 : Int32) (v2 : Int32) (v3 : Int32) (v4 : Int32) (h : M_shared_B23 q rec v1 v2 v3 v4 = some z) : At X 23 [(0, .ref (adOf X 0)), (1, .int v1), (2, .int v2), (3, .int v3), (4, .int v4)] [] q := by
  unfold M_shared_B23 at h
  refine a_iload C 4 rfl dX11_shared_23 ?_
  refine a_aload_n C 0 rfl rfl dX11_shared_25 ?_
  refine gM_setup C S dX11_shared_26 ?_
  refine a_iconst (v := 1) C (by decide) dX11_shared_29 ?_
  obtain ⟨x5, e_x5, h⟩ := b1s h
  refine lM_setup C S e_x5 dX11_shared_30 ?_
  refine a_icmp_ge C 68 (by decide) dX11_shared_31 (fun c6 => ?_) (fun c6 => ?_)
  · replace h := ifp c6 h
    refine a_iload_n C 3 rfl rfl dX11_shared_68 ?_
    exact a_iretR hret h rfl dX11_shared_69
  · replace h := ifn c6 h
    refine a_iload_n C 3 rfl rfl dX11_shared_34 ?_
    refine a_aload_n C 0 rfl rfl dX11_shared_35 ?_
    refine a_iload_n C 1 rfl rfl dX11_shared_36 ?_
    refine a_iload C 4 rfl dX11_shared_37 ?_
    obtain ⟨x7, e_x7, h⟩ := b1s h
    refine k_M_isOver C S e_x7 ⟨Nat.le_of_ble_eq_true rfl, Nat.le_of_ble_eq_true rfl⟩ (Nat.le_of_ble_eq_true rfl) dX11_shared_39 ?_
    refine a_if_eq C 59 (by decide) dX11_shared_42 (fun c8 => ?_) (fun c8 => ?_)
    · replace h := ifp c8 h
      refine a_iconst (v := 0) C (by decide) dX11_shared_59 ?_
      refine a_iadd C dX11_shared_60 ?_
      obtain ⟨w9, e_w9, h⟩ := lts h
      refine a_top e_w9 ?_
      refine a_istore_n C [(3, .int w9), (0, .ref (adOf X 0)), (1, .int v1), (2, .int v2), (4, .int v4)] rfl (by decide) rfl dX11_shared_61 ?_
      refine a_iinc (v := (v4 + 1)) C [(4, .int (v4 + 1)), (3, .int w9), (0, .ref (adOf X 0)), (1, .int v1), (2, .int v2)] 4 rfl (congrArg (HAdd.hAdd v4) (by decide : Int32.ofInt (1) = (1 : Int32))) (by decide) rfl dX11_shared_62 ?_
      refine a_goto C 23 (by decide) dX11_shared_65 ?_
      exact At.sub [2, 3, 4, 1, 0] rfl (hrec _ _ _ _ h)
    · replace h := ifn c8 h
      refine a_aload_n C 0 rfl rfl dX11_shared_45 ?_
      refine a_iload_n C 2 rfl rfl dX11_shared_46 ?_
      refine a_iload C 4 rfl dX11_shared_47 ?_
      obtain ⟨x10, e_x10, h⟩ := b1s h
      refine k_M_isOver C S e_x10 ⟨Nat.le_of_ble_eq_true rfl, Nat.le_of_ble_eq_true rfl⟩ (Nat.le_of_ble_eq_true rfl) dX11_shared_49 ?_
      refine a_if_eq C 59 (by decide) dX11_shared_52 (fun c11 => ?_) (fun c11 => ?_)
      · replace h := ifp c11 h
        refine a_iconst (v := 0) C (by decide) dX11_shared_59 ?_
        refine a_iadd C dX11_shared_60 ?_
        obtain ⟨w12, e_w12, h⟩ := lts h
        refine a_top e_w12 ?_
        refine a_istore_n C [(3, .int w12), (0, .ref (adOf X 0)), (1, .int v1), (2, .int v2), (4, .int v4)] rfl (by decide) rfl dX11_shared_61 ?_
        refine a_iinc (v := (v4 + 1)) C [(4, .int (v4 + 1)), (3, .int w12), (0, .ref (adOf X 0)), (1, .int v1), (2, .int v2)] 4 rfl (congrArg (HAdd.hAdd v4) (by decide : Int32.ofInt (1) = (1 : Int32))) (by decide) rfl dX11_shared_62 ?_
        refine a_goto C 23 (by decide) dX11_shared_65 ?_
        exact At.sub [2, 3, 4, 1, 0] rfl (hrec _ _ _ _ h)
      · replace h := ifn c11 h
        refine a_iconst (v := 1) C (by decide) dX11_shared_55 ?_
        refine a_goto C 60 (by decide) dX11_shared_56 ?_
        refine a_iadd C dX11_shared_60 ?_
        obtain ⟨w13, e_w13, h⟩ := lts h
        refine a_top e_w13 ?_
        refine a_istore_n C [(3, .int w13), (0, .ref (adOf X 0)), (1, .int v1), (2, .int v2), (4, .int v4)] rfl (by decide) rfl dX11_shared_61 ?_
        refine a_iinc (v := (v4 + 1)) C [(4, .int (v4 + 1)), (3, .int w13), (0, .ref (adOf X 0)), (1, .int v1), (2, .int v2)] 4 rfl (congrArg (HAdd.hAdd v4) (by decide : Int32.ofInt (1) = (1 : Int32))) (by decide) rfl dX11_shared_62 ?_
        refine a_goto C 23 (by decide) dX11_shared_65 ?_
        exact At.sub [2, 3, 4, 1, 0] rfl (hrec _ _ _ _ h)
def M_shared_L23 (q : St) : Nat → Int32 → Int32 → Int32 → Int32 → Option (Int32)
  | 0, _, _, _, _ => none
  | n + 1, v1, v2, v3, v4 => M_shared_B23 q (M_shared_L23 q n) v1 v2 v3 v4
theorem w_M_shared_L23 {X : Cv} (C : Cx X cX11_shared RX11 rmM_shared 5) (S : IsM X) (q : St) {z : Int32} (hret : RokI X cX11_shared .int z q) (n : Nat) : ∀ (v1 : Int32) (v2 : Int32) (v3 : Int32) (v4 : Int32), M_shared_L23 q n v1 v2 v3 v4 = some z → At X 23 [(0, .ref (adOf X 0)), (1, .int v1), (2, .int v2), (3, .int v3), (4, .int v4)] [] q := by
  induction n with
  | zero => intro v1 v2 v3 v4 h; cases h
  | succ n ih => intro v1 v2 v3 v4 h; exact w_M_shared_B23 C S _ hret _ ih v1 v2 v3 v4 h
def M_shared (q : St) (v1 : Int32) (v2 : Int32) : Option (Int32) :=
  b1 (M_isReceiver q v1) fun x1 =>
  if x1 = (0 : Int32) then
    some (-1 : Int32)
  else
    b1 (M_isReceiver q v2) fun x3 =>
    if x3 = (0 : Int32) then
      some (-1 : Int32)
    else
      M_shared_L23 q FU v1 v2 (0 : Int32) (0 : Int32)
theorem w_M_shared {X : Cv} (C : Cx X cX11_shared RX11 rmM_shared 5) (S : IsM X) {q : St} {z : Int32} (hret : RokI X cX11_shared .int z q) (v1 : Int32) (v2 : Int32) (h : M_shared q v1 v2 = some z) : At X 0 [(0, .ref (adOf X 0)), (1, .int v1), (2, .int v2)] [] q := by
  unfold M_shared at h
  refine a_aload_n C 0 rfl rfl dX11_shared_0 ?_
  refine a_iload_n C 1 rfl rfl dX11_shared_1 ?_
  obtain ⟨x1, e_x1, h⟩ := b1s h
  refine k_M_isReceiver C S e_x1 ⟨Nat.le_of_ble_eq_true rfl, Nat.le_of_ble_eq_true rfl⟩ (Nat.le_of_ble_eq_true rfl) dX11_shared_2 ?_
  refine a_if_eq C 16 (by decide) dX11_shared_5 (fun c2 => ?_) (fun c2 => ?_)
  · replace h := ifp c2 h
    refine a_iconst (v := -1) C (by decide) dX11_shared_16 ?_
    exact a_iretR hret h rfl dX11_shared_17
  · replace h := ifn c2 h
    refine a_aload_n C 0 rfl rfl dX11_shared_8 ?_
    refine a_iload_n C 2 rfl rfl dX11_shared_9 ?_
    obtain ⟨x3, e_x3, h⟩ := b1s h
    refine k_M_isReceiver C S e_x3 ⟨Nat.le_of_ble_eq_true rfl, Nat.le_of_ble_eq_true rfl⟩ (Nat.le_of_ble_eq_true rfl) dX11_shared_10 ?_
    refine a_if_ne C 18 (by decide) dX11_shared_13 (fun c4 => ?_) (fun c4 => ?_)
    · replace h := ifn c4 h
      refine a_iconst (v := 0) C (by decide) dX11_shared_18 ?_
      refine a_istore_n C [(3, .int (0 : Int32)), (0, .ref (adOf X 0)), (1, .int v1), (2, .int v2)] rfl (by decide) rfl dX11_shared_19 ?_
      refine a_iconst (v := 0) C (by decide) dX11_shared_20 ?_
      refine a_istore C [(4, .int (0 : Int32)), (3, .int (0 : Int32)), (0, .ref (adOf X 0)), (1, .int v1), (2, .int v2)] (by decide) rfl dX11_shared_21 ?_
      exact At.sub [2, 3, 4, 1, 0] rfl (w_M_shared_L23 C S _ hret _ _ _ _ _ h)
    · replace h := ifp c4 h
      refine a_iconst (v := -1) C (by decide) dX11_shared_16 ?_
      exact a_iretR hret h rfl dX11_shared_17
theorem c_M_shared {l : Launch} {D : va_G} {I : ClassId × ClassId × ClassId × ClassId} {ad : Nat → Nat} {q : St} {v1 : Int32} {v2 : Int32} {z : Int32} (h : M_shared q v1 v2 = some z) : Ctr l D I zT 18 (shM I) ad yX11_shared cX11_shared 5 (some .int) rmM_shared [.ref (ad 0), .int v1, .int v2] q (some z) q :=
  ctr_ofI (by decide) (Nat.le_of_ble_eq_true rfl) (fun p e s m args below meth c Q H0 X hX C hret => by subst hX; exact w_M_shared C ⟨rfl, rfl, rfl⟩ hret _ _ h)
