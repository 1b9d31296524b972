abbrev rm_K_shared : Room := { frames := 2, cells := 0, slots := 0, locals := 50 }
def K_shared (q : St) (v1 : Int32) (v2 : Int32) : Option (Int32) :=
  b1 (K_isPresent q v1) fun x1 =>
  if x1 = (0 : Int32) then
    some (-1 : Int32)
  else
    b1 (K_isPresent q v2) fun x3 =>
    if x3 = (0 : Int32) then
      some (-1 : Int32)
    else
      b1 (Sp_pathNodes q v1) fun x5 =>
      b1 (Sp_pathNodes q v2) fun x6 =>
      lt_ (x5 &&& x6) fun w7 =>
      b1 (J_bitCount q (w7 &&& (-2 : Int32))) fun x8 =>
      some x8
theorem w_K_shared {X : Cv} (C : Cx X cX10_shared RX10 rm_K_shared 4) (S : IsK X) {q : St} {z : Int32} (hret : RokI X cX10_shared .int z q) (v1 : Int32) (v2 : Int32) (h : K_shared q v1 v2 = some z) : At X 0 [(0, .ref (adOf X 0)), (1, .int v1), (2, .int v2)] [] q := by
  unfold K_shared at h
  refine a_aload_n C 0 rfl rfl dX10_shared_0 ?_
  refine a_iload_n C 1 rfl rfl dX10_shared_1 ?_
  obtain ⟨x1, e_x1, h⟩ := b1s h
  refine kK_10_181 C S e_x1 ⟨(Nat.le_of_ble_eq_true rfl), (Nat.le_of_ble_eq_true rfl)⟩ (Nat.le_of_ble_eq_true rfl) dX10_shared_2 ?_
  refine a_if_eq C 16 (by decide) dX10_shared_5 (fun c2 => ?_) (fun c2 => ?_)
  · replace h := ifp c2 h
    refine a_iconst (v := -1) C (by decide) dX10_shared_16 ?_
    exact a_iretR hret h rfl dX10_shared_17
  · replace h := ifn c2 h
    refine a_aload_n C 0 rfl rfl dX10_shared_8 ?_
    refine a_iload_n C 2 rfl rfl dX10_shared_9 ?_
    obtain ⟨x3, e_x3, h⟩ := b1s h
    refine kK_10_181 C S e_x3 ⟨(Nat.le_of_ble_eq_true rfl), (Nat.le_of_ble_eq_true rfl)⟩ (Nat.le_of_ble_eq_true rfl) dX10_shared_10 ?_
    refine a_if_ne C 18 (by decide) dX10_shared_13 (fun c4 => ?_) (fun c4 => ?_)
    · replace h := ifn c4 h
      refine a_aload_n C 0 rfl rfl dX10_shared_18 ?_
      refine gK_10_57 C S dX10_shared_19 ?_
      refine a_iload_n C 1 rfl rfl dX10_shared_22 ?_
      obtain ⟨x5, e_x5, h⟩ := b1s h
      refine kK_10_256 C S e_x5 ⟨(Nat.le_of_ble_eq_true rfl), (Nat.le_of_ble_eq_true rfl)⟩ (Nat.le_of_ble_eq_true rfl) dX10_shared_23 ?_
      refine a_aload_n C 0 rfl rfl dX10_shared_26 ?_
      refine gK_10_57 C S dX10_shared_27 ?_
      refine a_iload_n C 2 rfl rfl dX10_shared_30 ?_
      obtain ⟨x6, e_x6, h⟩ := b1s h
      refine kK_10_256 C S e_x6 ⟨(Nat.le_of_ble_eq_true rfl), (Nat.le_of_ble_eq_true rfl)⟩ (Nat.le_of_ble_eq_true rfl) dX10_shared_31 ?_
      refine a_iand C dX10_shared_34 ?_
      obtain ⟨w7, e_w7, h⟩ := lts h
      refine a_top e_w7 ?_
      refine a_istore_n C [(3, .int w7), (0, .ref (adOf X 0)), (1, .int v1), (2, .int v2)] rfl (by decide) rfl dX10_shared_35 ?_
      refine a_iload_n C 0 rfl rfl dX10_shared_36 ?_
      refine a_bipush (v := -2) C (by decide) dX10_shared_37 ?_
      refine a_iand C dX10_shared_39 ?_
      obtain ⟨x8, e_x8, h⟩ := b1s h
      refine k_J_bitCount C e_x8 (tg 1064 (by decide +kernel) rfl) ⟨(Nat.le_of_ble_eq_true rfl), (Nat.le_of_ble_eq_true rfl)⟩ (Nat.le_of_ble_eq_true rfl) dX10_shared_40 ?_
      exact a_iretR hret h rfl dX10_shared_43
    · replace h := ifp c4 h
      refine a_iconst (v := -1) C (by decide) dX10_shared_16 ?_
      exact a_iretR hret h rfl dX10_shared_17
theorem c_K_shared {l : Launch} {D : va_G} {I : ClassId × ClassId × ClassId × ClassId} {ad : Nat → Nat} {q : St} {v1 : Int32} {v2 : Int32} {z : Int32} (h : K_shared q v1 v2 = some z) : Ctr l D I (zK ad) 168 (shK I) ad yX10_shared cX10_shared 4 (some .int) rm_K_shared [.ref (ad 0), .int v1, .int v2] q (some z) q :=
  ctr_ofI (by decide) (Nat.le_of_ble_eq_true rfl) (fun p e s m args below meth c Q H0 X hX C hret => by subst hX; exact w_K_shared C ⟨rfl, rfl, rfl⟩ hret _ _ h)
abbrev rm_K_neediest : Room := { frames := 0, cells := 0, slots := 0, locals := 0 }
def K_neediest_J53 (rec : Int32 → Int32 → Int32 → Option (Int32)) (v1 : Int32) (v2 : Int32) (v3 : Int32) (z0 : Int32) (q : St) : Option (Int32) :=
  if z0 ≤ v2 then
    rec v1 v2 (v3 + 1)
  else
    rec v3 z0 (v3 + 1)
theorem w_K_neediest_J53 {X : Cv} (C : Cx X cX10_neediest RX10 rm_K_neediest 5) (S : IsK X) {q : St} {z : Int32} (hret : RokI X cX10_neediest .int z q) (rec : Int32 → Int32 → Int32 → Option (Int32)) (hrec : ∀ (v1 : Int32) (v2 : Int32) (v3 : Int32), rec v1 v2 v3 = some z → At X 7 [(0, .ref (adOf X 0)), (1, .int v1), (2, .int v2), (3, .int v3)] [] q) (v1 : Int32) (v2 : Int32) (v3 : Int32) (z0 : Int32) (h : K_neediest_J53 rec v1 v2 v3 z0 q = some z) : At X 53 [(0, .ref (adOf X 0)), (1, .int v1), (2, .int v2), (3, .int v3)] [.int z0] q := by
  unfold K_neediest_J53 at h
  refine a_istore C [(4, .int z0), (0, .ref (adOf X 0)), (1, .int v1), (2, .int v2), (3, .int v3)] (by decide) rfl dX10_neediest_53 ?_
  refine a_iload C 0 rfl dX10_neediest_55 ?_
  refine a_iload_n C 3 rfl rfl dX10_neediest_57 ?_
  refine a_icmp_le C 66 (by decide) dX10_neediest_58 (fun c6 => ?_) (fun c6 => ?_)
  · replace h := ifp c6 h
    refine a_iinc (v := (v3 + 1)) C [(3, .int (v3 + 1)), (4, .int z0), (0, .ref (adOf X 0)), (1, .int v1), (2, .int v2)] 4 rfl (congrArg (HAdd.hAdd v3) (by decide : Int32.ofInt (1) = (1 : Int32))) (by decide) rfl dX10_neediest_66 ?_
    refine a_goto C 7 (by decide) dX10_neediest_69 ?_
    exact At.sub [2, 3, 4, 0] rfl (hrec _ _ _ h)
  · replace h := ifn c6 h
    refine a_iload_n C 4 rfl rfl dX10_neediest_61 ?_
    refine a_istore_n C [(1, .int v3), (4, .int z0), (0, .ref (adOf X 0)), (2, .int v2), (3, .int v3)] rfl (by decide) rfl dX10_neediest_62 ?_
    refine a_iload C 1 rfl dX10_neediest_63 ?_
    refine a_istore_n C [(2, .int z0), (1, .int v3), (4, .int z0), (0, .ref (adOf X 0)), (3, .int v3)] rfl (by decide) rfl dX10_neediest_65 ?_
    refine a_iinc (v := (v3 + 1)) C [(3, .int (v3 + 1)), (2, .int z0), (1, .int v3), (4, .int z0), (0, .ref (adOf X 0))] 4 rfl (congrArg (HAdd.hAdd v3) (by decide : Int32.ofInt (1) = (1 : Int32))) (by decide) rfl dX10_neediest_66 ?_
    refine a_goto C 7 (by decide) dX10_neediest_69 ?_
    exact At.sub [4, 2, 1, 0] rfl (hrec _ _ _ h)
def K_neediest_B7 (q : St) (rec : Int32 → Int32 → Int32 → Option (Int32)) (v1 : Int32) (v2 : Int32) (v3 : Int32) : Option (Int32) :=
  if (gt q 19 0) ≤ v3 then
    some v1
  else
    b1 (rd 21 q 24 v3) fun x2 =>
    if x2 = (0 : Int32) then
      b1 (rd 21 q 22 v3) fun x4 =>
      b1 (rd 21 q 23 v3) fun x5 =>
      K_neediest_J53 rec v1 v2 v3 (x4 - x5) q
    else
      K_neediest_J53 rec v1 v2 v3 (0 : Int32) q
theorem w_K_neediest_B7 {X : Cv} (C : Cx X cX10_neediest RX10 rm_K_neediest 5) (S : IsK X) (q : St) {z : Int32} (hret : RokI X cX10_neediest .int z q) (rec : Int32 → Int32 → Int32 → Option (Int32)) (hrec : ∀ (v1 : Int32) (v2 : Int32) (v3 : Int32), rec v1 v2 v3 = some z → At X 7 [(0, .ref (adOf X 0)), (1, .int v1), (2, .int v2), (3, .int v3)] [] q) (v1 : Int32) (v2 : Int32) (v3 : Int32) (h : K_neediest_B7 q rec v1 v2 v3 = some z) : At X 7 [(0, .ref (adOf X 0)), (1, .int v1), (2, .int v2), (3, .int v3)] [] q := by
  unfold K_neediest_B7 at h
  refine a_iload_n C 3 rfl rfl dX10_neediest_7 ?_
  refine a_aload_n C 0 rfl rfl dX10_neediest_8 ?_
  refine gK_10_22 C S dX10_neediest_9 ?_
  refine gK_10_166 C S (Or.inl rfl) dX10_neediest_12 ?_
  refine a_icmp_ge C 72 (by decide) dX10_neediest_15 (fun c1 => ?_) (fun c1 => ?_)
  · replace h := ifp c1 h
    refine a_iload_n C 1 rfl rfl dX10_neediest_72 ?_
    exact a_iretR hret h rfl dX10_neediest_73
  · replace h := ifn c1 h
    refine a_aload_n C 0 rfl rfl dX10_neediest_18 ?_
    refine gK_10_22 C S dX10_neediest_19 ?_
    refine gK_10_187 C S (Or.inl rfl) dX10_neediest_22 ?_
    refine a_iload_n C 3 rfl rfl dX10_neediest_25 ?_
    obtain ⟨x2, e_x2, h⟩ := b1s h
    refine lK_s5 (o := 19) C S (Or.inl rfl) e_x2 dX10_neediest_26 ?_
    refine a_if_eq C 34 (by decide) dX10_neediest_27 (fun c3 => ?_) (fun c3 => ?_)
    · replace h := ifp c3 h
      refine a_aload_n C 0 rfl rfl dX10_neediest_34 ?_
      refine gK_10_22 C S dX10_neediest_35 ?_
      refine gK_10_193 C S (Or.inl rfl) dX10_neediest_38 ?_
      refine a_iload_n C 3 rfl rfl dX10_neediest_41 ?_
      obtain ⟨x4, e_x4, h⟩ := b1s h
      refine lK_s3 (o := 19) C S (Or.inl rfl) e_x4 dX10_neediest_42 ?_
      refine a_aload_n C 0 rfl rfl dX10_neediest_43 ?_
      refine gK_10_22 C S dX10_neediest_44 ?_
      refine gK_10_184 C S (Or.inl rfl) dX10_neediest_47 ?_
      refine a_iload_n C 3 rfl rfl dX10_neediest_50 ?_
      obtain ⟨x5, e_x5, h⟩ := b1s h
      refine lK_s4 (o := 19) C S (Or.inl rfl) e_x5 dX10_neediest_51 ?_
      refine a_isub C dX10_neediest_52 ?_
      exact At.sub [0, 1, 2, 3] rfl (w_K_neediest_J53 C S hret _ hrec _ _ _ _ h)
    · replace h := ifn c3 h
      refine a_iconst (v := 0) C (by decide) dX10_neediest_30 ?_
      refine a_goto C 53 (by decide) dX10_neediest_31 ?_
      exact At.sub [0, 1, 2, 3] rfl (w_K_neediest_J53 C S hret _ hrec _ _ _ _ h)
def K_neediest_L7 (q : St) : Nat → Int32 → Int32 → Int32 → Option (Int32)
  | 0, _, _, _ => none
  | n + 1, v1, v2, v3 => K_neediest_B7 q (K_neediest_L7 q n) v1 v2 v3
theorem w_K_neediest_L7 {X : Cv} (C : Cx X cX10_neediest RX10 rm_K_neediest 5) (S : IsK X) (q : St) {z : Int32} (hret : RokI X cX10_neediest .int z q) (n : Nat) : ∀ (v1 : Int32) (v2 : Int32) (v3 : Int32), K_neediest_L7 q n v1 v2 v3 = some z → At X 7 [(0, .ref (adOf X 0)), (1, .int v1), (2, .int v2), (3, .int v3)] [] q := by
  induction n with
  | zero => intro v1 v2 v3 h; cases h
  | succ n ih => intro v1 v2 v3 h; exact w_K_neediest_B7 C S _ hret _ ih v1 v2 v3 h
def K_neediest (q : St) : Option (Int32) :=
  K_neediest_L7 q FU (-2 : Int32) (0 : Int32) (0 : Int32)
theorem w_K_neediest {X : Cv} (C : Cx X cX10_neediest RX10 rm_K_neediest 5) (S : IsK X) {q : St} {z : Int32} (hret : RokI X cX10_neediest .int z q) (h : K_neediest q = some z) : At X 0 [(0, .ref (adOf X 0))] [] q := by
  unfold K_neediest at h
  refine a_bipush (v := -2) C (by decide) dX10_neediest_0 ?_
  refine a_istore_n C [(1, .int (-2 : Int32)), (0, .ref (adOf X 0))] rfl (by decide) rfl dX10_neediest_2 ?_
  refine a_iconst (v := 0) C (by decide) dX10_neediest_3 ?_
  refine a_istore_n C [(2, .int (0 : Int32)), (1, .int (-2 : Int32)), (0, .ref (adOf X 0))] rfl (by decide) rfl dX10_neediest_4 ?_
  refine a_iconst (v := 0) C (by decide) dX10_neediest_5 ?_
  refine a_istore_n C [(3, .int (0 : Int32)), (2, .int (0 : Int32)), (1, .int (-2 : Int32)), (0, .ref (adOf X 0))] rfl (by decide) rfl dX10_neediest_6 ?_
  exact At.sub [3, 2, 1, 0] rfl (w_K_neediest_L7 C S _ hret _ _ _ _ h)
theorem c_K_neediest {l : Launch} {D : va_G} {I : ClassId × ClassId × ClassId × ClassId} {ad : Nat → Nat} {q : St} {z : Int32} (h : K_neediest q = some z) : Ctr l D I (zK ad) 168 (shK I) ad yX10_neediest cX10_neediest 5 (some .int) rm_K_neediest [.ref (ad 0)] q (some z) q :=
  ctr_ofI (by decide) (Nat.le_of_ble_eq_true rfl) (fun p e s m args below meth c Q H0 X hX C hret => by subst hX; exact w_K_neediest C ⟨rfl, rfl, rfl⟩ hret h)
abbrev rm_K_isInTree : Room := { frames := 1, cells := 0, slots := 0, locals := 21 }
def K_isInTree (q : St) (v1 : Int32) : Option (Int32) :=
  b1 (K_isNode q v1) fun x1 =>
  if x1 = (0 : Int32) then
    some (0 : Int32)
  else
    b1 (rd 16 q 28 v1) fun x3 =>
    if x3 = (0 : Int32) then
      some (0 : Int32)
    else
      some (1 : Int32)
theorem w_K_isInTree {X : Cv} (C : Cx X cX10_isInTree RX10 rm_K_isInTree 2) (S : IsK X) {q : St} {z : Int32} (hret : RokI X cX10_isInTree .boolean z q) (v1 : Int32) (h : K_isInTree q v1 = some z) : At X 0 [(0, .ref (adOf X 0)), (1, .int v1)] [] q := by
  unfold K_isInTree at h
  refine a_aload_n C 0 rfl rfl dX10_isInTree_0 ?_
  refine a_iload_n C 1 rfl rfl dX10_isInTree_1 ?_
  obtain ⟨x1, e_x1, h⟩ := b1s h
  refine kK_10_149 C S e_x1 ⟨(Nat.le_of_ble_eq_true rfl), (Nat.le_of_ble_eq_true rfl)⟩ (Nat.le_of_ble_eq_true rfl) dX10_isInTree_2 ?_
  refine a_if_eq C 24 (by decide) dX10_isInTree_5 (fun c2 => ?_) (fun c2 => ?_)
  · replace h := ifp c2 h
    refine a_iconst (v := 0) C (by decide) dX10_isInTree_24 ?_
    exact a_iretR hret h rfl dX10_isInTree_25
  · replace h := ifn c2 h
    refine a_aload_n C 0 rfl rfl dX10_isInTree_8 ?_
    refine gK_10_22 C S dX10_isInTree_9 ?_
    refine gK_10_264 C S (Or.inl rfl) dX10_isInTree_12 ?_
    refine a_iload_n C 1 rfl rfl dX10_isInTree_15 ?_
    obtain ⟨x3, e_x3, h⟩ := b1s h
    refine lK_s9 (o := 19) C S (Or.inl rfl) e_x3 dX10_isInTree_16 ?_
    refine a_if_eq C 24 (by decide) dX10_isInTree_17 (fun c4 => ?_) (fun c4 => ?_)
    · replace h := ifp c4 h
      refine a_iconst (v := 0) C (by decide) dX10_isInTree_24 ?_
      exact a_iretR hret h rfl dX10_isInTree_25
    · replace h := ifn c4 h
      refine a_iconst (v := 1) C (by decide) dX10_isInTree_20 ?_
      refine a_goto C 25 (by decide) dX10_isInTree_21 ?_
      exact a_iretR hret h rfl dX10_isInTree_25
theorem c_K_isInTree {l : Launch} {D : va_G} {I : ClassId × ClassId × ClassId × ClassId} {ad : Nat → Nat} {q : St} {v1 : Int32} {z : Int32} (h : K_isInTree q v1 = some z) : Ctr l D I (zK ad) 168 (shK I) ad yX10_isInTree cX10_isInTree 2 (some .boolean) rm_K_isInTree [.ref (ad 0), .int v1] q (some z) q :=
  ctr_ofI (by decide) (Nat.le_of_ble_eq_true rfl) (fun p e s m args below meth c Q H0 X hX C hret => by subst hX; exact w_K_isInTree C ⟨rfl, rfl, rfl⟩ hret _ h)
abbrev rm_K_parent : Room := { frames := 1, cells := 0, slots := 0, locals := 21 }
def K_parent (q : St) (v1 : Int32) : Option (Int32) :=
  b1 (K_isNode q v1) fun x1 =>
  if x1 = (0 : Int32) then
    some (-1 : Int32)
  else
    b1 (rd 16 q 29 v1) fun x3 =>
    if x3 = (-1 : Int32) then
      some (-2 : Int32)
    else
      some x3
theorem w_K_parent {X : Cv} (C : Cx X cX10_parent RX10 rm_K_parent 3) (S : IsK X) {q : St} {z : Int32} (hret : RokI X cX10_parent .int z q) (v1 : Int32) (h : K_parent q v1 = some z) : At X 0 [(0, .ref (adOf X 0)), (1, .int v1)] [] q := by
  unfold K_parent at h
  refine a_aload_n C 0 rfl rfl dX10_parent_0 ?_
  refine a_iload_n C 1 rfl rfl dX10_parent_1 ?_
  obtain ⟨x1, e_x1, h⟩ := b1s h
  refine kK_10_149 C S e_x1 ⟨(Nat.le_of_ble_eq_true rfl), (Nat.le_of_ble_eq_true rfl)⟩ (Nat.le_of_ble_eq_true rfl) dX10_parent_2 ?_
  refine a_if_ne C 10 (by decide) dX10_parent_5 (fun c2 => ?_) (fun c2 => ?_)
  · replace h := ifn c2 h
    refine a_aload_n C 0 rfl rfl dX10_parent_10 ?_
    refine gK_10_22 C S dX10_parent_11 ?_
    refine gK_10_244 C S (Or.inl rfl) dX10_parent_14 ?_
    refine a_iload_n C 1 rfl rfl dX10_parent_17 ?_
    obtain ⟨x3, e_x3, h⟩ := b1s h
    refine lK_s10 (o := 19) C S (Or.inl rfl) e_x3 dX10_parent_18 ?_
    refine a_istore_n C [(2, .int x3), (0, .ref (adOf X 0)), (1, .int v1)] rfl (by decide) rfl dX10_parent_19 ?_
    refine a_iload_n C 0 rfl rfl dX10_parent_20 ?_
    refine a_iconst (v := -1) C (by decide) dX10_parent_21 ?_
    refine a_icmp_ne C 30 (by decide) dX10_parent_22 (fun c4 => ?_) (fun c4 => ?_)
    · replace h := ifn c4 h
      refine a_iload_n C 0 rfl rfl dX10_parent_30 ?_
      exact a_iretR hret h rfl dX10_parent_31
    · replace h := ifp c4 h
      refine a_bipush (v := -2) C (by decide) dX10_parent_25 ?_
      refine a_goto C 31 (by decide) dX10_parent_27 ?_
      exact a_iretR hret h rfl dX10_parent_31
  · replace h := ifp c2 h
    refine a_iconst (v := -1) C (by decide) dX10_parent_8 ?_
    exact a_iretR hret h rfl dX10_parent_9
theorem c_K_parent {l : Launch} {D : va_G} {I : ClassId × ClassId × ClassId × ClassId} {ad : Nat → Nat} {q : St} {v1 : Int32} {z : Int32} (h : K_parent q v1 = some z) : Ctr l D I (zK ad) 168 (shK I) ad yX10_parent cX10_parent 3 (some .int) rm_K_parent [.ref (ad 0), .int v1] q (some z) q :=
  ctr_ofI (by decide) (Nat.le_of_ble_eq_true rfl) (fun p e s m args below meth c Q H0 X hX C hret => by subst hX; exact w_K_parent C ⟨rfl, rfl, rfl⟩ hret _ h)
abbrev rm_K_delay : Room := { frames := 1, cells := 0, slots := 0, locals := 26 }
def K_delay (q : St) (v1 : Int32) : Option (Int32) :=
  b1 (K_isNode q v1) fun x1 =>
  if x1 = (0 : Int32) then
    some (-1 : Int32)
  else
    b1 (rd 16 q 28 v1) fun x3 =>
    if x3 = (0 : Int32) then
      some (-2 : Int32)
    else
      b1 (Sp_delayTo q v1) fun x5 =>
      some x5
theorem w_K_delay {X : Cv} (C : Cx X cX10_delay RX10 rm_K_delay 2) (S : IsK X) {q : St} {z : Int32} (hret : RokI X cX10_delay .int z q) (v1 : Int32) (h : K_delay q v1 = some z) : At X 0 [(0, .ref (adOf X 0)), (1, .int v1)] [] q := by
  unfold K_delay at h
  refine a_aload_n C 0 rfl rfl dX10_delay_0 ?_
  refine a_iload_n C 1 rfl rfl dX10_delay_1 ?_
  obtain ⟨x1, e_x1, h⟩ := b1s h
  refine kK_10_149 C S e_x1 ⟨(Nat.le_of_ble_eq_true rfl), (Nat.le_of_ble_eq_true rfl)⟩ (Nat.le_of_ble_eq_true rfl) dX10_delay_2 ?_
  refine a_if_ne C 10 (by decide) dX10_delay_5 (fun c2 => ?_) (fun c2 => ?_)
  · replace h := ifn c2 h
    refine a_aload_n C 0 rfl rfl dX10_delay_10 ?_
    refine gK_10_22 C S dX10_delay_11 ?_
    refine gK_10_264 C S (Or.inl rfl) dX10_delay_14 ?_
    refine a_iload_n C 1 rfl rfl dX10_delay_17 ?_
    obtain ⟨x3, e_x3, h⟩ := b1s h
    refine lK_s9 (o := 19) C S (Or.inl rfl) e_x3 dX10_delay_18 ?_
    refine a_if_eq C 33 (by decide) dX10_delay_19 (fun c4 => ?_) (fun c4 => ?_)
    · replace h := ifp c4 h
      refine a_bipush (v := -2) C (by decide) dX10_delay_33 ?_
      exact a_iretR hret h rfl dX10_delay_35
    · replace h := ifn c4 h
      refine a_aload_n C 0 rfl rfl dX10_delay_22 ?_
      refine gK_10_57 C S dX10_delay_23 ?_
      refine a_iload_n C 1 rfl rfl dX10_delay_26 ?_
      obtain ⟨x5, e_x5, h⟩ := b1s h
      refine kK_10_267 C S e_x5 ⟨(Nat.le_of_ble_eq_true rfl), (Nat.le_of_ble_eq_true rfl)⟩ (Nat.le_of_ble_eq_true rfl) dX10_delay_27 ?_
      refine a_goto C 35 (by decide) dX10_delay_30 ?_
      exact a_iretR hret h rfl dX10_delay_35
  · replace h := ifp c2 h
    refine a_iconst (v := -1) C (by decide) dX10_delay_8 ?_
    exact a_iretR hret h rfl dX10_delay_9
theorem c_K_delay {l : Launch} {D : va_G} {I : ClassId × ClassId × ClassId × ClassId} {ad : Nat → Nat} {q : St} {v1 : Int32} {z : Int32} (h : K_delay q v1 = some z) : Ctr l D I (zK ad) 168 (shK I) ad yX10_delay cX10_delay 2 (some .int) rm_K_delay [.ref (ad 0), .int v1] q (some z) q :=
  ctr_ofI (by decide) (Nat.le_of_ble_eq_true rfl) (fun p e s m args below meth c Q H0 X hX C hret => by subst hX; exact w_K_delay C ⟨rfl, rfl, rfl⟩ hret _ h)
abbrev rm_K_below : Room := { frames := 2, cells := 0, slots := 0, locals := 50 }
def K_below (q : St) (v1 : Int32) : Option (Int32) :=
  b1 (K_isNode q v1) fun x1 =>
  if x1 = (0 : Int32) then
    some (-1 : Int32)
  else
    b1 (rd 16 q 28 v1) fun x3 =>
    if x3 = (0 : Int32) then
      some (-2 : Int32)
    else
      b1 (Sp_subtree q v1) fun x5 =>
      b1 (J_bitCount q x5) fun x6 =>
      some (x6 - (1 : Int32))
theorem w_K_below {X : Cv} (C : Cx X cX10_below RX10 rm_K_below 2) (S : IsK X) {q : St} {z : Int32} (hret : RokI X cX10_below .int z q) (v1 : Int32) (h : K_below q v1 = some z) : At X 0 [(0, .ref (adOf X 0)), (1, .int v1)] [] q := by
  unfold K_below at h
  refine a_aload_n C 0 rfl rfl dX10_below_0 ?_
  refine a_iload_n C 1 rfl rfl dX10_below_1 ?_
  obtain ⟨x1, e_x1, h⟩ := b1s h
  refine kK_10_149 C S e_x1 ⟨(Nat.le_of_ble_eq_true rfl), (Nat.le_of_ble_eq_true rfl)⟩ (Nat.le_of_ble_eq_true rfl) dX10_below_2 ?_
  refine a_if_ne C 10 (by decide) dX10_below_5 (fun c2 => ?_) (fun c2 => ?_)
  · replace h := ifn c2 h
    refine a_aload_n C 0 rfl rfl dX10_below_10 ?_
    refine gK_10_22 C S dX10_below_11 ?_
    refine gK_10_264 C S (Or.inl rfl) dX10_below_14 ?_
    refine a_iload_n C 1 rfl rfl dX10_below_17 ?_
    obtain ⟨x3, e_x3, h⟩ := b1s h
    refine lK_s9 (o := 19) C S (Or.inl rfl) e_x3 dX10_below_18 ?_
    refine a_if_eq C 38 (by decide) dX10_below_19 (fun c4 => ?_) (fun c4 => ?_)
    · replace h := ifp c4 h
      refine a_bipush (v := -2) C (by decide) dX10_below_38 ?_
      exact a_iretR hret h rfl dX10_below_40
    · replace h := ifn c4 h
      refine a_aload_n C 0 rfl rfl dX10_below_22 ?_
      refine gK_10_57 C S dX10_below_23 ?_
      refine a_iload_n C 1 rfl rfl dX10_below_26 ?_
      obtain ⟨x5, e_x5, h⟩ := b1s h
      refine kK_10_270 C S e_x5 ⟨(Nat.le_of_ble_eq_true rfl), (Nat.le_of_ble_eq_true rfl)⟩ (Nat.le_of_ble_eq_true rfl) dX10_below_27 ?_
      obtain ⟨x6, e_x6, h⟩ := b1s h
      refine k_J_bitCount C e_x6 (tg 1064 (by decide +kernel) rfl) ⟨(Nat.le_of_ble_eq_true rfl), (Nat.le_of_ble_eq_true rfl)⟩ (Nat.le_of_ble_eq_true rfl) dX10_below_30 ?_
      refine a_iconst (v := 1) C (by decide) dX10_below_33 ?_
      refine a_isub C dX10_below_34 ?_
      refine a_goto C 40 (by decide) dX10_below_35 ?_
      exact a_iretR hret h rfl dX10_below_40
  · replace h := ifp c2 h
    refine a_iconst (v := -1) C (by decide) dX10_below_8 ?_
    exact a_iretR hret h rfl dX10_below_9
theorem c_K_below {l : Launch} {D : va_G} {I : ClassId × ClassId × ClassId × ClassId} {ad : Nat → Nat} {q : St} {v1 : Int32} {z : Int32} (h : K_below q v1 = some z) : Ctr l D I (zK ad) 168 (shK I) ad yX10_below cX10_below 2 (some .int) rm_K_below [.ref (ad 0), .int v1] q (some z) q :=
  ctr_ofI (by decide) (Nat.le_of_ble_eq_true rfl) (fun p e s m args below meth c Q H0 X hX C hret => by subst hX; exact w_K_below C ⟨rfl, rfl, rfl⟩ hret _ h)
abbrev rm_K_demand : Room := { frames := 3, cells := 0, slots := 0, locals := 71 }
def K_demand (q : St) (v1 : Int32) (v2 : Int32) : Option (Int32 × St) :=
  b1 (K_isNode q v1) fun x1 =>
  if x1 = (0 : Int32) then
    some ((-1 : Int32), q)
  else
    b1 (K_isFormat q v2) fun x3 =>
    if x3 = (0 : Int32) then
      some ((-1 : Int32), q)
    else
      b1 (Fl_measure q) fun q5 =>
      b1 (rd 64 q5 158 ((v1 * (4 : Int32)) + v2)) fun x6 =>
      some (x6, q5)
theorem w_K_demand {X : Cv} (C : Cx X cX10_demand RX10 rm_K_demand 3) (S : IsK X) {z : Int32 × St} (hret : RokI X cX10_demand .int z.1 z.2) (v1 : Int32) (v2 : Int32) (q : St) (h : K_demand q v1 v2 = some z) : At X 0 [(0, .ref (adOf X 0)), (1, .int v1), (2, .int v2)] [] q := by
  unfold K_demand at h
  refine a_aload_n C 0 rfl rfl dX10_demand_0 ?_
  refine a_iload_n C 1 rfl rfl dX10_demand_1 ?_
  obtain ⟨x1, e_x1, h⟩ := b1s h
  refine kK_10_149 C S e_x1 ⟨(Nat.le_of_ble_eq_true rfl), (Nat.le_of_ble_eq_true rfl)⟩ (Nat.le_of_ble_eq_true rfl) dX10_demand_2 ?_
  refine a_if_eq C 16 (by decide) dX10_demand_5 (fun c2 => ?_) (fun c2 => ?_)
  · replace h := ifp c2 h
    refine a_iconst (v := -1) C (by decide) dX10_demand_16 ?_
    exact a_iret hret h rfl dX10_demand_17
  · replace h := ifn c2 h
    refine a_aload_n C 0 rfl rfl dX10_demand_8 ?_
    refine a_iload_n C 2 rfl rfl dX10_demand_9 ?_
    obtain ⟨x3, e_x3, h⟩ := b1s h
    refine kK_10_138 C S e_x3 ⟨(Nat.le_of_ble_eq_true rfl), (Nat.le_of_ble_eq_true rfl)⟩ (Nat.le_of_ble_eq_true rfl) dX10_demand_10 ?_
    refine a_if_ne C 18 (by decide) dX10_demand_13 (fun c4 => ?_) (fun c4 => ?_)
    · replace h := ifn c4 h
      refine a_aload_n C 0 rfl rfl dX10_demand_18 ?_
      refine gK_10_66 C S dX10_demand_19 ?_
      obtain ⟨q5, e_q5, h⟩ := b1s h
      refine kK_10_247 C S e_q5 ⟨(Nat.le_of_ble_eq_true rfl), (Nat.le_of_ble_eq_true rfl)⟩ (Nat.le_of_ble_eq_true rfl) dX10_demand_22 ?_
      refine a_aload_n C 0 rfl rfl dX10_demand_25 ?_
      refine gK_10_66 C S dX10_demand_26 ?_
      refine gK_10_273 C S dX10_demand_29 ?_
      refine a_iload_n C 1 rfl rfl dX10_demand_32 ?_
      refine a_iconst (v := 4) C (by decide) dX10_demand_33 ?_
      refine a_imul C dX10_demand_34 ?_
      refine a_iload_n C 2 rfl rfl dX10_demand_35 ?_
      refine a_iadd C dX10_demand_36 ?_
      obtain ⟨x6, e_x6, h⟩ := b1s h
      refine lK_158 C S e_x6 dX10_demand_37 ?_
      exact a_iret hret h rfl dX10_demand_38
    · replace h := ifp c4 h
      refine a_iconst (v := -1) C (by decide) dX10_demand_16 ?_
      exact a_iret hret h rfl dX10_demand_17
theorem c_K_demand {l : Launch} {D : va_G} {I : ClassId × ClassId × ClassId × ClassId} {ad : Nat → Nat} {q : St} {v1 : Int32} {v2 : Int32} {z : Int32 × St} (h : K_demand q v1 v2 = some z) : Ctr l D I (zK ad) 168 (shK I) ad yX10_demand cX10_demand 3 (some .int) rm_K_demand [.ref (ad 0), .int v1, .int v2] q (some z.1) z.2 :=
  ctr_ofI (by decide) (Nat.le_of_ble_eq_true rfl) (fun p e s m args below meth c Q H0 X hX C hret => by subst hX; exact w_K_demand C ⟨rfl, rfl, rfl⟩ hret _ _ _ h)
abbrev rm_K_linkLoad : Room := { frames := 3, cells := 0, slots := 0, locals := 71 }
def K_linkLoad (q : St) (v1 : Int32) : Option (Int32 × St) :=
  b1 (K_isLink q v1) fun x1 =>
  if x1 = (0 : Int32) then
    some ((-1 : Int32), q)
  else
    b1 (Fl_measure q) fun q3 =>
    b1 (rd 32 q3 159 v1) fun x4 =>
    some (x4, q3)
theorem w_K_linkLoad {X : Cv} (C : Cx X cX10_linkLoad RX10 rm_K_linkLoad 2) (S : IsK X) {z : Int32 × St} (hret : RokI X cX10_linkLoad .int z.1 z.2) (v1 : Int32) (q : St) (h : K_linkLoad q v1 = some z) : At X 0 [(0, .ref (adOf X 0)), (1, .int v1)] [] q := by
  unfold K_linkLoad at h
  refine a_aload_n C 0 rfl rfl dX10_linkLoad_0 ?_
  refine a_iload_n C 1 rfl rfl dX10_linkLoad_1 ?_
  obtain ⟨x1, e_x1, h⟩ := b1s h
  refine kK_10_156 C S e_x1 ⟨(Nat.le_of_ble_eq_true rfl), (Nat.le_of_ble_eq_true rfl)⟩ (Nat.le_of_ble_eq_true rfl) dX10_linkLoad_2 ?_
  refine a_if_ne C 10 (by decide) dX10_linkLoad_5 (fun c2 => ?_) (fun c2 => ?_)
  · replace h := ifn c2 h
    refine a_aload_n C 0 rfl rfl dX10_linkLoad_10 ?_
    refine gK_10_66 C S dX10_linkLoad_11 ?_
    obtain ⟨q3, e_q3, h⟩ := b1s h
    refine kK_10_247 C S e_q3 ⟨(Nat.le_of_ble_eq_true rfl), (Nat.le_of_ble_eq_true rfl)⟩ (Nat.le_of_ble_eq_true rfl) dX10_linkLoad_14 ?_
    refine a_aload_n C 0 rfl rfl dX10_linkLoad_17 ?_
    refine gK_10_66 C S dX10_linkLoad_18 ?_
    refine gK_10_253 C S dX10_linkLoad_21 ?_
    refine a_iload_n C 1 rfl rfl dX10_linkLoad_24 ?_
    obtain ⟨x4, e_x4, h⟩ := b1s h
    refine lK_159 C S e_x4 dX10_linkLoad_25 ?_
    exact a_iret hret h rfl dX10_linkLoad_26
  · replace h := ifp c2 h
    refine a_iconst (v := -1) C (by decide) dX10_linkLoad_8 ?_
    exact a_iret hret h rfl dX10_linkLoad_9
theorem c_K_linkLoad {l : Launch} {D : va_G} {I : ClassId × ClassId × ClassId × ClassId} {ad : Nat → Nat} {q : St} {v1 : Int32} {z : Int32 × St} (h : K_linkLoad q v1 = some z) : Ctr l D I (zK ad) 168 (shK I) ad yX10_linkLoad cX10_linkLoad 2 (some .int) rm_K_linkLoad [.ref (ad 0), .int v1] q (some z.1) z.2 :=
  ctr_ofI (by decide) (Nat.le_of_ble_eq_true rfl) (fun p e s m args below meth c Q H0 X hX C hret => by subst hX; exact w_K_linkLoad C ⟨rfl, rfl, rfl⟩ hret _ _ h)
abbrev rm_K_cpuLoad : Room := { frames := 3, cells := 0, slots := 0, locals := 71 }
def K_cpuLoad (q : St) (v1 : Int32) : Option (Int32 × St) :=
  b1 (K_isNode q v1) fun x1 =>
  if x1 = (0 : Int32) then
    some ((-1 : Int32), q)
  else
    b1 (Fl_measure q) fun q3 =>
    b1 (rd 16 q3 160 v1) fun x4 =>
    some (x4, q3)
theorem w_K_cpuLoad {X : Cv} (C : Cx X cX10_cpuLoad RX10 rm_K_cpuLoad 2) (S : IsK X) {z : Int32 × St} (hret : RokI X cX10_cpuLoad .int z.1 z.2) (v1 : Int32) (q : St) (h : K_cpuLoad q v1 = some z) : At X 0 [(0, .ref (adOf X 0)), (1, .int v1)] [] q := by
  unfold K_cpuLoad at h
  refine a_aload_n C 0 rfl rfl dX10_cpuLoad_0 ?_
  refine a_iload_n C 1 rfl rfl dX10_cpuLoad_1 ?_
  obtain ⟨x1, e_x1, h⟩ := b1s h
  refine kK_10_149 C S e_x1 ⟨(Nat.le_of_ble_eq_true rfl), (Nat.le_of_ble_eq_true rfl)⟩ (Nat.le_of_ble_eq_true rfl) dX10_cpuLoad_2 ?_
  refine a_if_ne C 10 (by decide) dX10_cpuLoad_5 (fun c2 => ?_) (fun c2 => ?_)
  · replace h := ifn c2 h
    refine a_aload_n C 0 rfl rfl dX10_cpuLoad_10 ?_
    refine gK_10_66 C S dX10_cpuLoad_11 ?_
    obtain ⟨q3, e_q3, h⟩ := b1s h
    refine kK_10_247 C S e_q3 ⟨(Nat.le_of_ble_eq_true rfl), (Nat.le_of_ble_eq_true rfl)⟩ (Nat.le_of_ble_eq_true rfl) dX10_cpuLoad_14 ?_
    refine a_aload_n C 0 rfl rfl dX10_cpuLoad_17 ?_
    refine gK_10_66 C S dX10_cpuLoad_18 ?_
    refine gK_10_276 C S dX10_cpuLoad_21 ?_
    refine a_iload_n C 1 rfl rfl dX10_cpuLoad_24 ?_
    obtain ⟨x4, e_x4, h⟩ := b1s h
    refine lK_160 C S e_x4 dX10_cpuLoad_25 ?_
    exact a_iret hret h rfl dX10_cpuLoad_26
  · replace h := ifp c2 h
    refine a_iconst (v := -1) C (by decide) dX10_cpuLoad_8 ?_
    exact a_iret hret h rfl dX10_cpuLoad_9
theorem c_K_cpuLoad {l : Launch} {D : va_G} {I : ClassId × ClassId × ClassId × ClassId} {ad : Nat → Nat} {q : St} {v1 : Int32} {z : Int32 × St} (h : K_cpuLoad q v1 = some z) : Ctr l D I (zK ad) 168 (shK I) ad yX10_cpuLoad cX10_cpuLoad 2 (some .int) rm_K_cpuLoad [.ref (ad 0), .int v1] q (some z.1) z.2 :=
  ctr_ofI (by decide) (Nat.le_of_ble_eq_true rfl) (fun p e s m args below meth c Q H0 X hX C hret => by subst hX; exact w_K_cpuLoad C ⟨rfl, rfl, rfl⟩ hret _ _ h)
abbrev rm_K_isPlaced : Room := { frames := 1, cells := 0, slots := 0, locals := 21 }
def K_isPlaced (q : St) (v1 : Int32) (v2 : Int32) : Option (Int32) :=
  b1 (K_isNode q v1) fun x1 =>
  if x1 = (0 : Int32) then
    some (0 : Int32)
  else
    b1 (K_isFormat q v2) fun x3 =>
    if x3 = (0 : Int32) then
      some (0 : Int32)
    else
      b1 (rd 64 q 27 ((v1 * (4 : Int32)) + v2)) fun x5 =>
      if x5 = (0 : Int32) then
        some (0 : Int32)
      else
        some (1 : Int32)
theorem w_K_isPlaced {X : Cv} (C : Cx X cX10_isPlaced RX10 rm_K_isPlaced 3) (S : IsK X) {q : St} {z : Int32} (hret : RokI X cX10_isPlaced .boolean z q) (v1 : Int32) (v2 : Int32) (h : K_isPlaced q v1 v2 = some z) : At X 0 [(0, .ref (adOf X 0)), (1, .int v1), (2, .int v2)] [] q := by
  unfold K_isPlaced at h
  refine a_aload_n C 0 rfl rfl dX10_isPlaced_0 ?_
  refine a_iload_n C 1 rfl rfl dX10_isPlaced_1 ?_
  obtain ⟨x1, e_x1, h⟩ := b1s h
  refine kK_10_149 C S e_x1 ⟨(Nat.le_of_ble_eq_true rfl), (Nat.le_of_ble_eq_true rfl)⟩ (Nat.le_of_ble_eq_true rfl) dX10_isPlaced_2 ?_
  refine a_if_eq C 36 (by decide) dX10_isPlaced_5 (fun c2 => ?_) (fun c2 => ?_)
  · replace h := ifp c2 h
    refine a_iconst (v := 0) C (by decide) dX10_isPlaced_36 ?_
    exact a_iretR hret h rfl dX10_isPlaced_37
  · replace h := ifn c2 h
    refine a_aload_n C 0 rfl rfl dX10_isPlaced_8 ?_
    refine a_iload_n C 2 rfl rfl dX10_isPlaced_9 ?_
    obtain ⟨x3, e_x3, h⟩ := b1s h
    refine kK_10_138 C S e_x3 ⟨(Nat.le_of_ble_eq_true rfl), (Nat.le_of_ble_eq_true rfl)⟩ (Nat.le_of_ble_eq_true rfl) dX10_isPlaced_10 ?_
    refine a_if_eq C 36 (by decide) dX10_isPlaced_13 (fun c4 => ?_) (fun c4 => ?_)
    · replace h := ifp c4 h
      refine a_iconst (v := 0) C (by decide) dX10_isPlaced_36 ?_
      exact a_iretR hret h rfl dX10_isPlaced_37
    · replace h := ifn c4 h
      refine a_aload_n C 0 rfl rfl dX10_isPlaced_16 ?_
      refine gK_10_22 C S dX10_isPlaced_17 ?_
      refine gK_10_213 C S (Or.inl rfl) dX10_isPlaced_20 ?_
      refine a_iload_n C 1 rfl rfl dX10_isPlaced_23 ?_
      refine a_iconst (v := 4) C (by decide) dX10_isPlaced_24 ?_
      refine a_imul C dX10_isPlaced_25 ?_
      refine a_iload_n C 2 rfl rfl dX10_isPlaced_26 ?_
      refine a_iadd C dX10_isPlaced_27 ?_
      obtain ⟨x5, e_x5, h⟩ := b1s h
      refine lK_s8 (o := 19) C S (Or.inl rfl) e_x5 dX10_isPlaced_28 ?_
      refine a_if_eq C 36 (by decide) dX10_isPlaced_29 (fun c6 => ?_) (fun c6 => ?_)
      · replace h := ifp c6 h
        refine a_iconst (v := 0) C (by decide) dX10_isPlaced_36 ?_
        exact a_iretR hret h rfl dX10_isPlaced_37
      · replace h := ifn c6 h
        refine a_iconst (v := 1) C (by decide) dX10_isPlaced_32 ?_
        refine a_goto C 37 (by decide) dX10_isPlaced_33 ?_
        exact a_iretR hret h rfl dX10_isPlaced_37
theorem c_K_isPlaced {l : Launch} {D : va_G} {I : ClassId × ClassId × ClassId × ClassId} {ad : Nat → Nat} {q : St} {v1 : Int32} {v2 : Int32} {z : Int32} (h : K_isPlaced q v1 v2 = some z) : Ctr l D I (zK ad) 168 (shK I) ad yX10_isPlaced cX10_isPlaced 3 (some .boolean) rm_K_isPlaced [.ref (ad 0), .int v1, .int v2] q (some z) q :=
  ctr_ofI (by decide) (Nat.le_of_ble_eq_true rfl) (fun p e s m args below meth c Q H0 X hX C hret => by subst hX; exact w_K_isPlaced C ⟨rfl, rfl, rfl⟩ hret _ _ h)
abbrev rm_K_wantedSum : Room := { frames := 0, cells := 0, slots := 0, locals := 0 }
def K_wantedSum_B4 (q : St) (rec : Int32 → Int32 → Option (Int32)) (v1 : Int32) (v2 : Int32) : Option (Int32) :=
  if (gt q 19 0) ≤ v2 then
    some v1
  else
    b1 (rd 21 q 24 v2) fun x2 =>
    if x2 = (0 : Int32) then
      b1 (rd 21 q 22 v2) fun x4 =>
      lt_ (v1 + x4) fun w5 =>
      rec w5 (v2 + 1)
    else
      lt_ (v1 + (0 : Int32)) fun w6 =>
      rec w6 (v2 + 1)
theorem w_K_wantedSum_B4 {X : Cv} (C : Cx X cX10_wantedSum RX10 rm_K_wantedSum 3) (S : IsK X) (q : St) {z : Int32} (hret : RokI X cX10_wantedSum .int z q) (rec : Int32 → Int32 → Option (Int32)) (hrec : ∀ (v1 : Int32) (v2 : Int32), rec v1 v2 = some z → At X 4 [(0, .ref (adOf X 0)), (1, .int v1), (2, .int v2)] [] q) (v1 : Int32) (v2 : Int32) (h : K_wantedSum_B4 q rec v1 v2 = some z) : At X 4 [(0, .ref (adOf X 0)), (1, .int v1), (2, .int v2)] [] q := by
  unfold K_wantedSum_B4 at h
  refine a_iload_n C 2 rfl rfl dX10_wantedSum_4 ?_
  refine a_aload_n C 0 rfl rfl dX10_wantedSum_5 ?_
  refine gK_10_22 C S dX10_wantedSum_6 ?_
  refine gK_10_166 C S (Or.inl rfl) dX10_wantedSum_9 ?_
  refine a_icmp_ge C 49 (by decide) dX10_wantedSum_12 (fun c1 => ?_) (fun c1 => ?_)
  · replace h := ifp c1 h
    refine a_iload_n C 1 rfl rfl dX10_wantedSum_49 ?_
    exact a_iretR hret h rfl dX10_wantedSum_50
  · replace h := ifn c1 h
    refine a_iload_n C 1 rfl rfl dX10_wantedSum_15 ?_
    refine a_aload_n C 0 rfl rfl dX10_wantedSum_16 ?_
    refine gK_10_22 C S dX10_wantedSum_17 ?_
    refine gK_10_187 C S (Or.inl rfl) dX10_wantedSum_20 ?_
    refine a_iload_n C 2 rfl rfl dX10_wantedSum_23 ?_
    obtain ⟨x2, e_x2, h⟩ := b1s h
    refine lK_s5 (o := 19) C S (Or.inl rfl) e_x2 dX10_wantedSum_24 ?_
    refine a_if_eq C 32 (by decide) dX10_wantedSum_25 (fun c3 => ?_) (fun c3 => ?_)
    · replace h := ifp c3 h
      refine a_aload_n C 0 rfl rfl dX10_wantedSum_32 ?_
      refine gK_10_22 C S dX10_wantedSum_33 ?_
      refine gK_10_193 C S (Or.inl rfl) dX10_wantedSum_36 ?_
      refine a_iload_n C 2 rfl rfl dX10_wantedSum_39 ?_
      obtain ⟨x4, e_x4, h⟩ := b1s h
      refine lK_s3 (o := 19) C S (Or.inl rfl) e_x4 dX10_wantedSum_40 ?_
      refine a_iadd C dX10_wantedSum_41 ?_
      obtain ⟨w5, e_w5, h⟩ := lts h
      refine a_top e_w5 ?_
      refine a_istore_n C [(1, .int w5), (0, .ref (adOf X 0)), (2, .int v2)] rfl (by decide) rfl dX10_wantedSum_42 ?_
      refine a_iinc (v := (v2 + 1)) C [(2, .int (v2 + 1)), (1, .int w5), (0, .ref (adOf X 0))] 2 rfl (congrArg (HAdd.hAdd v2) (by decide : Int32.ofInt (1) = (1 : Int32))) (by decide) rfl dX10_wantedSum_43 ?_
      refine a_goto C 4 (by decide) dX10_wantedSum_46 ?_
      exact At.sub [2, 1, 0] rfl (hrec _ _ h)
    · replace h := ifn c3 h
      refine a_iconst (v := 0) C (by decide) dX10_wantedSum_28 ?_
      refine a_goto C 41 (by decide) dX10_wantedSum_29 ?_
      refine a_iadd C dX10_wantedSum_41 ?_
      obtain ⟨w6, e_w6, h⟩ := lts h
      refine a_top e_w6 ?_
      refine a_istore_n C [(1, .int w6), (0, .ref (adOf X 0)), (2, .int v2)] rfl (by decide) rfl dX10_wantedSum_42 ?_
      refine a_iinc (v := (v2 + 1)) C [(2, .int (v2 + 1)), (1, .int w6), (0, .ref (adOf X 0))] 2 rfl (congrArg (HAdd.hAdd v2) (by decide : Int32.ofInt (1) = (1 : Int32))) (by decide) rfl dX10_wantedSum_43 ?_
      refine a_goto C 4 (by decide) dX10_wantedSum_46 ?_
      exact At.sub [2, 1, 0] rfl (hrec _ _ h)
def K_wantedSum_L4 (q : St) : Nat → Int32 → Int32 → Option (Int32)
  | 0, _, _ => none
  | n + 1, v1, v2 => K_wantedSum_B4 q (K_wantedSum_L4 q n) v1 v2
theorem w_K_wantedSum_L4 {X : Cv} (C : Cx X cX10_wantedSum RX10 rm_K_wantedSum 3) (S : IsK X) (q : St) {z : Int32} (hret : RokI X cX10_wantedSum .int z q) (n : Nat) : ∀ (v1 : Int32) (v2 : Int32), K_wantedSum_L4 q n v1 v2 = some z → At X 4 [(0, .ref (adOf X 0)), (1, .int v1), (2, .int v2)] [] q := by
  induction n with
  | zero => intro v1 v2 h; cases h
  | succ n ih => intro v1 v2 h; exact w_K_wantedSum_B4 C S _ hret _ ih v1 v2 h
def K_wantedSum (q : St) : Option (Int32) :=
  K_wantedSum_L4 q FU (0 : Int32) (0 : Int32)
theorem w_K_wantedSum {X : Cv} (C : Cx X cX10_wantedSum RX10 rm_K_wantedSum 3) (S : IsK X) {q : St} {z : Int32} (hret : RokI X cX10_wantedSum .int z q) (h : K_wantedSum q = some z) : At X 0 [(0, .ref (adOf X 0))] [] q := by
  unfold K_wantedSum at h
  refine a_iconst (v := 0) C (by decide) dX10_wantedSum_0 ?_
  refine a_istore_n C [(1, .int (0 : Int32)), (0, .ref (adOf X 0))] rfl (by decide) rfl dX10_wantedSum_1 ?_
  refine a_iconst (v := 0) C (by decide) dX10_wantedSum_2 ?_
  refine a_istore_n C [(2, .int (0 : Int32)), (1, .int (0 : Int32)), (0, .ref (adOf X 0))] rfl (by decide) rfl dX10_wantedSum_3 ?_
  exact At.sub [2, 1, 0] rfl (w_K_wantedSum_L4 C S _ hret _ _ _ h)
theorem c_K_wantedSum {l : Launch} {D : va_G} {I : ClassId × ClassId × ClassId × ClassId} {ad : Nat → Nat} {q : St} {z : Int32} (h : K_wantedSum q = some z) : Ctr l D I (zK ad) 168 (shK I) ad yX10_wantedSum cX10_wantedSum 3 (some .int) rm_K_wantedSum [.ref (ad 0)] q (some z) q :=
  ctr_ofI (by decide) (Nat.le_of_ble_eq_true rfl) (fun p e s m args below meth c Q H0 X hX C hret => by subst hX; exact w_K_wantedSum C ⟨rfl, rfl, rfl⟩ hret h)
theorem kK_10_282 {X : Cv} {cc : ByteArray} {rm : Room} {nL1 pc : Nat} {lv : List (Nat × Value)} {sk : List Value} {q : St} {z : Int32} (C : Cx X cc RX10 rm nL1) (S : IsK X) (h : K_wantedSum q = some z) (hz : rm_K_wantedSum.frames + 1 ≤ rm.frames ∧ 8 + (3 + 11) + rm_K_wantedSum.locals ≤ rm.locals) (hr : (sk.map fun v => v.category).sum ≤ 8) (hd : decode cc pc = .ok (.invokevirtual 282, 3)) (k : At X (pc + 3) lv (.int z :: sk) q) : At X pc lv (.ref (adOf X 0) :: sk) q := a_callVi (as := []) C (kp := 0) (kLt S (by decide)) (by rw [S.2.1]; rfl) rfl (by have hh := c_K_wantedSum (l := X.2.1) (D := dOf X) (I := idOf X) (ad := adOf X) h; rw [← S.1, ← S.2.1, ← S.2.2] at hh; exact hh) (gd_V (tg 1113 (by decide +kernel) rfl) (tg 1115 (by decide +kernel) rfl) (tg 39 (by decide +kernel) rfl) (tg 115 (by decide +kernel) rfl) (tg 1116 (by decide +kernel) rfl)) ⟨rfl, rfl, hz.1, hz.2⟩ ⟨by decide, by decide, by show Option.map _ (parseMethodDescriptor yX10_wantedSum.desc) = some 0; decide⟩ hr rfl hd k
abbrev rm_Fl_loadSum : Room := { frames := 3, cells := 0, slots := 0, locals := 71 }
def Fl_loadSum_B8 (q : St) (rec : Int32 → Int32 → Option (Int32 × St)) (v1 : Int32) (v2 : Int32) : Option (Int32 × St) :=
  if (gt q 1 1) ≤ v2 then
    some (v1, q)
  else
    b1 (rd 32 q 159 v2) fun x3 =>
    lt_ (v1 + x3) fun w4 =>
    rec w4 (v2 + 1)
theorem w_Fl_loadSum_B8 {X : Cv} (C : Cx X cX0_loadSum RX0 rm_Fl_loadSum 3) (S : IsK X) (q : St) {z : Int32 × St} (hret : RokI X cX0_loadSum .int z.1 z.2) (rec : Int32 → Int32 → Option (Int32 × St)) (hrec : ∀ (v1 : Int32) (v2 : Int32), rec v1 v2 = some z → At X 8 [(0, .ref (adOf X 157)), (1, .int v1), (2, .int v2)] [] q) (v1 : Int32) (v2 : Int32) (h : Fl_loadSum_B8 q rec v1 v2 = some z) : At X 8 [(0, .ref (adOf X 157)), (1, .int v1), (2, .int v2)] [] q := by
  unfold Fl_loadSum_B8 at h
  refine a_iload_n C 2 rfl rfl dX0_loadSum_8 ?_
  refine a_aload_n C 0 rfl rfl dX0_loadSum_9 ?_
  refine gK_0_21 C S dX0_loadSum_10 ?_
  refine gK_0_96 C S (Or.inl rfl) dX0_loadSum_13 ?_
  refine a_icmp_ge C 34 (by decide) dX0_loadSum_16 (fun c2 => ?_) (fun c2 => ?_)
  · replace h := ifp c2 h
    refine a_iload_n C 1 rfl rfl dX0_loadSum_34 ?_
    exact a_iret hret h rfl dX0_loadSum_35
  · replace h := ifn c2 h
    refine a_iload_n C 1 rfl rfl dX0_loadSum_19 ?_
    refine a_aload_n C 0 rfl rfl dX0_loadSum_20 ?_
    refine gK_0_15 C S dX0_loadSum_21 ?_
    refine a_iload_n C 2 rfl rfl dX0_loadSum_24 ?_
    obtain ⟨x3, e_x3, h⟩ := b1s h
    refine lK_159 C S e_x3 dX0_loadSum_25 ?_
    refine a_iadd C dX0_loadSum_26 ?_
    obtain ⟨w4, e_w4, h⟩ := lts h
    refine a_top e_w4 ?_
    refine a_istore_n C [(1, .int w4), (0, .ref (adOf X 157)), (2, .int v2)] rfl (by decide) rfl dX0_loadSum_27 ?_
    refine a_iinc (v := (v2 + 1)) C [(2, .int (v2 + 1)), (1, .int w4), (0, .ref (adOf X 157))] 2 rfl (congrArg (HAdd.hAdd v2) (by decide : Int32.ofInt (1) = (1 : Int32))) (by decide) rfl dX0_loadSum_28 ?_
    refine a_goto C 8 (by decide) dX0_loadSum_31 ?_
    exact At.sub [2, 1, 0] rfl (hrec _ _ h)
def Fl_loadSum_L8 (q : St) : Nat → Int32 → Int32 → Option (Int32 × St)
  | 0, _, _ => none
  | n + 1, v1, v2 => Fl_loadSum_B8 q (Fl_loadSum_L8 q n) v1 v2
theorem w_Fl_loadSum_L8 {X : Cv} (C : Cx X cX0_loadSum RX0 rm_Fl_loadSum 3) (S : IsK X) (q : St) {z : Int32 × St} (hret : RokI X cX0_loadSum .int z.1 z.2) (n : Nat) : ∀ (v1 : Int32) (v2 : Int32), Fl_loadSum_L8 q n v1 v2 = some z → At X 8 [(0, .ref (adOf X 157)), (1, .int v1), (2, .int v2)] [] q := by
  induction n with
  | zero => intro v1 v2 h; cases h
  | succ n ih => intro v1 v2 h; exact w_Fl_loadSum_B8 C S _ hret _ ih v1 v2 h
def Fl_loadSum (q : St) : Option (Int32 × St) :=
  b1 (Fl_measure q) fun q1 =>
  Fl_loadSum_L8 q1 FU (0 : Int32) (0 : Int32)
theorem w_Fl_loadSum {X : Cv} (C : Cx X cX0_loadSum RX0 rm_Fl_loadSum 3) (S : IsK X) {z : Int32 × St} (hret : RokI X cX0_loadSum .int z.1 z.2) (q : St) (h : Fl_loadSum q = some z) : At X 0 [(0, .ref (adOf X 157))] [] q := by
  unfold Fl_loadSum at h
  refine a_aload_n C 0 rfl rfl dX0_loadSum_0 ?_
  obtain ⟨q1, e_q1, h⟩ := b1s h
  refine kK_0_93 C S e_q1 ⟨(Nat.le_of_ble_eq_true rfl), (Nat.le_of_ble_eq_true rfl)⟩ (Nat.le_of_ble_eq_true rfl) dX0_loadSum_1 ?_
  refine a_iconst (v := 0) C (by decide) dX0_loadSum_4 ?_
  refine a_istore_n C [(1, .int (0 : Int32)), (0, .ref (adOf X 157))] rfl (by decide) rfl dX0_loadSum_5 ?_
  refine a_iconst (v := 0) C (by decide) dX0_loadSum_6 ?_
  refine a_istore_n C [(2, .int (0 : Int32)), (1, .int (0 : Int32)), (0, .ref (adOf X 157))] rfl (by decide) rfl dX0_loadSum_7 ?_
  exact At.sub [2, 1, 0] rfl (w_Fl_loadSum_L8 C S _ hret _ _ _ h)
theorem c_Fl_loadSum {l : Launch} {D : va_G} {I : ClassId × ClassId × ClassId × ClassId} {ad : Nat → Nat} {q : St} {z : Int32 × St} (h : Fl_loadSum q = some z) : Ctr l D I (zK ad) 168 (shK I) ad yX0_loadSum cX0_loadSum 3 (some .int) rm_Fl_loadSum [.ref (ad 157)] q (some z.1) z.2 :=
  ctr_ofI (by decide) (Nat.le_of_ble_eq_true rfl) (fun p e s m args below meth c Q H0 X hX C hret => by subst hX; exact w_Fl_loadSum C ⟨rfl, rfl, rfl⟩ hret _ h)
theorem kK_10_285 {X : Cv} {cc : ByteArray} {rm : Room} {nL1 pc : Nat} {lv : List (Nat × Value)} {sk : List Value} {q : St} {z : Int32} {q2 : St} (C : Cx X cc RX10 rm nL1) (S : IsK X) (h : Fl_loadSum q = some (z, q2)) (hz : rm_Fl_loadSum.frames + 1 ≤ rm.frames ∧ 8 + (3 + 11) + rm_Fl_loadSum.locals ≤ rm.locals) (hr : (sk.map fun v => v.category).sum ≤ 8) (hd : decode cc pc = .ok (.invokevirtual 285, 3)) (k : At X (pc + 3) lv (.int z :: sk) q2) : At X pc lv (.ref (adOf X 157) :: sk) q := a_callVi (as := []) C (kp := 157) (kLt S (by decide)) (by rw [S.2.1]; rfl) rfl (by have hh := c_Fl_loadSum (l := X.2.1) (D := dOf X) (I := idOf X) (ad := adOf X) h; rw [← S.1, ← S.2.1, ← S.2.2] at hh; exact hh) (gd_V (tg 1117 (by decide +kernel) rfl) (tg 1118 (by decide +kernel) rfl) (tg 1119 (by decide +kernel) rfl) (tg 122 (by decide +kernel) rfl) (tg 1120 (by decide +kernel) rfl)) ⟨rfl, rfl, hz.1, hz.2⟩ ⟨by decide, by decide, by show Option.map _ (parseMethodDescriptor yX0_loadSum.desc) = some 0; decide⟩ hr rfl hd k
abbrev rm_Ss_converterCount : Room := { frames := 0, cells := 0, slots := 0, locals := 0 }
def Ss_converterCount_B4 (q : St) (rec : Int32 → Int32 → Option (Int32)) (v1 : Int32) (v2 : Int32) : Option (Int32) :=
  if (64 : Int32) ≤ v2 then
    some v1
  else
    b1 (rd 64 q 27 v2) fun x2 =>
    if x2 = (0 : Int32) then
      lt_ (v1 + (0 : Int32)) fun w4 =>
      rec w4 (v2 + 1)
    else
      lt_ (v1 + (1 : Int32)) fun w5 =>
      rec w5 (v2 + 1)
theorem w_Ss_converterCount_B4 {X : Cv} (C : Cx X cX7_converterCount RX7 rm_Ss_converterCount 3) (S : IsK X) (q : St) {z : Int32} (hret : RokI X cX7_converterCount .int z q) (rec : Int32 → Int32 → Option (Int32)) (hrec : ∀ (v1 : Int32) (v2 : Int32), rec v1 v2 = some z → At X 4 [(0, .ref (adOf X 19)), (1, .int v1), (2, .int v2)] [] q) (v1 : Int32) (v2 : Int32) (h : Ss_converterCount_B4 q rec v1 v2 = some z) : At X 4 [(0, .ref (adOf X 19)), (1, .int v1), (2, .int v2)] [] q := by
  unfold Ss_converterCount_B4 at h
  refine a_iload_n C 2 rfl rfl dX7_converterCount_4 ?_
  refine a_aload_n C 0 rfl rfl dX7_converterCount_5 ?_
  refine gK_7_34 C S (Or.inl rfl) dX7_converterCount_6 ?_
  refine nK_s8 (o := 19) C S (Or.inl rfl) dX7_converterCount_9 ?_
  refine a_icmp_ge C 36 (by decide) dX7_converterCount_10 (fun c1 => ?_) (fun c1 => ?_)
  · replace h := ifp c1 h
    refine a_iload_n C 1 rfl rfl dX7_converterCount_36 ?_
    exact a_iretR hret h rfl dX7_converterCount_37
  · replace h := ifn c1 h
    refine a_iload_n C 1 rfl rfl dX7_converterCount_13 ?_
    refine a_aload_n C 0 rfl rfl dX7_converterCount_14 ?_
    refine gK_7_34 C S (Or.inl rfl) dX7_converterCount_15 ?_
    refine a_iload_n C 2 rfl rfl dX7_converterCount_18 ?_
    obtain ⟨x2, e_x2, h⟩ := b1s h
    refine lK_s8 (o := 19) C S (Or.inl rfl) e_x2 dX7_converterCount_19 ?_
    refine a_if_eq C 27 (by decide) dX7_converterCount_20 (fun c3 => ?_) (fun c3 => ?_)
    · replace h := ifp c3 h
      refine a_iconst (v := 0) C (by decide) dX7_converterCount_27 ?_
      refine a_iadd C dX7_converterCount_28 ?_
      obtain ⟨w4, e_w4, h⟩ := lts h
      refine a_top e_w4 ?_
      refine a_istore_n C [(1, .int w4), (0, .ref (adOf X 19)), (2, .int v2)] rfl (by decide) rfl dX7_converterCount_29 ?_
      refine a_iinc (v := (v2 + 1)) C [(2, .int (v2 + 1)), (1, .int w4), (0, .ref (adOf X 19))] 2 rfl (congrArg (HAdd.hAdd v2) (by decide : Int32.ofInt (1) = (1 : Int32))) (by decide) rfl dX7_converterCount_30 ?_
      refine a_goto C 4 (by decide) dX7_converterCount_33 ?_
      exact At.sub [2, 1, 0] rfl (hrec _ _ h)
    · replace h := ifn c3 h
      refine a_iconst (v := 1) C (by decide) dX7_converterCount_23 ?_
      refine a_goto C 28 (by decide) dX7_converterCount_24 ?_
      refine a_iadd C dX7_converterCount_28 ?_
      obtain ⟨w5, e_w5, h⟩ := lts h
      refine a_top e_w5 ?_
      refine a_istore_n C [(1, .int w5), (0, .ref (adOf X 19)), (2, .int v2)] rfl (by decide) rfl dX7_converterCount_29 ?_
      refine a_iinc (v := (v2 + 1)) C [(2, .int (v2 + 1)), (1, .int w5), (0, .ref (adOf X 19))] 2 rfl (congrArg (HAdd.hAdd v2) (by decide : Int32.ofInt (1) = (1 : Int32))) (by decide) rfl dX7_converterCount_30 ?_
      refine a_goto C 4 (by decide) dX7_converterCount_33 ?_
      exact At.sub [2, 1, 0] rfl (hrec _ _ h)
def Ss_converterCount_L4 (q : St) : Nat → Int32 → Int32 → Option (Int32)
  | 0, _, _ => none
  | n + 1, v1, v2 => Ss_converterCount_B4 q (Ss_converterCount_L4 q n) v1 v2
theorem w_Ss_converterCount_L4 {X : Cv} (C : Cx X cX7_converterCount RX7 rm_Ss_converterCount 3) (S : IsK X) (q : St) {z : Int32} (hret : RokI X cX7_converterCount .int z q) (n : Nat) : ∀ (v1 : Int32) (v2 : Int32), Ss_converterCount_L4 q n v1 v2 = some z → At X 4 [(0, .ref (adOf X 19)), (1, .int v1), (2, .int v2)] [] q := by
  induction n with
  | zero => intro v1 v2 h; cases h
  | succ n ih => intro v1 v2 h; exact w_Ss_converterCount_B4 C S _ hret _ ih v1 v2 h
def Ss_converterCount (q : St) : Option (Int32) :=
  Ss_converterCount_L4 q FU (0 : Int32) (0 : Int32)
theorem w_Ss_converterCount {X : Cv} (C : Cx X cX7_converterCount RX7 rm_Ss_converterCount 3) (S : IsK X) {q : St} {z : Int32} (hret : RokI X cX7_converterCount .int z q) (h : Ss_converterCount q = some z) : At X 0 [(0, .ref (adOf X 19))] [] q := by
  unfold Ss_converterCount at h
  refine a_iconst (v := 0) C (by decide) dX7_converterCount_0 ?_
  refine a_istore_n C [(1, .int (0 : Int32)), (0, .ref (adOf X 19))] rfl (by decide) rfl dX7_converterCount_1 ?_
  refine a_iconst (v := 0) C (by decide) dX7_converterCount_2 ?_
  refine a_istore_n C [(2, .int (0 : Int32)), (1, .int (0 : Int32)), (0, .ref (adOf X 19))] rfl (by decide) rfl dX7_converterCount_3 ?_
  exact At.sub [2, 1, 0] rfl (w_Ss_converterCount_L4 C S _ hret _ _ _ h)
theorem c_Ss_converterCount {l : Launch} {D : va_G} {I : ClassId × ClassId × ClassId × ClassId} {ad : Nat → Nat} {q : St} {z : Int32} (h : Ss_converterCount q = some z) : Ctr l D I (zK ad) 168 (shK I) ad yX7_converterCount cX7_converterCount 3 (some .int) rm_Ss_converterCount [.ref (ad 19)] q (some z) q :=
  ctr_ofI (by decide) (Nat.le_of_ble_eq_true rfl) (fun p e s m args below meth c Q H0 X hX C hret => by subst hX; exact w_Ss_converterCount C ⟨rfl, rfl, rfl⟩ hret h)
theorem kK_10_288 {X : Cv} {cc : ByteArray} {rm : Room} {nL1 pc : Nat} {lv : List (Nat × Value)} {sk : List Value} {q : St} {z : Int32} (C : Cx X cc RX10 rm nL1) (S : IsK X) (h : Ss_converterCount q = some z) (hz : rm_Ss_converterCount.frames + 1 ≤ rm.frames ∧ 8 + (3 + 11) + rm_Ss_converterCount.locals ≤ rm.locals) (hr : (sk.map fun v => v.category).sum ≤ 8) (hd : decode cc pc = .ok (.invokevirtual 288, 3)) (k : At X (pc + 3) lv (.int z :: sk) q) : At X pc lv (.ref (adOf X 19) :: sk) q := a_callVi (as := []) C (kp := 19) (kLt S (by have hS2 : IsSt 19 := (Or.inl rfl); have := isSt_lt hS2; omega)) (by rw [S.2.1]; exact shK_st (o := 19) (j := 0) (Or.inl rfl) (by decide)) rfl (by have hh := c_Ss_converterCount (l := X.2.1) (D := dOf X) (I := idOf X) (ad := adOf X) h; rw [← S.1, ← S.2.1, ← S.2.2] at hh; exact hh) (gd_V (tg 1122 (by decide +kernel) rfl) (tg 1123 (by decide +kernel) rfl) (tg 1124 (by decide +kernel) rfl) (tg 117 (by decide +kernel) rfl) (tg 1125 (by decide +kernel) rfl)) ⟨rfl, rfl, hz.1, hz.2⟩ ⟨by decide, by decide, by show Option.map _ (parseMethodDescriptor yX7_converterCount.desc) = some 0; decide⟩ hr rfl hd k
abbrev rm_Sp_greatestDelay : Room := { frames := 1, cells := 0, slots := 0, locals := 50 }
def Sp_greatestDelay_B4 (q : St) (rec : Int32 → Int32 → Option (Int32)) (v1 : Int32) (v2 : Int32) : Option (Int32) :=
  if (gt q 1 0) ≤ v2 then
    some v1
  else
    b1 (Sp_delayTo q v2) fun x2 =>
    lt_ (imax v1 x2) fun w3 =>
    rec w3 (v2 + 1)
theorem w_Sp_greatestDelay_B4 {X : Cv} (C : Cx X cX6_greatestDelay RX6 rm_Sp_greatestDelay 3) (S : IsK X) (q : St) {z : Int32} (hret : RokI X cX6_greatestDelay .int z q) (rec : Int32 → Int32 → Option (Int32)) (hrec : ∀ (v1 : Int32) (v2 : Int32), rec v1 v2 = some z → At X 4 [(0, .ref (adOf X 156)), (1, .int v1), (2, .int v2)] [] q) (v1 : Int32) (v2 : Int32) (h : Sp_greatestDelay_B4 q rec v1 v2 = some z) : At X 4 [(0, .ref (adOf X 156)), (1, .int v1), (2, .int v2)] [] q := by
  unfold Sp_greatestDelay_B4 at h
  refine a_iload_n C 2 rfl rfl dX6_greatestDelay_4 ?_
  refine a_aload_n C 0 rfl rfl dX6_greatestDelay_5 ?_
  refine gK_6_9 C S dX6_greatestDelay_6 ?_
  refine gK_6_33 C S (Or.inl rfl) dX6_greatestDelay_9 ?_
  refine a_icmp_ge C 31 (by decide) dX6_greatestDelay_12 (fun c1 => ?_) (fun c1 => ?_)
  · replace h := ifp c1 h
    refine a_iload_n C 1 rfl rfl dX6_greatestDelay_31 ?_
    exact a_iretR hret h rfl dX6_greatestDelay_32
  · replace h := ifn c1 h
    refine a_iload_n C 1 rfl rfl dX6_greatestDelay_15 ?_
    refine a_aload_n C 0 rfl rfl dX6_greatestDelay_16 ?_
    refine a_iload_n C 2 rfl rfl dX6_greatestDelay_17 ?_
    obtain ⟨x2, e_x2, h⟩ := b1s h
    refine kK_6_37 C S e_x2 ⟨(Nat.le_of_ble_eq_true rfl), (Nat.le_of_ble_eq_true rfl)⟩ (Nat.le_of_ble_eq_true rfl) dX6_greatestDelay_18 ?_
    refine a_mmax C (tg 1131 (by decide +kernel) rfl) (Nat.le_of_ble_eq_true rfl) (Nat.le_of_ble_eq_true rfl) dX6_greatestDelay_21 ?_
    obtain ⟨w3, e_w3, h⟩ := lts h
    refine a_top e_w3 ?_
    refine a_istore_n C [(1, .int w3), (0, .ref (adOf X 156)), (2, .int v2)] rfl (by decide) rfl dX6_greatestDelay_24 ?_
    refine a_iinc (v := (v2 + 1)) C [(2, .int (v2 + 1)), (1, .int w3), (0, .ref (adOf X 156))] 2 rfl (congrArg (HAdd.hAdd v2) (by decide : Int32.ofInt (1) = (1 : Int32))) (by decide) rfl dX6_greatestDelay_25 ?_
    refine a_goto C 4 (by decide) dX6_greatestDelay_28 ?_
    exact At.sub [2, 1, 0] rfl (hrec _ _ h)
def Sp_greatestDelay_L4 (q : St) : Nat → Int32 → Int32 → Option (Int32)
  | 0, _, _ => none
  | n + 1, v1, v2 => Sp_greatestDelay_B4 q (Sp_greatestDelay_L4 q n) v1 v2
theorem w_Sp_greatestDelay_L4 {X : Cv} (C : Cx X cX6_greatestDelay RX6 rm_Sp_greatestDelay 3) (S : IsK X) (q : St) {z : Int32} (hret : RokI X cX6_greatestDelay .int z q) (n : Nat) : ∀ (v1 : Int32) (v2 : Int32), Sp_greatestDelay_L4 q n v1 v2 = some z → At X 4 [(0, .ref (adOf X 156)), (1, .int v1), (2, .int v2)] [] q := by
  induction n with
  | zero => intro v1 v2 h; cases h
  | succ n ih => intro v1 v2 h; exact w_Sp_greatestDelay_B4 C S _ hret _ ih v1 v2 h
def Sp_greatestDelay (q : St) : Option (Int32) :=
  Sp_greatestDelay_L4 q FU (0 : Int32) (0 : Int32)
theorem w_Sp_greatestDelay {X : Cv} (C : Cx X cX6_greatestDelay RX6 rm_Sp_greatestDelay 3) (S : IsK X) {q : St} {z : Int32} (hret : RokI X cX6_greatestDelay .int z q) (h : Sp_greatestDelay q = some z) : At X 0 [(0, .ref (adOf X 156))] [] q := by
  unfold Sp_greatestDelay at h
  refine a_iconst (v := 0) C (by decide) dX6_greatestDelay_0 ?_
  refine a_istore_n C [(1, .int (0 : Int32)), (0, .ref (adOf X 156))] rfl (by decide) rfl dX6_greatestDelay_1 ?_
  refine a_iconst (v := 0) C (by decide) dX6_greatestDelay_2 ?_
  refine a_istore_n C [(2, .int (0 : Int32)), (1, .int (0 : Int32)), (0, .ref (adOf X 156))] rfl (by decide) rfl dX6_greatestDelay_3 ?_
  exact At.sub [2, 1, 0] rfl (w_Sp_greatestDelay_L4 C S _ hret _ _ _ h)
theorem c_Sp_greatestDelay {l : Launch} {D : va_G} {I : ClassId × ClassId × ClassId × ClassId} {ad : Nat → Nat} {q : St} {z : Int32} (h : Sp_greatestDelay q = some z) : Ctr l D I (zK ad) 168 (shK I) ad yX6_greatestDelay cX6_greatestDelay 3 (some .int) rm_Sp_greatestDelay [.ref (ad 156)] q (some z) q :=
  ctr_ofI (by decide) (Nat.le_of_ble_eq_true rfl) (fun p e s m args below meth c Q H0 X hX C hret => by subst hX; exact w_Sp_greatestDelay C ⟨rfl, rfl, rfl⟩ hret h)
theorem kK_10_291 {X : Cv} {cc : ByteArray} {rm : Room} {nL1 pc : Nat} {lv : List (Nat × Value)} {sk : List Value} {q : St} {z : Int32} (C : Cx X cc RX10 rm nL1) (S : IsK X) (h : Sp_greatestDelay q = some z) (hz : rm_Sp_greatestDelay.frames + 1 ≤ rm.frames ∧ 8 + (3 + 11) + rm_Sp_greatestDelay.locals ≤ rm.locals) (hr : (sk.map fun v => v.category).sum ≤ 8) (hd : decode cc pc = .ok (.invokevirtual 291, 3)) (k : At X (pc + 3) lv (.int z :: sk) q) : At X pc lv (.ref (adOf X 156) :: sk) q := a_callVi (as := []) C (kp := 156) (kLt S (by decide)) (by rw [S.2.1]; rfl) rfl (by have hh := c_Sp_greatestDelay (l := X.2.1) (D := dOf X) (I := idOf X) (ad := adOf X) h; rw [← S.1, ← S.2.1, ← S.2.2] at hh; exact hh) (gd_V (tg 1126 (by decide +kernel) rfl) (tg 1127 (by decide +kernel) rfl) (tg 1128 (by decide +kernel) rfl) (tg 121 (by decide +kernel) rfl) (tg 1129 (by decide +kernel) rfl)) ⟨rfl, rfl, hz.1, hz.2⟩ ⟨by decide, by decide, by show Option.map _ (parseMethodDescriptor yX6_greatestDelay.desc) = some 0; decide⟩ hr rfl hd k
abbrev rm_K_contentCount : Room := { frames := 0, cells := 0, slots := 0, locals := 0 }
def K_contentCount_B4 (q : St) (rec : Int32 → Int32 → Option (Int32)) (v1 : Int32) (v2 : Int32) : Option (Int32) :=
  if (gt q 19 0) ≤ v2 then
    some v1
  else
    b1 (rd 21 q 24 v2) fun x2 =>
    if x2 = (0 : Int32) then
      b1 (rd 21 q 23 v2) fun x5 =>
      b1 (rd 21 q 22 v2) fun x6 =>
      if x5 = x6 then
        lt_ (v1 + (1 : Int32)) fun w9 =>
        rec w9 (v2 + 1)
      else
        lt_ (v1 + (0 : Int32)) fun w8 =>
        rec w8 (v2 + 1)
    else
      lt_ (v1 + (0 : Int32)) fun w4 =>
      rec w4 (v2 + 1)
theorem w_K_contentCount_B4 {X : Cv} (C : Cx X cX10_contentCount RX10 rm_K_contentCount 3) (S : IsK X) (q : St) {z : Int32} (hret : RokI X cX10_contentCount .int z q) (rec : Int32 → Int32 → Option (Int32)) (hrec : ∀ (v1 : Int32) (v2 : Int32), rec v1 v2 = some z → At X 4 [(0, .ref (adOf X 0)), (1, .int v1), (2, .int v2)] [] q) (v1 : Int32) (v2 : Int32) (h : K_contentCount_B4 q rec v1 v2 = some z) : At X 4 [(0, .ref (adOf X 0)), (1, .int v1), (2, .int v2)] [] q := by
  unfold K_contentCount_B4 at h
  refine a_iload_n C 2 rfl rfl dX10_contentCount_4 ?_
  refine a_aload_n C 0 rfl rfl dX10_contentCount_5 ?_
  refine gK_10_22 C S dX10_contentCount_6 ?_
  refine gK_10_166 C S (Or.inl rfl) dX10_contentCount_9 ?_
  refine a_icmp_ge C 62 (by decide) dX10_contentCount_12 (fun c1 => ?_) (fun c1 => ?_)
  · replace h := ifp c1 h
    refine a_iload_n C 1 rfl rfl dX10_contentCount_62 ?_
    exact a_iretR hret h rfl dX10_contentCount_63
  · replace h := ifn c1 h
    refine a_iload_n C 1 rfl rfl dX10_contentCount_15 ?_
    refine a_aload_n C 0 rfl rfl dX10_contentCount_16 ?_
    refine gK_10_22 C S dX10_contentCount_17 ?_
    refine gK_10_187 C S (Or.inl rfl) dX10_contentCount_20 ?_
    refine a_iload_n C 2 rfl rfl dX10_contentCount_23 ?_
    obtain ⟨x2, e_x2, h⟩ := b1s h
    refine lK_s5 (o := 19) C S (Or.inl rfl) e_x2 dX10_contentCount_24 ?_
    refine a_if_ne C 53 (by decide) dX10_contentCount_25 (fun c3 => ?_) (fun c3 => ?_)
    · replace h := ifn c3 h
      refine a_iconst (v := 0) C (by decide) dX10_contentCount_53 ?_
      refine a_iadd C dX10_contentCount_54 ?_
      obtain ⟨w4, e_w4, h⟩ := lts h
      refine a_top e_w4 ?_
      refine a_istore_n C [(1, .int w4), (0, .ref (adOf X 0)), (2, .int v2)] rfl (by decide) rfl dX10_contentCount_55 ?_
      refine a_iinc (v := (v2 + 1)) C [(2, .int (v2 + 1)), (1, .int w4), (0, .ref (adOf X 0))] 2 rfl (congrArg (HAdd.hAdd v2) (by decide : Int32.ofInt (1) = (1 : Int32))) (by decide) rfl dX10_contentCount_56 ?_
      refine a_goto C 4 (by decide) dX10_contentCount_59 ?_
      exact At.sub [2, 1, 0] rfl (hrec _ _ h)
    · replace h := ifp c3 h
      refine a_aload_n C 0 rfl rfl dX10_contentCount_28 ?_
      refine gK_10_22 C S dX10_contentCount_29 ?_
      refine gK_10_184 C S (Or.inl rfl) dX10_contentCount_32 ?_
      refine a_iload_n C 2 rfl rfl dX10_contentCount_35 ?_
      obtain ⟨x5, e_x5, h⟩ := b1s h
      refine lK_s4 (o := 19) C S (Or.inl rfl) e_x5 dX10_contentCount_36 ?_
      refine a_aload_n C 0 rfl rfl dX10_contentCount_37 ?_
      refine gK_10_22 C S dX10_contentCount_38 ?_
      refine gK_10_193 C S (Or.inl rfl) dX10_contentCount_41 ?_
      refine a_iload_n C 2 rfl rfl dX10_contentCount_44 ?_
      obtain ⟨x6, e_x6, h⟩ := b1s h
      refine lK_s3 (o := 19) C S (Or.inl rfl) e_x6 dX10_contentCount_45 ?_
      refine a_icmp_ne C 53 (by decide) dX10_contentCount_46 (fun c7 => ?_) (fun c7 => ?_)
      · replace h := ifn c7 h
        refine a_iconst (v := 0) C (by decide) dX10_contentCount_53 ?_
        refine a_iadd C dX10_contentCount_54 ?_
        obtain ⟨w8, e_w8, h⟩ := lts h
        refine a_top e_w8 ?_
        refine a_istore_n C [(1, .int w8), (0, .ref (adOf X 0)), (2, .int v2)] rfl (by decide) rfl dX10_contentCount_55 ?_
        refine a_iinc (v := (v2 + 1)) C [(2, .int (v2 + 1)), (1, .int w8), (0, .ref (adOf X 0))] 2 rfl (congrArg (HAdd.hAdd v2) (by decide : Int32.ofInt (1) = (1 : Int32))) (by decide) rfl dX10_contentCount_56 ?_
        refine a_goto C 4 (by decide) dX10_contentCount_59 ?_
        exact At.sub [2, 1, 0] rfl (hrec _ _ h)
      · replace h := ifp c7 h
        refine a_iconst (v := 1) C (by decide) dX10_contentCount_49 ?_
        refine a_goto C 54 (by decide) dX10_contentCount_50 ?_
        refine a_iadd C dX10_contentCount_54 ?_
        obtain ⟨w9, e_w9, h⟩ := lts h
        refine a_top e_w9 ?_
        refine a_istore_n C [(1, .int w9), (0, .ref (adOf X 0)), (2, .int v2)] rfl (by decide) rfl dX10_contentCount_55 ?_
        refine a_iinc (v := (v2 + 1)) C [(2, .int (v2 + 1)), (1, .int w9), (0, .ref (adOf X 0))] 2 rfl (congrArg (HAdd.hAdd v2) (by decide : Int32.ofInt (1) = (1 : Int32))) (by decide) rfl dX10_contentCount_56 ?_
        refine a_goto C 4 (by decide) dX10_contentCount_59 ?_
        exact At.sub [2, 1, 0] rfl (hrec _ _ h)
def K_contentCount_L4 (q : St) : Nat → Int32 → Int32 → Option (Int32)
  | 0, _, _ => none
  | n + 1, v1, v2 => K_contentCount_B4 q (K_contentCount_L4 q n) v1 v2
theorem w_K_contentCount_L4 {X : Cv} (C : Cx X cX10_contentCount RX10 rm_K_contentCount 3) (S : IsK X) (q : St) {z : Int32} (hret : RokI X cX10_contentCount .int z q) (n : Nat) : ∀ (v1 : Int32) (v2 : Int32), K_contentCount_L4 q n v1 v2 = some z → At X 4 [(0, .ref (adOf X 0)), (1, .int v1), (2, .int v2)] [] q := by
  induction n with
  | zero => intro v1 v2 h; cases h
  | succ n ih => intro v1 v2 h; exact w_K_contentCount_B4 C S _ hret _ ih v1 v2 h
def K_contentCount (q : St) : Option (Int32) :=
  K_contentCount_L4 q FU (0 : Int32) (0 : Int32)
theorem w_K_contentCount {X : Cv} (C : Cx X cX10_contentCount RX10 rm_K_contentCount 3) (S : IsK X) {q : St} {z : Int32} (hret : RokI X cX10_contentCount .int z q) (h : K_contentCount q = some z) : At X 0 [(0, .ref (adOf X 0))] [] q := by
  unfold K_contentCount at h
  refine a_iconst (v := 0) C (by decide) dX10_contentCount_0 ?_
  refine a_istore_n C [(1, .int (0 : Int32)), (0, .ref (adOf X 0))] rfl (by decide) rfl dX10_contentCount_1 ?_
  refine a_iconst (v := 0) C (by decide) dX10_contentCount_2 ?_
  refine a_istore_n C [(2, .int (0 : Int32)), (1, .int (0 : Int32)), (0, .ref (adOf X 0))] rfl (by decide) rfl dX10_contentCount_3 ?_
  exact At.sub [2, 1, 0] rfl (w_K_contentCount_L4 C S _ hret _ _ _ h)
theorem c_K_contentCount {l : Launch} {D : va_G} {I : ClassId × ClassId × ClassId × ClassId} {ad : Nat → Nat} {q : St} {z : Int32} (h : K_contentCount q = some z) : Ctr l D I (zK ad) 168 (shK I) ad yX10_contentCount cX10_contentCount 3 (some .int) rm_K_contentCount [.ref (ad 0)] q (some z) q :=
  ctr_ofI (by decide) (Nat.le_of_ble_eq_true rfl) (fun p e s m args below meth c Q H0 X hX C hret => by subst hX; exact w_K_contentCount C ⟨rfl, rfl, rfl⟩ hret h)
theorem kK_10_294 {X : Cv} {cc : ByteArray} {rm : Room} {nL1 pc : Nat} {lv : List (Nat × Value)} {sk : List Value} {q : St} {z : Int32} (C : Cx X cc RX10 rm nL1) (S : IsK X) (h : K_contentCount q = some z) (hz : rm_K_contentCount.frames + 1 ≤ rm.frames ∧ 8 + (3 + 11) + rm_K_contentCount.locals ≤ rm.locals) (hr : (sk.map fun v => v.category).sum ≤ 8) (hd : decode cc pc = .ok (.invokevirtual 294, 3)) (k : At X (pc + 3) lv (.int z :: sk) q) : At X pc lv (.ref (adOf X 0) :: sk) q := a_callVi (as := []) C (kp := 0) (kLt S (by decide)) (by rw [S.2.1]; rfl) rfl (by have hh := c_K_contentCount (l := X.2.1) (D := dOf X) (I := idOf X) (ad := adOf X) h; rw [← S.1, ← S.2.1, ← S.2.2] at hh; exact hh) (gd_V (tg 1134 (by decide +kernel) rfl) (tg 1136 (by decide +kernel) rfl) (tg 40 (by decide +kernel) rfl) (tg 115 (by decide +kernel) rfl) (tg 1137 (by decide +kernel) rfl)) ⟨rfl, rfl, hz.1, hz.2⟩ ⟨by decide, by decide, by show Option.map _ (parseMethodDescriptor yX10_contentCount.desc) = some 0; decide⟩ hr rfl hd k
abbrev rm_K_presentCount : Room := { frames := 0, cells := 0, slots := 0, locals := 0 }
def K_presentCount_B4 (q : St) (rec : Int32 → Int32 → Option (Int32)) (v1 : Int32) (v2 : Int32) : Option (Int32) :=
  if (gt q 19 0) ≤ v2 then
    some v1
  else
    b1 (rd 21 q 24 v2) fun x2 =>
    if x2 = (0 : Int32) then
      lt_ (v1 + (1 : Int32)) fun w4 =>
      rec w4 (v2 + 1)
    else
      lt_ (v1 + (0 : Int32)) fun w5 =>
      rec w5 (v2 + 1)
theorem w_K_presentCount_B4 {X : Cv} (C : Cx X cX10_presentCount RX10 rm_K_presentCount 3) (S : IsK X) (q : St) {z : Int32} (hret : RokI X cX10_presentCount .int z q) (rec : Int32 → Int32 → Option (Int32)) (hrec : ∀ (v1 : Int32) (v2 : Int32), rec v1 v2 = some z → At X 4 [(0, .ref (adOf X 0)), (1, .int v1), (2, .int v2)] [] q) (v1 : Int32) (v2 : Int32) (h : K_presentCount_B4 q rec v1 v2 = some z) : At X 4 [(0, .ref (adOf X 0)), (1, .int v1), (2, .int v2)] [] q := by
  unfold K_presentCount_B4 at h
  refine a_iload_n C 2 rfl rfl dX10_presentCount_4 ?_
  refine a_aload_n C 0 rfl rfl dX10_presentCount_5 ?_
  refine gK_10_22 C S dX10_presentCount_6 ?_
  refine gK_10_166 C S (Or.inl rfl) dX10_presentCount_9 ?_
  refine a_icmp_ge C 41 (by decide) dX10_presentCount_12 (fun c1 => ?_) (fun c1 => ?_)
  · replace h := ifp c1 h
    refine a_iload_n C 1 rfl rfl dX10_presentCount_41 ?_
    exact a_iretR hret h rfl dX10_presentCount_42
  · replace h := ifn c1 h
    refine a_iload_n C 1 rfl rfl dX10_presentCount_15 ?_
    refine a_aload_n C 0 rfl rfl dX10_presentCount_16 ?_
    refine gK_10_22 C S dX10_presentCount_17 ?_
    refine gK_10_187 C S (Or.inl rfl) dX10_presentCount_20 ?_
    refine a_iload_n C 2 rfl rfl dX10_presentCount_23 ?_
    obtain ⟨x2, e_x2, h⟩ := b1s h
    refine lK_s5 (o := 19) C S (Or.inl rfl) e_x2 dX10_presentCount_24 ?_
    refine a_if_eq C 32 (by decide) dX10_presentCount_25 (fun c3 => ?_) (fun c3 => ?_)
    · replace h := ifp c3 h
      refine a_iconst (v := 1) C (by decide) dX10_presentCount_32 ?_
      refine a_iadd C dX10_presentCount_33 ?_
      obtain ⟨w4, e_w4, h⟩ := lts h
      refine a_top e_w4 ?_
      refine a_istore_n C [(1, .int w4), (0, .ref (adOf X 0)), (2, .int v2)] rfl (by decide) rfl dX10_presentCount_34 ?_
      refine a_iinc (v := (v2 + 1)) C [(2, .int (v2 + 1)), (1, .int w4), (0, .ref (adOf X 0))] 2 rfl (congrArg (HAdd.hAdd v2) (by decide : Int32.ofInt (1) = (1 : Int32))) (by decide) rfl dX10_presentCount_35 ?_
      refine a_goto C 4 (by decide) dX10_presentCount_38 ?_
      exact At.sub [2, 1, 0] rfl (hrec _ _ h)
    · replace h := ifn c3 h
      refine a_iconst (v := 0) C (by decide) dX10_presentCount_28 ?_
      refine a_goto C 33 (by decide) dX10_presentCount_29 ?_
      refine a_iadd C dX10_presentCount_33 ?_
      obtain ⟨w5, e_w5, h⟩ := lts h
      refine a_top e_w5 ?_
      refine a_istore_n C [(1, .int w5), (0, .ref (adOf X 0)), (2, .int v2)] rfl (by decide) rfl dX10_presentCount_34 ?_
      refine a_iinc (v := (v2 + 1)) C [(2, .int (v2 + 1)), (1, .int w5), (0, .ref (adOf X 0))] 2 rfl (congrArg (HAdd.hAdd v2) (by decide : Int32.ofInt (1) = (1 : Int32))) (by decide) rfl dX10_presentCount_35 ?_
      refine a_goto C 4 (by decide) dX10_presentCount_38 ?_
      exact At.sub [2, 1, 0] rfl (hrec _ _ h)
def K_presentCount_L4 (q : St) : Nat → Int32 → Int32 → Option (Int32)
  | 0, _, _ => none
  | n + 1, v1, v2 => K_presentCount_B4 q (K_presentCount_L4 q n) v1 v2
theorem w_K_presentCount_L4 {X : Cv} (C : Cx X cX10_presentCount RX10 rm_K_presentCount 3) (S : IsK X) (q : St) {z : Int32} (hret : RokI X cX10_presentCount .int z q) (n : Nat) : ∀ (v1 : Int32) (v2 : Int32), K_presentCount_L4 q n v1 v2 = some z → At X 4 [(0, .ref (adOf X 0)), (1, .int v1), (2, .int v2)] [] q := by
  induction n with
  | zero => intro v1 v2 h; cases h
  | succ n ih => intro v1 v2 h; exact w_K_presentCount_B4 C S _ hret _ ih v1 v2 h
def K_presentCount (q : St) : Option (Int32) :=
  K_presentCount_L4 q FU (0 : Int32) (0 : Int32)
theorem w_K_presentCount {X : Cv} (C : Cx X cX10_presentCount RX10 rm_K_presentCount 3) (S : IsK X) {q : St} {z : Int32} (hret : RokI X cX10_presentCount .int z q) (h : K_presentCount q = some z) : At X 0 [(0, .ref (adOf X 0))] [] q := by
  unfold K_presentCount at h
  refine a_iconst (v := 0) C (by decide) dX10_presentCount_0 ?_
  refine a_istore_n C [(1, .int (0 : Int32)), (0, .ref (adOf X 0))] rfl (by decide) rfl dX10_presentCount_1 ?_
  refine a_iconst (v := 0) C (by decide) dX10_presentCount_2 ?_
  refine a_istore_n C [(2, .int (0 : Int32)), (1, .int (0 : Int32)), (0, .ref (adOf X 0))] rfl (by decide) rfl dX10_presentCount_3 ?_
  exact At.sub [2, 1, 0] rfl (w_K_presentCount_L4 C S _ hret _ _ _ h)
theorem c_K_presentCount {l : Launch} {D : va_G} {I : ClassId × ClassId × ClassId × ClassId} {ad : Nat → Nat} {q : St} {z : Int32} (h : K_presentCount q = some z) : Ctr l D I (zK ad) 168 (shK I) ad yX10_presentCount cX10_presentCount 3 (some .int) rm_K_presentCount [.ref (ad 0)] q (some z) q :=
  ctr_ofI (by decide) (Nat.le_of_ble_eq_true rfl) (fun p e s m args below meth c Q H0 X hX C hret => by subst hX; exact w_K_presentCount C ⟨rfl, rfl, rfl⟩ hret h)
theorem kK_10_297 {X : Cv} {cc : ByteArray} {rm : Room} {nL1 pc : Nat} {lv : List (Nat × Value)} {sk : List Value} {q : St} {z : Int32} (C : Cx X cc RX10 rm nL1) (S : IsK X) (h : K_presentCount q = some z) (hz : rm_K_presentCount.frames + 1 ≤ rm.frames ∧ 8 + (3 + 11) + rm_K_presentCount.locals ≤ rm.locals) (hr : (sk.map fun v => v.category).sum ≤ 8) (hd : decode cc pc = .ok (.invokevirtual 297, 3)) (k : At X (pc + 3) lv (.int z :: sk) q) : At X pc lv (.ref (adOf X 0) :: sk) q := a_callVi (as := []) C (kp := 0) (kLt S (by decide)) (by rw [S.2.1]; rfl) rfl (by have hh := c_K_presentCount (l := X.2.1) (D := dOf X) (I := idOf X) (ad := adOf X) h; rw [← S.1, ← S.2.1, ← S.2.2] at hh; exact hh) (gd_V (tg 1138 (by decide +kernel) rfl) (tg 1140 (by decide +kernel) rfl) (tg 41 (by decide +kernel) rfl) (tg 115 (by decide +kernel) rfl) (tg 1141 (by decide +kernel) rfl)) ⟨rfl, rfl, hz.1, hz.2⟩ ⟨by decide, by decide, by show Option.map _ (parseMethodDescriptor yX10_presentCount.desc) = some 0; decide⟩ hr rfl hd k
abbrev rm_K_total : Room := { frames := 4, cells := 0, slots := 0, locals := 93 }
def K_total (q : St) (v1 : Int32) : Option (Int32 × St) :=
  if v1 = (0 : Int32) then
    b1 (Ss_levelSum q) fun x2 =>
    some (x2, q)
  else
  if v1 = (1 : Int32) then
    b1 (K_wantedSum q) fun x4 =>
    some (x4, q)
  else
  if v1 = (2 : Int32) then
    b2 (Fl_loadSum q) fun x6 q7 =>
    some (x6, q7)
  else
  if v1 = (3 : Int32) then
    b1 (Sp_subtree q (0 : Int32)) fun x9 =>
    b1 (J_bitCount q x9) fun x10 =>
    some (x10, q)
  else
  if v1 = (4 : Int32) then
    b1 (Ss_converterCount q) fun x12 =>
    some (x12, q)
  else
  if v1 = (5 : Int32) then
    b1 (Sp_greatestDelay q) fun x14 =>
    some (x14, q)
  else
  if v1 = (6 : Int32) then
    b1 (K_contentCount q) fun x16 =>
    some (x16, q)
  else
  if v1 = (7 : Int32) then
    b1 (K_presentCount q) fun x18 =>
    some (x18, q)
  else
  some ((-1 : Int32), q)
theorem w_K_total {X : Cv} (C : Cx X cX10_total RX10 rm_K_total 2) (S : IsK X) {z : Int32 × St} (hret : RokI X cX10_total .int z.1 z.2) (v1 : Int32) (q : St) (h : K_total q v1 = some z) : At X 0 [(0, .ref (adOf X 0)), (1, .int v1)] [] q := by
  unfold K_total at h
  refine a_iload_n C 1 rfl rfl dX10_total_0 ?_
  by_cases c1 : v1 = (0 : Int32)
  · replace h := ifp c1 h
    refine a_tabIn C 48 dX10_total_1 (by rw [c1]; decide) (by rw [c1]; decide) (by rw [c1]; rfl) (by decide) ?_
    refine a_aload_n C 0 rfl rfl dX10_total_48 ?_
    refine gK_10_22 C S dX10_total_49 ?_
    obtain ⟨x2, e_x2, h⟩ := b1s h
    refine kK_10_279 C S e_x2 ⟨(Nat.le_of_ble_eq_true rfl), (Nat.le_of_ble_eq_true rfl)⟩ (Nat.le_of_ble_eq_true rfl) dX10_total_52 ?_
    exact a_iret hret h rfl dX10_total_55
  replace h := ifn c1 h
  by_cases c3 : v1 = (1 : Int32)
  · replace h := ifp c3 h
    refine a_tabIn C 56 dX10_total_1 (by rw [c3]; decide) (by rw [c3]; decide) (by rw [c3]; rfl) (by decide) ?_
    refine a_aload_n C 0 rfl rfl dX10_total_56 ?_
    obtain ⟨x4, e_x4, h⟩ := b1s h
    refine kK_10_282 C S e_x4 ⟨(Nat.le_of_ble_eq_true rfl), (Nat.le_of_ble_eq_true rfl)⟩ (Nat.le_of_ble_eq_true rfl) dX10_total_57 ?_
    exact a_iret hret h rfl dX10_total_60
  replace h := ifn c3 h
  by_cases c5 : v1 = (2 : Int32)
  · replace h := ifp c5 h
    refine a_tabIn C 61 dX10_total_1 (by rw [c5]; decide) (by rw [c5]; decide) (by rw [c5]; rfl) (by decide) ?_
    refine a_aload_n C 0 rfl rfl dX10_total_61 ?_
    refine gK_10_66 C S dX10_total_62 ?_
    obtain ⟨x6, q7, e_q7, h⟩ := b2s h
    refine kK_10_285 C S e_q7 ⟨(Nat.le_of_ble_eq_true rfl), (Nat.le_of_ble_eq_true rfl)⟩ (Nat.le_of_ble_eq_true rfl) dX10_total_65 ?_
    exact a_iret hret h rfl dX10_total_68
  replace h := ifn c5 h
  by_cases c8 : v1 = (3 : Int32)
  · replace h := ifp c8 h
    refine a_tabIn C 69 dX10_total_1 (by rw [c8]; decide) (by rw [c8]; decide) (by rw [c8]; rfl) (by decide) ?_
    refine a_aload_n C 0 rfl rfl dX10_total_69 ?_
    refine gK_10_57 C S dX10_total_70 ?_
    refine a_iconst (v := 0) C (by decide) dX10_total_73 ?_
    obtain ⟨x9, e_x9, h⟩ := b1s h
    refine kK_10_270 C S e_x9 ⟨(Nat.le_of_ble_eq_true rfl), (Nat.le_of_ble_eq_true rfl)⟩ (Nat.le_of_ble_eq_true rfl) dX10_total_74 ?_
    obtain ⟨x10, e_x10, h⟩ := b1s h
    refine k_J_bitCount C e_x10 (tg 1064 (by decide +kernel) rfl) ⟨(Nat.le_of_ble_eq_true rfl), (Nat.le_of_ble_eq_true rfl)⟩ (Nat.le_of_ble_eq_true rfl) dX10_total_77 ?_
    exact a_iret hret h rfl dX10_total_80
  replace h := ifn c8 h
  by_cases c11 : v1 = (4 : Int32)
  · replace h := ifp c11 h
    refine a_tabIn C 81 dX10_total_1 (by rw [c11]; decide) (by rw [c11]; decide) (by rw [c11]; rfl) (by decide) ?_
    refine a_aload_n C 0 rfl rfl dX10_total_81 ?_
    refine gK_10_22 C S dX10_total_82 ?_
    obtain ⟨x12, e_x12, h⟩ := b1s h
    refine kK_10_288 C S e_x12 ⟨(Nat.le_of_ble_eq_true rfl), (Nat.le_of_ble_eq_true rfl)⟩ (Nat.le_of_ble_eq_true rfl) dX10_total_85 ?_
    exact a_iret hret h rfl dX10_total_88
  replace h := ifn c11 h
  by_cases c13 : v1 = (5 : Int32)
  · replace h := ifp c13 h
    refine a_tabIn C 89 dX10_total_1 (by rw [c13]; decide) (by rw [c13]; decide) (by rw [c13]; rfl) (by decide) ?_
    refine a_aload_n C 0 rfl rfl dX10_total_89 ?_
    refine gK_10_57 C S dX10_total_90 ?_
    obtain ⟨x14, e_x14, h⟩ := b1s h
    refine kK_10_291 C S e_x14 ⟨(Nat.le_of_ble_eq_true rfl), (Nat.le_of_ble_eq_true rfl)⟩ (Nat.le_of_ble_eq_true rfl) dX10_total_93 ?_
    exact a_iret hret h rfl dX10_total_96
  replace h := ifn c13 h
  by_cases c15 : v1 = (6 : Int32)
  · replace h := ifp c15 h
    refine a_tabIn C 97 dX10_total_1 (by rw [c15]; decide) (by rw [c15]; decide) (by rw [c15]; rfl) (by decide) ?_
    refine a_aload_n C 0 rfl rfl dX10_total_97 ?_
    obtain ⟨x16, e_x16, h⟩ := b1s h
    refine kK_10_294 C S e_x16 ⟨(Nat.le_of_ble_eq_true rfl), (Nat.le_of_ble_eq_true rfl)⟩ (Nat.le_of_ble_eq_true rfl) dX10_total_98 ?_
    exact a_iret hret h rfl dX10_total_101
  replace h := ifn c15 h
  by_cases c17 : v1 = (7 : Int32)
  · replace h := ifp c17 h
    refine a_tabIn C 102 dX10_total_1 (by rw [c17]; decide) (by rw [c17]; decide) (by rw [c17]; rfl) (by decide) ?_
    refine a_aload_n C 0 rfl rfl dX10_total_102 ?_
    obtain ⟨x18, e_x18, h⟩ := b1s h
    refine kK_10_297 C S e_x18 ⟨(Nat.le_of_ble_eq_true rfl), (Nat.le_of_ble_eq_true rfl)⟩ (Nat.le_of_ble_eq_true rfl) dX10_total_103 ?_
    exact a_iret hret h rfl dX10_total_106
  replace h := ifn c17 h
  refine a_tabOut C 107 dX10_total_1 (by have t0 := tsn (k := 0) (by decide) c1; have t1 := tsn (k := 1) (by decide) c3; have t2 := tsn (k := 2) (by decide) c5; have t3 := tsn (k := 3) (by decide) c8; have t4 := tsn (k := 4) (by decide) c11; have t5 := tsn (k := 5) (by decide) c13; have t6 := tsn (k := 6) (by decide) c15; have t7 := tsn (k := 7) (by decide) c17; omega) (by decide) ?_
  refine a_iconst (v := -1) C (by decide) dX10_total_107 ?_
  exact a_iret hret h rfl dX10_total_108
theorem c_K_total {l : Launch} {D : va_G} {I : ClassId × ClassId × ClassId × ClassId} {ad : Nat → Nat} {q : St} {v1 : Int32} {z : Int32 × St} (h : K_total q v1 = some z) : Ctr l D I (zK ad) 168 (shK I) ad yX10_total cX10_total 2 (some .int) rm_K_total [.ref (ad 0), .int v1] q (some z.1) z.2 :=
  ctr_ofI (by decide) (Nat.le_of_ble_eq_true rfl) (fun p e s m args below meth c Q H0 X hX C hret => by subst hX; exact w_K_total C ⟨rfl, rfl, rfl⟩ hret _ _ h)
abbrev rm_Fl_utilisation : Room := { frames := 0, cells := 0, slots := 0, locals := 0 }
def Fl_utilisation (q : St) (v1 : Int32) : Option (Int32) :=
  b1 (rd 32 q 25 v1) fun x1 =>
  if x1 ≤ (0 : Int32) then
    some (0 : Int32)
  else
    b1 (rd 32 q 159 v1) fun x3 =>
    dv x1 <|
    some ((x3 * (1000 : Int32)) / x1)
theorem w_Fl_utilisation {X : Cv} (C : Cx X cX0_utilisation RX0 rm_Fl_utilisation 3) (S : IsK X) {q : St} {z : Int32} (hret : RokI X cX0_utilisation .int z q) (v1 : Int32) (h : Fl_utilisation q v1 = some z) : At X 0 [(0, .ref (adOf X 157)), (1, .int v1)] [] q := by
  unfold Fl_utilisation at h
  refine a_aload_n C 0 rfl rfl dX0_utilisation_0 ?_
  refine gK_0_25 C S dX0_utilisation_1 ?_
  refine gK_0_109 C S (Or.inl rfl) dX0_utilisation_4 ?_
  refine a_iload_n C 1 rfl rfl dX0_utilisation_7 ?_
  obtain ⟨x1, e_x1, h⟩ := b1s h
  refine lK_s6 (o := 19) C S (Or.inl rfl) e_x1 dX0_utilisation_8 ?_
  refine a_istore_n C [(2, .int x1), (0, .ref (adOf X 157)), (1, .int v1)] rfl (by decide) rfl dX0_utilisation_9 ?_
  refine a_iload_n C 0 rfl rfl dX0_utilisation_10 ?_
  refine a_if_le C 29 (by decide) dX0_utilisation_11 (fun c2 => ?_) (fun c2 => ?_)
  · replace h := ifp c2 h
    refine a_iconst (v := 0) C (by decide) dX0_utilisation_29 ?_
    exact a_iretR hret h rfl dX0_utilisation_30
  · replace h := ifn c2 h
    refine a_aload_n C 1 rfl rfl dX0_utilisation_14 ?_
    refine gK_0_15 C S dX0_utilisation_15 ?_
    refine a_iload_n C 2 rfl rfl dX0_utilisation_18 ?_
    obtain ⟨x3, e_x3, h⟩ := b1s h
    refine lK_159 C S e_x3 dX0_utilisation_19 ?_
    refine a_sipush (v := 1000) C (by decide) dX0_utilisation_20 ?_
    refine a_imul C dX0_utilisation_23 ?_
    refine a_iload_n C 0 rfl rfl dX0_utilisation_24 ?_
    obtain ⟨n4, h⟩ := dvs h
    refine a_idiv C n4 dX0_utilisation_25 ?_
    refine a_goto C 30 (by decide) dX0_utilisation_26 ?_
    exact a_iretR hret h rfl dX0_utilisation_30
theorem c_Fl_utilisation {l : Launch} {D : va_G} {I : ClassId × ClassId × ClassId × ClassId} {ad : Nat → Nat} {q : St} {v1 : Int32} {z : Int32} (h : Fl_utilisation q v1 = some z) : Ctr l D I (zK ad) 168 (shK I) ad yX0_utilisation cX0_utilisation 3 (some .int) rm_Fl_utilisation [.ref (ad 157), .int v1] q (some z) q :=
  ctr_ofI (by decide) (Nat.le_of_ble_eq_true rfl) (fun p e s m args below meth c Q H0 X hX C hret => by subst hX; exact w_Fl_utilisation C ⟨rfl, rfl, rfl⟩ hret _ h)
theorem kK_0_118 {X : Cv} {cc : ByteArray} {rm : Room} {nL1 pc : Nat} {lv : List (Nat × Value)} {sk : List Value} {q : St} {v1 : Int32} {z : Int32} (C : Cx X cc RX0 rm nL1) (S : IsK X) (h : Fl_utilisation q v1 = some z) (hz : rm_Fl_utilisation.frames + 1 ≤ rm.frames ∧ 8 + (3 + 11) + rm_Fl_utilisation.locals ≤ rm.locals) (hr : (sk.map fun v => v.category).sum ≤ 8) (hd : decode cc pc = .ok (.invokevirtual 118, 3)) (k : At X (pc + 3) lv (.int z :: sk) q) : At X pc lv (.int v1 :: .ref (adOf X 157) :: sk) q := a_callVi (as := [.int v1]) C (kp := 157) (kLt S (by decide)) (by rw [S.2.1]; rfl) rfl (by have hh := c_Fl_utilisation (l := X.2.1) (D := dOf X) (I := idOf X) (ad := adOf X) h; rw [← S.1, ← S.2.1, ← S.2.2] at hh; exact hh) (gd_V (tg 1150 (by decide +kernel) rfl) (tg 1152 (by decide +kernel) rfl) (tg 42 (by decide +kernel) rfl) (tg 122 (by decide +kernel) rfl) (tg 1153 (by decide +kernel) rfl)) ⟨rfl, rfl, hz.1, hz.2⟩ ⟨by decide, by decide, by show Option.map _ (parseMethodDescriptor yX0_utilisation.desc) = some 1; decide⟩ hr rfl hd k
abbrev rm_Fl_busierThan : Room := { frames := 1, cells := 0, slots := 0, locals := 22 }
def Fl_busierThan_B11 (q : St) (rec : Int32 → Int32 → Int32 → Int32 → Option (Int32)) (v1 : Int32) (v2 : Int32) (v3 : Int32) (v4 : Int32) : Option (Int32) :=
  if (gt q 1 1) ≤ v4 then
    some v3
  else
    b1 (Fl_utilisation q v4) fun x3 =>
    if v2 < x3 then
      rec v1 v2 (v3 + 1) (v4 + 1)
    else
      if x3 = v2 then
        if v1 ≤ v4 then
          rec v1 v2 v3 (v4 + 1)
        else
          rec v1 v2 (v3 + 1) (v4 + 1)
      else
        rec v1 v2 v3 (v4 + 1)
theorem w_Fl_busierThan_B11 {X : Cv} (C : Cx X cX0_busierThan RX0 rm_Fl_busierThan 6) (S : IsK X) (q : St) {z : Int32} (hret : RokI X cX0_busierThan .int z q) (rec : Int32 → Int32 → Int32 → Int32 → Option (Int32)) (hrec : ∀ (v1 : Int32) (v2 : Int32) (v3 : Int32) (v4 : Int32), rec v1 v2 v3 v4 = some z → At X 11 [(0, .ref (adOf X 157)), (1, .int v1), (2, .int v2), (3, .int v3), (4, .int v4)] [] q) (v1 : Int32) (v2 : Int32) (v3 : Int32) (v4 : Int32) (h : Fl_busierThan_B11 q rec v1 v2 v3 v4 = some z) : At X 11 [(0, .ref (adOf X 157)), (1, .int v1), (2, .int v2), (3, .int v3), (4, .int v4)] [] q := by
  unfold Fl_busierThan_B11 at h
  refine a_iload C 4 rfl dX0_busierThan_11 ?_
  refine a_aload_n C 0 rfl rfl dX0_busierThan_13 ?_
  refine gK_0_21 C S dX0_busierThan_14 ?_
  refine gK_0_96 C S (Or.inl rfl) dX0_busierThan_17 ?_
  refine a_icmp_ge C 58 (by decide) dX0_busierThan_20 (fun c2 => ?_) (fun c2 => ?_)
  · replace h := ifp c2 h
    refine a_iload_n C 3 rfl rfl dX0_busierThan_58 ?_
    exact a_iretR hret h rfl dX0_busierThan_59
  · replace h := ifn c2 h
    refine a_aload_n C 0 rfl rfl dX0_busierThan_23 ?_
    refine a_iload C 4 rfl dX0_busierThan_24 ?_
    obtain ⟨x3, e_x3, h⟩ := b1s h
    refine kK_0_118 C S e_x3 ⟨(Nat.le_of_ble_eq_true rfl), (Nat.le_of_ble_eq_true rfl)⟩ (Nat.le_of_ble_eq_true rfl) dX0_busierThan_26 ?_
    refine a_istore C [(5, .int x3), (0, .ref (adOf X 157)), (1, .int v1), (2, .int v2), (3, .int v3), (4, .int v4)] (by decide) rfl dX0_busierThan_29 ?_
    refine a_iload C 0 rfl dX0_busierThan_31 ?_
    refine a_iload_n C 3 rfl rfl dX0_busierThan_33 ?_
    refine a_icmp_gt C 49 (by decide) dX0_busierThan_34 (fun c4 => ?_) (fun c4 => ?_)
    · replace h := ifp c4 h
      refine a_iinc (v := (v3 + 1)) C [(3, .int (v3 + 1)), (5, .int x3), (0, .ref (adOf X 157)), (1, .int v1), (2, .int v2), (4, .int v4)] 4 rfl (congrArg (HAdd.hAdd v3) (by decide : Int32.ofInt (1) = (1 : Int32))) (by decide) rfl dX0_busierThan_49 ?_
      refine a_iinc (v := (v4 + 1)) C [(4, .int (v4 + 1)), (3, .int (v3 + 1)), (5, .int x3), (0, .ref (adOf X 157)), (1, .int v1), (2, .int v2)] 5 rfl (congrArg (HAdd.hAdd v4) (by decide : Int32.ofInt (1) = (1 : Int32))) (by decide) rfl dX0_busierThan_52 ?_
      refine a_goto C 11 (by decide) dX0_busierThan_55 ?_
      exact At.sub [3, 4, 5, 1, 0] rfl (hrec _ _ _ _ h)
    · replace h := ifn c4 h
      refine a_iload C 0 rfl dX0_busierThan_37 ?_
      refine a_iload_n C 3 rfl rfl dX0_busierThan_39 ?_
      refine a_icmp_ne C 52 (by decide) dX0_busierThan_40 (fun c5 => ?_) (fun c5 => ?_)
      · replace h := ifn c5 h
        refine a_iinc (v := (v4 + 1)) C [(4, .int (v4 + 1)), (5, .int x3), (0, .ref (adOf X 157)), (1, .int v1), (2, .int v2), (3, .int v3)] 5 rfl (congrArg (HAdd.hAdd v4) (by decide : Int32.ofInt (1) = (1 : Int32))) (by decide) rfl dX0_busierThan_52 ?_
        refine a_goto C 11 (by decide) dX0_busierThan_55 ?_
        exact At.sub [2, 3, 4, 5, 0] rfl (hrec _ _ _ _ h)
      · replace h := ifp c5 h
        refine a_iload C 5 rfl dX0_busierThan_43 ?_
        refine a_iload_n C 2 rfl rfl dX0_busierThan_45 ?_
        refine a_icmp_ge C 52 (by decide) dX0_busierThan_46 (fun c6 => ?_) (fun c6 => ?_)
        · replace h := ifp c6 h
          refine a_iinc (v := (v4 + 1)) C [(4, .int (v4 + 1)), (5, .int x3), (0, .ref (adOf X 157)), (1, .int v1), (2, .int v2), (3, .int v3)] 5 rfl (congrArg (HAdd.hAdd v4) (by decide : Int32.ofInt (1) = (1 : Int32))) (by decide) rfl dX0_busierThan_52 ?_
          refine a_goto C 11 (by decide) dX0_busierThan_55 ?_
          exact At.sub [2, 3, 4, 5, 0] rfl (hrec _ _ _ _ h)
        · replace h := ifn c6 h
          refine a_iinc (v := (v3 + 1)) C [(3, .int (v3 + 1)), (5, .int x3), (0, .ref (adOf X 157)), (1, .int v1), (2, .int v2), (4, .int v4)] 4 rfl (congrArg (HAdd.hAdd v3) (by decide : Int32.ofInt (1) = (1 : Int32))) (by decide) rfl dX0_busierThan_49 ?_
          refine a_iinc (v := (v4 + 1)) C [(4, .int (v4 + 1)), (3, .int (v3 + 1)), (5, .int x3), (0, .ref (adOf X 157)), (1, .int v1), (2, .int v2)] 5 rfl (congrArg (HAdd.hAdd v4) (by decide : Int32.ofInt (1) = (1 : Int32))) (by decide) rfl dX0_busierThan_52 ?_
          refine a_goto C 11 (by decide) dX0_busierThan_55 ?_
          exact At.sub [3, 4, 5, 1, 0] rfl (hrec _ _ _ _ h)
def Fl_busierThan_L11 (q : St) : Nat → Int32 → Int32 → Int32 → Int32 → Option (Int32)
  | 0, _, _, _, _ => none
  | n + 1, v1, v2, v3, v4 => Fl_busierThan_B11 q (Fl_busierThan_L11 q n) v1 v2 v3 v4
theorem w_Fl_busierThan_L11 {X : Cv} (C : Cx X cX0_busierThan RX0 rm_Fl_busierThan 6) (S : IsK X) (q : St) {z : Int32} (hret : RokI X cX0_busierThan .int z q) (n : Nat) : ∀ (v1 : Int32) (v2 : Int32) (v3 : Int32) (v4 : Int32), Fl_busierThan_L11 q n v1 v2 v3 v4 = some z → At X 11 [(0, .ref (adOf X 157)), (1, .int v1), (2, .int v2), (3, .int v3), (4, .int v4)] [] q := by
  induction n with
  | zero => intro v1 v2 v3 v4 h; cases h
  | succ n ih => intro v1 v2 v3 v4 h; exact w_Fl_busierThan_B11 C S _ hret _ ih v1 v2 v3 v4 h
def Fl_busierThan (q : St) (v1 : Int32) : Option (Int32) :=
  b1 (Fl_utilisation q v1) fun x1 =>
  Fl_busierThan_L11 q FU v1 x1 (0 : Int32) (0 : Int32)
theorem w_Fl_busierThan {X : Cv} (C : Cx X cX0_busierThan RX0 rm_Fl_busierThan 6) (S : IsK X) {q : St} {z : Int32} (hret : RokI X cX0_busierThan .int z q) (v1 : Int32) (h : Fl_busierThan q v1 = some z) : At X 0 [(0, .ref (adOf X 157)), (1, .int v1)] [] q := by
  unfold Fl_busierThan at h
  refine a_aload_n C 0 rfl rfl dX0_busierThan_0 ?_
  refine a_iload_n C 1 rfl rfl dX0_busierThan_1 ?_
  obtain ⟨x1, e_x1, h⟩ := b1s h
  refine kK_0_118 C S e_x1 ⟨(Nat.le_of_ble_eq_true rfl), (Nat.le_of_ble_eq_true rfl)⟩ (Nat.le_of_ble_eq_true rfl) dX0_busierThan_2 ?_
  refine a_istore_n C [(2, .int x1), (0, .ref (adOf X 157)), (1, .int v1)] rfl (by decide) rfl dX0_busierThan_5 ?_
  refine a_iconst (v := 0) C (by decide) dX0_busierThan_6 ?_
  refine a_istore_n C [(3, .int (0 : Int32)), (2, .int x1), (0, .ref (adOf X 157)), (1, .int v1)] rfl (by decide) rfl dX0_busierThan_7 ?_
  refine a_iconst (v := 0) C (by decide) dX0_busierThan_8 ?_
  refine a_istore C [(4, .int (0 : Int32)), (3, .int (0 : Int32)), (2, .int x1), (0, .ref (adOf X 157)), (1, .int v1)] (by decide) rfl dX0_busierThan_9 ?_
  exact At.sub [3, 4, 2, 1, 0] rfl (w_Fl_busierThan_L11 C S _ hret _ _ _ _ _ h)
theorem c_Fl_busierThan {l : Launch} {D : va_G} {I : ClassId × ClassId × ClassId × ClassId} {ad : Nat → Nat} {q : St} {v1 : Int32} {z : Int32} (h : Fl_busierThan q v1 = some z) : Ctr l D I (zK ad) 168 (shK I) ad yX0_busierThan cX0_busierThan 6 (some .int) rm_Fl_busierThan [.ref (ad 157), .int v1] q (some z) q :=
  ctr_ofI (by decide) (Nat.le_of_ble_eq_true rfl) (fun p e s m args below meth c Q H0 X hX C hret => by subst hX; exact w_Fl_busierThan C ⟨rfl, rfl, rfl⟩ hret _ h)
theorem kK_10_300 {X : Cv} {cc : ByteArray} {rm : Room} {nL1 pc : Nat} {lv : List (Nat × Value)} {sk : List Value} {q : St} {v1 : Int32} {z : Int32} (C : Cx X cc RX10 rm nL1) (S : IsK X) (h : Fl_busierThan q v1 = some z) (hz : rm_Fl_busierThan.frames + 1 ≤ rm.frames ∧ 8 + (6 + 11) + rm_Fl_busierThan.locals ≤ rm.locals) (hr : (sk.map fun v => v.category).sum ≤ 8) (hd : decode cc pc = .ok (.invokevirtual 300, 3)) (k : At X (pc + 3) lv (.int z :: sk) q) : At X pc lv (.int v1 :: .ref (adOf X 157) :: sk) q := a_callVi (as := [.int v1]) C (kp := 157) (kLt S (by decide)) (by rw [S.2.1]; rfl) rfl (by have hh := c_Fl_busierThan (l := X.2.1) (D := dOf X) (I := idOf X) (ad := adOf X) h; rw [← S.1, ← S.2.1, ← S.2.2] at hh; exact hh) (gd_V (tg 1146 (by decide +kernel) rfl) (tg 1147 (by decide +kernel) rfl) (tg 1148 (by decide +kernel) rfl) (tg 122 (by decide +kernel) rfl) (tg 1149 (by decide +kernel) rfl)) ⟨rfl, rfl, hz.1, hz.2⟩ ⟨by decide, by decide, by show Option.map _ (parseMethodDescriptor yX0_busierThan.desc) = some 1; decide⟩ hr rfl hd k
