abbrev rmM_tries : Room := { frames := 5, cells := 0, slots := 0, locals := 112 }
def M_tries_B18 (k : Int32 → Int32 → Int32 → Int32 → St → Option (Int32 × St)) (rec : Int32 → Int32 → Int32 → Int32 → Int32 → St → Option (Int32 × St)) (v1 : Int32) (v2 : Int32) (v3 : Int32) (v4 : Int32) (v5 : Int32) (q : St) : Option (Int32 × St) :=
  if (16 : Int32) ≤ v5 then
    k v1 v2 v3 v4 q
  else
    b1 (rd 202 q 4 ((80 : Int32) + v5)) fun x4 =>
    b1 (wr 16 q 14 v5 x4) fun q5 =>
    rec v1 v2 v3 v4 (v5 + 1) q5
theorem w_M_tries_B18 {X : Cv} (C : Cx X cX11_tries RX11 rmM_tries 6) (S : IsM X) {z : Int32 × St} (hret : RokI X cX11_tries .boolean z.1 z.2) (k : Int32 → Int32 → Int32 → Int32 → St → Option (Int32 × St)) (hk : ∀ (v1 : Int32) (v2 : Int32) (v3 : Int32) (v4 : Int32) (q : St), k v1 v2 v3 v4 q = some z → At X 48 [(0, .ref (adOf X 0)), (1, .int v1), (2, .int v2), (3, .int v3), (4, .int v4)] [] q) (rec : Int32 → Int32 → Int32 → Int32 → Int32 → St → Option (Int32 × St)) (hrec : ∀ (v1 : Int32) (v2 : Int32) (v3 : Int32) (v4 : Int32) (v5 : Int32) (q : St), rec v1 v2 v3 v4 v5 q = some z → At X 18 [(0, .ref (adOf X 0)), (1, .int v1), (2, .int v2), (3, .int v3), (4, .int v4), (5, .int v5)] [] q) (v1 : Int32) (v2 : Int32) (v3 : Int32) (v4 : Int32) (v5 : Int32) (q : St) (h : M_tries_B18 k rec v1 v2 v3 v4 v5 q = some z) : At X 18 [(0, .ref (adOf X 0)), (1, .int v1), (2, .int v2), (3, .int v3), (4, .int v4), (5, .int v5)] [] q := by
  unfold M_tries_B18 at h
  refine a_iload C 5 rfl dX11_tries_18 ?_
  refine a_bipush (v := 16) C (by decide) dX11_tries_20 ?_
  refine a_icmp_ge C 48 (by decide) dX11_tries_22 (fun c3 => ?_) (fun c3 => ?_)
  · replace h := ifp c3 h
    exact At.sub [0, 1, 2, 3, 4] rfl (hk _ _ _ _ _ h)
  · replace h := ifn c3 h
    refine a_aload_n C 0 rfl rfl dX11_tries_25 ?_
    refine gM_parents C S dX11_tries_26 ?_
    refine a_iload C 5 rfl dX11_tries_29 ?_
    refine a_aload_n C 0 rfl rfl dX11_tries_31 ?_
    refine gM_world C S dX11_tries_32 ?_
    refine a_bipush (v := 80) C (by decide) dX11_tries_35 ?_
    refine a_iload C 5 rfl dX11_tries_37 ?_
    refine a_iadd C dX11_tries_39 ?_
    obtain ⟨x4, e_x4, h⟩ := b1s h
    refine lM_world C S e_x4 dX11_tries_40 ?_
    obtain ⟨q5, e_q5, h⟩ := b1s h
    refine sM_parents C S e_q5 dX11_tries_41 ?_
    refine a_iinc (v := (v5 + 1)) C [(5, .int (v5 + 1)), (0, .ref (adOf X 0)), (1, .int v1), (2, .int v2), (3, .int v3), (4, .int v4)] 5 rfl (congrArg (HAdd.hAdd v5) (by decide : Int32.ofInt (1) = (1 : Int32))) (by decide) rfl dX11_tries_42 ?_
    refine a_goto C 18 (by decide) dX11_tries_45 ?_
    exact At.sub [1, 2, 3, 4, 5, 0] rfl (hrec _ _ _ _ _ _ h)
def M_tries_L18 (k : Int32 → Int32 → Int32 → Int32 → St → Option (Int32 × St)) : Nat → Int32 → Int32 → Int32 → Int32 → Int32 → St → Option (Int32 × St)
  | 0, _, _, _, _, _, _ => none
  | n + 1, v1, v2, v3, v4, v5, q => M_tries_B18 k (M_tries_L18 k n) v1 v2 v3 v4 v5 q
theorem w_M_tries_L18 {X : Cv} (C : Cx X cX11_tries RX11 rmM_tries 6) (S : IsM X) {z : Int32 × St} (hret : RokI X cX11_tries .boolean z.1 z.2) (k : Int32 → Int32 → Int32 → Int32 → St → Option (Int32 × St)) (hk : ∀ (v1 : Int32) (v2 : Int32) (v3 : Int32) (v4 : Int32) (q : St), k v1 v2 v3 v4 q = some z → At X 48 [(0, .ref (adOf X 0)), (1, .int v1), (2, .int v2), (3, .int v3), (4, .int v4)] [] q) (n : Nat) : ∀ (v1 : Int32) (v2 : Int32) (v3 : Int32) (v4 : Int32) (v5 : Int32) (q : St), M_tries_L18 k n v1 v2 v3 v4 v5 q = some z → At X 18 [(0, .ref (adOf X 0)), (1, .int v1), (2, .int v2), (3, .int v3), (4, .int v4), (5, .int v5)] [] q := by
  induction n with
  | zero => intro v1 v2 v3 v4 v5 q h; cases h
  | succ n ih => intro v1 v2 v3 v4 v5 q h; exact w_M_tries_B18 C S hret k hk _ ih v1 v2 v3 v4 v5 q h
def M_tries_B147 (rec : Int32 → St → Option (Int32 × St)) (v5 : Int32) (q : St) : Option (Int32 × St) :=
  if (16 : Int32) ≤ v5 then
    some ((0 : Int32), q)
  else
    b1 (rd 16 q 14 v5) fun x19 =>
    b1 (wr 202 q 4 ((80 : Int32) + v5) x19) fun q20 =>
    rec (v5 + 1) q20
theorem w_M_tries_B147 {X : Cv} (C : Cx X cX11_tries RX11 rmM_tries 6) (S : IsM X) {z : Int32 × St} (hret : RokI X cX11_tries .boolean z.1 z.2) (rec : Int32 → St → Option (Int32 × St)) (hrec : ∀ (v5 : Int32) (q : St), rec v5 q = some z → At X 147 [(0, .ref (adOf X 0)), (5, .int v5)] [] q) (v5 : Int32) (q : St) (h : M_tries_B147 rec v5 q = some z) : At X 147 [(0, .ref (adOf X 0)), (5, .int v5)] [] q := by
  unfold M_tries_B147 at h
  refine a_iload C 1 rfl dX11_tries_147 ?_
  refine a_bipush (v := 16) C (by decide) dX11_tries_149 ?_
  refine a_icmp_ge C 177 (by decide) dX11_tries_151 (fun c18 => ?_) (fun c18 => ?_)
  · replace h := ifp c18 h
    refine a_iconst (v := 0) C (by decide) dX11_tries_177 ?_
    exact a_iret hret h rfl dX11_tries_178
  · replace h := ifn c18 h
    refine a_aload_n C 0 rfl rfl dX11_tries_154 ?_
    refine gM_world C S dX11_tries_155 ?_
    refine a_bipush (v := 80) C (by decide) dX11_tries_158 ?_
    refine a_iload C 1 rfl dX11_tries_160 ?_
    refine a_iadd C dX11_tries_162 ?_
    refine a_aload_n C 0 rfl rfl dX11_tries_163 ?_
    refine gM_parents C S dX11_tries_164 ?_
    refine a_iload C 1 rfl dX11_tries_167 ?_
    obtain ⟨x19, e_x19, h⟩ := b1s h
    refine lM_parents C S e_x19 dX11_tries_169 ?_
    obtain ⟨q20, e_q20, h⟩ := b1s h
    refine sM_world C S e_q20 dX11_tries_170 ?_
    refine a_iinc (v := (v5 + 1)) C [(5, .int (v5 + 1)), (0, .ref (adOf X 0))] 1 rfl (congrArg (HAdd.hAdd v5) (by decide : Int32.ofInt (1) = (1 : Int32))) (by decide) rfl dX11_tries_171 ?_
    refine a_goto C 147 (by decide) dX11_tries_174 ?_
    exact At.sub [1, 0] rfl (hrec _ _ h)
def M_tries_L147 : Nat → Int32 → St → Option (Int32 × St)
  | 0, _, _ => none
  | n + 1, v5, q => M_tries_B147 (M_tries_L147 n) v5 q
theorem w_M_tries_L147 {X : Cv} (C : Cx X cX11_tries RX11 rmM_tries 6) (S : IsM X) {z : Int32 × St} (hret : RokI X cX11_tries .boolean z.1 z.2) (n : Nat) : ∀ (v5 : Int32) (q : St), M_tries_L147 n v5 q = some z → At X 147 [(0, .ref (adOf X 0)), (5, .int v5)] [] q := by
  induction n with
  | zero => intro v5 q h; cases h
  | succ n ih => intro v5 q h; exact w_M_tries_B147 C S hret _ ih v5 q h
def M_tries_J121 (v1 : Int32) (v2 : Int32) (v3 : Int32) (q : St) : Option (Int32 × St) :=
  b1 (M_set q v1 (3 : Int32) v2) fun q13 =>
  b2 (M_wrong q13) fun x14 q15 =>
  if (0 : Int32) ≤ x14 then
    b1 (M_set q15 v1 (3 : Int32) v3) fun q17 =>
    M_tries_L147 FU (0 : Int32) q17
  else
    some ((1 : Int32), q15)
theorem w_M_tries_J121 {X : Cv} (C : Cx X cX11_tries RX11 rmM_tries 6) (S : IsM X) {z : Int32 × St} (hret : RokI X cX11_tries .boolean z.1 z.2) (v1 : Int32) (v2 : Int32) (v3 : Int32) (q : St) (h : M_tries_J121 v1 v2 v3 q = some z) : At X 121 [(0, .ref (adOf X 0)), (1, .int v1), (2, .int v2), (3, .int v3)] [] q := by
  unfold M_tries_J121 at h
  refine a_aload_n C 0 rfl rfl dX11_tries_121 ?_
  refine a_iload_n C 1 rfl rfl dX11_tries_122 ?_
  refine a_iconst (v := 3) C (by decide) dX11_tries_123 ?_
  refine a_iload_n C 2 rfl rfl dX11_tries_124 ?_
  obtain ⟨q13, e_q13, h⟩ := b1s h
  refine k_M_set C S e_q13 ⟨Nat.le_of_ble_eq_true rfl, Nat.le_of_ble_eq_true rfl⟩ (Nat.le_of_ble_eq_true rfl) dX11_tries_125 ?_
  refine a_aload_n C 0 rfl rfl dX11_tries_128 ?_
  obtain ⟨x14, q15, e_q15, h⟩ := b2s h
  refine k_M_wrong C S e_q15 ⟨Nat.le_of_ble_eq_true rfl, Nat.le_of_ble_eq_true rfl⟩ (Nat.le_of_ble_eq_true rfl) dX11_tries_129 ?_
  refine a_if_ge C 137 (by decide) dX11_tries_132 (fun c16 => ?_) (fun c16 => ?_)
  · replace h := ifp c16 h
    refine a_aload_n C 0 rfl rfl dX11_tries_137 ?_
    refine a_iload_n C 1 rfl rfl dX11_tries_138 ?_
    refine a_iconst (v := 3) C (by decide) dX11_tries_139 ?_
    refine a_iload_n C 3 rfl rfl dX11_tries_140 ?_
    obtain ⟨q17, e_q17, h⟩ := b1s h
    refine k_M_set C S e_q17 ⟨Nat.le_of_ble_eq_true rfl, Nat.le_of_ble_eq_true rfl⟩ (Nat.le_of_ble_eq_true rfl) dX11_tries_141 ?_
    refine a_iconst (v := 0) C (by decide) dX11_tries_144 ?_
    refine a_istore C [(5, .int (0 : Int32)), (0, .ref (adOf X 0)), (1, .int v1), (2, .int v2), (3, .int v3)] (by decide) rfl dX11_tries_145 ?_
    exact At.sub [1, 0] rfl (w_M_tries_L147 C S hret _ _ _ h)
  · replace h := ifn c16 h
    refine a_iconst (v := 1) C (by decide) dX11_tries_135 ?_
    exact a_iret hret h rfl dX11_tries_136
def M_tries_B82 (k : Int32 → Int32 → Int32 → St → Option (Int32 × St)) (rec : Int32 → Int32 → Int32 → Int32 → St → Option (Int32 × St)) (v1 : Int32) (v2 : Int32) (v3 : Int32) (v5 : Int32) (q : St) : Option (Int32 × St) :=
  if (gt q 0 23) ≤ v5 then
    k v1 v2 v3 q
  else
    b1 (rd 17 q 13 v5) fun x27 =>
    b1 (rd 17 q 13 (v5 - (1 : Int32))) fun x28 =>
    b1 (wr 202 q 4 ((80 : Int32) + x27) x28) fun q29 =>
    rec v1 v2 v3 (v5 + 1) q29
theorem w_M_tries_B82 {X : Cv} (C : Cx X cX11_tries RX11 rmM_tries 6) (S : IsM X) {z : Int32 × St} (hret : RokI X cX11_tries .boolean z.1 z.2) (k : Int32 → Int32 → Int32 → St → Option (Int32 × St)) (hk : ∀ (v1 : Int32) (v2 : Int32) (v3 : Int32) (q : St), k v1 v2 v3 q = some z → At X 121 [(0, .ref (adOf X 0)), (1, .int v1), (2, .int v2), (3, .int v3)] [] q) (rec : Int32 → Int32 → Int32 → Int32 → St → Option (Int32 × St)) (hrec : ∀ (v1 : Int32) (v2 : Int32) (v3 : Int32) (v5 : Int32) (q : St), rec v1 v2 v3 v5 q = some z → At X 82 [(0, .ref (adOf X 0)), (1, .int v1), (2, .int v2), (3, .int v3), (5, .int v5)] [] q) (v1 : Int32) (v2 : Int32) (v3 : Int32) (v5 : Int32) (q : St) (h : M_tries_B82 k rec v1 v2 v3 v5 q = some z) : At X 82 [(0, .ref (adOf X 0)), (1, .int v1), (2, .int v2), (3, .int v3), (5, .int v5)] [] q := by
  unfold M_tries_B82 at h
  refine a_iload C 4 rfl dX11_tries_82 ?_
  refine a_aload_n C 0 rfl rfl dX11_tries_84 ?_
  refine gM_pathMany C S dX11_tries_85 ?_
  refine a_icmp_ge C 121 (by decide) dX11_tries_88 (fun c26 => ?_) (fun c26 => ?_)
  · replace h := ifp c26 h
    exact At.sub [0, 1, 2, 3] rfl (hk _ _ _ _ h)
  · replace h := ifn c26 h
    refine a_aload_n C 0 rfl rfl dX11_tries_91 ?_
    refine gM_world C S dX11_tries_92 ?_
    refine a_bipush (v := 80) C (by decide) dX11_tries_95 ?_
    refine a_aload_n C 0 rfl rfl dX11_tries_97 ?_
    refine gM_path C S dX11_tries_98 ?_
    refine a_iload C 4 rfl dX11_tries_101 ?_
    obtain ⟨x27, e_x27, h⟩ := b1s h
    refine lM_path C S e_x27 dX11_tries_103 ?_
    refine a_iadd C dX11_tries_104 ?_
    refine a_aload_n C 0 rfl rfl dX11_tries_105 ?_
    refine gM_path C S dX11_tries_106 ?_
    refine a_iload C 4 rfl dX11_tries_109 ?_
    refine a_iconst (v := 1) C (by decide) dX11_tries_111 ?_
    refine a_isub C dX11_tries_112 ?_
    obtain ⟨x28, e_x28, h⟩ := b1s h
    refine lM_path C S e_x28 dX11_tries_113 ?_
    obtain ⟨q29, e_q29, h⟩ := b1s h
    refine sM_world C S e_q29 dX11_tries_114 ?_
    refine a_iinc (v := (v5 + 1)) C [(5, .int (v5 + 1)), (0, .ref (adOf X 0)), (1, .int v1), (2, .int v2), (3, .int v3)] 4 rfl (congrArg (HAdd.hAdd v5) (by decide : Int32.ofInt (1) = (1 : Int32))) (by decide) rfl dX11_tries_115 ?_
    refine a_goto C 82 (by decide) dX11_tries_118 ?_
    exact At.sub [1, 2, 3, 4, 0] rfl (hrec _ _ _ _ _ h)
def M_tries_L82 (k : Int32 → Int32 → Int32 → St → Option (Int32 × St)) : Nat → Int32 → Int32 → Int32 → Int32 → St → Option (Int32 × St)
  | 0, _, _, _, _, _ => none
  | n + 1, v1, v2, v3, v5, q => M_tries_B82 k (M_tries_L82 k n) v1 v2 v3 v5 q
theorem w_M_tries_L82 {X : Cv} (C : Cx X cX11_tries RX11 rmM_tries 6) (S : IsM X) {z : Int32 × St} (hret : RokI X cX11_tries .boolean z.1 z.2) (k : Int32 → Int32 → Int32 → St → Option (Int32 × St)) (hk : ∀ (v1 : Int32) (v2 : Int32) (v3 : Int32) (q : St), k v1 v2 v3 q = some z → At X 121 [(0, .ref (adOf X 0)), (1, .int v1), (2, .int v2), (3, .int v3)] [] q) (n : Nat) : ∀ (v1 : Int32) (v2 : Int32) (v3 : Int32) (v5 : Int32) (q : St), M_tries_L82 k n v1 v2 v3 v5 q = some z → At X 82 [(0, .ref (adOf X 0)), (1, .int v1), (2, .int v2), (3, .int v3), (5, .int v5)] [] q := by
  induction n with
  | zero => intro v1 v2 v3 v5 q h; cases h
  | succ n ih => intro v1 v2 v3 v5 q h; exact w_M_tries_B82 C S hret k hk _ ih v1 v2 v3 v5 q h
def M_tries (q : St) (v1 : Int32) (v2 : Int32) : Option (Int32 × St) :=
  b1 (M_of q v1 (3 : Int32)) fun x1 =>
  b1 (M_of q v1 (0 : Int32)) fun x2 =>
  M_tries_L18 (fun y6 y7 y8 y9 q10 =>
    b1 (M_isIn q10 y9) fun x11 =>
    if x11 = (0 : Int32) then
      b1 (M_of q10 y6 (1 : Int32)) fun x21 =>
      b1 (M_rateOf q10 x21 y7) fun x22 =>
      b2 (M_lays q10 y9 x22) fun x23 q24 =>
      if x23 = (0 : Int32) then
        some ((0 : Int32), q24)
      else
        M_tries_L82 (fun y30 y31 y32 q33 =>
          M_tries_J121 y30 y31 y32 q33
          ) FU y6 y7 y8 (1 : Int32) q24
    else
      M_tries_J121 y6 y7 y8 q10
    ) FU v1 v2 x1 x2 (0 : Int32) q
theorem w_M_tries {X : Cv} (C : Cx X cX11_tries RX11 rmM_tries 6) (S : IsM X) {z : Int32 × St} (hret : RokI X cX11_tries .boolean z.1 z.2) (v1 : Int32) (v2 : Int32) (q : St) (h : M_tries q v1 v2 = some z) : At X 0 [(0, .ref (adOf X 0)), (1, .int v1), (2, .int v2)] [] q := by
  unfold M_tries at h
  refine a_aload_n C 0 rfl rfl dX11_tries_0 ?_
  refine a_iload_n C 1 rfl rfl dX11_tries_1 ?_
  refine a_iconst (v := 3) C (by decide) dX11_tries_2 ?_
  obtain ⟨x1, e_x1, h⟩ := b1s h
  refine k_M_of C S e_x1 ⟨Nat.le_of_ble_eq_true rfl, Nat.le_of_ble_eq_true rfl⟩ (Nat.le_of_ble_eq_true rfl) dX11_tries_3 ?_
  refine a_istore_n C [(3, .int x1), (0, .ref (adOf X 0)), (1, .int v1), (2, .int v2)] rfl (by decide) rfl dX11_tries_6 ?_
  refine a_aload_n C 1 rfl rfl dX11_tries_7 ?_
  refine a_iload_n C 2 rfl rfl dX11_tries_8 ?_
  refine a_iconst (v := 0) C (by decide) dX11_tries_9 ?_
  obtain ⟨x2, e_x2, h⟩ := b1s h
  refine k_M_of C S e_x2 ⟨Nat.le_of_ble_eq_true rfl, Nat.le_of_ble_eq_true rfl⟩ (Nat.le_of_ble_eq_true rfl) dX11_tries_10 ?_
  refine a_istore C [(4, .int x2), (3, .int x1), (0, .ref (adOf X 0)), (1, .int v1), (2, .int v2)] (by decide) rfl dX11_tries_13 ?_
  refine a_iconst (v := 0) C (by decide) dX11_tries_15 ?_
  refine a_istore C [(5, .int (0 : Int32)), (4, .int x2), (3, .int x1), (0, .ref (adOf X 0)), (1, .int v1), (2, .int v2)] (by decide) rfl dX11_tries_16 ?_
  refine At.sub [3, 4, 5, 2, 1, 0] rfl (w_M_tries_L18 C S hret _ ?_ _ _ _ _ _ _ _ h)
  intro y6 y7 y8 y9 q10 h
  refine a_aload_n C 0 rfl rfl dX11_tries_48 ?_
  refine a_iload C 4 rfl dX11_tries_49 ?_
  obtain ⟨x11, e_x11, h⟩ := b1s h
  refine k_M_isIn C S e_x11 ⟨Nat.le_of_ble_eq_true rfl, Nat.le_of_ble_eq_true rfl⟩ (Nat.le_of_ble_eq_true rfl) dX11_tries_51 ?_
  refine a_if_ne C 121 (by decide) dX11_tries_54 (fun c12 => ?_) (fun c12 => ?_)
  · replace h := ifn c12 h
    exact At.sub [0, 1, 2, 3] rfl (w_M_tries_J121 C S hret _ _ _ _ h)
  · replace h := ifp c12 h
    refine a_aload_n C 0 rfl rfl dX11_tries_57 ?_
    refine a_iload C 4 rfl dX11_tries_58 ?_
    refine a_aload_n C 0 rfl rfl dX11_tries_60 ?_
    refine a_aload_n C 0 rfl rfl dX11_tries_61 ?_
    refine a_iload_n C 1 rfl rfl dX11_tries_62 ?_
    refine a_iconst (v := 1) C (by decide) dX11_tries_63 ?_
    obtain ⟨x21, e_x21, h⟩ := b1s h
    refine k_M_of C S e_x21 ⟨Nat.le_of_ble_eq_true rfl, Nat.le_of_ble_eq_true rfl⟩ (Nat.le_of_ble_eq_true rfl) dX11_tries_64 ?_
    refine a_iload_n C 2 rfl rfl dX11_tries_67 ?_
    obtain ⟨x22, e_x22, h⟩ := b1s h
    refine k_M_rateOf C S e_x22 ⟨Nat.le_of_ble_eq_true rfl, Nat.le_of_ble_eq_true rfl⟩ (Nat.le_of_ble_eq_true rfl) dX11_tries_68 ?_
    obtain ⟨x23, q24, e_q24, h⟩ := b2s h
    refine k_M_lays C S e_q24 ⟨Nat.le_of_ble_eq_true rfl, Nat.le_of_ble_eq_true rfl⟩ (Nat.le_of_ble_eq_true rfl) dX11_tries_71 ?_
    refine a_if_ne C 79 (by decide) dX11_tries_74 (fun c25 => ?_) (fun c25 => ?_)
    · replace h := ifn c25 h
      refine a_iconst (v := 1) C (by decide) dX11_tries_79 ?_
      refine a_istore C [(5, .int (1 : Int32)), (0, .ref (adOf X 0)), (1, .int y6), (2, .int y7), (3, .int y8), (4, .int y9)] (by decide) rfl dX11_tries_80 ?_
      refine At.sub [1, 2, 3, 4, 0] rfl (w_M_tries_L82 C S hret _ ?_ _ _ _ _ _ _ h)
      intro y30 y31 y32 q33 h
      exact At.sub [0, 1, 2, 3] rfl (w_M_tries_J121 C S hret _ _ _ _ h)
    · replace h := ifp c25 h
      refine a_iconst (v := 0) C (by decide) dX11_tries_77 ?_
      exact a_iret hret h rfl dX11_tries_78
theorem c_M_tries {l : Launch} {D : va_G} {I : ClassId × ClassId × ClassId × ClassId} {ad : Nat → Nat} {q : St} {v1 : Int32} {v2 : Int32} {z : Int32 × St} (h : M_tries q v1 v2 = some z) : Ctr l D I zT 18 (shM I) ad yX11_tries cX11_tries 6 (some .boolean) rmM_tries [.ref (ad 0), .int v1, .int v2] q (some z.1) z.2 :=
  ctr_ofI (by decide) (Nat.le_of_ble_eq_true rfl) (fun p e s m args below meth c Q H0 X hX C hret => by subst hX; exact w_M_tries C ⟨rfl, rfl, rfl⟩ hret _ _ _ h)
theorem g_M_tries : GoodIn lw_tg (wsV RX11 251 RX11 yX11_tries (Cond.code yX11_tries cX11_tries 6 (some .boolean) :: lw_tg)) := gd_V (tg 1438 (by decide +kernel) rfl) (tg 1440 (by decide +kernel) rfl) (tg 70 (by decide +kernel) rfl) (tg 128 (by decide +kernel) rfl) (tg 1441 (by decide +kernel) rfl)
theorem k_M_tries {X : Cv} {cc : ByteArray} {rm : Room} {nL1 pc : Nat} {lv : List (Nat × Value)} {sk : List Value} {q : St} {v1 : Int32} {v2 : Int32} {z : Int32} {q2 : St} (C : Cx X cc RX11 rm nL1) (S : IsM X) (h : M_tries q v1 v2 = some (z, q2)) (hz : rmM_tries.frames + 1 ≤ rm.frames ∧ 8 + (6 + 11) + rmM_tries.locals ≤ rm.locals) (hr : (sk.map fun v => v.category).sum ≤ 8) (hd : decode cc pc = .ok (.invokevirtual 251, 3)) (k : At X (pc + 3) lv (.int z :: sk) q2) : At X pc lv (.int v2 :: .int v1 :: .ref (adOf X 0) :: sk) q := a_callVi (as := [.int v1, .int v2]) C (kp := 0) (by rw [S.1]; decide) (by rw [S.2.1]; rfl) rfl (by have hh := c_M_tries (l := X.2.1) (D := dOf X) (I := idOf X) (ad := adOf X) h; rw [← S.1, ← S.2.1, ← S.2.2] at hh; exact hh) g_M_tries ⟨rfl, rfl, hz.1, hz.2⟩ ⟨by decide, by decide, by show Option.map _ (parseMethodDescriptor yX11_tries.desc) = some 2; decide⟩ hr rfl hd k
abbrev rmM_joins : Room := { frames := 6, cells := 0, slots := 0, locals := 137 }
def M_joins_B14 (rec : Int32 → Int32 → St → Option (St)) (v1 : Int32) (v2 : Int32) (q : St) : Option (St) :=
  if v2 ≤ (0 : Int32) then
    some q
  else
    b2 (M_tries q v1 v2) fun x4 q5 =>
    if x4 = (0 : Int32) then
      rec v1 (v2 + -1) q5
    else
      some q5
theorem w_M_joins_B14 {X : Cv} (C : Cx X cX11_joins RX11 rmM_joins 3) (S : IsM X) {z : St} (hret : RokV X cX11_joins z) (rec : Int32 → Int32 → St → Option (St)) (hrec : ∀ (v1 : Int32) (v2 : Int32) (q : St), rec v1 v2 q = some z → At X 14 [(0, .ref (adOf X 0)), (1, .int v1), (2, .int v2)] [] q) (v1 : Int32) (v2 : Int32) (q : St) (h : M_joins_B14 rec v1 v2 q = some z) : At X 14 [(0, .ref (adOf X 0)), (1, .int v1), (2, .int v2)] [] q := by
  unfold M_joins_B14 at h
  refine a_iload_n C 2 rfl rfl dX11_joins_14 ?_
  refine a_if_le C 34 (by decide) dX11_joins_15 (fun c3 => ?_) (fun c3 => ?_)
  · replace h := ifp c3 h
    exact a_vret hret h dX11_joins_34
  · replace h := ifn c3 h
    refine a_aload_n C 0 rfl rfl dX11_joins_18 ?_
    refine a_iload_n C 1 rfl rfl dX11_joins_19 ?_
    refine a_iload_n C 2 rfl rfl dX11_joins_20 ?_
    obtain ⟨x4, q5, e_q5, h⟩ := b2s h
    refine k_M_tries C S e_q5 ⟨Nat.le_of_ble_eq_true rfl, Nat.le_of_ble_eq_true rfl⟩ (Nat.le_of_ble_eq_true rfl) dX11_joins_21 ?_
    refine a_if_eq C 28 (by decide) dX11_joins_24 (fun c6 => ?_) (fun c6 => ?_)
    · replace h := ifp c6 h
      refine a_iinc (v := (v2 + -1)) C [(2, .int (v2 + -1)), (0, .ref (adOf X 0)), (1, .int v1)] 2 rfl (congrArg (HAdd.hAdd v2) (by decide : Int32.ofInt (-1) = (-1 : Int32))) (by decide) rfl dX11_joins_28 ?_
      refine a_goto C 14 (by decide) dX11_joins_31 ?_
      exact At.sub [1, 2, 0] rfl (hrec _ _ _ h)
    · replace h := ifn c6 h
      exact a_vret hret h dX11_joins_27
def M_joins_L14 : Nat → Int32 → Int32 → St → Option (St)
  | 0, _, _, _ => none
  | n + 1, v1, v2, q => M_joins_B14 (M_joins_L14 n) v1 v2 q
theorem w_M_joins_L14 {X : Cv} (C : Cx X cX11_joins RX11 rmM_joins 3) (S : IsM X) {z : St} (hret : RokV X cX11_joins z) (n : Nat) : ∀ (v1 : Int32) (v2 : Int32) (q : St), M_joins_L14 n v1 v2 q = some z → At X 14 [(0, .ref (adOf X 0)), (1, .int v1), (2, .int v2)] [] q := by
  induction n with
  | zero => intro v1 v2 q h; cases h
  | succ n ih => intro v1 v2 q h; exact w_M_joins_B14 C S hret _ ih v1 v2 q h
def M_joins (q : St) (v1 : Int32) : Option (St) :=
  b1 (M_set q v1 (3 : Int32) (0 : Int32)) fun q1 =>
  b1 (M_of q1 v1 (2 : Int32)) fun x2 =>
  M_joins_L14 FU v1 x2 q1
theorem w_M_joins {X : Cv} (C : Cx X cX11_joins RX11 rmM_joins 3) (S : IsM X) {z : St} (hret : RokV X cX11_joins z) (v1 : Int32) (q : St) (h : M_joins q v1 = some z) : At X 0 [(0, .ref (adOf X 0)), (1, .int v1)] [] q := by
  unfold M_joins at h
  refine a_aload_n C 0 rfl rfl dX11_joins_0 ?_
  refine a_iload_n C 1 rfl rfl dX11_joins_1 ?_
  refine a_iconst (v := 3) C (by decide) dX11_joins_2 ?_
  refine a_iconst (v := 0) C (by decide) dX11_joins_3 ?_
  obtain ⟨q1, e_q1, h⟩ := b1s h
  refine k_M_set C S e_q1 ⟨Nat.le_of_ble_eq_true rfl, Nat.le_of_ble_eq_true rfl⟩ (Nat.le_of_ble_eq_true rfl) dX11_joins_4 ?_
  refine a_aload_n C 0 rfl rfl dX11_joins_7 ?_
  refine a_iload_n C 1 rfl rfl dX11_joins_8 ?_
  refine a_iconst (v := 2) C (by decide) dX11_joins_9 ?_
  obtain ⟨x2, e_x2, h⟩ := b1s h
  refine k_M_of C S e_x2 ⟨Nat.le_of_ble_eq_true rfl, Nat.le_of_ble_eq_true rfl⟩ (Nat.le_of_ble_eq_true rfl) dX11_joins_10 ?_
  refine a_istore_n C [(2, .int x2), (0, .ref (adOf X 0)), (1, .int v1)] rfl (by decide) rfl dX11_joins_13 ?_
  exact At.sub [1, 2, 0] rfl (w_M_joins_L14 C S hret _ _ _ _ h)
theorem c_M_joins {l : Launch} {D : va_G} {I : ClassId × ClassId × ClassId × ClassId} {ad : Nat → Nat} {q : St} {v1 : Int32} {z : St} (h : M_joins q v1 = some z) : Ctr l D I zT 18 (shM I) ad yX11_joins cX11_joins 3 none rmM_joins [.ref (ad 0), .int v1] q none z :=
  ctr_ofV (by decide) (Nat.le_of_ble_eq_true rfl) (fun p e s m args below meth c Q H0 X hX C hret => by subst hX; exact w_M_joins C ⟨rfl, rfl, rfl⟩ hret _ _ h)
theorem g_M_joins : GoodIn lw_tg (wsV RX11 282 RX11 yX11_joins (Cond.code yX11_joins cX11_joins 3 none :: lw_tg)) := gd_V (tg 1430 (by decide +kernel) rfl) (tg 1432 (by decide +kernel) rfl) (tg 68 (by decide +kernel) rfl) (tg 128 (by decide +kernel) rfl) (tg 1433 (by decide +kernel) rfl)
theorem k_M_joins {X : Cv} {cc : ByteArray} {rm : Room} {nL1 pc : Nat} {lv : List (Nat × Value)} {sk : List Value} {q : St} {v1 : Int32} {q2 : St} (C : Cx X cc RX11 rm nL1) (S : IsM X) (h : M_joins q v1 = some q2) (hz : rmM_joins.frames + 1 ≤ rm.frames ∧ 8 + (3 + 11) + rmM_joins.locals ≤ rm.locals) (hr : (sk.map fun v => v.category).sum ≤ 8) (hd : decode cc pc = .ok (.invokevirtual 282, 3)) (k : At X (pc + 3) lv sk q2) : At X pc lv (.int v1 :: .ref (adOf X 0) :: sk) q := a_callVv (as := [.int v1]) C (kp := 0) (by rw [S.1]; decide) (by rw [S.2.1]; rfl) rfl (by have hh := c_M_joins (l := X.2.1) (D := dOf X) (I := idOf X) (ad := adOf X) h; rw [← S.1, ← S.2.1, ← S.2.2] at hh; exact hh) g_M_joins ⟨rfl, rfl, hz.1, hz.2⟩ ⟨by decide, by decide, by show Option.map _ (parseMethodDescriptor yX11_joins.desc) = some 1; decide⟩ hr rfl hd k
abbrev rmM_isOver : Room := { frames := 2, cells := 0, slots := 0, locals := 45 }
def M_isOver_B18 (q : St) (rec : Int32 → Int32 → Option (Int32)) (v2 : Int32) (v3 : Int32) : Option (Int32) :=
  if v3 = (0 : Int32) then
    some (0 : Int32)
  else
    b1 (M_up q v3) fun x5 =>
    b1 (M_linkAt q v3 x5) fun x6 =>
    if x6 = v2 then
      some (1 : Int32)
    else
      b1 (M_up q v3) fun x8 =>
      rec v2 x8
theorem w_M_isOver_B18 {X : Cv} (C : Cx X cX11_isOver RX11 rmM_isOver 4) (S : IsM X) (q : St) {z : Int32} (hret : RokI X cX11_isOver .boolean z q) (rec : Int32 → Int32 → Option (Int32)) (hrec : ∀ (v2 : Int32) (v3 : Int32), rec v2 v3 = some z → At X 18 [(0, .ref (adOf X 0)), (2, .int v2), (3, .int v3)] [] q) (v2 : Int32) (v3 : Int32) (h : M_isOver_B18 q rec v2 v3 = some z) : At X 18 [(0, .ref (adOf X 0)), (2, .int v2), (3, .int v3)] [] q := by
  unfold M_isOver_B18 at h
  refine a_iload_n C 2 rfl rfl dX11_isOver_18 ?_
  refine a_if_eq C 47 (by decide) dX11_isOver_19 (fun c4 => ?_) (fun c4 => ?_)
  · replace h := ifp c4 h
    refine a_iconst (v := 0) C (by decide) dX11_isOver_47 ?_
    exact a_iretR hret h rfl dX11_isOver_48
  · replace h := ifn c4 h
    refine a_aload_n C 0 rfl rfl dX11_isOver_22 ?_
    refine a_iload_n C 2 rfl rfl dX11_isOver_23 ?_
    refine a_aload_n C 0 rfl rfl dX11_isOver_24 ?_
    refine a_iload_n C 2 rfl rfl dX11_isOver_25 ?_
    obtain ⟨x5, e_x5, h⟩ := b1s h
    refine k_M_up C S e_x5 ⟨Nat.le_of_ble_eq_true rfl, Nat.le_of_ble_eq_true rfl⟩ (Nat.le_of_ble_eq_true rfl) dX11_isOver_26 ?_
    obtain ⟨x6, e_x6, h⟩ := b1s h
    refine k_M_linkAt C S e_x6 ⟨Nat.le_of_ble_eq_true rfl, Nat.le_of_ble_eq_true rfl⟩ (Nat.le_of_ble_eq_true rfl) dX11_isOver_29 ?_
    refine a_iload_n C 1 rfl rfl dX11_isOver_32 ?_
    refine a_icmp_ne C 38 (by decide) dX11_isOver_33 (fun c7 => ?_) (fun c7 => ?_)
    · replace h := ifn c7 h
      refine a_aload_n C 0 rfl rfl dX11_isOver_38 ?_
      refine a_iload_n C 2 rfl rfl dX11_isOver_39 ?_
      obtain ⟨x8, e_x8, h⟩ := b1s h
      refine k_M_up C S e_x8 ⟨Nat.le_of_ble_eq_true rfl, Nat.le_of_ble_eq_true rfl⟩ (Nat.le_of_ble_eq_true rfl) dX11_isOver_40 ?_
      refine a_istore_n C [(3, .int x8), (0, .ref (adOf X 0)), (2, .int v2)] rfl (by decide) rfl dX11_isOver_43 ?_
      refine a_goto C 18 (by decide) dX11_isOver_44 ?_
      exact At.sub [1, 2, 0] rfl (hrec _ _ h)
    · replace h := ifp c7 h
      refine a_iconst (v := 1) C (by decide) dX11_isOver_36 ?_
      exact a_iretR hret h rfl dX11_isOver_37
def M_isOver_L18 (q : St) : Nat → Int32 → Int32 → Option (Int32)
  | 0, _, _ => none
  | n + 1, v2, v3 => M_isOver_B18 q (M_isOver_L18 q n) v2 v3
theorem w_M_isOver_L18 {X : Cv} (C : Cx X cX11_isOver RX11 rmM_isOver 4) (S : IsM X) (q : St) {z : Int32} (hret : RokI X cX11_isOver .boolean z q) (n : Nat) : ∀ (v2 : Int32) (v3 : Int32), M_isOver_L18 q n v2 v3 = some z → At X 18 [(0, .ref (adOf X 0)), (2, .int v2), (3, .int v3)] [] q := by
  induction n with
  | zero => intro v2 v3 h; cases h
  | succ n ih => intro v2 v3 h; exact w_M_isOver_B18 C S _ hret _ ih v2 v3 h
def M_isOver (q : St) (v1 : Int32) (v2 : Int32) : Option (Int32) :=
  b1 (M_of q v1 (3 : Int32)) fun x1 =>
  if x1 = (0 : Int32) then
    some (0 : Int32)
  else
    b1 (M_of q v1 (0 : Int32)) fun x3 =>
    M_isOver_L18 q FU v2 x3
theorem w_M_isOver {X : Cv} (C : Cx X cX11_isOver RX11 rmM_isOver 4) (S : IsM X) {q : St} {z : Int32} (hret : RokI X cX11_isOver .boolean z q) (v1 : Int32) (v2 : Int32) (h : M_isOver q v1 v2 = some z) : At X 0 [(0, .ref (adOf X 0)), (1, .int v1), (2, .int v2)] [] q := by
  unfold M_isOver at h
  refine a_aload_n C 0 rfl rfl dX11_isOver_0 ?_
  refine a_iload_n C 1 rfl rfl dX11_isOver_1 ?_
  refine a_iconst (v := 3) C (by decide) dX11_isOver_2 ?_
  obtain ⟨x1, e_x1, h⟩ := b1s h
  refine k_M_of C S e_x1 ⟨Nat.le_of_ble_eq_true rfl, Nat.le_of_ble_eq_true rfl⟩ (Nat.le_of_ble_eq_true rfl) dX11_isOver_3 ?_
  refine a_if_ne C 11 (by decide) dX11_isOver_6 (fun c2 => ?_) (fun c2 => ?_)
  · replace h := ifn c2 h
    refine a_aload_n C 0 rfl rfl dX11_isOver_11 ?_
    refine a_iload_n C 1 rfl rfl dX11_isOver_12 ?_
    refine a_iconst (v := 0) C (by decide) dX11_isOver_13 ?_
    obtain ⟨x3, e_x3, h⟩ := b1s h
    refine k_M_of C S e_x3 ⟨Nat.le_of_ble_eq_true rfl, Nat.le_of_ble_eq_true rfl⟩ (Nat.le_of_ble_eq_true rfl) dX11_isOver_14 ?_
    refine a_istore_n C [(3, .int x3), (0, .ref (adOf X 0)), (1, .int v1), (2, .int v2)] rfl (by decide) rfl dX11_isOver_17 ?_
    exact At.sub [1, 3, 0] rfl (w_M_isOver_L18 C S _ hret _ _ _ h)
  · replace h := ifp c2 h
    refine a_iconst (v := 0) C (by decide) dX11_isOver_9 ?_
    exact a_iretR hret h rfl dX11_isOver_10
theorem c_M_isOver {l : Launch} {D : va_G} {I : ClassId × ClassId × ClassId × ClassId} {ad : Nat → Nat} {q : St} {v1 : Int32} {v2 : Int32} {z : Int32} (h : M_isOver q v1 v2 = some z) : Ctr l D I zT 18 (shM I) ad yX11_isOver cX11_isOver 4 (some .boolean) rmM_isOver [.ref (ad 0), .int v1, .int v2] q (some z) q :=
  ctr_ofI (by decide) (Nat.le_of_ble_eq_true rfl) (fun p e s m args below meth c Q H0 X hX C hret => by subst hX; exact w_M_isOver C ⟨rfl, rfl, rfl⟩ hret _ _ h)
theorem g_M_isOver : GoodIn lw_tg (wsV RX11 257 RX11 yX11_isOver (Cond.code yX11_isOver cX11_isOver 4 (some .boolean) :: lw_tg)) := gd_V (tg 1578 (by decide +kernel) rfl) (tg 1580 (by decide +kernel) rfl) (tg 99 (by decide +kernel) rfl) (tg 128 (by decide +kernel) rfl) (tg 1581 (by decide +kernel) rfl)
theorem k_M_isOver {X : Cv} {cc : ByteArray} {rm : Room} {nL1 pc : Nat} {lv : List (Nat × Value)} {sk : List Value} {q : St} {v1 : Int32} {v2 : Int32} {z : Int32} (C : Cx X cc RX11 rm nL1) (S : IsM X) (h : M_isOver q v1 v2 = some z) (hz : rmM_isOver.frames + 1 ≤ rm.frames ∧ 8 + (4 + 11) + rmM_isOver.locals ≤ rm.locals) (hr : (sk.map fun v => v.category).sum ≤ 8) (hd : decode cc pc = .ok (.invokevirtual 257, 3)) (k : At X (pc + 3) lv (.int z :: sk) q) : At X pc lv (.int v2 :: .int v1 :: .ref (adOf X 0) :: sk) q := a_callVi (as := [.int v1, .int v2]) C (kp := 0) (by rw [S.1]; decide) (by rw [S.2.1]; rfl) rfl (by have hh := c_M_isOver (l := X.2.1) (D := dOf X) (I := idOf X) (ad := adOf X) h; rw [← S.1, ← S.2.1, ← S.2.2] at hh; exact hh) g_M_isOver ⟨rfl, rfl, hz.1, hz.2⟩ ⟨by decide, by decide, by show Option.map _ (parseMethodDescriptor yX11_isOver.desc) = some 2; decide⟩ hr rfl hd k
abbrev rmM_servedBy : Room := { frames := 1, cells := 0, slots := 0, locals := 22 }
def M_servedBy_B30 (q : St) (k : Int32 → Int32 → Option (Int32)) (rec : Int32 → Int32 → Option (Int32)) (v2 : Int32) (v3 : Int32) : Option (Int32) :=
  if v3 = (0 : Int32) then
    k v2 v3
  else
    b1 (M_has q v3 v2) fun x7 =>
    if x7 = (0 : Int32) then
      b1 (M_up q v3) fun x9 =>
      rec v2 x9
    else
      k v2 v3
theorem w_M_servedBy_B30 {X : Cv} (C : Cx X cX11_servedBy RX11 rmM_servedBy 4) (S : IsM X) (q : St) {z : Int32} (hret : RokI X cX11_servedBy .int z q) (k : Int32 → Int32 → Option (Int32)) (hk : ∀ (v2 : Int32) (v3 : Int32), k v2 v3 = some z → At X 52 [(0, .ref (adOf X 0)), (2, .int v2), (3, .int v3)] [] q) (rec : Int32 → Int32 → Option (Int32)) (hrec : ∀ (v2 : Int32) (v3 : Int32), rec v2 v3 = some z → At X 30 [(0, .ref (adOf X 0)), (2, .int v2), (3, .int v3)] [] q) (v2 : Int32) (v3 : Int32) (h : M_servedBy_B30 q k rec v2 v3 = some z) : At X 30 [(0, .ref (adOf X 0)), (2, .int v2), (3, .int v3)] [] q := by
  unfold M_servedBy_B30 at h
  refine a_iload_n C 2 rfl rfl dX11_servedBy_30 ?_
  refine a_if_eq C 52 (by decide) dX11_servedBy_31 (fun c6 => ?_) (fun c6 => ?_)
  · replace h := ifp c6 h
    exact At.sub [0, 1, 2] rfl (hk _ _ h)
  · replace h := ifn c6 h
    refine a_aload_n C 0 rfl rfl dX11_servedBy_34 ?_
    refine a_iload_n C 2 rfl rfl dX11_servedBy_35 ?_
    refine a_iload_n C 1 rfl rfl dX11_servedBy_36 ?_
    obtain ⟨x7, e_x7, h⟩ := b1s h
    refine k_M_has C S e_x7 ⟨Nat.le_of_ble_eq_true rfl, Nat.le_of_ble_eq_true rfl⟩ (Nat.le_of_ble_eq_true rfl) dX11_servedBy_37 ?_
    refine a_if_ne C 52 (by decide) dX11_servedBy_40 (fun c8 => ?_) (fun c8 => ?_)
    · replace h := ifn c8 h
      exact At.sub [0, 1, 2] rfl (hk _ _ h)
    · replace h := ifp c8 h
      refine a_aload_n C 0 rfl rfl dX11_servedBy_43 ?_
      refine a_iload_n C 2 rfl rfl dX11_servedBy_44 ?_
      obtain ⟨x9, e_x9, h⟩ := b1s h
      refine k_M_up C S e_x9 ⟨Nat.le_of_ble_eq_true rfl, Nat.le_of_ble_eq_true rfl⟩ (Nat.le_of_ble_eq_true rfl) dX11_servedBy_45 ?_
      refine a_istore_n C [(3, .int x9), (0, .ref (adOf X 0)), (2, .int v2)] rfl (by decide) rfl dX11_servedBy_48 ?_
      refine a_goto C 30 (by decide) dX11_servedBy_49 ?_
      exact At.sub [1, 2, 0] rfl (hrec _ _ h)
def M_servedBy_L30 (q : St) (k : Int32 → Int32 → Option (Int32)) : Nat → Int32 → Int32 → Option (Int32)
  | 0, _, _ => none
  | n + 1, v2, v3 => M_servedBy_B30 q k (M_servedBy_L30 q k n) v2 v3
theorem w_M_servedBy_L30 {X : Cv} (C : Cx X cX11_servedBy RX11 rmM_servedBy 4) (S : IsM X) (q : St) {z : Int32} (hret : RokI X cX11_servedBy .int z q) (k : Int32 → Int32 → Option (Int32)) (hk : ∀ (v2 : Int32) (v3 : Int32), k v2 v3 = some z → At X 52 [(0, .ref (adOf X 0)), (2, .int v2), (3, .int v3)] [] q) (n : Nat) : ∀ (v2 : Int32) (v3 : Int32), M_servedBy_L30 q k n v2 v3 = some z → At X 30 [(0, .ref (adOf X 0)), (2, .int v2), (3, .int v3)] [] q := by
  induction n with
  | zero => intro v2 v3 h; cases h
  | succ n ih => intro v2 v3 h; exact w_M_servedBy_B30 C S _ hret k hk _ ih v2 v3 h
def M_servedBy_J52 (v2 : Int32) (v3 : Int32) (q : St) : Option (Int32) :=
  b1 (M_has q v3 v2) fun x12 =>
  if x12 = (0 : Int32) then
    some (-2 : Int32)
  else
    some v3
theorem w_M_servedBy_J52 {X : Cv} (C : Cx X cX11_servedBy RX11 rmM_servedBy 4) (S : IsM X) {q : St} {z : Int32} (hret : RokI X cX11_servedBy .int z q) (v2 : Int32) (v3 : Int32) (h : M_servedBy_J52 v2 v3 q = some z) : At X 52 [(0, .ref (adOf X 0)), (2, .int v2), (3, .int v3)] [] q := by
  unfold M_servedBy_J52 at h
  refine a_aload_n C 0 rfl rfl dX11_servedBy_52 ?_
  refine a_iload_n C 2 rfl rfl dX11_servedBy_53 ?_
  refine a_iload_n C 1 rfl rfl dX11_servedBy_54 ?_
  obtain ⟨x12, e_x12, h⟩ := b1s h
  refine k_M_has C S e_x12 ⟨Nat.le_of_ble_eq_true rfl, Nat.le_of_ble_eq_true rfl⟩ (Nat.le_of_ble_eq_true rfl) dX11_servedBy_55 ?_
  refine a_if_eq C 65 (by decide) dX11_servedBy_58 (fun c13 => ?_) (fun c13 => ?_)
  · replace h := ifp c13 h
    refine a_bipush (v := -2) C (by decide) dX11_servedBy_65 ?_
    exact a_iretR hret h rfl dX11_servedBy_67
  · replace h := ifn c13 h
    refine a_iload_n C 2 rfl rfl dX11_servedBy_61 ?_
    refine a_goto C 67 (by decide) dX11_servedBy_62 ?_
    exact a_iretR hret h rfl dX11_servedBy_67
def M_servedBy (q : St) (v1 : Int32) : Option (Int32) :=
  b1 (M_of q v1 (1 : Int32)) fun x1 =>
  b1 (M_of q v1 (3 : Int32)) fun x2 =>
  if x2 = (0 : Int32) then
    some (-2 : Int32)
  else
    if x1 = (0 : Int32) then
      some (-2 : Int32)
    else
      b1 (M_of q v1 (0 : Int32)) fun x5 =>
      M_servedBy_L30 q (fun y10 y11 =>
        M_servedBy_J52 y10 y11 q
        ) FU x1 x5
theorem w_M_servedBy {X : Cv} (C : Cx X cX11_servedBy RX11 rmM_servedBy 4) (S : IsM X) {q : St} {z : Int32} (hret : RokI X cX11_servedBy .int z q) (v1 : Int32) (h : M_servedBy q v1 = some z) : At X 0 [(0, .ref (adOf X 0)), (1, .int v1)] [] q := by
  unfold M_servedBy at h
  refine a_aload_n C 0 rfl rfl dX11_servedBy_0 ?_
  refine a_iload_n C 1 rfl rfl dX11_servedBy_1 ?_
  refine a_iconst (v := 1) C (by decide) dX11_servedBy_2 ?_
  obtain ⟨x1, e_x1, h⟩ := b1s h
  refine k_M_of C S e_x1 ⟨Nat.le_of_ble_eq_true rfl, Nat.le_of_ble_eq_true rfl⟩ (Nat.le_of_ble_eq_true rfl) dX11_servedBy_3 ?_
  refine a_istore_n C [(2, .int x1), (0, .ref (adOf X 0)), (1, .int v1)] rfl (by decide) rfl dX11_servedBy_6 ?_
  refine a_aload_n C 1 rfl rfl dX11_servedBy_7 ?_
  refine a_iload_n C 2 rfl rfl dX11_servedBy_8 ?_
  refine a_iconst (v := 3) C (by decide) dX11_servedBy_9 ?_
  obtain ⟨x2, e_x2, h⟩ := b1s h
  refine k_M_of C S e_x2 ⟨Nat.le_of_ble_eq_true rfl, Nat.le_of_ble_eq_true rfl⟩ (Nat.le_of_ble_eq_true rfl) dX11_servedBy_10 ?_
  refine a_if_eq C 20 (by decide) dX11_servedBy_13 (fun c3 => ?_) (fun c3 => ?_)
  · replace h := ifp c3 h
    refine a_bipush (v := -2) C (by decide) dX11_servedBy_20 ?_
    exact a_iretR hret h rfl dX11_servedBy_22
  · replace h := ifn c3 h
    refine a_iload_n C 0 rfl rfl dX11_servedBy_16 ?_
    refine a_if_ne C 23 (by decide) dX11_servedBy_17 (fun c4 => ?_) (fun c4 => ?_)
    · replace h := ifn c4 h
      refine a_aload_n C 1 rfl rfl dX11_servedBy_23 ?_
      refine a_iload_n C 2 rfl rfl dX11_servedBy_24 ?_
      refine a_iconst (v := 0) C (by decide) dX11_servedBy_25 ?_
      obtain ⟨x5, e_x5, h⟩ := b1s h
      refine k_M_of C S e_x5 ⟨Nat.le_of_ble_eq_true rfl, Nat.le_of_ble_eq_true rfl⟩ (Nat.le_of_ble_eq_true rfl) dX11_servedBy_26 ?_
      refine a_istore_n C [(3, .int x5), (2, .int x1), (0, .ref (adOf X 0)), (1, .int v1)] rfl (by decide) rfl dX11_servedBy_29 ?_
      refine At.sub [2, 1, 0] rfl (w_M_servedBy_L30 C S _ hret _ ?_ _ _ _ h)
      intro y10 y11 h
      exact At.sub [0, 1, 2] rfl (w_M_servedBy_J52 C S hret _ _ h)
    · replace h := ifp c4 h
      refine a_bipush (v := -2) C (by decide) dX11_servedBy_20 ?_
      exact a_iretR hret h rfl dX11_servedBy_22
theorem c_M_servedBy {l : Launch} {D : va_G} {I : ClassId × ClassId × ClassId × ClassId} {ad : Nat → Nat} {q : St} {v1 : Int32} {z : Int32} (h : M_servedBy q v1 = some z) : Ctr l D I zT 18 (shM I) ad yX11_servedBy cX11_servedBy 4 (some .int) rmM_servedBy [.ref (ad 0), .int v1] q (some z) q :=
  ctr_ofI (by decide) (Nat.le_of_ble_eq_true rfl) (fun p e s m args below meth c Q H0 X hX C hret => by subst hX; exact w_M_servedBy C ⟨rfl, rfl, rfl⟩ hret _ h)
theorem g_M_servedBy : GoodIn lw_tg (wsV RX11 254 RX11 yX11_servedBy (Cond.code yX11_servedBy cX11_servedBy 4 (some .int) :: lw_tg)) := gd_V (tg 1574 (by decide +kernel) rfl) (tg 1576 (by decide +kernel) rfl) (tg 98 (by decide +kernel) rfl) (tg 128 (by decide +kernel) rfl) (tg 1577 (by decide +kernel) rfl)
theorem k_M_servedBy {X : Cv} {cc : ByteArray} {rm : Room} {nL1 pc : Nat} {lv : List (Nat × Value)} {sk : List Value} {q : St} {v1 : Int32} {z : Int32} (C : Cx X cc RX11 rm nL1) (S : IsM X) (h : M_servedBy q v1 = some z) (hz : rmM_servedBy.frames + 1 ≤ rm.frames ∧ 8 + (4 + 11) + rmM_servedBy.locals ≤ rm.locals) (hr : (sk.map fun v => v.category).sum ≤ 8) (hd : decode cc pc = .ok (.invokevirtual 254, 3)) (k : At X (pc + 3) lv (.int z :: sk) q) : At X pc lv (.int v1 :: .ref (adOf X 0) :: sk) q := a_callVi (as := [.int v1]) C (kp := 0) (by rw [S.1]; decide) (by rw [S.2.1]; rfl) rfl (by have hh := c_M_servedBy (l := X.2.1) (D := dOf X) (I := idOf X) (ad := adOf X) h; rw [← S.1, ← S.2.1, ← S.2.2] at hh; exact hh) g_M_servedBy ⟨rfl, rfl, hz.1, hz.2⟩ ⟨by decide, by decide, by show Option.map _ (parseMethodDescriptor yX11_servedBy.desc) = some 1; decide⟩ hr rfl hd k
abbrev rmM_isPartOf : Room := { frames := 3, cells := 0, slots := 0, locals := 68 }
def M_isPartOf (q : St) (v1 : Int32) (v2 : Int32) : Option (Int32) :=
  if v2 < (200 : Int32) then
    if v2 < (100 : Int32) then
      b1 (M_isOver q v1 (v2 - (0 : Int32))) fun x3 =>
      bz x3 <|
      some x3
    else
      b1 (M_servedBy q v1) fun x5 =>
      if x5 = (v2 - (100 : Int32)) then
        some (1 : Int32)
      else
        some (0 : Int32)
  else
    b1 (M_of q v1 (3 : Int32)) fun x7 =>
    if x7 ≤ (0 : Int32) then
      some (0 : Int32)
    else
      b1 (M_of q v1 (1 : Int32)) fun x9 =>
      if x9 = (v2 - (200 : Int32)) then
        b1 (M_servedBy q v1) fun x11 =>
        if (0 : Int32) ≤ x11 then
          some (0 : Int32)
        else
          some (1 : Int32)
      else
        some (0 : Int32)
theorem w_M_isPartOf {X : Cv} (C : Cx X cX11_isPartOf RX11 rmM_isPartOf 3) (S : IsM X) {q : St} {z : Int32} (hret : RokI X cX11_isPartOf .boolean z q) (v1 : Int32) (v2 : Int32) (h : M_isPartOf q v1 v2 = some z) : At X 0 [(0, .ref (adOf X 0)), (1, .int v1), (2, .int v2)] [] q := by
  unfold M_isPartOf at h
  refine a_iload_n C 2 rfl rfl dX11_isPartOf_0 ?_
  refine a_sipush (v := 200) C (by decide) dX11_isPartOf_1 ?_
  refine a_icmp_lt C 44 (by decide) dX11_isPartOf_4 (fun c1 => ?_) (fun c1 => ?_)
  · replace h := ifp c1 h
    refine a_iload_n C 2 rfl rfl dX11_isPartOf_44 ?_
    refine a_bipush (v := 100) C (by decide) dX11_isPartOf_45 ?_
    refine a_icmp_lt C 70 (by decide) dX11_isPartOf_47 (fun c2 => ?_) (fun c2 => ?_)
    · replace h := ifp c2 h
      refine a_aload_n C 0 rfl rfl dX11_isPartOf_70 ?_
      refine a_iload_n C 1 rfl rfl dX11_isPartOf_71 ?_
      refine a_iload_n C 2 rfl rfl dX11_isPartOf_72 ?_
      refine a_iconst (v := 0) C (by decide) dX11_isPartOf_73 ?_
      refine a_isub C dX11_isPartOf_74 ?_
      obtain ⟨x3, e_x3, h⟩ := b1s h
      refine k_M_isOver C S e_x3 ⟨Nat.le_of_ble_eq_true rfl, Nat.le_of_ble_eq_true rfl⟩ (Nat.le_of_ble_eq_true rfl) dX11_isPartOf_75 ?_
      obtain ⟨n4, h⟩ := bzs h
      exact a_iretR hret h n4 dX11_isPartOf_78
    · replace h := ifn c2 h
      refine a_aload_n C 0 rfl rfl dX11_isPartOf_50 ?_
      refine a_iload_n C 1 rfl rfl dX11_isPartOf_51 ?_
      obtain ⟨x5, e_x5, h⟩ := b1s h
      refine k_M_servedBy C S e_x5 ⟨Nat.le_of_ble_eq_true rfl, Nat.le_of_ble_eq_true rfl⟩ (Nat.le_of_ble_eq_true rfl) dX11_isPartOf_52 ?_
      refine a_iload_n C 2 rfl rfl dX11_isPartOf_55 ?_
      refine a_bipush (v := 100) C (by decide) dX11_isPartOf_56 ?_
      refine a_isub C dX11_isPartOf_58 ?_
      refine a_icmp_ne C 66 (by decide) dX11_isPartOf_59 (fun c6 => ?_) (fun c6 => ?_)
      · replace h := ifn c6 h
        refine a_iconst (v := 0) C (by decide) dX11_isPartOf_66 ?_
        refine a_goto C 78 (by decide) dX11_isPartOf_67 ?_
        exact a_iretR hret h rfl dX11_isPartOf_78
      · replace h := ifp c6 h
        refine a_iconst (v := 1) C (by decide) dX11_isPartOf_62 ?_
        refine a_goto C 78 (by decide) dX11_isPartOf_63 ?_
        exact a_iretR hret h rfl dX11_isPartOf_78
  · replace h := ifn c1 h
    refine a_aload_n C 0 rfl rfl dX11_isPartOf_7 ?_
    refine a_iload_n C 1 rfl rfl dX11_isPartOf_8 ?_
    refine a_iconst (v := 3) C (by decide) dX11_isPartOf_9 ?_
    obtain ⟨x7, e_x7, h⟩ := b1s h
    refine k_M_of C S e_x7 ⟨Nat.le_of_ble_eq_true rfl, Nat.le_of_ble_eq_true rfl⟩ (Nat.le_of_ble_eq_true rfl) dX11_isPartOf_10 ?_
    refine a_if_le C 42 (by decide) dX11_isPartOf_13 (fun c8 => ?_) (fun c8 => ?_)
    · replace h := ifp c8 h
      refine a_iconst (v := 0) C (by decide) dX11_isPartOf_42 ?_
      exact a_iretR hret h rfl dX11_isPartOf_43
    · replace h := ifn c8 h
      refine a_aload_n C 0 rfl rfl dX11_isPartOf_16 ?_
      refine a_iload_n C 1 rfl rfl dX11_isPartOf_17 ?_
      refine a_iconst (v := 1) C (by decide) dX11_isPartOf_18 ?_
      obtain ⟨x9, e_x9, h⟩ := b1s h
      refine k_M_of C S e_x9 ⟨Nat.le_of_ble_eq_true rfl, Nat.le_of_ble_eq_true rfl⟩ (Nat.le_of_ble_eq_true rfl) dX11_isPartOf_19 ?_
      refine a_iload_n C 2 rfl rfl dX11_isPartOf_22 ?_
      refine a_sipush (v := 200) C (by decide) dX11_isPartOf_23 ?_
      refine a_isub C dX11_isPartOf_26 ?_
      refine a_icmp_ne C 42 (by decide) dX11_isPartOf_27 (fun c10 => ?_) (fun c10 => ?_)
      · replace h := ifn c10 h
        refine a_iconst (v := 0) C (by decide) dX11_isPartOf_42 ?_
        exact a_iretR hret h rfl dX11_isPartOf_43
      · replace h := ifp c10 h
        refine a_aload_n C 0 rfl rfl dX11_isPartOf_30 ?_
        refine a_iload_n C 1 rfl rfl dX11_isPartOf_31 ?_
        obtain ⟨x11, e_x11, h⟩ := b1s h
        refine k_M_servedBy C S e_x11 ⟨Nat.le_of_ble_eq_true rfl, Nat.le_of_ble_eq_true rfl⟩ (Nat.le_of_ble_eq_true rfl) dX11_isPartOf_32 ?_
        refine a_if_ge C 42 (by decide) dX11_isPartOf_35 (fun c12 => ?_) (fun c12 => ?_)
        · replace h := ifp c12 h
          refine a_iconst (v := 0) C (by decide) dX11_isPartOf_42 ?_
          exact a_iretR hret h rfl dX11_isPartOf_43
        · replace h := ifn c12 h
          refine a_iconst (v := 1) C (by decide) dX11_isPartOf_38 ?_
          refine a_goto C 43 (by decide) dX11_isPartOf_39 ?_
          exact a_iretR hret h rfl dX11_isPartOf_43
theorem c_M_isPartOf {l : Launch} {D : va_G} {I : ClassId × ClassId × ClassId × ClassId} {ad : Nat → Nat} {q : St} {v1 : Int32} {v2 : Int32} {z : Int32} (h : M_isPartOf q v1 v2 = some z) : Ctr l D I zT 18 (shM I) ad yX11_isPartOf cX11_isPartOf 3 (some .boolean) rmM_isPartOf [.ref (ad 0), .int v1, .int v2] q (some z) q :=
  ctr_ofI (by decide) (Nat.le_of_ble_eq_true rfl) (fun p e s m args below meth c Q H0 X hX C hret => by subst hX; exact w_M_isPartOf C ⟨rfl, rfl, rfl⟩ hret _ _ h)
theorem g_M_isPartOf : GoodIn lw_tg (wsV RX11 260 RX11 yX11_isPartOf (Cond.code yX11_isPartOf cX11_isPartOf 3 (some .boolean) :: lw_tg)) := gd_V (tg 1570 (by decide +kernel) rfl) (tg 1572 (by decide +kernel) rfl) (tg 97 (by decide +kernel) rfl) (tg 128 (by decide +kernel) rfl) (tg 1573 (by decide +kernel) rfl)
theorem k_M_isPartOf {X : Cv} {cc : ByteArray} {rm : Room} {nL1 pc : Nat} {lv : List (Nat × Value)} {sk : List Value} {q : St} {v1 : Int32} {v2 : Int32} {z : Int32} (C : Cx X cc RX11 rm nL1) (S : IsM X) (h : M_isPartOf q v1 v2 = some z) (hz : rmM_isPartOf.frames + 1 ≤ rm.frames ∧ 8 + (3 + 11) + rmM_isPartOf.locals ≤ rm.locals) (hr : (sk.map fun v => v.category).sum ≤ 8) (hd : decode cc pc = .ok (.invokevirtual 260, 3)) (k : At X (pc + 3) lv (.int z :: sk) q) : At X pc lv (.int v2 :: .int v1 :: .ref (adOf X 0) :: sk) q := a_callVi (as := [.int v1, .int v2]) C (kp := 0) (by rw [S.1]; decide) (by rw [S.2.1]; rfl) rfl (by have hh := c_M_isPartOf (l := X.2.1) (D := dOf X) (I := idOf X) (ad := adOf X) h; rw [← S.1, ← S.2.1, ← S.2.2] at hh; exact hh) g_M_isPartOf ⟨rfl, rfl, hz.1, hz.2⟩ ⟨by decide, by decide, by show Option.map _ (parseMethodDescriptor yX11_isPartOf.desc) = some 2; decide⟩ hr rfl hd k
abbrev rmM_repairs : Room := { frames := 5, cells := 0, slots := 0, locals := 112 }
def M_repairs_B17 (q : St) (k : Int32 → Int32 → Option (Int32 × St)) (rec : Int32 → Int32 → Int32 → Int32 → Option (Int32 × St)) (v1 : Int32) (v2 : Int32) (v3 : Int32) (v4 : Int32) : Option (Int32 × St) :=
  b1 (rd 202 q 4 (96 : Int32)) fun x4 =>
  if x4 ≤ v4 then
    k v1 v3
  else
    b1 (M_isPartOf q v4 v2) fun x6 =>
    if x6 = (0 : Int32) then
      rec v1 v2 v3 (v4 + 1)
    else
      if v3 < (0 : Int32) then
        rec v1 v2 v4 (v4 + 1)
      else
        b1 (M_of q v4 (3 : Int32)) fun x9 =>
        b1 (M_of q v3 (3 : Int32)) fun x10 =>
        if x9 < x10 then
          rec v1 v2 v3 (v4 + 1)
        else
          rec v1 v2 v4 (v4 + 1)
theorem w_M_repairs_B17 {X : Cv} (C : Cx X cX11_repairs RX11 rmM_repairs 5) (S : IsM X) (q : St) {z : Int32 × St} (hret : RokI X cX11_repairs .int z.1 z.2) (k : Int32 → Int32 → Option (Int32 × St)) (hk : ∀ (v1 : Int32) (v3 : Int32), k v1 v3 = some z → At X 68 [(0, .ref (adOf X 0)), (1, .int v1), (3, .int v3)] [] q) (rec : Int32 → Int32 → Int32 → Int32 → Option (Int32 × St)) (hrec : ∀ (v1 : Int32) (v2 : Int32) (v3 : Int32) (v4 : Int32), rec v1 v2 v3 v4 = some z → At X 17 [(0, .ref (adOf X 0)), (1, .int v1), (2, .int v2), (3, .int v3), (4, .int v4)] [] q) (v1 : Int32) (v2 : Int32) (v3 : Int32) (v4 : Int32) (h : M_repairs_B17 q k rec v1 v2 v3 v4 = some z) : At X 17 [(0, .ref (adOf X 0)), (1, .int v1), (2, .int v2), (3, .int v3), (4, .int v4)] [] q := by
  unfold M_repairs_B17 at h
  refine a_iload C 4 rfl dX11_repairs_17 ?_
  refine a_aload_n C 0 rfl rfl dX11_repairs_19 ?_
  refine gM_world C S dX11_repairs_20 ?_
  refine a_bipush (v := 96) C (by decide) dX11_repairs_23 ?_
  obtain ⟨x4, e_x4, h⟩ := b1s h
  refine lM_world C S e_x4 dX11_repairs_25 ?_
  refine a_icmp_ge C 68 (by decide) dX11_repairs_26 (fun c5 => ?_) (fun c5 => ?_)
  · replace h := ifp c5 h
    exact At.sub [0, 1, 3] rfl (hk _ _ h)
  · replace h := ifn c5 h
    refine a_aload_n C 0 rfl rfl dX11_repairs_29 ?_
    refine a_iload C 4 rfl dX11_repairs_30 ?_
    refine a_iload_n C 2 rfl rfl dX11_repairs_32 ?_
    obtain ⟨x6, e_x6, h⟩ := b1s h
    refine k_M_isPartOf C S e_x6 ⟨Nat.le_of_ble_eq_true rfl, Nat.le_of_ble_eq_true rfl⟩ (Nat.le_of_ble_eq_true rfl) dX11_repairs_33 ?_
    refine a_if_eq C 62 (by decide) dX11_repairs_36 (fun c7 => ?_) (fun c7 => ?_)
    · replace h := ifp c7 h
      refine a_iinc (v := (v4 + 1)) C [(4, .int (v4 + 1)), (0, .ref (adOf X 0)), (1, .int v1), (2, .int v2), (3, .int v3)] 4 rfl (congrArg (HAdd.hAdd v4) (by decide : Int32.ofInt (1) = (1 : Int32))) (by decide) rfl dX11_repairs_62 ?_
      refine a_goto C 17 (by decide) dX11_repairs_65 ?_
      exact At.sub [1, 2, 3, 4, 0] rfl (hrec _ _ _ _ h)
    · replace h := ifn c7 h
      refine a_iload_n C 3 rfl rfl dX11_repairs_39 ?_
      refine a_if_lt C 59 (by decide) dX11_repairs_40 (fun c8 => ?_) (fun c8 => ?_)
      · replace h := ifp c8 h
        refine a_iload C 4 rfl dX11_repairs_59 ?_
        refine a_istore_n C [(3, .int v4), (0, .ref (adOf X 0)), (1, .int v1), (2, .int v2), (4, .int v4)] rfl (by decide) rfl dX11_repairs_61 ?_
        refine a_iinc (v := (v4 + 1)) C [(4, .int (v4 + 1)), (3, .int v4), (0, .ref (adOf X 0)), (1, .int v1), (2, .int v2)] 4 rfl (congrArg (HAdd.hAdd v4) (by decide : Int32.ofInt (1) = (1 : Int32))) (by decide) rfl dX11_repairs_62 ?_
        refine a_goto C 17 (by decide) dX11_repairs_65 ?_
        exact At.sub [2, 3, 4, 1, 0] rfl (hrec _ _ _ _ h)
      · replace h := ifn c8 h
        refine a_aload_n C 0 rfl rfl dX11_repairs_43 ?_
        refine a_iload C 4 rfl dX11_repairs_44 ?_
        refine a_iconst (v := 3) C (by decide) dX11_repairs_46 ?_
        obtain ⟨x9, e_x9, h⟩ := b1s h
        refine k_M_of C S e_x9 ⟨Nat.le_of_ble_eq_true rfl, Nat.le_of_ble_eq_true rfl⟩ (Nat.le_of_ble_eq_true rfl) dX11_repairs_47 ?_
        refine a_aload_n C 0 rfl rfl dX11_repairs_50 ?_
        refine a_iload_n C 3 rfl rfl dX11_repairs_51 ?_
        refine a_iconst (v := 3) C (by decide) dX11_repairs_52 ?_
        obtain ⟨x10, e_x10, h⟩ := b1s h
        refine k_M_of C S e_x10 ⟨Nat.le_of_ble_eq_true rfl, Nat.le_of_ble_eq_true rfl⟩ (Nat.le_of_ble_eq_true rfl) dX11_repairs_53 ?_
        refine a_icmp_lt C 62 (by decide) dX11_repairs_56 (fun c11 => ?_) (fun c11 => ?_)
        · replace h := ifp c11 h
          refine a_iinc (v := (v4 + 1)) C [(4, .int (v4 + 1)), (0, .ref (adOf X 0)), (1, .int v1), (2, .int v2), (3, .int v3)] 4 rfl (congrArg (HAdd.hAdd v4) (by decide : Int32.ofInt (1) = (1 : Int32))) (by decide) rfl dX11_repairs_62 ?_
          refine a_goto C 17 (by decide) dX11_repairs_65 ?_
          exact At.sub [1, 2, 3, 4, 0] rfl (hrec _ _ _ _ h)
        · replace h := ifn c11 h
          refine a_iload C 4 rfl dX11_repairs_59 ?_
          refine a_istore_n C [(3, .int v4), (0, .ref (adOf X 0)), (1, .int v1), (2, .int v2), (4, .int v4)] rfl (by decide) rfl dX11_repairs_61 ?_
          refine a_iinc (v := (v4 + 1)) C [(4, .int (v4 + 1)), (3, .int v4), (0, .ref (adOf X 0)), (1, .int v1), (2, .int v2)] 4 rfl (congrArg (HAdd.hAdd v4) (by decide : Int32.ofInt (1) = (1 : Int32))) (by decide) rfl dX11_repairs_62 ?_
          refine a_goto C 17 (by decide) dX11_repairs_65 ?_
          exact At.sub [2, 3, 4, 1, 0] rfl (hrec _ _ _ _ h)
def M_repairs_L17 (q : St) (k : Int32 → Int32 → Option (Int32 × St)) : Nat → Int32 → Int32 → Int32 → Int32 → Option (Int32 × St)
  | 0, _, _, _, _ => none
  | n + 1, v1, v2, v3, v4 => M_repairs_B17 q k (M_repairs_L17 q k n) v1 v2 v3 v4
theorem w_M_repairs_L17 {X : Cv} (C : Cx X cX11_repairs RX11 rmM_repairs 5) (S : IsM X) (q : St) {z : Int32 × St} (hret : RokI X cX11_repairs .int z.1 z.2) (k : Int32 → Int32 → Option (Int32 × St)) (hk : ∀ (v1 : Int32) (v3 : Int32), k v1 v3 = some z → At X 68 [(0, .ref (adOf X 0)), (1, .int v1), (3, .int v3)] [] q) (n : Nat) : ∀ (v1 : Int32) (v2 : Int32) (v3 : Int32) (v4 : Int32), M_repairs_L17 q k n v1 v2 v3 v4 = some z → At X 17 [(0, .ref (adOf X 0)), (1, .int v1), (2, .int v2), (3, .int v3), (4, .int v4)] [] q := by
  induction n with
  | zero => intro v1 v2 v3 v4 h; cases h
  | succ n ih => intro v1 v2 v3 v4 h; exact w_M_repairs_B17 C S _ hret k hk _ ih v1 v2 v3 v4 h
def M_repairs_B7 (rec : Int32 → Int32 → St → Option (Int32 × St)) (v1 : Int32) (v2 : Int32) (q : St) : Option (Int32 × St) :=
  if v2 < (0 : Int32) then
    some (v1, q)
  else
    M_repairs_L17 q (fun y12 y13 =>
      b1 (M_of q y13 (3 : Int32)) fun x14 =>
      b1 (M_set q y13 (3 : Int32) (x14 - (1 : Int32))) fun q15 =>
      b1 (M_prunes q15) fun q16 =>
      b2 (M_wrong q16) fun x17 q18 =>
      rec (y12 + 1) x17 q18
      ) FU v1 v2 (-2 : Int32) (0 : Int32)
theorem w_M_repairs_B7 {X : Cv} (C : Cx X cX11_repairs RX11 rmM_repairs 5) (S : IsM X) {z : Int32 × St} (hret : RokI X cX11_repairs .int z.1 z.2) (rec : Int32 → Int32 → St → Option (Int32 × St)) (hrec : ∀ (v1 : Int32) (v2 : Int32) (q : St), rec v1 v2 q = some z → At X 7 [(0, .ref (adOf X 0)), (1, .int v1), (2, .int v2)] [] q) (v1 : Int32) (v2 : Int32) (q : St) (h : M_repairs_B7 rec v1 v2 q = some z) : At X 7 [(0, .ref (adOf X 0)), (1, .int v1), (2, .int v2)] [] q := by
  unfold M_repairs_B7 at h
  refine a_iload_n C 2 rfl rfl dX11_repairs_7 ?_
  refine a_if_lt C 97 (by decide) dX11_repairs_8 (fun c3 => ?_) (fun c3 => ?_)
  · replace h := ifp c3 h
    refine a_iload_n C 1 rfl rfl dX11_repairs_97 ?_
    exact a_iret hret h rfl dX11_repairs_98
  · replace h := ifn c3 h
    refine a_bipush (v := -2) C (by decide) dX11_repairs_11 ?_
    refine a_istore_n C [(3, .int (-2 : Int32)), (0, .ref (adOf X 0)), (1, .int v1), (2, .int v2)] rfl (by decide) rfl dX11_repairs_13 ?_
    refine a_iconst (v := 0) C (by decide) dX11_repairs_14 ?_
    refine a_istore C [(4, .int (0 : Int32)), (3, .int (-2 : Int32)), (0, .ref (adOf X 0)), (1, .int v1), (2, .int v2)] (by decide) rfl dX11_repairs_15 ?_
    refine At.sub [2, 3, 4, 1, 0] rfl (w_M_repairs_L17 C S _ hret _ ?_ _ _ _ _ _ h)
    intro y12 y13 h
    refine a_aload_n C 0 rfl rfl dX11_repairs_68 ?_
    refine a_iload_n C 2 rfl rfl dX11_repairs_69 ?_
    refine a_iconst (v := 3) C (by decide) dX11_repairs_70 ?_
    refine a_aload_n C 0 rfl rfl dX11_repairs_71 ?_
    refine a_iload_n C 2 rfl rfl dX11_repairs_72 ?_
    refine a_iconst (v := 3) C (by decide) dX11_repairs_73 ?_
    obtain ⟨x14, e_x14, h⟩ := b1s h
    refine k_M_of C S e_x14 ⟨Nat.le_of_ble_eq_true rfl, Nat.le_of_ble_eq_true rfl⟩ (Nat.le_of_ble_eq_true rfl) dX11_repairs_74 ?_
    refine a_iconst (v := 1) C (by decide) dX11_repairs_77 ?_
    refine a_isub C dX11_repairs_78 ?_
    obtain ⟨q15, e_q15, h⟩ := b1s h
    refine k_M_set C S e_q15 ⟨Nat.le_of_ble_eq_true rfl, Nat.le_of_ble_eq_true rfl⟩ (Nat.le_of_ble_eq_true rfl) dX11_repairs_79 ?_
    refine a_aload_n C 0 rfl rfl dX11_repairs_82 ?_
    obtain ⟨q16, e_q16, h⟩ := b1s h
    refine k_M_prunes C S e_q16 ⟨Nat.le_of_ble_eq_true rfl, Nat.le_of_ble_eq_true rfl⟩ (Nat.le_of_ble_eq_true rfl) dX11_repairs_83 ?_
    refine a_iinc (v := (y12 + 1)) C [(1, .int (y12 + 1)), (0, .ref (adOf X 0)), (3, .int y13)] 1 rfl (congrArg (HAdd.hAdd y12) (by decide : Int32.ofInt (1) = (1 : Int32))) (by decide) rfl dX11_repairs_86 ?_
    refine a_aload_n C 1 rfl rfl dX11_repairs_89 ?_
    obtain ⟨x17, q18, e_q18, h⟩ := b2s h
    refine k_M_wrong C S e_q18 ⟨Nat.le_of_ble_eq_true rfl, Nat.le_of_ble_eq_true rfl⟩ (Nat.le_of_ble_eq_true rfl) dX11_repairs_90 ?_
    refine a_istore_n C [(2, .int x17), (1, .int (y12 + 1)), (0, .ref (adOf X 0)), (3, .int y13)] rfl (by decide) rfl dX11_repairs_93 ?_
    refine a_goto C 7 (by decide) dX11_repairs_94 ?_
    exact At.sub [2, 1, 0] rfl (hrec _ _ _ h)
def M_repairs_L7 : Nat → Int32 → Int32 → St → Option (Int32 × St)
  | 0, _, _, _ => none
  | n + 1, v1, v2, q => M_repairs_B7 (M_repairs_L7 n) v1 v2 q
theorem w_M_repairs_L7 {X : Cv} (C : Cx X cX11_repairs RX11 rmM_repairs 5) (S : IsM X) {z : Int32 × St} (hret : RokI X cX11_repairs .int z.1 z.2) (n : Nat) : ∀ (v1 : Int32) (v2 : Int32) (q : St), M_repairs_L7 n v1 v2 q = some z → At X 7 [(0, .ref (adOf X 0)), (1, .int v1), (2, .int v2)] [] q := by
  induction n with
  | zero => intro v1 v2 q h; cases h
  | succ n ih => intro v1 v2 q h; exact w_M_repairs_B7 C S hret _ ih v1 v2 q h
def M_repairs (q : St) : Option (Int32 × St) :=
  b2 (M_wrong q) fun x1 q2 =>
  M_repairs_L7 FU (0 : Int32) x1 q2
theorem w_M_repairs {X : Cv} (C : Cx X cX11_repairs RX11 rmM_repairs 5) (S : IsM X) {z : Int32 × St} (hret : RokI X cX11_repairs .int z.1 z.2) (q : St) (h : M_repairs q = some z) : At X 0 [(0, .ref (adOf X 0))] [] q := by
  unfold M_repairs at h
  refine a_iconst (v := 0) C (by decide) dX11_repairs_0 ?_
  refine a_istore_n C [(1, .int (0 : Int32)), (0, .ref (adOf X 0))] rfl (by decide) rfl dX11_repairs_1 ?_
  refine a_aload_n C 1 rfl rfl dX11_repairs_2 ?_
  obtain ⟨x1, q2, e_q2, h⟩ := b2s h
  refine k_M_wrong C S e_q2 ⟨Nat.le_of_ble_eq_true rfl, Nat.le_of_ble_eq_true rfl⟩ (Nat.le_of_ble_eq_true rfl) dX11_repairs_3 ?_
  refine a_istore_n C [(2, .int x1), (1, .int (0 : Int32)), (0, .ref (adOf X 0))] rfl (by decide) rfl dX11_repairs_6 ?_
  exact At.sub [2, 1, 0] rfl (w_M_repairs_L7 C S hret _ _ _ _ h)
theorem c_M_repairs {l : Launch} {D : va_G} {I : ClassId × ClassId × ClassId × ClassId} {ad : Nat → Nat} {q : St} {z : Int32 × St} (h : M_repairs q = some z) : Ctr l D I zT 18 (shM I) ad yX11_repairs cX11_repairs 5 (some .int) rmM_repairs [.ref (ad 0)] q (some z.1) z.2 :=
  ctr_ofI (by decide) (Nat.le_of_ble_eq_true rfl) (fun p e s m args below meth c Q H0 X hX C hret => by subst hX; exact w_M_repairs C ⟨rfl, rfl, rfl⟩ hret _ h)
theorem g_M_repairs : GoodIn lw_tg (wsV RX11 300 RX11 yX11_repairs (Cond.code yX11_repairs cX11_repairs 5 (some .int) :: lw_tg)) := gd_V (tg 1566 (by decide +kernel) rfl) (tg 1568 (by decide +kernel) rfl) (tg 96 (by decide +kernel) rfl) (tg 128 (by decide +kernel) rfl) (tg 1569 (by decide +kernel) rfl)
theorem k_M_repairs {X : Cv} {cc : ByteArray} {rm : Room} {nL1 pc : Nat} {lv : List (Nat × Value)} {sk : List Value} {q : St} {z : Int32} {q2 : St} (C : Cx X cc RX11 rm nL1) (S : IsM X) (h : M_repairs q = some (z, q2)) (hz : rmM_repairs.frames + 1 ≤ rm.frames ∧ 8 + (5 + 11) + rmM_repairs.locals ≤ rm.locals) (hr : (sk.map fun v => v.category).sum ≤ 8) (hd : decode cc pc = .ok (.invokevirtual 300, 3)) (k : At X (pc + 3) lv (.int z :: sk) q2) : At X pc lv (.ref (adOf X 0) :: sk) q := a_callVi (as := []) C (kp := 0) (by rw [S.1]; decide) (by rw [S.2.1]; rfl) rfl (by have hh := c_M_repairs (l := X.2.1) (D := dOf X) (I := idOf X) (ad := adOf X) h; rw [← S.1, ← S.2.1, ← S.2.2] at hh; exact hh) g_M_repairs ⟨rfl, rfl, hz.1, hz.2⟩ ⟨by decide, by decide, by show Option.map _ (parseMethodDescriptor yX11_repairs.desc) = some 0; decide⟩ hr rfl hd k
abbrev rmM_levels : Room := { frames := 1, cells := 0, slots := 0, locals := 22 }
def M_levels_B4 (q : St) (rec : Int32 → Int32 → Option (Int32)) (v1 : Int32) (v2 : Int32) : Option (Int32) :=
  b1 (rd 202 q 4 (96 : Int32)) fun x1 =>
  if x1 ≤ v2 then
    some v1
  else
    b1 (M_of q v2 (3 : Int32)) fun x3 =>
    lt_ (v1 + x3) fun w4 =>
    rec w4 (v2 + 1)
theorem w_M_levels_B4 {X : Cv} (C : Cx X cX11_levels RX11 rmM_levels 3) (S : IsM X) (q : St) {z : Int32} (hret : RokI X cX11_levels .int z q) (rec : Int32 → Int32 → Option (Int32)) (hrec : ∀ (v1 : Int32) (v2 : Int32), rec v1 v2 = some z → At X 4 [(0, .ref (adOf X 0)), (1, .int v1), (2, .int v2)] [] q) (v1 : Int32) (v2 : Int32) (h : M_levels_B4 q rec v1 v2 = some z) : At X 4 [(0, .ref (adOf X 0)), (1, .int v1), (2, .int v2)] [] q := by
  unfold M_levels_B4 at h
  refine a_iload_n C 2 rfl rfl dX11_levels_4 ?_
  refine a_aload_n C 0 rfl rfl dX11_levels_5 ?_
  refine gM_world C S dX11_levels_6 ?_
  refine a_bipush (v := 96) C (by decide) dX11_levels_9 ?_
  obtain ⟨x1, e_x1, h⟩ := b1s h
  refine lM_world C S e_x1 dX11_levels_11 ?_
  refine a_icmp_ge C 30 (by decide) dX11_levels_12 (fun c2 => ?_) (fun c2 => ?_)
  · replace h := ifp c2 h
    refine a_iload_n C 1 rfl rfl dX11_levels_30 ?_
    exact a_iretR hret h rfl dX11_levels_31
  · replace h := ifn c2 h
    refine a_iload_n C 1 rfl rfl dX11_levels_15 ?_
    refine a_aload_n C 0 rfl rfl dX11_levels_16 ?_
    refine a_iload_n C 2 rfl rfl dX11_levels_17 ?_
    refine a_iconst (v := 3) C (by decide) dX11_levels_18 ?_
    obtain ⟨x3, e_x3, h⟩ := b1s h
    refine k_M_of C S e_x3 ⟨Nat.le_of_ble_eq_true rfl, Nat.le_of_ble_eq_true rfl⟩ (Nat.le_of_ble_eq_true rfl) dX11_levels_19 ?_
    refine a_iadd C dX11_levels_22 ?_
    obtain ⟨w4, e_w4, h⟩ := lts h
    refine a_top e_w4 ?_
    refine a_istore_n C [(1, .int w4), (0, .ref (adOf X 0)), (2, .int v2)] rfl (by decide) rfl dX11_levels_23 ?_
    refine a_iinc (v := (v2 + 1)) C [(2, .int (v2 + 1)), (1, .int w4), (0, .ref (adOf X 0))] 2 rfl (congrArg (HAdd.hAdd v2) (by decide : Int32.ofInt (1) = (1 : Int32))) (by decide) rfl dX11_levels_24 ?_
    refine a_goto C 4 (by decide) dX11_levels_27 ?_
    exact At.sub [2, 1, 0] rfl (hrec _ _ h)
def M_levels_L4 (q : St) : Nat → Int32 → Int32 → Option (Int32)
  | 0, _, _ => none
  | n + 1, v1, v2 => M_levels_B4 q (M_levels_L4 q n) v1 v2
theorem w_M_levels_L4 {X : Cv} (C : Cx X cX11_levels RX11 rmM_levels 3) (S : IsM X) (q : St) {z : Int32} (hret : RokI X cX11_levels .int z q) (n : Nat) : ∀ (v1 : Int32) (v2 : Int32), M_levels_L4 q n v1 v2 = some z → At X 4 [(0, .ref (adOf X 0)), (1, .int v1), (2, .int v2)] [] q := by
  induction n with
  | zero => intro v1 v2 h; cases h
  | succ n ih => intro v1 v2 h; exact w_M_levels_B4 C S _ hret _ ih v1 v2 h
def M_levels (q : St) : Option (Int32) :=
  M_levels_L4 q FU (0 : Int32) (0 : Int32)
theorem w_M_levels {X : Cv} (C : Cx X cX11_levels RX11 rmM_levels 3) (S : IsM X) {q : St} {z : Int32} (hret : RokI X cX11_levels .int z q) (h : M_levels q = some z) : At X 0 [(0, .ref (adOf X 0))] [] q := by
  unfold M_levels at h
  refine a_iconst (v := 0) C (by decide) dX11_levels_0 ?_
  refine a_istore_n C [(1, .int (0 : Int32)), (0, .ref (adOf X 0))] rfl (by decide) rfl dX11_levels_1 ?_
  refine a_iconst (v := 0) C (by decide) dX11_levels_2 ?_
  refine a_istore_n C [(2, .int (0 : Int32)), (1, .int (0 : Int32)), (0, .ref (adOf X 0))] rfl (by decide) rfl dX11_levels_3 ?_
  exact At.sub [2, 1, 0] rfl (w_M_levels_L4 C S _ hret _ _ _ h)
theorem c_M_levels {l : Launch} {D : va_G} {I : ClassId × ClassId × ClassId × ClassId} {ad : Nat → Nat} {q : St} {z : Int32} (h : M_levels q = some z) : Ctr l D I zT 18 (shM I) ad yX11_levels cX11_levels 3 (some .int) rmM_levels [.ref (ad 0)] q (some z) q :=
  ctr_ofI (by decide) (Nat.le_of_ble_eq_true rfl) (fun p e s m args below meth c Q H0 X hX C hret => by subst hX; exact w_M_levels C ⟨rfl, rfl, rfl⟩ hret h)
theorem g_M_levels : GoodIn lw_tg (wsV RX11 314 RX11 yX11_levels (Cond.code yX11_levels cX11_levels 3 (some .int) :: lw_tg)) := gd_V (tg 1595 (by decide +kernel) rfl) (tg 1597 (by decide +kernel) rfl) (tg 101 (by decide +kernel) rfl) (tg 128 (by decide +kernel) rfl) (tg 1598 (by decide +kernel) rfl)
theorem k_M_levels {X : Cv} {cc : ByteArray} {rm : Room} {nL1 pc : Nat} {lv : List (Nat × Value)} {sk : List Value} {q : St} {z : Int32} (C : Cx X cc RX11 rm nL1) (S : IsM X) (h : M_levels q = some z) (hz : rmM_levels.frames + 1 ≤ rm.frames ∧ 8 + (3 + 11) + rmM_levels.locals ≤ rm.locals) (hr : (sk.map fun v => v.category).sum ≤ 8) (hd : decode cc pc = .ok (.invokevirtual 314, 3)) (k : At X (pc + 3) lv (.int z :: sk) q) : At X pc lv (.ref (adOf X 0) :: sk) q := a_callVi (as := []) C (kp := 0) (by rw [S.1]; decide) (by rw [S.2.1]; rfl) rfl (by have hh := c_M_levels (l := X.2.1) (D := dOf X) (I := idOf X) (ad := adOf X) h; rw [← S.1, ← S.2.1, ← S.2.2] at hh; exact hh) g_M_levels ⟨rfl, rfl, hz.1, hz.2⟩ ⟨by decide, by decide, by show Option.map _ (parseMethodDescriptor yX11_levels.desc) = some 0; decide⟩ hr rfl hd k
abbrev rmM_keeps : Room := { frames := 0, cells := 0, slots := 0, locals := 0 }
def M_keeps_B54 (rec : Int32 → St → Option (St)) (v1 : Int32) (q : St) : Option (St) :=
  if (202 : Int32) ≤ v1 then
    lt_ (st q 0 15 ((gt q 0 15) + (1 : Int32))) fun q3 =>
    some q3
  else
    b1 (rd 202 q 4 v1) fun x4 =>
    b1 (wr 2020 q 6 (((202 : Int32) * (gt q 0 15)) + v1) x4) fun q5 =>
    rec (v1 + 1) q5
theorem w_M_keeps_B54 {X : Cv} (C : Cx X cX11_keeps RX11 rmM_keeps 2) (S : IsM X) {z : St} (hret : RokV X cX11_keeps z) (rec : Int32 → St → Option (St)) (hrec : ∀ (v1 : Int32) (q : St), rec v1 q = some z → At X 54 [(0, .ref (adOf X 0)), (1, .int v1)] [] q) (v1 : Int32) (q : St) (h : M_keeps_B54 rec v1 q = some z) : At X 54 [(0, .ref (adOf X 0)), (1, .int v1)] [] q := by
  unfold M_keeps_B54 at h
  refine a_iload_n C 1 rfl rfl dX11_keeps_54 ?_
  refine a_sipush (v := 202) C (by decide) dX11_keeps_55 ?_
  refine a_icmp_ge C 88 (by decide) dX11_keeps_58 (fun c2 => ?_) (fun c2 => ?_)
  · replace h := ifp c2 h
    refine a_aload_n C 0 rfl rfl dX11_keeps_88 ?_
    refine a_dup C rfl dX11_keeps_89 ?_
    refine gM_undos C S dX11_keeps_90 ?_
    refine a_iconst (v := 1) C (by decide) dX11_keeps_93 ?_
    refine a_iadd C dX11_keeps_94 ?_
    obtain ⟨q3, e_q3, h⟩ := lts h
    refine pM_undos C S e_q3 dX11_keeps_95 ?_
    exact a_vret hret h dX11_keeps_98
  · replace h := ifn c2 h
    refine a_aload_n C 0 rfl rfl dX11_keeps_61 ?_
    refine gM_undone C S dX11_keeps_62 ?_
    refine a_sipush (v := 202) C (by decide) dX11_keeps_65 ?_
    refine a_aload_n C 0 rfl rfl dX11_keeps_68 ?_
    refine gM_undos C S dX11_keeps_69 ?_
    refine a_imul C dX11_keeps_72 ?_
    refine a_iload_n C 1 rfl rfl dX11_keeps_73 ?_
    refine a_iadd C dX11_keeps_74 ?_
    refine a_aload_n C 0 rfl rfl dX11_keeps_75 ?_
    refine gM_world C S dX11_keeps_76 ?_
    refine a_iload_n C 1 rfl rfl dX11_keeps_79 ?_
    obtain ⟨x4, e_x4, h⟩ := b1s h
    refine lM_world C S e_x4 dX11_keeps_80 ?_
    obtain ⟨q5, e_q5, h⟩ := b1s h
    refine sM_undone C S e_q5 dX11_keeps_81 ?_
    refine a_iinc (v := (v1 + 1)) C [(1, .int (v1 + 1)), (0, .ref (adOf X 0))] 1 rfl (congrArg (HAdd.hAdd v1) (by decide : Int32.ofInt (1) = (1 : Int32))) (by decide) rfl dX11_keeps_82 ?_
    refine a_goto C 54 (by decide) dX11_keeps_85 ?_
    exact At.sub [1, 0] rfl (hrec _ _ h)
def M_keeps_L54 : Nat → Int32 → St → Option (St)
  | 0, _, _ => none
  | n + 1, v1, q => M_keeps_B54 (M_keeps_L54 n) v1 q
theorem w_M_keeps_L54 {X : Cv} (C : Cx X cX11_keeps RX11 rmM_keeps 2) (S : IsM X) {z : St} (hret : RokV X cX11_keeps z) (n : Nat) : ∀ (v1 : Int32) (q : St), M_keeps_L54 n v1 q = some z → At X 54 [(0, .ref (adOf X 0)), (1, .int v1)] [] q := by
  induction n with
  | zero => intro v1 q h; cases h
  | succ n ih => intro v1 q h; exact w_M_keeps_B54 C S hret _ ih v1 q h
def M_keeps_B13 (k : St → Option (St)) (rec : Int32 → St → Option (St)) (v1 : Int32) (q : St) : Option (St) :=
  if (2020 : Int32) ≤ v1 then
    k  q
  else
    b1 (rd 2020 q 6 v1) fun x7 =>
    b1 (wr 2020 q 6 (v1 - (202 : Int32)) x7) fun q8 =>
    rec (v1 + 1) q8
theorem w_M_keeps_B13 {X : Cv} (C : Cx X cX11_keeps RX11 rmM_keeps 2) (S : IsM X) {z : St} (hret : RokV X cX11_keeps z) (k : St → Option (St)) (hk : ∀ (q : St), k q = some z → At X 42 [(0, .ref (adOf X 0))] [] q) (rec : Int32 → St → Option (St)) (hrec : ∀ (v1 : Int32) (q : St), rec v1 q = some z → At X 13 [(0, .ref (adOf X 0)), (1, .int v1)] [] q) (v1 : Int32) (q : St) (h : M_keeps_B13 k rec v1 q = some z) : At X 13 [(0, .ref (adOf X 0)), (1, .int v1)] [] q := by
  unfold M_keeps_B13 at h
  refine a_iload_n C 1 rfl rfl dX11_keeps_13 ?_
  refine a_sipush (v := 2020) C (by decide) dX11_keeps_14 ?_
  refine a_icmp_ge C 42 (by decide) dX11_keeps_17 (fun c6 => ?_) (fun c6 => ?_)
  · replace h := ifp c6 h
    exact At.sub [0] rfl (hk  _ h)
  · replace h := ifn c6 h
    refine a_aload_n C 0 rfl rfl dX11_keeps_20 ?_
    refine gM_undone C S dX11_keeps_21 ?_
    refine a_iload_n C 1 rfl rfl dX11_keeps_24 ?_
    refine a_sipush (v := 202) C (by decide) dX11_keeps_25 ?_
    refine a_isub C dX11_keeps_28 ?_
    refine a_aload_n C 0 rfl rfl dX11_keeps_29 ?_
    refine gM_undone C S dX11_keeps_30 ?_
    refine a_iload_n C 1 rfl rfl dX11_keeps_33 ?_
    obtain ⟨x7, e_x7, h⟩ := b1s h
    refine lM_undone C S e_x7 dX11_keeps_34 ?_
    obtain ⟨q8, e_q8, h⟩ := b1s h
    refine sM_undone C S e_q8 dX11_keeps_35 ?_
    refine a_iinc (v := (v1 + 1)) C [(1, .int (v1 + 1)), (0, .ref (adOf X 0))] 1 rfl (congrArg (HAdd.hAdd v1) (by decide : Int32.ofInt (1) = (1 : Int32))) (by decide) rfl dX11_keeps_36 ?_
    refine a_goto C 13 (by decide) dX11_keeps_39 ?_
    exact At.sub [1, 0] rfl (hrec _ _ h)
def M_keeps_L13 (k : St → Option (St)) : Nat → Int32 → St → Option (St)
  | 0, _, _ => none
  | n + 1, v1, q => M_keeps_B13 k (M_keeps_L13 k n) v1 q
theorem w_M_keeps_L13 {X : Cv} (C : Cx X cX11_keeps RX11 rmM_keeps 2) (S : IsM X) {z : St} (hret : RokV X cX11_keeps z) (k : St → Option (St)) (hk : ∀ (q : St), k q = some z → At X 42 [(0, .ref (adOf X 0))] [] q) (n : Nat) : ∀ (v1 : Int32) (q : St), M_keeps_L13 k n v1 q = some z → At X 13 [(0, .ref (adOf X 0)), (1, .int v1)] [] q := by
  induction n with
  | zero => intro v1 q h; cases h
  | succ n ih => intro v1 q h; exact w_M_keeps_B13 C S hret k hk _ ih v1 q h
def M_keeps (q : St) : Option (St) :=
  if (gt q 0 15) = (10 : Int32) then
    M_keeps_L13 (fun q9 =>
      lt_ (st q9 0 15 ((gt q9 0 15) - (1 : Int32))) fun q10 =>
      M_keeps_L54 FU (0 : Int32) q10
      ) FU (202 : Int32) q
  else
    M_keeps_L54 FU (0 : Int32) q
theorem w_M_keeps {X : Cv} (C : Cx X cX11_keeps RX11 rmM_keeps 2) (S : IsM X) {z : St} (hret : RokV X cX11_keeps z) (q : St) (h : M_keeps q = some z) : At X 0 [(0, .ref (adOf X 0))] [] q := by
  unfold M_keeps at h
  refine a_aload_n C 0 rfl rfl dX11_keeps_0 ?_
  refine gM_undos C S dX11_keeps_1 ?_
  refine a_bipush (v := 10) C (by decide) dX11_keeps_4 ?_
  refine a_icmp_ne C 52 (by decide) dX11_keeps_6 (fun c1 => ?_) (fun c1 => ?_)
  · replace h := ifn c1 h
    refine a_iconst (v := 0) C (by decide) dX11_keeps_52 ?_
    refine a_istore_n C [(1, .int (0 : Int32)), (0, .ref (adOf X 0))] rfl (by decide) rfl dX11_keeps_53 ?_
    exact At.sub [1, 0] rfl (w_M_keeps_L54 C S hret _ _ _ h)
  · replace h := ifp c1 h
    refine a_sipush (v := 202) C (by decide) dX11_keeps_9 ?_
    refine a_istore_n C [(1, .int (202 : Int32)), (0, .ref (adOf X 0))] rfl (by decide) rfl dX11_keeps_12 ?_
    refine At.sub [1, 0] rfl (w_M_keeps_L13 C S hret _ ?_ _ _ _ h)
    intro q9 h
    refine a_aload_n C 0 rfl rfl dX11_keeps_42 ?_
    refine a_dup C rfl dX11_keeps_43 ?_
    refine gM_undos C S dX11_keeps_44 ?_
    refine a_iconst (v := 1) C (by decide) dX11_keeps_47 ?_
    refine a_isub C dX11_keeps_48 ?_
    obtain ⟨q10, e_q10, h⟩ := lts h
    refine pM_undos C S e_q10 dX11_keeps_49 ?_
    refine a_iconst (v := 0) C (by decide) dX11_keeps_52 ?_
    refine a_istore_n C [(1, .int (0 : Int32)), (0, .ref (adOf X 0))] rfl (by decide) rfl dX11_keeps_53 ?_
    exact At.sub [1, 0] rfl (w_M_keeps_L54 C S hret _ _ _ h)
theorem c_M_keeps {l : Launch} {D : va_G} {I : ClassId × ClassId × ClassId × ClassId} {ad : Nat → Nat} {q : St} {z : St} (h : M_keeps q = some z) : Ctr l D I zT 18 (shM I) ad yX11_keeps cX11_keeps 2 none rmM_keeps [.ref (ad 0)] q none z :=
  ctr_ofV (by decide) (Nat.le_of_ble_eq_true rfl) (fun p e s m args below meth c Q H0 X hX C hret => by subst hX; exact w_M_keeps C ⟨rfl, rfl, rfl⟩ hret _ h)
theorem g_M_keeps : GoodIn lw_tg (wsV RX11 275 RX11 yX11_keeps (Cond.code yX11_keeps cX11_keeps 2 none :: lw_tg)) := gd_V (tg 1418 (by decide +kernel) rfl) (tg 1420 (by decide +kernel) rfl) (tg 65 (by decide +kernel) rfl) (tg 128 (by decide +kernel) rfl) (tg 1421 (by decide +kernel) rfl)
theorem k_M_keeps {X : Cv} {cc : ByteArray} {rm : Room} {nL1 pc : Nat} {lv : List (Nat × Value)} {sk : List Value} {q : St} {q2 : St} (C : Cx X cc RX11 rm nL1) (S : IsM X) (h : M_keeps q = some q2) (hz : rmM_keeps.frames + 1 ≤ rm.frames ∧ 8 + (2 + 11) + rmM_keeps.locals ≤ rm.locals) (hr : (sk.map fun v => v.category).sum ≤ 8) (hd : decode cc pc = .ok (.invokevirtual 275, 3)) (k : At X (pc + 3) lv sk q2) : At X pc lv (.ref (adOf X 0) :: sk) q := a_callVv (as := []) C (kp := 0) (by rw [S.1]; decide) (by rw [S.2.1]; rfl) rfl (by have hh := c_M_keeps (l := X.2.1) (D := dOf X) (I := idOf X) (ad := adOf X) h; rw [← S.1, ← S.2.1, ← S.2.2] at hh; exact hh) g_M_keeps ⟨rfl, rfl, hz.1, hz.2⟩ ⟨by decide, by decide, by show Option.map _ (parseMethodDescriptor yX11_keeps.desc) = some 0; decide⟩ hr rfl hd k
abbrev rmM_undo : Room := { frames := 0, cells := 0, slots := 0, locals := 0 }
def M_undo_B21 (rec : Int32 → St → Option (Int32 × St)) (v1 : Int32) (q : St) : Option (Int32 × St) :=
  if (202 : Int32) ≤ v1 then
    some ((gt q 0 15), q)
  else
    b1 (rd 2020 q 6 (((202 : Int32) * (gt q 0 15)) + v1)) fun x4 =>
    b1 (wr 202 q 4 v1 x4) fun q5 =>
    rec (v1 + 1) q5
theorem w_M_undo_B21 {X : Cv} (C : Cx X cX11_undo RX11 rmM_undo 2) (S : IsM X) {z : Int32 × St} (hret : RokI X cX11_undo .int z.1 z.2) (rec : Int32 → St → Option (Int32 × St)) (hrec : ∀ (v1 : Int32) (q : St), rec v1 q = some z → At X 21 [(0, .ref (adOf X 0)), (1, .int v1)] [] q) (v1 : Int32) (q : St) (h : M_undo_B21 rec v1 q = some z) : At X 21 [(0, .ref (adOf X 0)), (1, .int v1)] [] q := by
  unfold M_undo_B21 at h
  refine a_iload_n C 1 rfl rfl dX11_undo_21 ?_
  refine a_sipush (v := 202) C (by decide) dX11_undo_22 ?_
  refine a_icmp_ge C 55 (by decide) dX11_undo_25 (fun c3 => ?_) (fun c3 => ?_)
  · replace h := ifp c3 h
    refine a_aload_n C 0 rfl rfl dX11_undo_55 ?_
    refine gM_undos C S dX11_undo_56 ?_
    exact a_iret hret h rfl dX11_undo_59
  · replace h := ifn c3 h
    refine a_aload_n C 0 rfl rfl dX11_undo_28 ?_
    refine gM_world C S dX11_undo_29 ?_
    refine a_iload_n C 1 rfl rfl dX11_undo_32 ?_
    refine a_aload_n C 0 rfl rfl dX11_undo_33 ?_
    refine gM_undone C S dX11_undo_34 ?_
    refine a_sipush (v := 202) C (by decide) dX11_undo_37 ?_
    refine a_aload_n C 0 rfl rfl dX11_undo_40 ?_
    refine gM_undos C S dX11_undo_41 ?_
    refine a_imul C dX11_undo_44 ?_
    refine a_iload_n C 1 rfl rfl dX11_undo_45 ?_
    refine a_iadd C dX11_undo_46 ?_
    obtain ⟨x4, e_x4, h⟩ := b1s h
    refine lM_undone C S e_x4 dX11_undo_47 ?_
    obtain ⟨q5, e_q5, h⟩ := b1s h
    refine sM_world C S e_q5 dX11_undo_48 ?_
    refine a_iinc (v := (v1 + 1)) C [(1, .int (v1 + 1)), (0, .ref (adOf X 0))] 1 rfl (congrArg (HAdd.hAdd v1) (by decide : Int32.ofInt (1) = (1 : Int32))) (by decide) rfl dX11_undo_49 ?_
    refine a_goto C 21 (by decide) dX11_undo_52 ?_
    exact At.sub [1, 0] rfl (hrec _ _ h)
def M_undo_L21 : Nat → Int32 → St → Option (Int32 × St)
  | 0, _, _ => none
  | n + 1, v1, q => M_undo_B21 (M_undo_L21 n) v1 q
theorem w_M_undo_L21 {X : Cv} (C : Cx X cX11_undo RX11 rmM_undo 2) (S : IsM X) {z : Int32 × St} (hret : RokI X cX11_undo .int z.1 z.2) (n : Nat) : ∀ (v1 : Int32) (q : St), M_undo_L21 n v1 q = some z → At X 21 [(0, .ref (adOf X 0)), (1, .int v1)] [] q := by
  induction n with
  | zero => intro v1 q h; cases h
  | succ n ih => intro v1 q h; exact w_M_undo_B21 C S hret _ ih v1 q h
def M_undo (q : St) : Option (Int32 × St) :=
  if (gt q 0 15) = (0 : Int32) then
    some ((-1 : Int32), q)
  else
    lt_ (st q 0 15 ((gt q 0 15) - (1 : Int32))) fun q2 =>
    M_undo_L21 FU (0 : Int32) q2
theorem w_M_undo {X : Cv} (C : Cx X cX11_undo RX11 rmM_undo 2) (S : IsM X) {z : Int32 × St} (hret : RokI X cX11_undo .int z.1 z.2) (q : St) (h : M_undo q = some z) : At X 0 [(0, .ref (adOf X 0))] [] q := by
  unfold M_undo at h
  refine a_aload_n C 0 rfl rfl dX11_undo_0 ?_
  refine gM_undos C S dX11_undo_1 ?_
  refine a_if_ne C 9 (by decide) dX11_undo_4 (fun c1 => ?_) (fun c1 => ?_)
  · replace h := ifn c1 h
    refine a_aload_n C 0 rfl rfl dX11_undo_9 ?_
    refine a_dup C rfl dX11_undo_10 ?_
    refine gM_undos C S dX11_undo_11 ?_
    refine a_iconst (v := 1) C (by decide) dX11_undo_14 ?_
    refine a_isub C dX11_undo_15 ?_
    obtain ⟨q2, e_q2, h⟩ := lts h
    refine pM_undos C S e_q2 dX11_undo_16 ?_
    refine a_iconst (v := 0) C (by decide) dX11_undo_19 ?_
    refine a_istore_n C [(1, .int (0 : Int32)), (0, .ref (adOf X 0))] rfl (by decide) rfl dX11_undo_20 ?_
    exact At.sub [1, 0] rfl (w_M_undo_L21 C S hret _ _ _ h)
  · replace h := ifp c1 h
    refine a_iconst (v := -1) C (by decide) dX11_undo_7 ?_
    exact a_iret hret h rfl dX11_undo_8
theorem c_M_undo {l : Launch} {D : va_G} {I : ClassId × ClassId × ClassId × ClassId} {ad : Nat → Nat} {q : St} {z : Int32 × St} (h : M_undo q = some z) : Ctr l D I zT 18 (shM I) ad yX11_undo cX11_undo 2 (some .int) rmM_undo [.ref (ad 0)] q (some z.1) z.2 :=
  ctr_ofI (by decide) (Nat.le_of_ble_eq_true rfl) (fun p e s m args below meth c Q H0 X hX C hret => by subst hX; exact w_M_undo C ⟨rfl, rfl, rfl⟩ hret _ h)
abbrev rmM_laysAside : Room := { frames := 0, cells := 0, slots := 0, locals := 0 }
def M_laysAside_B2 (rec : Int32 → St → Option (St)) (v1 : Int32) (q : St) : Option (St) :=
  if (202 : Int32) ≤ v1 then
    some q
  else
    b1 (rd 202 q 4 v1) fun x2 =>
    b1 (wr 202 q 5 v1 x2) fun q3 =>
    rec (v1 + 1) q3
theorem w_M_laysAside_B2 {X : Cv} (C : Cx X cX11_laysAside RX11 rmM_laysAside 2) (S : IsM X) {z : St} (hret : RokV X cX11_laysAside z) (rec : Int32 → St → Option (St)) (hrec : ∀ (v1 : Int32) (q : St), rec v1 q = some z → At X 2 [(0, .ref (adOf X 0)), (1, .int v1)] [] q) (v1 : Int32) (q : St) (h : M_laysAside_B2 rec v1 q = some z) : At X 2 [(0, .ref (adOf X 0)), (1, .int v1)] [] q := by
  unfold M_laysAside_B2 at h
  refine a_iload_n C 1 rfl rfl dX11_laysAside_2 ?_
  refine a_sipush (v := 202) C (by decide) dX11_laysAside_3 ?_
  refine a_icmp_ge C 27 (by decide) dX11_laysAside_6 (fun c1 => ?_) (fun c1 => ?_)
  · replace h := ifp c1 h
    exact a_vret hret h dX11_laysAside_27
  · replace h := ifn c1 h
    refine a_aload_n C 0 rfl rfl dX11_laysAside_9 ?_
    refine gM_aside C S dX11_laysAside_10 ?_
    refine a_iload_n C 1 rfl rfl dX11_laysAside_13 ?_
    refine a_aload_n C 0 rfl rfl dX11_laysAside_14 ?_
    refine gM_world C S dX11_laysAside_15 ?_
    refine a_iload_n C 1 rfl rfl dX11_laysAside_18 ?_
    obtain ⟨x2, e_x2, h⟩ := b1s h
    refine lM_world C S e_x2 dX11_laysAside_19 ?_
    obtain ⟨q3, e_q3, h⟩ := b1s h
    refine sM_aside C S e_q3 dX11_laysAside_20 ?_
    refine a_iinc (v := (v1 + 1)) C [(1, .int (v1 + 1)), (0, .ref (adOf X 0))] 1 rfl (congrArg (HAdd.hAdd v1) (by decide : Int32.ofInt (1) = (1 : Int32))) (by decide) rfl dX11_laysAside_21 ?_
    refine a_goto C 2 (by decide) dX11_laysAside_24 ?_
    exact At.sub [1, 0] rfl (hrec _ _ h)
def M_laysAside_L2 : Nat → Int32 → St → Option (St)
  | 0, _, _ => none
  | n + 1, v1, q => M_laysAside_B2 (M_laysAside_L2 n) v1 q
theorem w_M_laysAside_L2 {X : Cv} (C : Cx X cX11_laysAside RX11 rmM_laysAside 2) (S : IsM X) {z : St} (hret : RokV X cX11_laysAside z) (n : Nat) : ∀ (v1 : Int32) (q : St), M_laysAside_L2 n v1 q = some z → At X 2 [(0, .ref (adOf X 0)), (1, .int v1)] [] q := by
  induction n with
  | zero => intro v1 q h; cases h
  | succ n ih => intro v1 q h; exact w_M_laysAside_B2 C S hret _ ih v1 q h
def M_laysAside (q : St) : Option (St) :=
  M_laysAside_L2 FU (0 : Int32) q
theorem w_M_laysAside {X : Cv} (C : Cx X cX11_laysAside RX11 rmM_laysAside 2) (S : IsM X) {z : St} (hret : RokV X cX11_laysAside z) (q : St) (h : M_laysAside q = some z) : At X 0 [(0, .ref (adOf X 0))] [] q := by
  unfold M_laysAside at h
  refine a_iconst (v := 0) C (by decide) dX11_laysAside_0 ?_
  refine a_istore_n C [(1, .int (0 : Int32)), (0, .ref (adOf X 0))] rfl (by decide) rfl dX11_laysAside_1 ?_
  exact At.sub [1, 0] rfl (w_M_laysAside_L2 C S hret _ _ _ h)
theorem c_M_laysAside {l : Launch} {D : va_G} {I : ClassId × ClassId × ClassId × ClassId} {ad : Nat → Nat} {q : St} {z : St} (h : M_laysAside q = some z) : Ctr l D I zT 18 (shM I) ad yX11_laysAside cX11_laysAside 2 none rmM_laysAside [.ref (ad 0)] q none z :=
  ctr_ofV (by decide) (Nat.le_of_ble_eq_true rfl) (fun p e s m args below meth c Q H0 X hX C hret => by subst hX; exact w_M_laysAside C ⟨rfl, rfl, rfl⟩ hret _ h)
theorem g_M_laysAside : GoodIn lw_tg (wsV RX11 288 RX11 yX11_laysAside (Cond.code yX11_laysAside cX11_laysAside 2 none :: lw_tg)) := gd_V (tg 1542 (by decide +kernel) rfl) (tg 1544 (by decide +kernel) rfl) (tg 92 (by decide +kernel) rfl) (tg 128 (by decide +kernel) rfl) (tg 1545 (by decide +kernel) rfl)
theorem k_M_laysAside {X : Cv} {cc : ByteArray} {rm : Room} {nL1 pc : Nat} {lv : List (Nat × Value)} {sk : List Value} {q : St} {q2 : St} (C : Cx X cc RX11 rm nL1) (S : IsM X) (h : M_laysAside q = some q2) (hz : rmM_laysAside.frames + 1 ≤ rm.frames ∧ 8 + (2 + 11) + rmM_laysAside.locals ≤ rm.locals) (hr : (sk.map fun v => v.category).sum ≤ 8) (hd : decode cc pc = .ok (.invokevirtual 288, 3)) (k : At X (pc + 3) lv sk q2) : At X pc lv (.ref (adOf X 0) :: sk) q := a_callVv (as := []) C (kp := 0) (by rw [S.1]; decide) (by rw [S.2.1]; rfl) rfl (by have hh := c_M_laysAside (l := X.2.1) (D := dOf X) (I := idOf X) (ad := adOf X) h; rw [← S.1, ← S.2.1, ← S.2.2] at hh; exact hh) g_M_laysAside ⟨rfl, rfl, hz.1, hz.2⟩ ⟨by decide, by decide, by show Option.map _ (parseMethodDescriptor yX11_laysAside.desc) = some 0; decide⟩ hr rfl hd k
abbrev rmM_comesBack : Room := { frames := 0, cells := 0, slots := 0, locals := 0 }
def M_comesBack_B2 (rec : Int32 → St → Option (St)) (v1 : Int32) (q : St) : Option (St) :=
  if (202 : Int32) ≤ v1 then
    some q
  else
    b1 (rd 202 q 5 v1) fun x2 =>
    b1 (wr 202 q 4 v1 x2) fun q3 =>
    rec (v1 + 1) q3
theorem w_M_comesBack_B2 {X : Cv} (C : Cx X cX11_comesBack RX11 rmM_comesBack 2) (S : IsM X) {z : St} (hret : RokV X cX11_comesBack z) (rec : Int32 → St → Option (St)) (hrec : ∀ (v1 : Int32) (q : St), rec v1 q = some z → At X 2 [(0, .ref (adOf X 0)), (1, .int v1)] [] q) (v1 : Int32) (q : St) (h : M_comesBack_B2 rec v1 q = some z) : At X 2 [(0, .ref (adOf X 0)), (1, .int v1)] [] q := by
  unfold M_comesBack_B2 at h
  refine a_iload_n C 1 rfl rfl dX11_comesBack_2 ?_
  refine a_sipush (v := 202) C (by decide) dX11_comesBack_3 ?_
  refine a_icmp_ge C 27 (by decide) dX11_comesBack_6 (fun c1 => ?_) (fun c1 => ?_)
  · replace h := ifp c1 h
    exact a_vret hret h dX11_comesBack_27
  · replace h := ifn c1 h
    refine a_aload_n C 0 rfl rfl dX11_comesBack_9 ?_
    refine gM_world C S dX11_comesBack_10 ?_
    refine a_iload_n C 1 rfl rfl dX11_comesBack_13 ?_
    refine a_aload_n C 0 rfl rfl dX11_comesBack_14 ?_
    refine gM_aside C S dX11_comesBack_15 ?_
    refine a_iload_n C 1 rfl rfl dX11_comesBack_18 ?_
    obtain ⟨x2, e_x2, h⟩ := b1s h
    refine lM_aside C S e_x2 dX11_comesBack_19 ?_
    obtain ⟨q3, e_q3, h⟩ := b1s h
    refine sM_world C S e_q3 dX11_comesBack_20 ?_
    refine a_iinc (v := (v1 + 1)) C [(1, .int (v1 + 1)), (0, .ref (adOf X 0))] 1 rfl (congrArg (HAdd.hAdd v1) (by decide : Int32.ofInt (1) = (1 : Int32))) (by decide) rfl dX11_comesBack_21 ?_
    refine a_goto C 2 (by decide) dX11_comesBack_24 ?_
    exact At.sub [1, 0] rfl (hrec _ _ h)
def M_comesBack_L2 : Nat → Int32 → St → Option (St)
  | 0, _, _ => none
  | n + 1, v1, q => M_comesBack_B2 (M_comesBack_L2 n) v1 q
theorem w_M_comesBack_L2 {X : Cv} (C : Cx X cX11_comesBack RX11 rmM_comesBack 2) (S : IsM X) {z : St} (hret : RokV X cX11_comesBack z) (n : Nat) : ∀ (v1 : Int32) (q : St), M_comesBack_L2 n v1 q = some z → At X 2 [(0, .ref (adOf X 0)), (1, .int v1)] [] q := by
  induction n with
  | zero => intro v1 q h; cases h
  | succ n ih => intro v1 q h; exact w_M_comesBack_B2 C S hret _ ih v1 q h
def M_comesBack (q : St) : Option (St) :=
  M_comesBack_L2 FU (0 : Int32) q
theorem w_M_comesBack {X : Cv} (C : Cx X cX11_comesBack RX11 rmM_comesBack 2) (S : IsM X) {z : St} (hret : RokV X cX11_comesBack z) (q : St) (h : M_comesBack q = some z) : At X 0 [(0, .ref (adOf X 0))] [] q := by
  unfold M_comesBack at h
  refine a_iconst (v := 0) C (by decide) dX11_comesBack_0 ?_
  refine a_istore_n C [(1, .int (0 : Int32)), (0, .ref (adOf X 0))] rfl (by decide) rfl dX11_comesBack_1 ?_
  exact At.sub [1, 0] rfl (w_M_comesBack_L2 C S hret _ _ _ h)
theorem c_M_comesBack {l : Launch} {D : va_G} {I : ClassId × ClassId × ClassId × ClassId} {ad : Nat → Nat} {q : St} {z : St} (h : M_comesBack q = some z) : Ctr l D I zT 18 (shM I) ad yX11_comesBack cX11_comesBack 2 none rmM_comesBack [.ref (ad 0)] q none z :=
  ctr_ofV (by decide) (Nat.le_of_ble_eq_true rfl) (fun p e s m args below meth c Q H0 X hX C hret => by subst hX; exact w_M_comesBack C ⟨rfl, rfl, rfl⟩ hret _ h)
theorem g_M_comesBack : GoodIn lw_tg (wsV RX11 291 RX11 yX11_comesBack (Cond.code yX11_comesBack cX11_comesBack 2 none :: lw_tg)) := gd_V (tg 1546 (by decide +kernel) rfl) (tg 1548 (by decide +kernel) rfl) (tg 93 (by decide +kernel) rfl) (tg 128 (by decide +kernel) rfl) (tg 1549 (by decide +kernel) rfl)
theorem k_M_comesBack {X : Cv} {cc : ByteArray} {rm : Room} {nL1 pc : Nat} {lv : List (Nat × Value)} {sk : List Value} {q : St} {q2 : St} (C : Cx X cc RX11 rm nL1) (S : IsM X) (h : M_comesBack q = some q2) (hz : rmM_comesBack.frames + 1 ≤ rm.frames ∧ 8 + (2 + 11) + rmM_comesBack.locals ≤ rm.locals) (hr : (sk.map fun v => v.category).sum ≤ 8) (hd : decode cc pc = .ok (.invokevirtual 291, 3)) (k : At X (pc + 3) lv sk q2) : At X pc lv (.ref (adOf X 0) :: sk) q := a_callVv (as := []) C (kp := 0) (by rw [S.1]; decide) (by rw [S.2.1]; rfl) rfl (by have hh := c_M_comesBack (l := X.2.1) (D := dOf X) (I := idOf X) (ad := adOf X) h; rw [← S.1, ← S.2.1, ← S.2.2] at hh; exact hh) g_M_comesBack ⟨rfl, rfl, hz.1, hz.2⟩ ⟨by decide, by decide, by show Option.map _ (parseMethodDescriptor yX11_comesBack.desc) = some 0; decide⟩ hr rfl hd k
abbrev rmM_begins : Room := { frames := 1, cells := 0, slots := 0, locals := 23 }
def M_begins (q : St) (v1 : Int32) (v2 : Int32) (v3 : Int32) (v4 : Int32) : Option (St) :=
  b1 (M_set q v1 (0 : Int32) v2) fun q1 =>
  b1 (M_set q1 v1 (1 : Int32) v3) fun q2 =>
  b1 (M_set q2 v1 (2 : Int32) v4) fun q3 =>
  b1 (M_set q3 v1 (3 : Int32) (0 : Int32)) fun q4 =>
  b1 (M_set q4 v1 (4 : Int32) (0 : Int32)) fun q5 =>
  some q5
theorem w_M_begins {X : Cv} (C : Cx X cX11_begins RX11 rmM_begins 5) (S : IsM X) {z : St} (hret : RokV X cX11_begins z) (v1 : Int32) (v2 : Int32) (v3 : Int32) (v4 : Int32) (q : St) (h : M_begins q v1 v2 v3 v4 = some z) : At X 0 [(0, .ref (adOf X 0)), (1, .int v1), (2, .int v2), (3, .int v3), (4, .int v4)] [] q := by
  unfold M_begins at h
  refine a_aload_n C 0 rfl rfl dX11_begins_0 ?_
  refine a_iload_n C 1 rfl rfl dX11_begins_1 ?_
  refine a_iconst (v := 0) C (by decide) dX11_begins_2 ?_
  refine a_iload_n C 2 rfl rfl dX11_begins_3 ?_
  obtain ⟨q1, e_q1, h⟩ := b1s h
  refine k_M_set C S e_q1 ⟨Nat.le_of_ble_eq_true rfl, Nat.le_of_ble_eq_true rfl⟩ (Nat.le_of_ble_eq_true rfl) dX11_begins_4 ?_
  refine a_aload_n C 0 rfl rfl dX11_begins_7 ?_
  refine a_iload_n C 1 rfl rfl dX11_begins_8 ?_
  refine a_iconst (v := 1) C (by decide) dX11_begins_9 ?_
  refine a_iload_n C 3 rfl rfl dX11_begins_10 ?_
  obtain ⟨q2, e_q2, h⟩ := b1s h
  refine k_M_set C S e_q2 ⟨Nat.le_of_ble_eq_true rfl, Nat.le_of_ble_eq_true rfl⟩ (Nat.le_of_ble_eq_true rfl) dX11_begins_11 ?_
  refine a_aload_n C 0 rfl rfl dX11_begins_14 ?_
  refine a_iload_n C 1 rfl rfl dX11_begins_15 ?_
  refine a_iconst (v := 2) C (by decide) dX11_begins_16 ?_
  refine a_iload C 4 rfl dX11_begins_17 ?_
  obtain ⟨q3, e_q3, h⟩ := b1s h
  refine k_M_set C S e_q3 ⟨Nat.le_of_ble_eq_true rfl, Nat.le_of_ble_eq_true rfl⟩ (Nat.le_of_ble_eq_true rfl) dX11_begins_19 ?_
  refine a_aload_n C 0 rfl rfl dX11_begins_22 ?_
  refine a_iload_n C 1 rfl rfl dX11_begins_23 ?_
  refine a_iconst (v := 3) C (by decide) dX11_begins_24 ?_
  refine a_iconst (v := 0) C (by decide) dX11_begins_25 ?_
  obtain ⟨q4, e_q4, h⟩ := b1s h
  refine k_M_set C S e_q4 ⟨Nat.le_of_ble_eq_true rfl, Nat.le_of_ble_eq_true rfl⟩ (Nat.le_of_ble_eq_true rfl) dX11_begins_26 ?_
  refine a_aload_n C 0 rfl rfl dX11_begins_29 ?_
  refine a_iload_n C 1 rfl rfl dX11_begins_30 ?_
  refine a_iconst (v := 4) C (by decide) dX11_begins_31 ?_
  refine a_iconst (v := 0) C (by decide) dX11_begins_32 ?_
  obtain ⟨q5, e_q5, h⟩ := b1s h
  refine k_M_set C S e_q5 ⟨Nat.le_of_ble_eq_true rfl, Nat.le_of_ble_eq_true rfl⟩ (Nat.le_of_ble_eq_true rfl) dX11_begins_33 ?_
  exact a_vret hret h dX11_begins_36
theorem c_M_begins {l : Launch} {D : va_G} {I : ClassId × ClassId × ClassId × ClassId} {ad : Nat → Nat} {q : St} {v1 : Int32} {v2 : Int32} {v3 : Int32} {v4 : Int32} {z : St} (h : M_begins q v1 v2 v3 v4 = some z) : Ctr l D I zT 18 (shM I) ad yX11_begins cX11_begins 5 none rmM_begins [.ref (ad 0), .int v1, .int v2, .int v3, .int v4] q none z :=
  ctr_ofV (by decide) (Nat.le_of_ble_eq_true rfl) (fun p e s m args below meth c Q H0 X hX C hret => by subst hX; exact w_M_begins C ⟨rfl, rfl, rfl⟩ hret _ _ _ _ _ h)
theorem g_M_begins : GoodIn lw_tg (wsV RX11 278 RX11 yX11_begins (Cond.code yX11_begins cX11_begins 5 none :: lw_tg)) := gd_V (tg 1422 (by decide +kernel) rfl) (tg 1424 (by decide +kernel) rfl) (tg 66 (by decide +kernel) rfl) (tg 128 (by decide +kernel) rfl) (tg 1425 (by decide +kernel) rfl)
theorem k_M_begins {X : Cv} {cc : ByteArray} {rm : Room} {nL1 pc : Nat} {lv : List (Nat × Value)} {sk : List Value} {q : St} {v1 : Int32} {v2 : Int32} {v3 : Int32} {v4 : Int32} {q2 : St} (C : Cx X cc RX11 rm nL1) (S : IsM X) (h : M_begins q v1 v2 v3 v4 = some q2) (hz : rmM_begins.frames + 1 ≤ rm.frames ∧ 8 + (5 + 11) + rmM_begins.locals ≤ rm.locals) (hr : (sk.map fun v => v.category).sum ≤ 8) (hd : decode cc pc = .ok (.invokevirtual 278, 3)) (k : At X (pc + 3) lv sk q2) : At X pc lv (.int v4 :: .int v3 :: .int v2 :: .int v1 :: .ref (adOf X 0) :: sk) q := a_callVv (as := [.int v1, .int v2, .int v3, .int v4]) C (kp := 0) (by rw [S.1]; decide) (by rw [S.2.1]; rfl) rfl (by have hh := c_M_begins (l := X.2.1) (D := dOf X) (I := idOf X) (ad := adOf X) h; rw [← S.1, ← S.2.1, ← S.2.2] at hh; exact hh) g_M_begins ⟨rfl, rfl, hz.1, hz.2⟩ ⟨by decide, by decide, by show Option.map _ (parseMethodDescriptor yX11_begins.desc) = some 4; decide⟩ hr rfl hd k
