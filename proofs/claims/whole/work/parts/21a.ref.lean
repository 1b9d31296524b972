abbrev rmM_in : Room := { frames := 0, cells := 0, slots := 0, locals := 0 }
def M_in (q : St) (v0 : Int64) (v2 : Int64) (v4 : Int64) : Option (Int32) :=
  if (lg_cmp v0 v2) < (0 : Int32) then
    some (0 : Int32)
  else
    if (0 : Int32) < (lg_cmp v0 v4) then
      some (0 : Int32)
    else
      some (1 : Int32)
theorem w_M_in {X : Cv} (C : Cx X cX11_in RX11 rmM_in 6) (S : IsM X) {q : St} {z : Int32} (hret : RokI X cX11_in .boolean z q) (v0 : Int64) (v2 : Int64) (v4 : Int64) (h : M_in q v0 v2 v4 = some z) : At X 0 [(0, .long v0), (2, .long v2), (4, .long v4)] [] q := by
  unfold M_in at h
  refine a_lload_n C 0 rfl rfl dX11_in_0 ?_
  refine a_lload_n C 1 rfl rfl dX11_in_1 ?_
  refine a_lcmp C dX11_in_2 ?_
  refine a_if_lt C 17 (by decide) dX11_in_3 (fun c1 => ?_) (fun c1 => ?_)
  · replace h := ifp c1 h
    refine a_iconst (v := 0) C (by decide) dX11_in_17 ?_
    exact a_iretR hret h rfl dX11_in_18
  · replace h := ifn c1 h
    refine a_lload_n C 0 rfl rfl dX11_in_6 ?_
    refine a_lload C 2 rfl dX11_in_7 ?_
    refine a_lcmp C dX11_in_9 ?_
    refine a_if_gt C 17 (by decide) dX11_in_10 (fun c2 => ?_) (fun c2 => ?_)
    · replace h := ifp c2 h
      refine a_iconst (v := 0) C (by decide) dX11_in_17 ?_
      exact a_iretR hret h rfl dX11_in_18
    · replace h := ifn c2 h
      refine a_iconst (v := 1) C (by decide) dX11_in_13 ?_
      refine a_goto C 18 (by decide) dX11_in_14 ?_
      exact a_iretR hret h rfl dX11_in_18
theorem c_M_in {l : Launch} {D : va_G} {I : ClassId × ClassId × ClassId × ClassId} {ad : Nat → Nat} {q : St} {v0 : Int64} {v2 : Int64} {v4 : Int64} {z : Int32} (h : M_in q v0 v2 v4 = some z) : Ctr l D I zT 18 (shM I) ad yX11_in cX11_in 6 (some .boolean) rmM_in [.long v0, .long v2, .long v4] q (some z) q :=
  ctr_ofI (by decide) (Nat.le_of_ble_eq_true rfl) (fun p e s m args below meth c Q H0 X hX C hret => by subst hX; exact w_M_in C ⟨rfl, rfl, rfl⟩ hret _ _ _ h)
theorem g_M_in : GoodIn lw_tg (wsS RX11 110 yX11_in (Cond.code yX11_in cX11_in 6 (some .boolean) :: lw_tg)) := gd_S (tg 1328 (by decide +kernel) rfl) (tg 1329 (by decide +kernel) rfl) (tg 128 (by decide +kernel) rfl) (tg 1330 (by decide +kernel) rfl)
theorem k_M_in {X : Cv} {cc : ByteArray} {rm : Room} {nL1 pc : Nat} {lv : List (Nat × Value)} {sk : List Value} {q : St} {v0 : Int64} {v2 : Int64} {v4 : Int64} {z : Int32} (C : Cx X cc RX11 rm nL1) (S : IsM X) (h : M_in q v0 v2 v4 = some z) (hz : rmM_in.frames + 1 ≤ rm.frames ∧ 8 + (6 + 11) + rmM_in.locals ≤ rm.locals) (hr : (sk.map fun v => v.category).sum ≤ 8) (hd : decode cc pc = .ok (.invokestatic 110, 3)) (k : At X (pc + 3) lv (.int z :: sk) q) : At X pc lv (.long v4 :: .long v2 :: .long v0 :: sk) q := a_callSi (as := [.long v0, .long v2, .long v4]) C (by subst_vars; have hh := c_M_in (l := X.2.1) (D := dOf X) (I := idOf X) (ad := adOf X) h; rw [← S.1, ← S.2.1, ← S.2.2] at hh; exact hh) g_M_in ⟨rfl, rfl, hz.1, hz.2⟩ ⟨rfl, by decide, by decide, by show Option.map _ (parseMethodDescriptor yX11_in.desc) = some 3; decide⟩ hr rfl hd k
abbrev rmM_most : Room := { frames := 0, cells := 0, slots := 0, locals := 0 }
def M_most (q : St) (v0 : Int32) (v1 : Int32) : Option (Int32) :=
  if v0 ≤ v1 then
    some v1
  else
    some v0
theorem w_M_most {X : Cv} (C : Cx X cX11_most RX11 rmM_most 2) (S : IsM X) {q : St} {z : Int32} (hret : RokI X cX11_most .int z q) (v0 : Int32) (v1 : Int32) (h : M_most q v0 v1 = some z) : At X 0 [(0, .int v0), (1, .int v1)] [] q := by
  unfold M_most at h
  refine a_iload_n C 0 rfl rfl dX11_most_0 ?_
  refine a_iload_n C 1 rfl rfl dX11_most_1 ?_
  refine a_icmp_le C 9 (by decide) dX11_most_2 (fun c1 => ?_) (fun c1 => ?_)
  · replace h := ifp c1 h
    refine a_iload_n C 1 rfl rfl dX11_most_9 ?_
    exact a_iretR hret h rfl dX11_most_10
  · replace h := ifn c1 h
    refine a_iload_n C 0 rfl rfl dX11_most_5 ?_
    refine a_goto C 10 (by decide) dX11_most_6 ?_
    exact a_iretR hret h rfl dX11_most_10
theorem c_M_most {l : Launch} {D : va_G} {I : ClassId × ClassId × ClassId × ClassId} {ad : Nat → Nat} {q : St} {v0 : Int32} {v1 : Int32} {z : Int32} (h : M_most q v0 v1 = some z) : Ctr l D I zT 18 (shM I) ad yX11_most cX11_most 2 (some .int) rmM_most [.int v0, .int v1] q (some z) q :=
  ctr_ofI (by decide) (Nat.le_of_ble_eq_true rfl) (fun p e s m args below meth c Q H0 X hX C hret => by subst hX; exact w_M_most C ⟨rfl, rfl, rfl⟩ hret _ _ h)
theorem g_M_most : GoodIn lw_tg (wsS RX11 192 yX11_most (Cond.code yX11_most cX11_most 2 (some .int) :: lw_tg)) := gd_S (tg 1507 (by decide +kernel) rfl) (tg 1508 (by decide +kernel) rfl) (tg 128 (by decide +kernel) rfl) (tg 1509 (by decide +kernel) rfl)
theorem k_M_most {X : Cv} {cc : ByteArray} {rm : Room} {nL1 pc : Nat} {lv : List (Nat × Value)} {sk : List Value} {q : St} {v0 : Int32} {v1 : Int32} {z : Int32} (C : Cx X cc RX11 rm nL1) (S : IsM X) (h : M_most q v0 v1 = some z) (hz : rmM_most.frames + 1 ≤ rm.frames ∧ 8 + (2 + 11) + rmM_most.locals ≤ rm.locals) (hr : (sk.map fun v => v.category).sum ≤ 8) (hd : decode cc pc = .ok (.invokestatic 192, 3)) (k : At X (pc + 3) lv (.int z :: sk) q) : At X pc lv (.int v1 :: .int v0 :: sk) q := a_callSi (as := [.int v0, .int v1]) C (by subst_vars; have hh := c_M_most (l := X.2.1) (D := dOf X) (I := idOf X) (ad := adOf X) h; rw [← S.1, ← S.2.1, ← S.2.2] at hh; exact hh) g_M_most ⟨rfl, rfl, hz.1, hz.2⟩ ⟨rfl, by decide, by decide, by show Option.map _ (parseMethodDescriptor yX11_most.desc) = some 2; decide⟩ hr rfl hd k
abbrev rmM_defaults : Room := { frames := 0, cells := 0, slots := 0, locals := 0 }
def M_defaults_B2 (rec : Int32 → St → Option (St)) (v1 : Int32) (q : St) : Option (St) :=
  if (172 : Int32) ≤ v1 then
    lt_ (st q 0 5 (0 : Int32)) fun q2 =>
    some q2
  else
    b1 (wr 172 q 3 v1 (0 : Int32)) fun q3 =>
    rec (v1 + 1) q3
theorem w_M_defaults_B2 {X : Cv} (C : Cx X cX11_defaults RX11 rmM_defaults 2) (S : IsM X) {z : St} (hret : RokV X cX11_defaults z) (rec : Int32 → St → Option (St)) (hrec : ∀ (v1 : Int32) (q : St), rec v1 q = some z → At X 2 [(0, .ref (adOf X 0)), (1, .int v1)] [] q) (v1 : Int32) (q : St) (h : M_defaults_B2 rec v1 q = some z) : At X 2 [(0, .ref (adOf X 0)), (1, .int v1)] [] q := by
  unfold M_defaults_B2 at h
  refine a_iload_n C 1 rfl rfl dX11_defaults_2 ?_
  refine a_sipush (v := 172) C (by decide) dX11_defaults_3 ?_
  refine a_icmp_ge C 22 (by decide) dX11_defaults_6 (fun c1 => ?_) (fun c1 => ?_)
  · replace h := ifp c1 h
    refine a_aload_n C 0 rfl rfl dX11_defaults_22 ?_
    refine a_iconst (v := 0) C (by decide) dX11_defaults_23 ?_
    obtain ⟨q2, e_q2, h⟩ := lts h
    refine pM_told C S e_q2 dX11_defaults_24 ?_
    exact a_vret hret h dX11_defaults_27
  · replace h := ifn c1 h
    refine a_aload_n C 0 rfl rfl dX11_defaults_9 ?_
    refine gM_draft C S dX11_defaults_10 ?_
    refine a_iload_n C 1 rfl rfl dX11_defaults_13 ?_
    refine a_iconst (v := 0) C (by decide) dX11_defaults_14 ?_
    obtain ⟨q3, e_q3, h⟩ := b1s h
    refine sM_draft C S e_q3 dX11_defaults_15 ?_
    refine a_iinc (v := (v1 + 1)) C [(1, .int (v1 + 1)), (0, .ref (adOf X 0))] 1 rfl (congrArg (HAdd.hAdd v1) (by decide : Int32.ofInt (1) = (1 : Int32))) (by decide) rfl dX11_defaults_16 ?_
    refine a_goto C 2 (by decide) dX11_defaults_19 ?_
    exact At.sub [1, 0] rfl (hrec _ _ h)
def M_defaults_L2 : Nat → Int32 → St → Option (St)
  | 0, _, _ => none
  | n + 1, v1, q => M_defaults_B2 (M_defaults_L2 n) v1 q
theorem w_M_defaults_L2 {X : Cv} (C : Cx X cX11_defaults RX11 rmM_defaults 2) (S : IsM X) {z : St} (hret : RokV X cX11_defaults z) (n : Nat) : ∀ (v1 : Int32) (q : St), M_defaults_L2 n v1 q = some z → At X 2 [(0, .ref (adOf X 0)), (1, .int v1)] [] q := by
  induction n with
  | zero => intro v1 q h; cases h
  | succ n ih => intro v1 q h; exact w_M_defaults_B2 C S hret _ ih v1 q h
def M_defaults (q : St) : Option (St) :=
  M_defaults_L2 FU (0 : Int32) q
theorem w_M_defaults {X : Cv} (C : Cx X cX11_defaults RX11 rmM_defaults 2) (S : IsM X) {z : St} (hret : RokV X cX11_defaults z) (q : St) (h : M_defaults q = some z) : At X 0 [(0, .ref (adOf X 0))] [] q := by
  unfold M_defaults at h
  refine a_iconst (v := 0) C (by decide) dX11_defaults_0 ?_
  refine a_istore_n C [(1, .int (0 : Int32)), (0, .ref (adOf X 0))] rfl (by decide) rfl dX11_defaults_1 ?_
  exact At.sub [1, 0] rfl (w_M_defaults_L2 C S hret _ _ _ h)
theorem c_M_defaults {l : Launch} {D : va_G} {I : ClassId × ClassId × ClassId × ClassId} {ad : Nat → Nat} {q : St} {z : St} (h : M_defaults q = some z) : Ctr l D I zT 18 (shM I) ad yX11_defaults cX11_defaults 2 none rmM_defaults [.ref (ad 0)] q none z :=
  ctr_ofV (by decide) (Nat.le_of_ble_eq_true rfl) (fun p e s m args below meth c Q H0 X hX C hret => by subst hX; exact w_M_defaults C ⟨rfl, rfl, rfl⟩ hret _ h)
theorem g_M_defaults : GoodIn lw_tg (wsV RX11 67 RX11 yX11_defaults (Cond.code yX11_defaults cX11_defaults 2 none :: lw_tg)) := gd_V (tg 1216 (by decide +kernel) rfl) (tg 1218 (by decide +kernel) rfl) (tg 46 (by decide +kernel) rfl) (tg 128 (by decide +kernel) rfl) (tg 1219 (by decide +kernel) rfl)
theorem k_M_defaults {X : Cv} {cc : ByteArray} {rm : Room} {nL1 pc : Nat} {lv : List (Nat × Value)} {sk : List Value} {q : St} {q2 : St} (C : Cx X cc RX11 rm nL1) (S : IsM X) (h : M_defaults q = some q2) (hz : rmM_defaults.frames + 1 ≤ rm.frames ∧ 8 + (2 + 11) + rmM_defaults.locals ≤ rm.locals) (hr : (sk.map fun v => v.category).sum ≤ 8) (hd : decode cc pc = .ok (.invokevirtual 67, 3)) (k : At X (pc + 3) lv sk q2) : At X pc lv (.ref (adOf X 0) :: sk) q := a_callVv (as := []) C (kp := 0) (by rw [S.1]; decide) (by rw [S.2.1]; rfl) rfl (by have hh := c_M_defaults (l := X.2.1) (D := dOf X) (I := idOf X) (ad := adOf X) h; rw [← S.1, ← S.2.1, ← S.2.2] at hh; exact hh) g_M_defaults ⟨rfl, rfl, hz.1, hz.2⟩ ⟨by decide, by decide, by show Option.map _ (parseMethodDescriptor yX11_defaults.desc) = some 0; decide⟩ hr rfl hd k
abbrev rmM_isAt : Room := { frames := 0, cells := 0, slots := 0, locals := 0 }
def M_isAt (q : St) (v1 : Int32) (v2 : Int32) : Option (Int32) :=
  if (gt q 0 1) ≤ (gt q 0 6) then
    some (0 : Int32)
  else
    b1 (rd 1400 q 1 (gt q 0 6)) fun x2 =>
    if x2 < v1 then
      some (0 : Int32)
    else
      b1 (rd 1400 q 1 (gt q 0 6)) fun x4 =>
      if v2 < x4 then
        some (0 : Int32)
      else
        some (1 : Int32)
theorem w_M_isAt {X : Cv} (C : Cx X cX11_isAt RX11 rmM_isAt 3) (S : IsM X) {q : St} {z : Int32} (hret : RokI X cX11_isAt .boolean z q) (v1 : Int32) (v2 : Int32) (h : M_isAt q v1 v2 = some z) : At X 0 [(0, .ref (adOf X 0)), (1, .int v1), (2, .int v2)] [] q := by
  unfold M_isAt at h
  refine a_aload_n C 0 rfl rfl dX11_isAt_0 ?_
  refine gM_at C S dX11_isAt_1 ?_
  refine a_aload_n C 0 rfl rfl dX11_isAt_4 ?_
  refine gM_taped C S dX11_isAt_5 ?_
  refine a_icmp_ge C 41 (by decide) dX11_isAt_8 (fun c1 => ?_) (fun c1 => ?_)
  · replace h := ifp c1 h
    refine a_iconst (v := 0) C (by decide) dX11_isAt_41 ?_
    exact a_iretR hret h rfl dX11_isAt_42
  · replace h := ifn c1 h
    refine a_aload_n C 0 rfl rfl dX11_isAt_11 ?_
    refine gM_tape C S dX11_isAt_12 ?_
    refine a_aload_n C 0 rfl rfl dX11_isAt_15 ?_
    refine gM_at C S dX11_isAt_16 ?_
    obtain ⟨x2, e_x2, h⟩ := b1s h
    refine lM_tape C S e_x2 dX11_isAt_19 ?_
    refine a_iload_n C 1 rfl rfl dX11_isAt_20 ?_
    refine a_icmp_lt C 41 (by decide) dX11_isAt_21 (fun c3 => ?_) (fun c3 => ?_)
    · replace h := ifp c3 h
      refine a_iconst (v := 0) C (by decide) dX11_isAt_41 ?_
      exact a_iretR hret h rfl dX11_isAt_42
    · replace h := ifn c3 h
      refine a_aload_n C 0 rfl rfl dX11_isAt_24 ?_
      refine gM_tape C S dX11_isAt_25 ?_
      refine a_aload_n C 0 rfl rfl dX11_isAt_28 ?_
      refine gM_at C S dX11_isAt_29 ?_
      obtain ⟨x4, e_x4, h⟩ := b1s h
      refine lM_tape C S e_x4 dX11_isAt_32 ?_
      refine a_iload_n C 2 rfl rfl dX11_isAt_33 ?_
      refine a_icmp_gt C 41 (by decide) dX11_isAt_34 (fun c5 => ?_) (fun c5 => ?_)
      · replace h := ifp c5 h
        refine a_iconst (v := 0) C (by decide) dX11_isAt_41 ?_
        exact a_iretR hret h rfl dX11_isAt_42
      · replace h := ifn c5 h
        refine a_iconst (v := 1) C (by decide) dX11_isAt_37 ?_
        refine a_goto C 42 (by decide) dX11_isAt_38 ?_
        exact a_iretR hret h rfl dX11_isAt_42
theorem c_M_isAt {l : Launch} {D : va_G} {I : ClassId × ClassId × ClassId × ClassId} {ad : Nat → Nat} {q : St} {v1 : Int32} {v2 : Int32} {z : Int32} (h : M_isAt q v1 v2 = some z) : Ctr l D I zT 18 (shM I) ad yX11_isAt cX11_isAt 3 (some .boolean) rmM_isAt [.ref (ad 0), .int v1, .int v2] q (some z) q :=
  ctr_ofI (by decide) (Nat.le_of_ble_eq_true rfl) (fun p e s m args below meth c Q H0 X hX C hret => by subst hX; exact w_M_isAt C ⟨rfl, rfl, rfl⟩ hret _ _ h)
theorem g_M_isAt : GoodIn lw_tg (wsV RX11 95 RX11 yX11_isAt (Cond.code yX11_isAt cX11_isAt 3 (some .boolean) :: lw_tg)) := gd_V (tg 1343 (by decide +kernel) rfl) (tg 1345 (by decide +kernel) rfl) (tg 52 (by decide +kernel) rfl) (tg 128 (by decide +kernel) rfl) (tg 1346 (by decide +kernel) rfl)
theorem k_M_isAt {X : Cv} {cc : ByteArray} {rm : Room} {nL1 pc : Nat} {lv : List (Nat × Value)} {sk : List Value} {q : St} {v1 : Int32} {v2 : Int32} {z : Int32} (C : Cx X cc RX11 rm nL1) (S : IsM X) (h : M_isAt q v1 v2 = some z) (hz : rmM_isAt.frames + 1 ≤ rm.frames ∧ 8 + (3 + 11) + rmM_isAt.locals ≤ rm.locals) (hr : (sk.map fun v => v.category).sum ≤ 8) (hd : decode cc pc = .ok (.invokevirtual 95, 3)) (k : At X (pc + 3) lv (.int z :: sk) q) : At X pc lv (.int v2 :: .int v1 :: .ref (adOf X 0) :: sk) q := a_callVi (as := [.int v1, .int v2]) C (kp := 0) (by rw [S.1]; decide) (by rw [S.2.1]; rfl) rfl (by have hh := c_M_isAt (l := X.2.1) (D := dOf X) (I := idOf X) (ad := adOf X) h; rw [← S.1, ← S.2.1, ← S.2.2] at hh; exact hh) g_M_isAt ⟨rfl, rfl, hz.1, hz.2⟩ ⟨by decide, by decide, by show Option.map _ (parseMethodDescriptor yX11_isAt.desc) = some 2; decide⟩ hr rfl hd k
abbrev rmM_next : Room := { frames := 1, cells := 0, slots := 0, locals := 22 }
def M_next_J39 (k : St → Option (St)) (rec : St → Option (St)) (q : St) : Option (St) :=
  lt_ (st q 0 6 ((gt q 0 6) + (1 : Int32))) fun q4 =>
  rec  q4
theorem w_M_next_J39 {X : Cv} (C : Cx X cX11_next RX11 rmM_next 1) (S : IsM X) {z : St} (hret : RokV X cX11_next z) (k : St → Option (St)) (hk : ∀ (q : St), k q = some z → At X 52 [(0, .ref (adOf X 0))] [] q) (rec : St → Option (St)) (hrec : ∀ (q : St), rec q = some z → At X 0 [(0, .ref (adOf X 0))] [] q) (q : St) (h : M_next_J39 k rec q = some z) : At X 39 [(0, .ref (adOf X 0))] [] q := by
  unfold M_next_J39 at h
  refine a_aload_n C 0 rfl rfl dX11_next_39 ?_
  refine a_dup C rfl dX11_next_40 ?_
  refine gM_at C S dX11_next_41 ?_
  refine a_iconst (v := 1) C (by decide) dX11_next_44 ?_
  refine a_iadd C dX11_next_45 ?_
  obtain ⟨q4, e_q4, h⟩ := lts h
  refine pM_at C S e_q4 dX11_next_46 ?_
  refine a_goto C 0 (by decide) dX11_next_49 ?_
  exact At.sub [0] rfl (hrec  _ h)
def M_next_B0 (k : St → Option (St)) (rec : St → Option (St)) (q : St) : Option (St) :=
  if (gt q 0 1) ≤ (gt q 0 6) then
    k  q
  else
    b1 (rd 1400 q 1 (gt q 0 6)) fun x2 =>
    if x2 = (32 : Int32) then
      M_next_J39 k rec  q
    else
      b1 (rd 1400 q 1 (gt q 0 6)) fun x5 =>
      if x5 = (10 : Int32) then
        M_next_J39 k rec  q
      else
        k  q
theorem w_M_next_B0 {X : Cv} (C : Cx X cX11_next RX11 rmM_next 1) (S : IsM X) {z : St} (hret : RokV X cX11_next z) (k : St → Option (St)) (hk : ∀ (q : St), k q = some z → At X 52 [(0, .ref (adOf X 0))] [] q) (rec : St → Option (St)) (hrec : ∀ (q : St), rec q = some z → At X 0 [(0, .ref (adOf X 0))] [] q) (q : St) (h : M_next_B0 k rec q = some z) : At X 0 [(0, .ref (adOf X 0))] [] q := by
  unfold M_next_B0 at h
  refine a_aload_n C 0 rfl rfl dX11_next_0 ?_
  refine gM_at C S dX11_next_1 ?_
  refine a_aload_n C 0 rfl rfl dX11_next_4 ?_
  refine gM_taped C S dX11_next_5 ?_
  refine a_icmp_ge C 52 (by decide) dX11_next_8 (fun c1 => ?_) (fun c1 => ?_)
  · replace h := ifp c1 h
    exact At.sub [0] rfl (hk  _ h)
  · replace h := ifn c1 h
    refine a_aload_n C 0 rfl rfl dX11_next_11 ?_
    refine gM_tape C S dX11_next_12 ?_
    refine a_aload_n C 0 rfl rfl dX11_next_15 ?_
    refine gM_at C S dX11_next_16 ?_
    obtain ⟨x2, e_x2, h⟩ := b1s h
    refine lM_tape C S e_x2 dX11_next_19 ?_
    refine a_bipush (v := 32) C (by decide) dX11_next_20 ?_
    refine a_icmp_eq C 39 (by decide) dX11_next_22 (fun c3 => ?_) (fun c3 => ?_)
    · replace h := ifp c3 h
      exact At.sub [0] rfl (w_M_next_J39 C S hret _ hk _ hrec  _ h)
    · replace h := ifn c3 h
      refine a_aload_n C 0 rfl rfl dX11_next_25 ?_
      refine gM_tape C S dX11_next_26 ?_
      refine a_aload_n C 0 rfl rfl dX11_next_29 ?_
      refine gM_at C S dX11_next_30 ?_
      obtain ⟨x5, e_x5, h⟩ := b1s h
      refine lM_tape C S e_x5 dX11_next_33 ?_
      refine a_bipush (v := 10) C (by decide) dX11_next_34 ?_
      refine a_icmp_ne C 52 (by decide) dX11_next_36 (fun c6 => ?_) (fun c6 => ?_)
      · replace h := ifn c6 h
        exact At.sub [0] rfl (hk  _ h)
      · replace h := ifp c6 h
        exact At.sub [0] rfl (w_M_next_J39 C S hret _ hk _ hrec  _ h)
def M_next_L0 (k : St → Option (St)) : Nat → St → Option (St)
  | 0, _ => none
  | n + 1, q => M_next_B0 k (M_next_L0 k n) q
theorem w_M_next_L0 {X : Cv} (C : Cx X cX11_next RX11 rmM_next 1) (S : IsM X) {z : St} (hret : RokV X cX11_next z) (k : St → Option (St)) (hk : ∀ (q : St), k q = some z → At X 52 [(0, .ref (adOf X 0))] [] q) (n : Nat) : ∀ (q : St), M_next_L0 k n q = some z → At X 0 [(0, .ref (adOf X 0))] [] q := by
  induction n with
  | zero => intro q h; cases h
  | succ n ih => intro q h; exact w_M_next_B0 C S hret k hk _ ih q h
def M_next_J304 (z0 : Int32) (q : St) : Option (St) :=
  lt_ (st q 0 8 z0) fun q18 =>
  lt_ (st q18 0 6 ((gt q18 0 6) + (1 : Int32))) fun q19 =>
  some q19
theorem w_M_next_J304 {X : Cv} (C : Cx X cX11_next RX11 rmM_next 1) (S : IsM X) {z : St} (hret : RokV X cX11_next z) (z0 : Int32) (q : St) (h : M_next_J304 z0 q = some z) : At X 304 [(0, .ref (adOf X 0))] [.int z0, .ref (adOf X 0)] q := by
  unfold M_next_J304 at h
  obtain ⟨q18, e_q18, h⟩ := lts h
  refine pM_kind C S e_q18 dX11_next_304 ?_
  refine a_aload_n C 0 rfl rfl dX11_next_307 ?_
  refine a_dup C rfl dX11_next_308 ?_
  refine gM_at C S dX11_next_309 ?_
  refine a_iconst (v := 1) C (by decide) dX11_next_312 ?_
  refine a_iadd C dX11_next_313 ?_
  obtain ⟨q19, e_q19, h⟩ := lts h
  refine pM_at C S e_q19 dX11_next_314 ?_
  exact a_vret hret h dX11_next_317
def M_next_J243 (k : St → Option (St)) (rec : St → Option (St)) (z0 : Int32) (q : St) : Option (St) :=
  lt_ (st q 0 9 z0) fun q23 =>
  lt_ (st q23 0 6 ((gt q23 0 6) + (1 : Int32))) fun q24 =>
  rec  q24
theorem w_M_next_J243 {X : Cv} (C : Cx X cX11_next RX11 rmM_next 1) (S : IsM X) {z : St} (hret : RokV X cX11_next z) (k : St → Option (St)) (hk : ∀ (q : St), k q = some z → At X 259 [(0, .ref (adOf X 0))] [] q) (rec : St → Option (St)) (hrec : ∀ (q : St), rec q = some z → At X 191 [(0, .ref (adOf X 0))] [] q) (z0 : Int32) (q : St) (h : M_next_J243 k rec z0 q = some z) : At X 243 [(0, .ref (adOf X 0))] [.int z0, .ref (adOf X 0)] q := by
  unfold M_next_J243 at h
  obtain ⟨q23, e_q23, h⟩ := lts h
  refine pM_value C S e_q23 dX11_next_243 ?_
  refine a_aload_n C 0 rfl rfl dX11_next_246 ?_
  refine a_dup C rfl dX11_next_247 ?_
  refine gM_at C S dX11_next_248 ?_
  refine a_iconst (v := 1) C (by decide) dX11_next_251 ?_
  refine a_iadd C dX11_next_252 ?_
  obtain ⟨q24, e_q24, h⟩ := lts h
  refine pM_at C S e_q24 dX11_next_253 ?_
  refine a_goto C 191 (by decide) dX11_next_256 ?_
  exact At.sub [0] rfl (hrec  _ h)
def M_next_B191 (k : St → Option (St)) (rec : St → Option (St)) (q : St) : Option (St) :=
  b1 (M_isAt q (48 : Int32) (57 : Int32)) fun x20 =>
  if x20 = (0 : Int32) then
    k  q
  else
    if (4 : Int32) ≤ ((gt q 0 6) - (gt q 0 7)) then
      M_next_J243 k rec (gt q 0 9) q
    else
      b1 (rd 1400 q 1 (gt q 0 6)) fun x25 =>
      M_next_J243 k rec ((((10 : Int32) * (gt q 0 9)) + x25) - (48 : Int32)) q
theorem w_M_next_B191 {X : Cv} (C : Cx X cX11_next RX11 rmM_next 1) (S : IsM X) {z : St} (hret : RokV X cX11_next z) (k : St → Option (St)) (hk : ∀ (q : St), k q = some z → At X 259 [(0, .ref (adOf X 0))] [] q) (rec : St → Option (St)) (hrec : ∀ (q : St), rec q = some z → At X 191 [(0, .ref (adOf X 0))] [] q) (q : St) (h : M_next_B191 k rec q = some z) : At X 191 [(0, .ref (adOf X 0))] [] q := by
  unfold M_next_B191 at h
  refine a_aload_n C 0 rfl rfl dX11_next_191 ?_
  refine a_bipush (v := 48) C (by decide) dX11_next_192 ?_
  refine a_bipush (v := 57) C (by decide) dX11_next_194 ?_
  obtain ⟨x20, e_x20, h⟩ := b1s h
  refine k_M_isAt C S e_x20 ⟨Nat.le_of_ble_eq_true rfl, Nat.le_of_ble_eq_true rfl⟩ (Nat.le_of_ble_eq_true rfl) dX11_next_196 ?_
  refine a_if_eq C 259 (by decide) dX11_next_199 (fun c21 => ?_) (fun c21 => ?_)
  · replace h := ifp c21 h
    exact At.sub [0] rfl (hk  _ h)
  · replace h := ifn c21 h
    refine a_aload_n C 0 rfl rfl dX11_next_202 ?_
    refine a_aload_n C 0 rfl rfl dX11_next_203 ?_
    refine gM_at C S dX11_next_204 ?_
    refine a_aload_n C 0 rfl rfl dX11_next_207 ?_
    refine gM_start C S dX11_next_208 ?_
    refine a_isub C dX11_next_211 ?_
    refine a_iconst (v := 4) C (by decide) dX11_next_212 ?_
    refine a_icmp_ge C 239 (by decide) dX11_next_213 (fun c22 => ?_) (fun c22 => ?_)
    · replace h := ifp c22 h
      refine a_aload_n C 0 rfl rfl dX11_next_239 ?_
      refine gM_value C S dX11_next_240 ?_
      exact At.sub [0] rfl (w_M_next_J243 C S hret _ hk _ hrec _ _ h)
    · replace h := ifn c22 h
      refine a_bipush (v := 10) C (by decide) dX11_next_216 ?_
      refine a_aload_n C 0 rfl rfl dX11_next_218 ?_
      refine gM_value C S dX11_next_219 ?_
      refine a_imul C dX11_next_222 ?_
      refine a_aload_n C 0 rfl rfl dX11_next_223 ?_
      refine gM_tape C S dX11_next_224 ?_
      refine a_aload_n C 0 rfl rfl dX11_next_227 ?_
      refine gM_at C S dX11_next_228 ?_
      obtain ⟨x25, e_x25, h⟩ := b1s h
      refine lM_tape C S e_x25 dX11_next_231 ?_
      refine a_iadd C dX11_next_232 ?_
      refine a_bipush (v := 48) C (by decide) dX11_next_233 ?_
      refine a_isub C dX11_next_235 ?_
      refine a_goto C 243 (by decide) dX11_next_236 ?_
      exact At.sub [0] rfl (w_M_next_J243 C S hret _ hk _ hrec _ _ h)
def M_next_L191 (k : St → Option (St)) : Nat → St → Option (St)
  | 0, _ => none
  | n + 1, q => M_next_B191 k (M_next_L191 k n) q
theorem w_M_next_L191 {X : Cv} (C : Cx X cX11_next RX11 rmM_next 1) (S : IsM X) {z : St} (hret : RokV X cX11_next z) (k : St → Option (St)) (hk : ∀ (q : St), k q = some z → At X 259 [(0, .ref (adOf X 0))] [] q) (n : Nat) : ∀ (q : St), M_next_L191 k n q = some z → At X 191 [(0, .ref (adOf X 0))] [] q := by
  induction n with
  | zero => intro q h; cases h
  | succ n ih => intro q h; exact w_M_next_B191 C S hret k hk _ ih q h
def M_next_J156 (rec : St → Option (St)) (z0 : Int64) (q : St) : Option (St) :=
  lt_ (stw q z0) fun q34 =>
  lt_ (st q34 0 6 ((gt q34 0 6) + (1 : Int32))) fun q35 =>
  rec  q35
theorem w_M_next_J156 {X : Cv} (C : Cx X cX11_next RX11 rmM_next 1) (S : IsM X) {z : St} (hret : RokV X cX11_next z) (rec : St → Option (St)) (hrec : ∀ (q : St), rec q = some z → At X 100 [(0, .ref (adOf X 0))] [] q) (z0 : Int64) (q : St) (h : M_next_J156 rec z0 q = some z) : At X 156 [(0, .ref (adOf X 0))] [.long z0, .ref (adOf X 0)] q := by
  unfold M_next_J156 at h
  obtain ⟨q34, e_q34, h⟩ := lts h
  refine pM_word C S e_q34 dX11_next_156 ?_
  refine a_aload_n C 0 rfl rfl dX11_next_159 ?_
  refine a_dup C rfl dX11_next_160 ?_
  refine gM_at C S dX11_next_161 ?_
  refine a_iconst (v := 1) C (by decide) dX11_next_164 ?_
  refine a_iadd C dX11_next_165 ?_
  obtain ⟨q35, e_q35, h⟩ := lts h
  refine pM_at C S e_q35 dX11_next_166 ?_
  refine a_goto C 100 (by decide) dX11_next_169 ?_
  exact At.sub [0] rfl (hrec  _ h)
def M_next_B100 (rec : St → Option (St)) (q : St) : Option (St) :=
  b1 (M_isAt q (97 : Int32) (122 : Int32)) fun x30 =>
  if x30 = (0 : Int32) then
    lt_ (st q 0 8 (1 : Int32)) fun q32 =>
    some q32
  else
    if (12 : Int32) ≤ ((gt q 0 6) - (gt q 0 7)) then
      M_next_J156 rec q.2 q
    else
      b1 (rd 1400 q 1 (gt q 0 6)) fun x36 =>
      M_next_J156 rec ((((32 : Int64) * q.2) + x36.toInt64) - (96 : Int64)) q
theorem w_M_next_B100 {X : Cv} (C : Cx X cX11_next RX11 rmM_next 1) (S : IsM X) {z : St} (hret : RokV X cX11_next z) (rec : St → Option (St)) (hrec : ∀ (q : St), rec q = some z → At X 100 [(0, .ref (adOf X 0))] [] q) (q : St) (h : M_next_B100 rec q = some z) : At X 100 [(0, .ref (adOf X 0))] [] q := by
  unfold M_next_B100 at h
  refine a_aload_n C 0 rfl rfl dX11_next_100 ?_
  refine a_bipush (v := 97) C (by decide) dX11_next_101 ?_
  refine a_bipush (v := 122) C (by decide) dX11_next_103 ?_
  obtain ⟨x30, e_x30, h⟩ := b1s h
  refine k_M_isAt C S e_x30 ⟨Nat.le_of_ble_eq_true rfl, Nat.le_of_ble_eq_true rfl⟩ (Nat.le_of_ble_eq_true rfl) dX11_next_105 ?_
  refine a_if_eq C 172 (by decide) dX11_next_108 (fun c31 => ?_) (fun c31 => ?_)
  · replace h := ifp c31 h
    refine a_aload_n C 0 rfl rfl dX11_next_172 ?_
    refine a_iconst (v := 1) C (by decide) dX11_next_173 ?_
    obtain ⟨q32, e_q32, h⟩ := lts h
    refine pM_kind C S e_q32 dX11_next_174 ?_
    refine a_goto C 317 (by decide) dX11_next_177 ?_
    exact a_vret hret h dX11_next_317
  · replace h := ifn c31 h
    refine a_aload_n C 0 rfl rfl dX11_next_111 ?_
    refine a_aload_n C 0 rfl rfl dX11_next_112 ?_
    refine gM_at C S dX11_next_113 ?_
    refine a_aload_n C 0 rfl rfl dX11_next_116 ?_
    refine gM_start C S dX11_next_117 ?_
    refine a_isub C dX11_next_120 ?_
    refine a_bipush (v := 12) C (by decide) dX11_next_121 ?_
    refine a_icmp_ge C 152 (by decide) dX11_next_123 (fun c33 => ?_) (fun c33 => ?_)
    · replace h := ifp c33 h
      refine a_aload_n C 0 rfl rfl dX11_next_152 ?_
      refine gM_word C S dX11_next_153 ?_
      exact At.sub [0] rfl (w_M_next_J156 C S hret _ hrec _ _ h)
    · replace h := ifn c33 h
      refine a_ldc2 (v := 32) C (tg 1347 (by decide +kernel) rfl) dX11_next_126 ?_
      refine a_aload_n C 0 rfl rfl dX11_next_129 ?_
      refine gM_word C S dX11_next_130 ?_
      refine a_lmul C dX11_next_133 ?_
      refine a_aload_n C 0 rfl rfl dX11_next_134 ?_
      refine gM_tape C S dX11_next_135 ?_
      refine a_aload_n C 0 rfl rfl dX11_next_138 ?_
      refine gM_at C S dX11_next_139 ?_
      obtain ⟨x36, e_x36, h⟩ := b1s h
      refine lM_tape C S e_x36 dX11_next_142 ?_
      refine a_i2l C dX11_next_143 ?_
      refine a_ladd C dX11_next_144 ?_
      refine a_ldc2 (v := 96) C (tg 1348 (by decide +kernel) rfl) dX11_next_145 ?_
      refine a_lsub C dX11_next_148 ?_
      refine a_goto C 156 (by decide) dX11_next_149 ?_
      exact At.sub [0] rfl (w_M_next_J156 C S hret _ hrec _ _ h)
def M_next_L100 : Nat → St → Option (St)
  | 0, _ => none
  | n + 1, q => M_next_B100 (M_next_L100 n) q
theorem w_M_next_L100 {X : Cv} (C : Cx X cX11_next RX11 rmM_next 1) (S : IsM X) {z : St} (hret : RokV X cX11_next z) (n : Nat) : ∀ (q : St), M_next_L100 n q = some z → At X 100 [(0, .ref (adOf X 0))] [] q := by
  induction n with
  | zero => intro q h; cases h
  | succ n ih => intro q h; exact w_M_next_B100 C S hret _ ih q h
def M_next_J52 (q : St) : Option (St) :=
  lt_ (st q 0 7 (gt q 0 6)) fun q8 =>
  lt_ (st q8 0 9 (0 : Int32)) fun q9 =>
  lt_ (stw q9 (0 : Int64)) fun q10 =>
  if (gt q10 0 6) = (gt q10 0 1) then
    lt_ (st q10 0 8 (0 : Int32)) fun q37 =>
    some q37
  else
    b1 (M_isAt q10 (97 : Int32) (122 : Int32)) fun x12 =>
    if x12 = (0 : Int32) then
      b1 (M_isAt q10 (48 : Int32) (57 : Int32)) fun x14 =>
      if x14 = (0 : Int32) then
        b1 (rd 1400 q10 1 (gt q10 0 6)) fun x16 =>
        if x16 = (59 : Int32) then
          M_next_J304 (3 : Int32) q10
        else
          M_next_J304 (4 : Int32) q10
      else
        M_next_L191 (fun q26 =>
          if ((gt q26 0 6) - (gt q26 0 7)) ≤ (4 : Int32) then
            lt_ (st q26 0 8 (2 : Int32)) fun q28 =>
            some q28
          else
            lt_ (st q26 0 8 (4 : Int32)) fun q29 =>
            some q29
          ) FU  q10
    else
      M_next_L100 FU  q10
theorem w_M_next_J52 {X : Cv} (C : Cx X cX11_next RX11 rmM_next 1) (S : IsM X) {z : St} (hret : RokV X cX11_next z) (q : St) (h : M_next_J52 q = some z) : At X 52 [(0, .ref (adOf X 0))] [] q := by
  unfold M_next_J52 at h
  refine a_aload_n C 0 rfl rfl dX11_next_52 ?_
  refine a_aload_n C 0 rfl rfl dX11_next_53 ?_
  refine gM_at C S dX11_next_54 ?_
  obtain ⟨q8, e_q8, h⟩ := lts h
  refine pM_start C S e_q8 dX11_next_57 ?_
  refine a_aload_n C 0 rfl rfl dX11_next_60 ?_
  refine a_iconst (v := 0) C (by decide) dX11_next_61 ?_
  obtain ⟨q9, e_q9, h⟩ := lts h
  refine pM_value C S e_q9 dX11_next_62 ?_
  refine a_aload_n C 0 rfl rfl dX11_next_65 ?_
  refine a_lconst (v := 0) C (by decide) dX11_next_66 ?_
  obtain ⟨q10, e_q10, h⟩ := lts h
  refine pM_word C S e_q10 dX11_next_67 ?_
  refine a_aload_n C 0 rfl rfl dX11_next_70 ?_
  refine gM_at C S dX11_next_71 ?_
  refine a_aload_n C 0 rfl rfl dX11_next_74 ?_
  refine gM_taped C S dX11_next_75 ?_
  refine a_icmp_ne C 89 (by decide) dX11_next_78 (fun c11 => ?_) (fun c11 => ?_)
  · replace h := ifn c11 h
    refine a_aload_n C 0 rfl rfl dX11_next_89 ?_
    refine a_bipush (v := 97) C (by decide) dX11_next_90 ?_
    refine a_bipush (v := 122) C (by decide) dX11_next_92 ?_
    obtain ⟨x12, e_x12, h⟩ := b1s h
    refine k_M_isAt C S e_x12 ⟨Nat.le_of_ble_eq_true rfl, Nat.le_of_ble_eq_true rfl⟩ (Nat.le_of_ble_eq_true rfl) dX11_next_94 ?_
    refine a_if_eq C 180 (by decide) dX11_next_97 (fun c13 => ?_) (fun c13 => ?_)
    · replace h := ifp c13 h
      refine a_aload_n C 0 rfl rfl dX11_next_180 ?_
      refine a_bipush (v := 48) C (by decide) dX11_next_181 ?_
      refine a_bipush (v := 57) C (by decide) dX11_next_183 ?_
      obtain ⟨x14, e_x14, h⟩ := b1s h
      refine k_M_isAt C S e_x14 ⟨Nat.le_of_ble_eq_true rfl, Nat.le_of_ble_eq_true rfl⟩ (Nat.le_of_ble_eq_true rfl) dX11_next_185 ?_
      refine a_if_eq C 284 (by decide) dX11_next_188 (fun c15 => ?_) (fun c15 => ?_)
      · replace h := ifp c15 h
        refine a_aload_n C 0 rfl rfl dX11_next_284 ?_
        refine a_aload_n C 0 rfl rfl dX11_next_285 ?_
        refine gM_tape C S dX11_next_286 ?_
        refine a_aload_n C 0 rfl rfl dX11_next_289 ?_
        refine gM_at C S dX11_next_290 ?_
        obtain ⟨x16, e_x16, h⟩ := b1s h
        refine lM_tape C S e_x16 dX11_next_293 ?_
        refine a_bipush (v := 59) C (by decide) dX11_next_294 ?_
        refine a_icmp_ne C 303 (by decide) dX11_next_296 (fun c17 => ?_) (fun c17 => ?_)
        · replace h := ifn c17 h
          refine a_iconst (v := 4) C (by decide) dX11_next_303 ?_
          exact At.sub [0] rfl (w_M_next_J304 C S hret _ _ h)
        · replace h := ifp c17 h
          refine a_iconst (v := 3) C (by decide) dX11_next_299 ?_
          refine a_goto C 304 (by decide) dX11_next_300 ?_
          exact At.sub [0] rfl (w_M_next_J304 C S hret _ _ h)
      · replace h := ifn c15 h
        refine At.sub [0] rfl (w_M_next_L191 C S hret _ ?_ _  _ h)
        intro q26 h
        refine a_aload_n C 0 rfl rfl dX11_next_259 ?_
        refine a_aload_n C 0 rfl rfl dX11_next_260 ?_
        refine gM_at C S dX11_next_261 ?_
        refine a_aload_n C 0 rfl rfl dX11_next_264 ?_
        refine gM_start C S dX11_next_265 ?_
        refine a_isub C dX11_next_268 ?_
        refine a_iconst (v := 4) C (by decide) dX11_next_269 ?_
        refine a_icmp_le C 277 (by decide) dX11_next_270 (fun c27 => ?_) (fun c27 => ?_)
        · replace h := ifp c27 h
          refine a_iconst (v := 2) C (by decide) dX11_next_277 ?_
          obtain ⟨q28, e_q28, h⟩ := lts h
          refine pM_kind C S e_q28 dX11_next_278 ?_
          refine a_goto C 317 (by decide) dX11_next_281 ?_
          exact a_vret hret h dX11_next_317
        · replace h := ifn c27 h
          refine a_iconst (v := 4) C (by decide) dX11_next_273 ?_
          refine a_goto C 278 (by decide) dX11_next_274 ?_
          obtain ⟨q29, e_q29, h⟩ := lts h
          refine pM_kind C S e_q29 dX11_next_278 ?_
          refine a_goto C 317 (by decide) dX11_next_281 ?_
          exact a_vret hret h dX11_next_317
    · replace h := ifn c13 h
      exact At.sub [0] rfl (w_M_next_L100 C S hret _  _ h)
  · replace h := ifp c11 h
    refine a_aload_n C 0 rfl rfl dX11_next_81 ?_
    refine a_iconst (v := 0) C (by decide) dX11_next_82 ?_
    obtain ⟨q37, e_q37, h⟩ := lts h
    refine pM_kind C S e_q37 dX11_next_83 ?_
    refine a_goto C 317 (by decide) dX11_next_86 ?_
    exact a_vret hret h dX11_next_317
def M_next (q : St) : Option (St) :=
  M_next_L0 (fun q7 =>
    M_next_J52  q7
    ) FU  q
theorem w_M_next {X : Cv} (C : Cx X cX11_next RX11 rmM_next 1) (S : IsM X) {z : St} (hret : RokV X cX11_next z) (q : St) (h : M_next q = some z) : At X 0 [(0, .ref (adOf X 0))] [] q := by
  unfold M_next at h
  refine At.sub [0] rfl (w_M_next_L0 C S hret _ ?_ _  _ h)
  intro q7 h
  exact At.sub [0] rfl (w_M_next_J52 C S hret  _ h)
theorem c_M_next {l : Launch} {D : va_G} {I : ClassId × ClassId × ClassId × ClassId} {ad : Nat → Nat} {q : St} {z : St} (h : M_next q = some z) : Ctr l D I zT 18 (shM I) ad yX11_next cX11_next 1 none rmM_next [.ref (ad 0)] q none z :=
  ctr_ofV (by decide) (Nat.le_of_ble_eq_true rfl) (fun p e s m args below meth c Q H0 X hX C hret => by subst hX; exact w_M_next C ⟨rfl, rfl, rfl⟩ hret _ h)
theorem g_M_next : GoodIn lw_tg (wsV RX11 107 RX11 yX11_next (Cond.code yX11_next cX11_next 1 none :: lw_tg)) := gd_V (tg 1339 (by decide +kernel) rfl) (tg 1341 (by decide +kernel) rfl) (tg 51 (by decide +kernel) rfl) (tg 128 (by decide +kernel) rfl) (tg 1342 (by decide +kernel) rfl)
theorem k_M_next {X : Cv} {cc : ByteArray} {rm : Room} {nL1 pc : Nat} {lv : List (Nat × Value)} {sk : List Value} {q : St} {q2 : St} (C : Cx X cc RX11 rm nL1) (S : IsM X) (h : M_next q = some q2) (hz : rmM_next.frames + 1 ≤ rm.frames ∧ 8 + (1 + 11) + rmM_next.locals ≤ rm.locals) (hr : (sk.map fun v => v.category).sum ≤ 8) (hd : decode cc pc = .ok (.invokevirtual 107, 3)) (k : At X (pc + 3) lv sk q2) : At X pc lv (.ref (adOf X 0) :: sk) q := a_callVv (as := []) C (kp := 0) (by rw [S.1]; decide) (by rw [S.2.1]; rfl) rfl (by have hh := c_M_next (l := X.2.1) (D := dOf X) (I := idOf X) (ad := adOf X) h; rw [← S.1, ← S.2.1, ← S.2.2] at hh; exact hh) g_M_next ⟨rfl, rfl, hz.1, hz.2⟩ ⟨by decide, by decide, by show Option.map _ (parseMethodDescriptor yX11_next.desc) = some 0; decide⟩ hr rfl hd k
abbrev rmM_takes : Room := { frames := 2, cells := 0, slots := 0, locals := 42 }
def M_takes_J24 (q : St) : Option (St) :=
  if (gt q 0 11) = (0 : Int32) then
    some q
  else
    b1 (M_next q) fun q3 =>
    some q3
theorem w_M_takes_J24 {X : Cv} (C : Cx X cX11_takes RX11 rmM_takes 2) (S : IsM X) {z : St} (hret : RokV X cX11_takes z) (q : St) (h : M_takes_J24 q = some z) : At X 24 [(0, .ref (adOf X 0))] [] q := by
  unfold M_takes_J24 at h
  refine a_aload_n C 0 rfl rfl dX11_takes_24 ?_
  refine gM_fine C S dX11_takes_25 ?_
  refine a_if_eq C 35 (by decide) dX11_takes_28 (fun c2 => ?_) (fun c2 => ?_)
  · replace h := ifp c2 h
    exact a_vret hret h dX11_takes_35
  · replace h := ifn c2 h
    refine a_aload_n C 0 rfl rfl dX11_takes_31 ?_
    obtain ⟨q3, e_q3, h⟩ := b1s h
    refine k_M_next C S e_q3 ⟨Nat.le_of_ble_eq_true rfl, Nat.le_of_ble_eq_true rfl⟩ (Nat.le_of_ble_eq_true rfl) dX11_takes_32 ?_
    exact a_vret hret h dX11_takes_35
def M_takes (q : St) (v1 : Int32) : Option (St) :=
  if (gt q 0 11) = (0 : Int32) then
    M_takes_J24  q
  else
    if v1 = (0 : Int32) then
      lt_ (st q 0 11 (0 : Int32)) fun q5 =>
      lt_ (st q5 0 2 (gt q5 0 7)) fun q6 =>
      M_takes_J24  q6
    else
      M_takes_J24  q
theorem w_M_takes {X : Cv} (C : Cx X cX11_takes RX11 rmM_takes 2) (S : IsM X) {z : St} (hret : RokV X cX11_takes z) (v1 : Int32) (q : St) (h : M_takes q v1 = some z) : At X 0 [(0, .ref (adOf X 0)), (1, .int v1)] [] q := by
  unfold M_takes at h
  refine a_aload_n C 0 rfl rfl dX11_takes_0 ?_
  refine gM_fine C S dX11_takes_1 ?_
  refine a_if_eq C 24 (by decide) dX11_takes_4 (fun c1 => ?_) (fun c1 => ?_)
  · replace h := ifp c1 h
    exact At.sub [0] rfl (w_M_takes_J24 C S hret  _ h)
  · replace h := ifn c1 h
    refine a_iload_n C 1 rfl rfl dX11_takes_7 ?_
    refine a_if_ne C 24 (by decide) dX11_takes_8 (fun c4 => ?_) (fun c4 => ?_)
    · replace h := ifn c4 h
      exact At.sub [0] rfl (w_M_takes_J24 C S hret  _ h)
    · replace h := ifp c4 h
      refine a_aload_n C 0 rfl rfl dX11_takes_11 ?_
      refine a_iconst (v := 0) C (by decide) dX11_takes_12 ?_
      obtain ⟨q5, e_q5, h⟩ := lts h
      refine pM_fine C S e_q5 rfl rfl dX11_takes_13 ?_
      refine a_aload_n C 0 rfl rfl dX11_takes_16 ?_
      refine a_aload_n C 0 rfl rfl dX11_takes_17 ?_
      refine gM_start C S dX11_takes_18 ?_
      obtain ⟨q6, e_q6, h⟩ := lts h
      refine pM_errorAt C S e_q6 dX11_takes_21 ?_
      exact At.sub [0] rfl (w_M_takes_J24 C S hret  _ h)
theorem c_M_takes {l : Launch} {D : va_G} {I : ClassId × ClassId × ClassId × ClassId} {ad : Nat → Nat} {q : St} {v1 : Int32} {z : St} (h : M_takes q v1 = some z) : Ctr l D I zT 18 (shM I) ad yX11_takes cX11_takes 2 none rmM_takes [.ref (ad 0), .int v1] q none z :=
  ctr_ofV (by decide) (Nat.le_of_ble_eq_true rfl) (fun p e s m args below meth c Q H0 X hX C hret => by subst hX; exact w_M_takes C ⟨rfl, rfl, rfl⟩ hret _ _ h)
theorem g_M_takes : GoodIn lw_tg (wsV RX11 114 RX11 yX11_takes (Cond.code yX11_takes cX11_takes 2 none :: lw_tg)) := gd_V (tg 1358 (by decide +kernel) rfl) (tg 1360 (by decide +kernel) rfl) (tg 55 (by decide +kernel) rfl) (tg 128 (by decide +kernel) rfl) (tg 1361 (by decide +kernel) rfl)
theorem k_M_takes {X : Cv} {cc : ByteArray} {rm : Room} {nL1 pc : Nat} {lv : List (Nat × Value)} {sk : List Value} {q : St} {v1 : Int32} {q2 : St} (C : Cx X cc RX11 rm nL1) (S : IsM X) (h : M_takes q v1 = some q2) (hz : rmM_takes.frames + 1 ≤ rm.frames ∧ 8 + (2 + 11) + rmM_takes.locals ≤ rm.locals) (hr : (sk.map fun v => v.category).sum ≤ 8) (hd : decode cc pc = .ok (.invokevirtual 114, 3)) (k : At X (pc + 3) lv sk q2) : At X pc lv (.int v1 :: .ref (adOf X 0) :: sk) q := a_callVv (as := [.int v1]) C (kp := 0) (by rw [S.1]; decide) (by rw [S.2.1]; rfl) rfl (by have hh := c_M_takes (l := X.2.1) (D := dOf X) (I := idOf X) (ad := adOf X) h; rw [← S.1, ← S.2.1, ← S.2.2] at hh; exact hh) g_M_takes ⟨rfl, rfl, hz.1, hz.2⟩ ⟨by decide, by decide, by show Option.map _ (parseMethodDescriptor yX11_takes.desc) = some 1; decide⟩ hr rfl hd k
abbrev rmM_isWord : Room := { frames := 0, cells := 0, slots := 0, locals := 0 }
def M_isWord (q : St) (v1 : Int64) : Option (Int32) :=
  if (gt q 0 11) = (0 : Int32) then
    some (0 : Int32)
  else
    if (gt q 0 8) = (1 : Int32) then
      if (lg_cmp q.2 v1) = (0 : Int32) then
        some (1 : Int32)
      else
        some (0 : Int32)
    else
      some (0 : Int32)
theorem w_M_isWord {X : Cv} (C : Cx X cX11_isWord RX11 rmM_isWord 3) (S : IsM X) {q : St} {z : Int32} (hret : RokI X cX11_isWord .boolean z q) (v1 : Int64) (h : M_isWord q v1 = some z) : At X 0 [(0, .ref (adOf X 0)), (1, .long v1)] [] q := by
  unfold M_isWord at h
  refine a_aload_n C 0 rfl rfl dX11_isWord_0 ?_
  refine gM_fine C S dX11_isWord_1 ?_
  refine a_if_eq C 28 (by decide) dX11_isWord_4 (fun c1 => ?_) (fun c1 => ?_)
  · replace h := ifp c1 h
    refine a_iconst (v := 0) C (by decide) dX11_isWord_28 ?_
    exact a_iretR hret h rfl dX11_isWord_29
  · replace h := ifn c1 h
    refine a_aload_n C 0 rfl rfl dX11_isWord_7 ?_
    refine gM_kind C S dX11_isWord_8 ?_
    refine a_iconst (v := 1) C (by decide) dX11_isWord_11 ?_
    refine a_icmp_ne C 28 (by decide) dX11_isWord_12 (fun c2 => ?_) (fun c2 => ?_)
    · replace h := ifn c2 h
      refine a_iconst (v := 0) C (by decide) dX11_isWord_28 ?_
      exact a_iretR hret h rfl dX11_isWord_29
    · replace h := ifp c2 h
      refine a_aload_n C 0 rfl rfl dX11_isWord_15 ?_
      refine gM_word C S dX11_isWord_16 ?_
      refine a_lload_n C 1 rfl rfl dX11_isWord_19 ?_
      refine a_lcmp C dX11_isWord_20 ?_
      refine a_if_ne C 28 (by decide) dX11_isWord_21 (fun c3 => ?_) (fun c3 => ?_)
      · replace h := ifn c3 h
        refine a_iconst (v := 0) C (by decide) dX11_isWord_28 ?_
        exact a_iretR hret h rfl dX11_isWord_29
      · replace h := ifp c3 h
        refine a_iconst (v := 1) C (by decide) dX11_isWord_24 ?_
        refine a_goto C 29 (by decide) dX11_isWord_25 ?_
        exact a_iretR hret h rfl dX11_isWord_29
theorem c_M_isWord {l : Launch} {D : va_G} {I : ClassId × ClassId × ClassId × ClassId} {ad : Nat → Nat} {q : St} {v1 : Int64} {z : Int32} (h : M_isWord q v1 = some z) : Ctr l D I zT 18 (shM I) ad yX11_isWord cX11_isWord 3 (some .boolean) rmM_isWord [.ref (ad 0), .long v1] q (some z) q :=
  ctr_ofI (by decide) (Nat.le_of_ble_eq_true rfl) (fun p e s m args below meth c Q H0 X hX C hret => by subst hX; exact w_M_isWord C ⟨rfl, rfl, rfl⟩ hret _ h)
theorem g_M_isWord : GoodIn lw_tg (wsV RX11 118 RX11 yX11_isWord (Cond.code yX11_isWord cX11_isWord 3 (some .boolean) :: lw_tg)) := gd_V (tg 1354 (by decide +kernel) rfl) (tg 1356 (by decide +kernel) rfl) (tg 54 (by decide +kernel) rfl) (tg 128 (by decide +kernel) rfl) (tg 1357 (by decide +kernel) rfl)
theorem k_M_isWord {X : Cv} {cc : ByteArray} {rm : Room} {nL1 pc : Nat} {lv : List (Nat × Value)} {sk : List Value} {q : St} {v1 : Int64} {z : Int32} (C : Cx X cc RX11 rm nL1) (S : IsM X) (h : M_isWord q v1 = some z) (hz : rmM_isWord.frames + 1 ≤ rm.frames ∧ 8 + (3 + 11) + rmM_isWord.locals ≤ rm.locals) (hr : (sk.map fun v => v.category).sum ≤ 8) (hd : decode cc pc = .ok (.invokevirtual 118, 3)) (k : At X (pc + 3) lv (.int z :: sk) q) : At X pc lv (.long v1 :: .ref (adOf X 0) :: sk) q := a_callVi (as := [.long v1]) C (kp := 0) (by rw [S.1]; decide) (by rw [S.2.1]; rfl) rfl (by have hh := c_M_isWord (l := X.2.1) (D := dOf X) (I := idOf X) (ad := adOf X) h; rw [← S.1, ← S.2.1, ← S.2.2] at hh; exact hh) g_M_isWord ⟨rfl, rfl, hz.1, hz.2⟩ ⟨by decide, by decide, by show Option.map _ (parseMethodDescriptor yX11_isWord.desc) = some 1; decide⟩ hr rfl hd k
abbrev rmM_number : Room := { frames := 3, cells := 0, slots := 0, locals := 63 }
def M_number_J31 (v3 : Int32) (z0 : Int32) (q : St) : Option (Int32 × St) :=
  b1 (M_takes q z0) fun q3 =>
  some (v3, q3)
theorem w_M_number_J31 {X : Cv} (C : Cx X cX11_number RX11 rmM_number 4) (S : IsM X) {z : Int32 × St} (hret : RokI X cX11_number .int z.1 z.2) (v3 : Int32) (z0 : Int32) (q : St) (h : M_number_J31 v3 z0 q = some z) : At X 31 [(0, .ref (adOf X 0)), (3, .int v3)] [.int z0, .ref (adOf X 0)] q := by
  unfold M_number_J31 at h
  obtain ⟨q3, e_q3, h⟩ := b1s h
  refine k_M_takes C S e_q3 ⟨Nat.le_of_ble_eq_true rfl, Nat.le_of_ble_eq_true rfl⟩ (Nat.le_of_ble_eq_true rfl) dX11_number_31 ?_
  refine a_iload_n C 1 rfl rfl dX11_number_34 ?_
  exact a_iret hret h rfl dX11_number_35
def M_number_J30 (v3 : Int32) (q : St) : Option (Int32 × St) :=
  M_number_J31 v3 (0 : Int32) q
theorem w_M_number_J30 {X : Cv} (C : Cx X cX11_number RX11 rmM_number 4) (S : IsM X) {z : Int32 × St} (hret : RokI X cX11_number .int z.1 z.2) (v3 : Int32) (q : St) (h : M_number_J30 v3 q = some z) : At X 30 [(0, .ref (adOf X 0)), (3, .int v3)] [.ref (adOf X 0)] q := by
  unfold M_number_J30 at h
  refine a_iconst (v := 0) C (by decide) dX11_number_30 ?_
  exact At.sub [0, 1] rfl (w_M_number_J31 C S hret _ _ _ h)
def M_number (q : St) (v1 : Int32) (v2 : Int32) : Option (Int32 × St) :=
  lt_ (gt q 0 9) fun w1 =>
  if (gt q 0 8) = (2 : Int32) then
    b1 (M_in q w1.toInt64 v1.toInt64 v2.toInt64) fun x4 =>
    if x4 = (0 : Int32) then
      M_number_J30 w1 q
    else
      M_number_J31 w1 (1 : Int32) q
  else
    M_number_J30 w1 q
theorem w_M_number {X : Cv} (C : Cx X cX11_number RX11 rmM_number 4) (S : IsM X) {z : Int32 × St} (hret : RokI X cX11_number .int z.1 z.2) (v1 : Int32) (v2 : Int32) (q : St) (h : M_number q v1 v2 = some z) : At X 0 [(0, .ref (adOf X 0)), (1, .int v1), (2, .int v2)] [] q := by
  unfold M_number at h
  refine a_aload_n C 0 rfl rfl dX11_number_0 ?_
  refine gM_value C S dX11_number_1 ?_
  obtain ⟨w1, e_w1, h⟩ := lts h
  refine a_top e_w1 ?_
  refine a_istore_n C [(3, .int w1), (0, .ref (adOf X 0)), (1, .int v1), (2, .int v2)] rfl (by decide) rfl dX11_number_4 ?_
  refine a_aload_n C 1 rfl rfl dX11_number_5 ?_
  refine a_aload_n C 1 rfl rfl dX11_number_6 ?_
  refine gM_kind C S dX11_number_7 ?_
  refine a_iconst (v := 2) C (by decide) dX11_number_10 ?_
  refine a_icmp_ne C 30 (by decide) dX11_number_11 (fun c2 => ?_) (fun c2 => ?_)
  · replace h := ifn c2 h
    exact At.sub [1, 0] rfl (w_M_number_J30 C S hret _ _ h)
  · replace h := ifp c2 h
    refine a_iload_n C 0 rfl rfl dX11_number_14 ?_
    refine a_i2l C dX11_number_15 ?_
    refine a_iload_n C 2 rfl rfl dX11_number_16 ?_
    refine a_i2l C dX11_number_17 ?_
    refine a_iload_n C 3 rfl rfl dX11_number_18 ?_
    refine a_i2l C dX11_number_19 ?_
    obtain ⟨x4, e_x4, h⟩ := b1s h
    refine k_M_in C S e_x4 ⟨Nat.le_of_ble_eq_true rfl, Nat.le_of_ble_eq_true rfl⟩ (Nat.le_of_ble_eq_true rfl) dX11_number_20 ?_
    refine a_if_eq C 30 (by decide) dX11_number_23 (fun c5 => ?_) (fun c5 => ?_)
    · replace h := ifp c5 h
      exact At.sub [1, 0] rfl (w_M_number_J30 C S hret _ _ h)
    · replace h := ifn c5 h
      refine a_iconst (v := 1) C (by decide) dX11_number_26 ?_
      refine a_goto C 31 (by decide) dX11_number_27 ?_
      exact At.sub [1, 0] rfl (w_M_number_J31 C S hret _ _ _ h)
theorem c_M_number {l : Launch} {D : va_G} {I : ClassId × ClassId × ClassId × ClassId} {ad : Nat → Nat} {q : St} {v1 : Int32} {v2 : Int32} {z : Int32 × St} (h : M_number q v1 v2 = some z) : Ctr l D I zT 18 (shM I) ad yX11_number cX11_number 4 (some .int) rmM_number [.ref (ad 0), .int v1, .int v2] q (some z.1) z.2 :=
  ctr_ofI (by decide) (Nat.le_of_ble_eq_true rfl) (fun p e s m args below meth c Q H0 X hX C hret => by subst hX; exact w_M_number C ⟨rfl, rfl, rfl⟩ hret _ _ _ h)
theorem g_M_number : GoodIn lw_tg (wsV RX11 122 RX11 yX11_number (Cond.code yX11_number cX11_number 4 (some .int) :: lw_tg)) := gd_V (tg 1362 (by decide +kernel) rfl) (tg 1364 (by decide +kernel) rfl) (tg 56 (by decide +kernel) rfl) (tg 128 (by decide +kernel) rfl) (tg 1365 (by decide +kernel) rfl)
theorem k_M_number {X : Cv} {cc : ByteArray} {rm : Room} {nL1 pc : Nat} {lv : List (Nat × Value)} {sk : List Value} {q : St} {v1 : Int32} {v2 : Int32} {z : Int32} {q2 : St} (C : Cx X cc RX11 rm nL1) (S : IsM X) (h : M_number q v1 v2 = some (z, q2)) (hz : rmM_number.frames + 1 ≤ rm.frames ∧ 8 + (4 + 11) + rmM_number.locals ≤ rm.locals) (hr : (sk.map fun v => v.category).sum ≤ 8) (hd : decode cc pc = .ok (.invokevirtual 122, 3)) (k : At X (pc + 3) lv (.int z :: sk) q2) : At X pc lv (.int v2 :: .int v1 :: .ref (adOf X 0) :: sk) q := a_callVi (as := [.int v1, .int v2]) C (kp := 0) (by rw [S.1]; decide) (by rw [S.2.1]; rfl) rfl (by have hh := c_M_number (l := X.2.1) (D := dOf X) (I := idOf X) (ad := adOf X) h; rw [← S.1, ← S.2.1, ← S.2.2] at hh; exact hh) g_M_number ⟨rfl, rfl, hz.1, hz.2⟩ ⟨by decide, by decide, by show Option.map _ (parseMethodDescriptor yX11_number.desc) = some 2; decide⟩ hr rfl hd k
abbrev rmM_numberBehind : Room := { frames := 4, cells := 0, slots := 0, locals := 86 }
def M_numberBehind (q : St) (v1 : Int64) (v3 : Int32) (v4 : Int32) : Option (Int32 × St) :=
  b1 (M_isWord q v1) fun x1 =>
  b1 (M_takes q x1) fun q2 =>
  b2 (M_number q2 v3 v4) fun x3 q4 =>
  some (x3, q4)
theorem w_M_numberBehind {X : Cv} (C : Cx X cX11_numberBehind RX11 rmM_numberBehind 5) (S : IsM X) {z : Int32 × St} (hret : RokI X cX11_numberBehind .int z.1 z.2) (v1 : Int64) (v3 : Int32) (v4 : Int32) (q : St) (h : M_numberBehind q v1 v3 v4 = some z) : At X 0 [(0, .ref (adOf X 0)), (1, .long v1), (3, .int v3), (4, .int v4)] [] q := by
  unfold M_numberBehind at h
  refine a_aload_n C 0 rfl rfl dX11_numberBehind_0 ?_
  refine a_aload_n C 0 rfl rfl dX11_numberBehind_1 ?_
  refine a_lload_n C 1 rfl rfl dX11_numberBehind_2 ?_
  obtain ⟨x1, e_x1, h⟩ := b1s h
  refine k_M_isWord C S e_x1 ⟨Nat.le_of_ble_eq_true rfl, Nat.le_of_ble_eq_true rfl⟩ (Nat.le_of_ble_eq_true rfl) dX11_numberBehind_3 ?_
  obtain ⟨q2, e_q2, h⟩ := b1s h
  refine k_M_takes C S e_q2 ⟨Nat.le_of_ble_eq_true rfl, Nat.le_of_ble_eq_true rfl⟩ (Nat.le_of_ble_eq_true rfl) dX11_numberBehind_6 ?_
  refine a_aload_n C 0 rfl rfl dX11_numberBehind_9 ?_
  refine a_iload_n C 2 rfl rfl dX11_numberBehind_10 ?_
  refine a_iload C 3 rfl dX11_numberBehind_11 ?_
  obtain ⟨x3, q4, e_q4, h⟩ := b2s h
  refine k_M_number C S e_q4 ⟨Nat.le_of_ble_eq_true rfl, Nat.le_of_ble_eq_true rfl⟩ (Nat.le_of_ble_eq_true rfl) dX11_numberBehind_13 ?_
  exact a_iret hret h rfl dX11_numberBehind_16
theorem c_M_numberBehind {l : Launch} {D : va_G} {I : ClassId × ClassId × ClassId × ClassId} {ad : Nat → Nat} {q : St} {v1 : Int64} {v3 : Int32} {v4 : Int32} {z : Int32 × St} (h : M_numberBehind q v1 v3 v4 = some z) : Ctr l D I zT 18 (shM I) ad yX11_numberBehind cX11_numberBehind 5 (some .int) rmM_numberBehind [.ref (ad 0), .long v1, .int v3, .int v4] q (some z.1) z.2 :=
  ctr_ofI (by decide) (Nat.le_of_ble_eq_true rfl) (fun p e s m args below meth c Q H0 X hX C hret => by subst hX; exact w_M_numberBehind C ⟨rfl, rfl, rfl⟩ hret _ _ _ _ h)
theorem g_M_numberBehind : GoodIn lw_tg (wsV RX11 131 RX11 yX11_numberBehind (Cond.code yX11_numberBehind cX11_numberBehind 5 (some .int) :: lw_tg)) := gd_V (tg 1350 (by decide +kernel) rfl) (tg 1352 (by decide +kernel) rfl) (tg 53 (by decide +kernel) rfl) (tg 128 (by decide +kernel) rfl) (tg 1353 (by decide +kernel) rfl)
theorem k_M_numberBehind {X : Cv} {cc : ByteArray} {rm : Room} {nL1 pc : Nat} {lv : List (Nat × Value)} {sk : List Value} {q : St} {v1 : Int64} {v3 : Int32} {v4 : Int32} {z : Int32} {q2 : St} (C : Cx X cc RX11 rm nL1) (S : IsM X) (h : M_numberBehind q v1 v3 v4 = some (z, q2)) (hz : rmM_numberBehind.frames + 1 ≤ rm.frames ∧ 8 + (5 + 11) + rmM_numberBehind.locals ≤ rm.locals) (hr : (sk.map fun v => v.category).sum ≤ 8) (hd : decode cc pc = .ok (.invokevirtual 131, 3)) (k : At X (pc + 3) lv (.int z :: sk) q2) : At X pc lv (.int v4 :: .int v3 :: .long v1 :: .ref (adOf X 0) :: sk) q := a_callVi (as := [.long v1, .int v3, .int v4]) C (kp := 0) (by rw [S.1]; decide) (by rw [S.2.1]; rfl) rfl (by have hh := c_M_numberBehind (l := X.2.1) (D := dOf X) (I := idOf X) (ad := adOf X) h; rw [← S.1, ← S.2.1, ← S.2.2] at hh; exact hh) g_M_numberBehind ⟨rfl, rfl, hz.1, hz.2⟩ ⟨by decide, by decide, by show Option.map _ (parseMethodDescriptor yX11_numberBehind.desc) = some 3; decide⟩ hr rfl hd k
abbrev rmM_isJoined : Room := { frames := 0, cells := 0, slots := 0, locals := 0 }
def M_isJoined_J50 (rec : Int32 → Int32 → Int32 → Option (Int32)) (v1 : Int32) (v2 : Int32) (v3 : Int32) (v4 : Int32) (v5 : Int32) (q : St) : Option (Int32) :=
  if v4 = v2 then
    if v5 = v1 then
      some (1 : Int32)
    else
      rec v1 v2 (v3 + 1)
  else
    rec v1 v2 (v3 + 1)
theorem w_M_isJoined_J50 {X : Cv} (C : Cx X cX11_isJoined RX11 rmM_isJoined 6) (S : IsM X) {q : St} {z : Int32} (hret : RokI X cX11_isJoined .boolean z q) (rec : Int32 → Int32 → Int32 → Option (Int32)) (hrec : ∀ (v1 : Int32) (v2 : Int32) (v3 : Int32), rec v1 v2 v3 = some z → At X 2 [(0, .ref (adOf X 0)), (1, .int v1), (2, .int v2), (3, .int v3)] [] q) (v1 : Int32) (v2 : Int32) (v3 : Int32) (v4 : Int32) (v5 : Int32) (h : M_isJoined_J50 rec v1 v2 v3 v4 v5 q = some z) : At X 50 [(0, .ref (adOf X 0)), (1, .int v1), (2, .int v2), (3, .int v3), (4, .int v4), (5, .int v5)] [] q := by
  unfold M_isJoined_J50 at h
  refine a_iload C 4 rfl dX11_isJoined_50 ?_
  refine a_iload_n C 2 rfl rfl dX11_isJoined_52 ?_
  refine a_icmp_ne C 64 (by decide) dX11_isJoined_53 (fun c6 => ?_) (fun c6 => ?_)
  · replace h := ifn c6 h
    refine a_iinc (v := (v3 + 1)) C [(3, .int (v3 + 1)), (0, .ref (adOf X 0)), (1, .int v1), (2, .int v2), (4, .int v4), (5, .int v5)] 3 rfl (congrArg (HAdd.hAdd v3) (by decide : Int32.ofInt (1) = (1 : Int32))) (by decide) rfl dX11_isJoined_64 ?_
    refine a_goto C 2 (by decide) dX11_isJoined_67 ?_
    exact At.sub [1, 2, 3, 0] rfl (hrec _ _ _ h)
  · replace h := ifp c6 h
    refine a_iload C 5 rfl dX11_isJoined_56 ?_
    refine a_iload_n C 1 rfl rfl dX11_isJoined_58 ?_
    refine a_icmp_ne C 64 (by decide) dX11_isJoined_59 (fun c7 => ?_) (fun c7 => ?_)
    · replace h := ifn c7 h
      refine a_iinc (v := (v3 + 1)) C [(3, .int (v3 + 1)), (0, .ref (adOf X 0)), (1, .int v1), (2, .int v2), (4, .int v4), (5, .int v5)] 3 rfl (congrArg (HAdd.hAdd v3) (by decide : Int32.ofInt (1) = (1 : Int32))) (by decide) rfl dX11_isJoined_64 ?_
      refine a_goto C 2 (by decide) dX11_isJoined_67 ?_
      exact At.sub [1, 2, 3, 0] rfl (hrec _ _ _ h)
    · replace h := ifp c7 h
      refine a_iconst (v := 1) C (by decide) dX11_isJoined_62 ?_
      exact a_iretR hret h rfl dX11_isJoined_63
def M_isJoined_B2 (q : St) (rec : Int32 → Int32 → Int32 → Option (Int32)) (v1 : Int32) (v2 : Int32) (v3 : Int32) : Option (Int32) :=
  b1 (rd 172 q 3 (1 : Int32)) fun x1 =>
  if x1 ≤ v3 then
    some (0 : Int32)
  else
    b1 (rd 172 q 3 ((4 : Int32) + ((4 : Int32) * v3))) fun x3 =>
    b1 (rd 172 q 3 (((4 : Int32) + ((4 : Int32) * v3)) + (1 : Int32))) fun x4 =>
    if x3 = v1 then
      if x4 = v2 then
        some (1 : Int32)
      else
        M_isJoined_J50 rec v1 v2 v3 x3 x4 q
    else
      M_isJoined_J50 rec v1 v2 v3 x3 x4 q
theorem w_M_isJoined_B2 {X : Cv} (C : Cx X cX11_isJoined RX11 rmM_isJoined 6) (S : IsM X) (q : St) {z : Int32} (hret : RokI X cX11_isJoined .boolean z q) (rec : Int32 → Int32 → Int32 → Option (Int32)) (hrec : ∀ (v1 : Int32) (v2 : Int32) (v3 : Int32), rec v1 v2 v3 = some z → At X 2 [(0, .ref (adOf X 0)), (1, .int v1), (2, .int v2), (3, .int v3)] [] q) (v1 : Int32) (v2 : Int32) (v3 : Int32) (h : M_isJoined_B2 q rec v1 v2 v3 = some z) : At X 2 [(0, .ref (adOf X 0)), (1, .int v1), (2, .int v2), (3, .int v3)] [] q := by
  unfold M_isJoined_B2 at h
  refine a_iload_n C 3 rfl rfl dX11_isJoined_2 ?_
  refine a_aload_n C 0 rfl rfl dX11_isJoined_3 ?_
  refine gM_draft C S dX11_isJoined_4 ?_
  refine a_iconst (v := 1) C (by decide) dX11_isJoined_7 ?_
  obtain ⟨x1, e_x1, h⟩ := b1s h
  refine lM_draft C S e_x1 dX11_isJoined_8 ?_
  refine a_icmp_ge C 70 (by decide) dX11_isJoined_9 (fun c2 => ?_) (fun c2 => ?_)
  · replace h := ifp c2 h
    refine a_iconst (v := 0) C (by decide) dX11_isJoined_70 ?_
    exact a_iretR hret h rfl dX11_isJoined_71
  · replace h := ifn c2 h
    refine a_aload_n C 0 rfl rfl dX11_isJoined_12 ?_
    refine gM_draft C S dX11_isJoined_13 ?_
    refine a_iconst (v := 4) C (by decide) dX11_isJoined_16 ?_
    refine a_iconst (v := 4) C (by decide) dX11_isJoined_17 ?_
    refine a_iload_n C 3 rfl rfl dX11_isJoined_18 ?_
    refine a_imul C dX11_isJoined_19 ?_
    refine a_iadd C dX11_isJoined_20 ?_
    obtain ⟨x3, e_x3, h⟩ := b1s h
    refine lM_draft C S e_x3 dX11_isJoined_21 ?_
    refine a_istore C [(4, .int x3), (0, .ref (adOf X 0)), (1, .int v1), (2, .int v2), (3, .int v3)] (by decide) rfl dX11_isJoined_22 ?_
    refine a_aload_n C 1 rfl rfl dX11_isJoined_24 ?_
    refine gM_draft C S dX11_isJoined_25 ?_
    refine a_iconst (v := 4) C (by decide) dX11_isJoined_28 ?_
    refine a_iconst (v := 4) C (by decide) dX11_isJoined_29 ?_
    refine a_iload_n C 4 rfl rfl dX11_isJoined_30 ?_
    refine a_imul C dX11_isJoined_31 ?_
    refine a_iadd C dX11_isJoined_32 ?_
    refine a_iconst (v := 1) C (by decide) dX11_isJoined_33 ?_
    refine a_iadd C dX11_isJoined_34 ?_
    obtain ⟨x4, e_x4, h⟩ := b1s h
    refine lM_draft C S e_x4 dX11_isJoined_35 ?_
    refine a_istore C [(5, .int x4), (4, .int x3), (0, .ref (adOf X 0)), (1, .int v1), (2, .int v2), (3, .int v3)] (by decide) rfl dX11_isJoined_36 ?_
    refine a_iload C 1 rfl dX11_isJoined_38 ?_
    refine a_iload_n C 3 rfl rfl dX11_isJoined_40 ?_
    refine a_icmp_ne C 50 (by decide) dX11_isJoined_41 (fun c5 => ?_) (fun c5 => ?_)
    · replace h := ifn c5 h
      exact At.sub [2, 3, 4, 5, 1, 0] rfl (w_M_isJoined_J50 C S hret _ hrec _ _ _ _ _ h)
    · replace h := ifp c5 h
      refine a_iload C 0 rfl dX11_isJoined_44 ?_
      refine a_iload_n C 4 rfl rfl dX11_isJoined_46 ?_
      refine a_icmp_eq C 62 (by decide) dX11_isJoined_47 (fun c8 => ?_) (fun c8 => ?_)
      · replace h := ifp c8 h
        refine a_iconst (v := 1) C (by decide) dX11_isJoined_62 ?_
        exact a_iretR hret h rfl dX11_isJoined_63
      · replace h := ifn c8 h
        exact At.sub [2, 3, 4, 5, 1, 0] rfl (w_M_isJoined_J50 C S hret _ hrec _ _ _ _ _ h)
def M_isJoined_L2 (q : St) : Nat → Int32 → Int32 → Int32 → Option (Int32)
  | 0, _, _, _ => none
  | n + 1, v1, v2, v3 => M_isJoined_B2 q (M_isJoined_L2 q n) v1 v2 v3
theorem w_M_isJoined_L2 {X : Cv} (C : Cx X cX11_isJoined RX11 rmM_isJoined 6) (S : IsM X) (q : St) {z : Int32} (hret : RokI X cX11_isJoined .boolean z q) (n : Nat) : ∀ (v1 : Int32) (v2 : Int32) (v3 : Int32), M_isJoined_L2 q n v1 v2 v3 = some z → At X 2 [(0, .ref (adOf X 0)), (1, .int v1), (2, .int v2), (3, .int v3)] [] q := by
  induction n with
  | zero => intro v1 v2 v3 h; cases h
  | succ n ih => intro v1 v2 v3 h; exact w_M_isJoined_B2 C S _ hret _ ih v1 v2 v3 h
def M_isJoined (q : St) (v1 : Int32) (v2 : Int32) : Option (Int32) :=
  M_isJoined_L2 q FU v1 v2 (0 : Int32)
theorem w_M_isJoined {X : Cv} (C : Cx X cX11_isJoined RX11 rmM_isJoined 6) (S : IsM X) {q : St} {z : Int32} (hret : RokI X cX11_isJoined .boolean z q) (v1 : Int32) (v2 : Int32) (h : M_isJoined q v1 v2 = some z) : At X 0 [(0, .ref (adOf X 0)), (1, .int v1), (2, .int v2)] [] q := by
  unfold M_isJoined at h
  refine a_iconst (v := 0) C (by decide) dX11_isJoined_0 ?_
  refine a_istore_n C [(3, .int (0 : Int32)), (0, .ref (adOf X 0)), (1, .int v1), (2, .int v2)] rfl (by decide) rfl dX11_isJoined_1 ?_
  exact At.sub [1, 2, 3, 0] rfl (w_M_isJoined_L2 C S _ hret _ _ _ _ h)
theorem c_M_isJoined {l : Launch} {D : va_G} {I : ClassId × ClassId × ClassId × ClassId} {ad : Nat → Nat} {q : St} {v1 : Int32} {v2 : Int32} {z : Int32} (h : M_isJoined q v1 v2 = some z) : Ctr l D I zT 18 (shM I) ad yX11_isJoined cX11_isJoined 6 (some .boolean) rmM_isJoined [.ref (ad 0), .int v1, .int v2] q (some z) q :=
  ctr_ofI (by decide) (Nat.le_of_ble_eq_true rfl) (fun p e s m args below meth c Q H0 X hX C hret => by subst hX; exact w_M_isJoined C ⟨rfl, rfl, rfl⟩ hret _ _ h)
theorem g_M_isJoined : GoodIn lw_tg (wsV RX11 126 RX11 yX11_isJoined (Cond.code yX11_isJoined cX11_isJoined 6 (some .boolean) :: lw_tg)) := gd_V (tg 1371 (by decide +kernel) rfl) (tg 1373 (by decide +kernel) rfl) (tg 58 (by decide +kernel) rfl) (tg 128 (by decide +kernel) rfl) (tg 1374 (by decide +kernel) rfl)
theorem k_M_isJoined {X : Cv} {cc : ByteArray} {rm : Room} {nL1 pc : Nat} {lv : List (Nat × Value)} {sk : List Value} {q : St} {v1 : Int32} {v2 : Int32} {z : Int32} (C : Cx X cc RX11 rm nL1) (S : IsM X) (h : M_isJoined q v1 v2 = some z) (hz : rmM_isJoined.frames + 1 ≤ rm.frames ∧ 8 + (6 + 11) + rmM_isJoined.locals ≤ rm.locals) (hr : (sk.map fun v => v.category).sum ≤ 8) (hd : decode cc pc = .ok (.invokevirtual 126, 3)) (k : At X (pc + 3) lv (.int z :: sk) q) : At X pc lv (.int v2 :: .int v1 :: .ref (adOf X 0) :: sk) q := a_callVi (as := [.int v1, .int v2]) C (kp := 0) (by rw [S.1]; decide) (by rw [S.2.1]; rfl) rfl (by have hh := c_M_isJoined (l := X.2.1) (D := dOf X) (I := idOf X) (ad := adOf X) h; rw [← S.1, ← S.2.1, ← S.2.2] at hh; exact hh) g_M_isJoined ⟨rfl, rfl, hz.1, hz.2⟩ ⟨by decide, by decide, by show Option.map _ (parseMethodDescriptor yX11_isJoined.desc) = some 2; decide⟩ hr rfl hd k
abbrev rmM_readLink : Room := { frames := 5, cells := 0, slots := 0, locals := 110 }
def M_readLink_J129 (v1 : Int32) (v2 : Int32) (v3 : Int32) (v4 : Int32) (v5 : Int32) (z0 : Int32) (q : St) : Option (St) :=
  b1 (M_takes q z0) fun q15 =>
  if (gt q15 0 11) = (0 : Int32) then
    some q15
  else
    b1 (wr 172 q15 3 ((4 : Int32) + ((4 : Int32) * v1)) v2) fun q17 =>
    b1 (wr 172 q17 3 (((4 : Int32) + ((4 : Int32) * v1)) + (1 : Int32)) v3) fun q18 =>
    b1 (wr 172 q18 3 (((4 : Int32) + ((4 : Int32) * v1)) + (2 : Int32)) v4) fun q19 =>
    b1 (wr 172 q19 3 (((4 : Int32) + ((4 : Int32) * v1)) + (3 : Int32)) v5) fun q20 =>
    b1 (rd 172 q20 3 (1 : Int32)) fun x21 =>
    b1 (wr 172 q20 3 (1 : Int32) (x21 + (1 : Int32))) fun q22 =>
    some q22
theorem w_M_readLink_J129 {X : Cv} (C : Cx X cX11_readLink RX11 rmM_readLink 6) (S : IsM X) {z : St} (hret : RokV X cX11_readLink z) (v1 : Int32) (v2 : Int32) (v3 : Int32) (v4 : Int32) (v5 : Int32) (z0 : Int32) (q : St) (h : M_readLink_J129 v1 v2 v3 v4 v5 z0 q = some z) : At X 129 [(0, .ref (adOf X 0)), (1, .int v1), (2, .int v2), (3, .int v3), (4, .int v4), (5, .int v5)] [.int z0, .ref (adOf X 0)] q := by
  unfold M_readLink_J129 at h
  obtain ⟨q15, e_q15, h⟩ := b1s h
  refine k_M_takes C S e_q15 ⟨Nat.le_of_ble_eq_true rfl, Nat.le_of_ble_eq_true rfl⟩ (Nat.le_of_ble_eq_true rfl) dX11_readLink_129 ?_
  refine a_aload_n C 0 rfl rfl dX11_readLink_132 ?_
  refine gM_fine C S dX11_readLink_133 ?_
  refine a_if_eq C 201 (by decide) dX11_readLink_136 (fun c16 => ?_) (fun c16 => ?_)
  · replace h := ifp c16 h
    exact a_vret hret h dX11_readLink_201
  · replace h := ifn c16 h
    refine a_aload_n C 0 rfl rfl dX11_readLink_139 ?_
    refine gM_draft C S dX11_readLink_140 ?_
    refine a_iconst (v := 4) C (by decide) dX11_readLink_143 ?_
    refine a_iconst (v := 4) C (by decide) dX11_readLink_144 ?_
    refine a_iload_n C 1 rfl rfl dX11_readLink_145 ?_
    refine a_imul C dX11_readLink_146 ?_
    refine a_iadd C dX11_readLink_147 ?_
    refine a_iload_n C 2 rfl rfl dX11_readLink_148 ?_
    obtain ⟨q17, e_q17, h⟩ := b1s h
    refine sM_draft C S e_q17 dX11_readLink_149 ?_
    refine a_aload_n C 0 rfl rfl dX11_readLink_150 ?_
    refine gM_draft C S dX11_readLink_151 ?_
    refine a_iconst (v := 4) C (by decide) dX11_readLink_154 ?_
    refine a_iconst (v := 4) C (by decide) dX11_readLink_155 ?_
    refine a_iload_n C 1 rfl rfl dX11_readLink_156 ?_
    refine a_imul C dX11_readLink_157 ?_
    refine a_iadd C dX11_readLink_158 ?_
    refine a_iconst (v := 1) C (by decide) dX11_readLink_159 ?_
    refine a_iadd C dX11_readLink_160 ?_
    refine a_iload_n C 3 rfl rfl dX11_readLink_161 ?_
    obtain ⟨q18, e_q18, h⟩ := b1s h
    refine sM_draft C S e_q18 dX11_readLink_162 ?_
    refine a_aload_n C 0 rfl rfl dX11_readLink_163 ?_
    refine gM_draft C S dX11_readLink_164 ?_
    refine a_iconst (v := 4) C (by decide) dX11_readLink_167 ?_
    refine a_iconst (v := 4) C (by decide) dX11_readLink_168 ?_
    refine a_iload_n C 1 rfl rfl dX11_readLink_169 ?_
    refine a_imul C dX11_readLink_170 ?_
    refine a_iadd C dX11_readLink_171 ?_
    refine a_iconst (v := 2) C (by decide) dX11_readLink_172 ?_
    refine a_iadd C dX11_readLink_173 ?_
    refine a_iload C 4 rfl dX11_readLink_174 ?_
    obtain ⟨q19, e_q19, h⟩ := b1s h
    refine sM_draft C S e_q19 dX11_readLink_176 ?_
    refine a_aload_n C 0 rfl rfl dX11_readLink_177 ?_
    refine gM_draft C S dX11_readLink_178 ?_
    refine a_iconst (v := 4) C (by decide) dX11_readLink_181 ?_
    refine a_iconst (v := 4) C (by decide) dX11_readLink_182 ?_
    refine a_iload_n C 1 rfl rfl dX11_readLink_183 ?_
    refine a_imul C dX11_readLink_184 ?_
    refine a_iadd C dX11_readLink_185 ?_
    refine a_iconst (v := 3) C (by decide) dX11_readLink_186 ?_
    refine a_iadd C dX11_readLink_187 ?_
    refine a_iload C 5 rfl dX11_readLink_188 ?_
    obtain ⟨q20, e_q20, h⟩ := b1s h
    refine sM_draft C S e_q20 dX11_readLink_190 ?_
    refine a_aload_n C 0 rfl rfl dX11_readLink_191 ?_
    refine gM_draft C S dX11_readLink_192 ?_
    refine a_iconst (v := 1) C (by decide) dX11_readLink_195 ?_
    refine a_dup2 C rfl rfl dX11_readLink_196 ?_
    obtain ⟨x21, e_x21, h⟩ := b1s h
    refine lM_draft C S e_x21 dX11_readLink_197 ?_
    refine a_iconst (v := 1) C (by decide) dX11_readLink_198 ?_
    refine a_iadd C dX11_readLink_199 ?_
    obtain ⟨q22, e_q22, h⟩ := b1s h
    refine sM_draft C S e_q22 dX11_readLink_200 ?_
    exact a_vret hret h dX11_readLink_201
def M_readLink_J87 (v1 : Int32) (v2 : Int32) (v3 : Int32) (z0 : Int32) (q : St) : Option (St) :=
  b1 (M_takes q z0) fun q9 =>
  b2 (M_numberBehind q9 (104690984601 : Int64) (0 : Int32) (9999 : Int32)) fun x10 q11 =>
  b2 (M_numberBehind q11 (4370489 : Int64) (1 : Int32) (99 : Int32)) fun x12 q13 =>
  if (gt q13 0 8) = (3 : Int32) then
    M_readLink_J129 v1 v2 v3 x10 x12 (1 : Int32) q13
  else
    M_readLink_J129 v1 v2 v3 x10 x12 (0 : Int32) q13
theorem w_M_readLink_J87 {X : Cv} (C : Cx X cX11_readLink RX11 rmM_readLink 6) (S : IsM X) {z : St} (hret : RokV X cX11_readLink z) (v1 : Int32) (v2 : Int32) (v3 : Int32) (z0 : Int32) (q : St) (h : M_readLink_J87 v1 v2 v3 z0 q = some z) : At X 87 [(0, .ref (adOf X 0)), (1, .int v1), (2, .int v2), (3, .int v3)] [.int z0, .ref (adOf X 0)] q := by
  unfold M_readLink_J87 at h
  obtain ⟨q9, e_q9, h⟩ := b1s h
  refine k_M_takes C S e_q9 ⟨Nat.le_of_ble_eq_true rfl, Nat.le_of_ble_eq_true rfl⟩ (Nat.le_of_ble_eq_true rfl) dX11_readLink_87 ?_
  refine a_aload_n C 0 rfl rfl dX11_readLink_90 ?_
  refine a_ldc2 (v := 104690984601) C (tg 1375 (by decide +kernel) rfl) dX11_readLink_91 ?_
  refine a_iconst (v := 0) C (by decide) dX11_readLink_94 ?_
  refine a_sipush (v := 9999) C (by decide) dX11_readLink_95 ?_
  obtain ⟨x10, q11, e_q11, h⟩ := b2s h
  refine k_M_numberBehind C S e_q11 ⟨Nat.le_of_ble_eq_true rfl, Nat.le_of_ble_eq_true rfl⟩ (Nat.le_of_ble_eq_true rfl) dX11_readLink_98 ?_
  refine a_istore C [(4, .int x10), (0, .ref (adOf X 0)), (1, .int v1), (2, .int v2), (3, .int v3)] (by decide) rfl dX11_readLink_101 ?_
  refine a_aload_n C 1 rfl rfl dX11_readLink_103 ?_
  refine a_ldc2 (v := 4370489) C (tg 1376 (by decide +kernel) rfl) dX11_readLink_104 ?_
  refine a_iconst (v := 1) C (by decide) dX11_readLink_107 ?_
  refine a_bipush (v := 99) C (by decide) dX11_readLink_108 ?_
  obtain ⟨x12, q13, e_q13, h⟩ := b2s h
  refine k_M_numberBehind C S e_q13 ⟨Nat.le_of_ble_eq_true rfl, Nat.le_of_ble_eq_true rfl⟩ (Nat.le_of_ble_eq_true rfl) dX11_readLink_110 ?_
  refine a_istore C [(5, .int x12), (4, .int x10), (0, .ref (adOf X 0)), (1, .int v1), (2, .int v2), (3, .int v3)] (by decide) rfl dX11_readLink_113 ?_
  refine a_aload_n C 2 rfl rfl dX11_readLink_115 ?_
  refine a_aload_n C 2 rfl rfl dX11_readLink_116 ?_
  refine gM_kind C S dX11_readLink_117 ?_
  refine a_iconst (v := 3) C (by decide) dX11_readLink_120 ?_
  refine a_icmp_ne C 128 (by decide) dX11_readLink_121 (fun c14 => ?_) (fun c14 => ?_)
  · replace h := ifn c14 h
    refine a_iconst (v := 0) C (by decide) dX11_readLink_128 ?_
    exact At.sub [2, 3, 4, 5, 1, 0] rfl (w_M_readLink_J129 C S hret _ _ _ _ _ _ _ h)
  · replace h := ifp c14 h
    refine a_iconst (v := 1) C (by decide) dX11_readLink_124 ?_
    refine a_goto C 129 (by decide) dX11_readLink_125 ?_
    exact At.sub [2, 3, 4, 5, 1, 0] rfl (w_M_readLink_J129 C S hret _ _ _ _ _ _ _ h)
def M_readLink_J86 (v1 : Int32) (v2 : Int32) (v3 : Int32) (q : St) : Option (St) :=
  M_readLink_J87 v1 v2 v3 (0 : Int32) q
theorem w_M_readLink_J86 {X : Cv} (C : Cx X cX11_readLink RX11 rmM_readLink 6) (S : IsM X) {z : St} (hret : RokV X cX11_readLink z) (v1 : Int32) (v2 : Int32) (v3 : Int32) (q : St) (h : M_readLink_J86 v1 v2 v3 q = some z) : At X 86 [(0, .ref (adOf X 0)), (1, .int v1), (2, .int v2), (3, .int v3)] [.ref (adOf X 0)] q := by
  unfold M_readLink_J86 at h
  refine a_iconst (v := 0) C (by decide) dX11_readLink_86 ?_
  exact At.sub [0, 1, 2, 3] rfl (w_M_readLink_J87 C S hret _ _ _ _ _ h)
def M_readLink_J19 (v1 : Int32) (z0 : Int32) (q : St) : Option (St) :=
  b1 (M_takes q z0) fun q3 =>
  b1 (rd 172 q3 3 (0 : Int32)) fun x4 =>
  b2 (M_number q3 (0 : Int32) (x4 - (1 : Int32))) fun x5 q6 =>
  lt_ (gt q6 0 9) fun w7 =>
  if (gt q6 0 8) = (2 : Int32) then
    b1 (rd 172 q6 3 (0 : Int32)) fun x23 =>
    b1 (M_in q6 w7.toInt64 (0 : Int64) ((x23 - (1 : Int32))).toInt64) fun x24 =>
    if x24 = (0 : Int32) then
      M_readLink_J86 v1 x5 w7 q6
    else
      if x5 = w7 then
        M_readLink_J86 v1 x5 w7 q6
      else
        b1 (M_isJoined q6 x5 w7) fun x27 =>
        if x27 = (0 : Int32) then
          M_readLink_J87 v1 x5 w7 (1 : Int32) q6
        else
          M_readLink_J86 v1 x5 w7 q6
  else
    M_readLink_J86 v1 x5 w7 q6
theorem w_M_readLink_J19 {X : Cv} (C : Cx X cX11_readLink RX11 rmM_readLink 6) (S : IsM X) {z : St} (hret : RokV X cX11_readLink z) (v1 : Int32) (z0 : Int32) (q : St) (h : M_readLink_J19 v1 z0 q = some z) : At X 19 [(0, .ref (adOf X 0)), (1, .int v1)] [.int z0, .ref (adOf X 0)] q := by
  unfold M_readLink_J19 at h
  obtain ⟨q3, e_q3, h⟩ := b1s h
  refine k_M_takes C S e_q3 ⟨Nat.le_of_ble_eq_true rfl, Nat.le_of_ble_eq_true rfl⟩ (Nat.le_of_ble_eq_true rfl) dX11_readLink_19 ?_
  refine a_aload_n C 0 rfl rfl dX11_readLink_22 ?_
  refine a_iconst (v := 0) C (by decide) dX11_readLink_23 ?_
  refine a_aload_n C 0 rfl rfl dX11_readLink_24 ?_
  refine gM_draft C S dX11_readLink_25 ?_
  refine a_iconst (v := 0) C (by decide) dX11_readLink_28 ?_
  obtain ⟨x4, e_x4, h⟩ := b1s h
  refine lM_draft C S e_x4 dX11_readLink_29 ?_
  refine a_iconst (v := 1) C (by decide) dX11_readLink_30 ?_
  refine a_isub C dX11_readLink_31 ?_
  obtain ⟨x5, q6, e_q6, h⟩ := b2s h
  refine k_M_number C S e_q6 ⟨Nat.le_of_ble_eq_true rfl, Nat.le_of_ble_eq_true rfl⟩ (Nat.le_of_ble_eq_true rfl) dX11_readLink_32 ?_
  refine a_istore_n C [(2, .int x5), (0, .ref (adOf X 0)), (1, .int v1)] rfl (by decide) rfl dX11_readLink_35 ?_
  refine a_aload_n C 1 rfl rfl dX11_readLink_36 ?_
  refine gM_value C S dX11_readLink_37 ?_
  obtain ⟨w7, e_w7, h⟩ := lts h
  refine a_top e_w7 ?_
  refine a_istore_n C [(3, .int w7), (2, .int x5), (0, .ref (adOf X 0)), (1, .int v1)] rfl (by decide) rfl dX11_readLink_40 ?_
  refine a_aload_n C 2 rfl rfl dX11_readLink_41 ?_
  refine a_aload_n C 2 rfl rfl dX11_readLink_42 ?_
  refine gM_kind C S dX11_readLink_43 ?_
  refine a_iconst (v := 2) C (by decide) dX11_readLink_46 ?_
  refine a_icmp_ne C 86 (by decide) dX11_readLink_47 (fun c8 => ?_) (fun c8 => ?_)
  · replace h := ifn c8 h
    exact At.sub [2, 3, 1, 0] rfl (w_M_readLink_J86 C S hret _ _ _ _ h)
  · replace h := ifp c8 h
    refine a_iload_n C 0 rfl rfl dX11_readLink_50 ?_
    refine a_i2l C dX11_readLink_51 ?_
    refine a_lconst (v := 0) C (by decide) dX11_readLink_52 ?_
    refine a_aload_n C 2 rfl rfl dX11_readLink_53 ?_
    refine gM_draft C S dX11_readLink_54 ?_
    refine a_iconst (v := 0) C (by decide) dX11_readLink_57 ?_
    obtain ⟨x23, e_x23, h⟩ := b1s h
    refine lM_draft C S e_x23 dX11_readLink_58 ?_
    refine a_iconst (v := 1) C (by decide) dX11_readLink_59 ?_
    refine a_isub C dX11_readLink_60 ?_
    refine a_i2l C dX11_readLink_61 ?_
    obtain ⟨x24, e_x24, h⟩ := b1s h
    refine k_M_in C S e_x24 ⟨Nat.le_of_ble_eq_true rfl, Nat.le_of_ble_eq_true rfl⟩ (Nat.le_of_ble_eq_true rfl) dX11_readLink_62 ?_
    refine a_if_eq C 86 (by decide) dX11_readLink_65 (fun c25 => ?_) (fun c25 => ?_)
    · replace h := ifp c25 h
      exact At.sub [2, 3, 1, 0] rfl (w_M_readLink_J86 C S hret _ _ _ _ h)
    · replace h := ifn c25 h
      refine a_iload_n C 1 rfl rfl dX11_readLink_68 ?_
      refine a_iload_n C 0 rfl rfl dX11_readLink_69 ?_
      refine a_icmp_eq C 86 (by decide) dX11_readLink_70 (fun c26 => ?_) (fun c26 => ?_)
      · replace h := ifp c26 h
        exact At.sub [2, 3, 1, 0] rfl (w_M_readLink_J86 C S hret _ _ _ _ h)
      · replace h := ifn c26 h
        refine a_aload_n C 2 rfl rfl dX11_readLink_73 ?_
        refine a_iload_n C 1 rfl rfl dX11_readLink_74 ?_
        refine a_iload_n C 0 rfl rfl dX11_readLink_75 ?_
        obtain ⟨x27, e_x27, h⟩ := b1s h
        refine k_M_isJoined C S e_x27 ⟨Nat.le_of_ble_eq_true rfl, Nat.le_of_ble_eq_true rfl⟩ (Nat.le_of_ble_eq_true rfl) dX11_readLink_76 ?_
        refine a_if_ne C 86 (by decide) dX11_readLink_79 (fun c28 => ?_) (fun c28 => ?_)
        · replace h := ifn c28 h
          exact At.sub [2, 3, 1, 0] rfl (w_M_readLink_J86 C S hret _ _ _ _ h)
        · replace h := ifp c28 h
          refine a_iconst (v := 1) C (by decide) dX11_readLink_82 ?_
          refine a_goto C 87 (by decide) dX11_readLink_83 ?_
          exact At.sub [2, 3, 1, 0] rfl (w_M_readLink_J87 C S hret _ _ _ _ _ h)
def M_readLink (q : St) : Option (St) :=
  b1 (rd 172 q 3 (1 : Int32)) fun x1 =>
  if (32 : Int32) ≤ x1 then
    M_readLink_J19 x1 (0 : Int32) q
  else
    M_readLink_J19 x1 (1 : Int32) q
theorem w_M_readLink {X : Cv} (C : Cx X cX11_readLink RX11 rmM_readLink 6) (S : IsM X) {z : St} (hret : RokV X cX11_readLink z) (q : St) (h : M_readLink q = some z) : At X 0 [(0, .ref (adOf X 0))] [] q := by
  unfold M_readLink at h
  refine a_aload_n C 0 rfl rfl dX11_readLink_0 ?_
  refine gM_draft C S dX11_readLink_1 ?_
  refine a_iconst (v := 1) C (by decide) dX11_readLink_4 ?_
  obtain ⟨x1, e_x1, h⟩ := b1s h
  refine lM_draft C S e_x1 dX11_readLink_5 ?_
  refine a_istore_n C [(1, .int x1), (0, .ref (adOf X 0))] rfl (by decide) rfl dX11_readLink_6 ?_
  refine a_aload_n C 1 rfl rfl dX11_readLink_7 ?_
  refine a_iload_n C 0 rfl rfl dX11_readLink_8 ?_
  refine a_bipush (v := 32) C (by decide) dX11_readLink_9 ?_
  refine a_icmp_ge C 18 (by decide) dX11_readLink_11 (fun c2 => ?_) (fun c2 => ?_)
  · replace h := ifp c2 h
    refine a_iconst (v := 0) C (by decide) dX11_readLink_18 ?_
    exact At.sub [1, 0] rfl (w_M_readLink_J19 C S hret _ _ _ h)
  · replace h := ifn c2 h
    refine a_iconst (v := 1) C (by decide) dX11_readLink_14 ?_
    refine a_goto C 19 (by decide) dX11_readLink_15 ?_
    exact At.sub [1, 0] rfl (w_M_readLink_J19 C S hret _ _ _ h)
theorem c_M_readLink {l : Launch} {D : va_G} {I : ClassId × ClassId × ClassId × ClassId} {ad : Nat → Nat} {q : St} {z : St} (h : M_readLink q = some z) : Ctr l D I zT 18 (shM I) ad yX11_readLink cX11_readLink 6 none rmM_readLink [.ref (ad 0)] q none z :=
  ctr_ofV (by decide) (Nat.le_of_ble_eq_true rfl) (fun p e s m args below meth c Q H0 X hX C hret => by subst hX; exact w_M_readLink C ⟨rfl, rfl, rfl⟩ hret _ h)
theorem g_M_readLink : GoodIn lw_tg (wsV RX11 147 RX11 yX11_readLink (Cond.code yX11_readLink cX11_readLink 6 none :: lw_tg)) := gd_V (tg 1367 (by decide +kernel) rfl) (tg 1369 (by decide +kernel) rfl) (tg 57 (by decide +kernel) rfl) (tg 128 (by decide +kernel) rfl) (tg 1370 (by decide +kernel) rfl)
theorem k_M_readLink {X : Cv} {cc : ByteArray} {rm : Room} {nL1 pc : Nat} {lv : List (Nat × Value)} {sk : List Value} {q : St} {q2 : St} (C : Cx X cc RX11 rm nL1) (S : IsM X) (h : M_readLink q = some q2) (hz : rmM_readLink.frames + 1 ≤ rm.frames ∧ 8 + (6 + 11) + rmM_readLink.locals ≤ rm.locals) (hr : (sk.map fun v => v.category).sum ≤ 8) (hd : decode cc pc = .ok (.invokevirtual 147, 3)) (k : At X (pc + 3) lv sk q2) : At X pc lv (.ref (adOf X 0) :: sk) q := a_callVv (as := []) C (kp := 0) (by rw [S.1]; decide) (by rw [S.2.1]; rfl) rfl (by have hh := c_M_readLink (l := X.2.1) (D := dOf X) (I := idOf X) (ad := adOf X) h; rw [← S.1, ← S.2.1, ← S.2.2] at hh; exact hh) g_M_readLink ⟨rfl, rfl, hz.1, hz.2⟩ ⟨by decide, by decide, by show Option.map _ (parseMethodDescriptor yX11_readLink.desc) = some 0; decide⟩ hr rfl hd k
