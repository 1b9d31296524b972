abbrev rmM_errorPosition : Room := { frames := 0, cells := 0, slots := 0, locals := 0 }
def M_errorPosition (q : St) : Option (Int32) :=
  some (gt q 0 2)
theorem w_M_errorPosition {X : Cv} (C : Cx X cX11_errorPosition RX11 rmM_errorPosition 1) (S : IsM X) {q : St} {z : Int32} (hret : RokI X cX11_errorPosition .int z q) (h : M_errorPosition q = some z) : At X 0 [(0, .ref (adOf X 0))] [] q := by
  unfold M_errorPosition at h
  refine a_aload_n C 0 rfl rfl dX11_errorPosition_0 ?_
  refine gM_errorAt C S dX11_errorPosition_1 ?_
  exact a_iretR hret h rfl dX11_errorPosition_4
theorem c_M_errorPosition {l : Launch} {D : va_G} {I : ClassId × ClassId × ClassId × ClassId} {ad : Nat → Nat} {q : St} {z : Int32} (h : M_errorPosition q = some z) : Ctr l D I zT 18 (shM I) ad yX11_errorPosition cX11_errorPosition 1 (some .int) rmM_errorPosition [.ref (ad 0)] q (some z) q :=
  ctr_ofI (by decide) (Nat.le_of_ble_eq_true rfl) (fun p e s m args below meth c Q H0 X hX C hret => by subst hX; exact w_M_errorPosition C ⟨rfl, rfl, rfl⟩ hret h)
abbrev rmM_isNode : Room := { frames := 1, cells := 0, slots := 0, locals := 25 }
def M_isNode (q : St) (v1 : Int32) : Option (Int32) :=
  b1 (rd 172 q 2 (0 : Int32)) fun x1 =>
  b1 (M_in q v1.toInt64 (0 : Int64) ((x1 - (1 : Int32))).toInt64) fun x2 =>
  bz x2 <|
  some x2
theorem w_M_isNode {X : Cv} (C : Cx X cX11_isNode RX11 rmM_isNode 2) (S : IsM X) {q : St} {z : Int32} (hret : RokI X cX11_isNode .boolean z q) (v1 : Int32) (h : M_isNode q v1 = some z) : At X 0 [(0, .ref (adOf X 0)), (1, .int v1)] [] q := by
  unfold M_isNode at h
  refine a_iload_n C 1 rfl rfl dX11_isNode_0 ?_
  refine a_i2l C dX11_isNode_1 ?_
  refine a_lconst (v := 0) C (by decide) dX11_isNode_2 ?_
  refine a_aload_n C 0 rfl rfl dX11_isNode_3 ?_
  refine gM_setup C S dX11_isNode_4 ?_
  refine a_iconst (v := 0) C (by decide) dX11_isNode_7 ?_
  obtain ⟨x1, e_x1, h⟩ := b1s h
  refine lM_setup C S e_x1 dX11_isNode_8 ?_
  refine a_iconst (v := 1) C (by decide) dX11_isNode_9 ?_
  refine a_isub C dX11_isNode_10 ?_
  refine a_i2l C dX11_isNode_11 ?_
  obtain ⟨x2, e_x2, h⟩ := b1s h
  refine k_M_in C S e_x2 ⟨Nat.le_of_ble_eq_true rfl, Nat.le_of_ble_eq_true rfl⟩ (Nat.le_of_ble_eq_true rfl) dX11_isNode_12 ?_
  obtain ⟨n3, h⟩ := bzs h
  exact a_iretR hret h n3 dX11_isNode_15
theorem c_M_isNode {l : Launch} {D : va_G} {I : ClassId × ClassId × ClassId × ClassId} {ad : Nat → Nat} {q : St} {v1 : Int32} {z : Int32} (h : M_isNode q v1 = some z) : Ctr l D I zT 18 (shM I) ad yX11_isNode cX11_isNode 2 (some .boolean) rmM_isNode [.ref (ad 0), .int v1] q (some z) q :=
  ctr_ofI (by decide) (Nat.le_of_ble_eq_true rfl) (fun p e s m args below meth c Q H0 X hX C hret => by subst hX; exact w_M_isNode C ⟨rfl, rfl, rfl⟩ hret _ h)
theorem g_M_isNode : GoodIn lw_tg (wsV RX11 266 RX11 yX11_isNode (Cond.code yX11_isNode cX11_isNode 2 (some .boolean) :: lw_tg)) := gd_V (tg 1406 (by decide +kernel) rfl) (tg 1408 (by decide +kernel) rfl) (tg 62 (by decide +kernel) rfl) (tg 128 (by decide +kernel) rfl) (tg 1409 (by decide +kernel) rfl)
theorem k_M_isNode {X : Cv} {cc : ByteArray} {rm : Room} {nL1 pc : Nat} {lv : List (Nat × Value)} {sk : List Value} {q : St} {v1 : Int32} {z : Int32} (C : Cx X cc RX11 rm nL1) (S : IsM X) (h : M_isNode q v1 = some z) (hz : rmM_isNode.frames + 1 ≤ rm.frames ∧ 8 + (2 + 11) + rmM_isNode.locals ≤ rm.locals) (hr : (sk.map fun v => v.category).sum ≤ 8) (hd : decode cc pc = .ok (.invokevirtual 266, 3)) (k : At X (pc + 3) lv (.int z :: sk) q) : At X pc lv (.int v1 :: .ref (adOf X 0) :: sk) q := a_callVi (as := [.int v1]) C (kp := 0) (by rw [S.1]; decide) (by rw [S.2.1]; rfl) rfl (by have hh := c_M_isNode (l := X.2.1) (D := dOf X) (I := idOf X) (ad := adOf X) h; rw [← S.1, ← S.2.1, ← S.2.2] at hh; exact hh) g_M_isNode ⟨rfl, rfl, hz.1, hz.2⟩ ⟨by decide, by decide, by show Option.map _ (parseMethodDescriptor yX11_isNode.desc) = some 1; decide⟩ hr rfl hd k
abbrev rmM_isLink : Room := { frames := 1, cells := 0, slots := 0, locals := 25 }
def M_isLink (q : St) (v1 : Int32) : Option (Int32) :=
  b1 (rd 172 q 2 (1 : Int32)) fun x1 =>
  b1 (M_in q v1.toInt64 (0 : Int64) ((x1 - (1 : Int32))).toInt64) fun x2 =>
  bz x2 <|
  some x2
theorem w_M_isLink {X : Cv} (C : Cx X cX11_isLink RX11 rmM_isLink 2) (S : IsM X) {q : St} {z : Int32} (hret : RokI X cX11_isLink .boolean z q) (v1 : Int32) (h : M_isLink q v1 = some z) : At X 0 [(0, .ref (adOf X 0)), (1, .int v1)] [] q := by
  unfold M_isLink at h
  refine a_iload_n C 1 rfl rfl dX11_isLink_0 ?_
  refine a_i2l C dX11_isLink_1 ?_
  refine a_lconst (v := 0) C (by decide) dX11_isLink_2 ?_
  refine a_aload_n C 0 rfl rfl dX11_isLink_3 ?_
  refine gM_setup C S dX11_isLink_4 ?_
  refine a_iconst (v := 1) C (by decide) dX11_isLink_7 ?_
  obtain ⟨x1, e_x1, h⟩ := b1s h
  refine lM_setup C S e_x1 dX11_isLink_8 ?_
  refine a_iconst (v := 1) C (by decide) dX11_isLink_9 ?_
  refine a_isub C dX11_isLink_10 ?_
  refine a_i2l C dX11_isLink_11 ?_
  obtain ⟨x2, e_x2, h⟩ := b1s h
  refine k_M_in C S e_x2 ⟨Nat.le_of_ble_eq_true rfl, Nat.le_of_ble_eq_true rfl⟩ (Nat.le_of_ble_eq_true rfl) dX11_isLink_12 ?_
  obtain ⟨n3, h⟩ := bzs h
  exact a_iretR hret h n3 dX11_isLink_15
theorem c_M_isLink {l : Launch} {D : va_G} {I : ClassId × ClassId × ClassId × ClassId} {ad : Nat → Nat} {q : St} {v1 : Int32} {z : Int32} (h : M_isLink q v1 = some z) : Ctr l D I zT 18 (shM I) ad yX11_isLink cX11_isLink 2 (some .boolean) rmM_isLink [.ref (ad 0), .int v1] q (some z) q :=
  ctr_ofI (by decide) (Nat.le_of_ble_eq_true rfl) (fun p e s m args below meth c Q H0 X hX C hret => by subst hX; exact w_M_isLink C ⟨rfl, rfl, rfl⟩ hret _ h)
theorem g_M_isLink : GoodIn lw_tg (wsV RX11 303 RX11 yX11_isLink (Cond.code yX11_isLink cX11_isLink 2 (some .boolean) :: lw_tg)) := gd_V (tg 1586 (by decide +kernel) rfl) (tg 1588 (by decide +kernel) rfl) (tg 100 (by decide +kernel) rfl) (tg 128 (by decide +kernel) rfl) (tg 1589 (by decide +kernel) rfl)
theorem k_M_isLink {X : Cv} {cc : ByteArray} {rm : Room} {nL1 pc : Nat} {lv : List (Nat × Value)} {sk : List Value} {q : St} {v1 : Int32} {z : Int32} (C : Cx X cc RX11 rm nL1) (S : IsM X) (h : M_isLink q v1 = some z) (hz : rmM_isLink.frames + 1 ≤ rm.frames ∧ 8 + (2 + 11) + rmM_isLink.locals ≤ rm.locals) (hr : (sk.map fun v => v.category).sum ≤ 8) (hd : decode cc pc = .ok (.invokevirtual 303, 3)) (k : At X (pc + 3) lv (.int z :: sk) q) : At X pc lv (.int v1 :: .ref (adOf X 0) :: sk) q := a_callVi (as := [.int v1]) C (kp := 0) (by rw [S.1]; decide) (by rw [S.2.1]; rfl) rfl (by have hh := c_M_isLink (l := X.2.1) (D := dOf X) (I := idOf X) (ad := adOf X) h; rw [← S.1, ← S.2.1, ← S.2.2] at hh; exact hh) g_M_isLink ⟨rfl, rfl, hz.1, hz.2⟩ ⟨by decide, by decide, by show Option.map _ (parseMethodDescriptor yX11_isLink.desc) = some 1; decide⟩ hr rfl hd k
abbrev rmM_isFormat : Room := { frames := 1, cells := 0, slots := 0, locals := 25 }
def M_isFormat (q : St) (v1 : Int32) : Option (Int32) :=
  b1 (rd 172 q 2 (2 : Int32)) fun x1 =>
  b1 (M_in q v1.toInt64 (0 : Int64) ((x1 - (1 : Int32))).toInt64) fun x2 =>
  bz x2 <|
  some x2
theorem w_M_isFormat {X : Cv} (C : Cx X cX11_isFormat RX11 rmM_isFormat 2) (S : IsM X) {q : St} {z : Int32} (hret : RokI X cX11_isFormat .boolean z q) (v1 : Int32) (h : M_isFormat q v1 = some z) : At X 0 [(0, .ref (adOf X 0)), (1, .int v1)] [] q := by
  unfold M_isFormat at h
  refine a_iload_n C 1 rfl rfl dX11_isFormat_0 ?_
  refine a_i2l C dX11_isFormat_1 ?_
  refine a_lconst (v := 0) C (by decide) dX11_isFormat_2 ?_
  refine a_aload_n C 0 rfl rfl dX11_isFormat_3 ?_
  refine gM_setup C S dX11_isFormat_4 ?_
  refine a_iconst (v := 2) C (by decide) dX11_isFormat_7 ?_
  obtain ⟨x1, e_x1, h⟩ := b1s h
  refine lM_setup C S e_x1 dX11_isFormat_8 ?_
  refine a_iconst (v := 1) C (by decide) dX11_isFormat_9 ?_
  refine a_isub C dX11_isFormat_10 ?_
  refine a_i2l C dX11_isFormat_11 ?_
  obtain ⟨x2, e_x2, h⟩ := b1s h
  refine k_M_in C S e_x2 ⟨Nat.le_of_ble_eq_true rfl, Nat.le_of_ble_eq_true rfl⟩ (Nat.le_of_ble_eq_true rfl) dX11_isFormat_12 ?_
  obtain ⟨n3, h⟩ := bzs h
  exact a_iretR hret h n3 dX11_isFormat_15
theorem c_M_isFormat {l : Launch} {D : va_G} {I : ClassId × ClassId × ClassId × ClassId} {ad : Nat → Nat} {q : St} {v1 : Int32} {z : Int32} (h : M_isFormat q v1 = some z) : Ctr l D I zT 18 (shM I) ad yX11_isFormat cX11_isFormat 2 (some .boolean) rmM_isFormat [.ref (ad 0), .int v1] q (some z) q :=
  ctr_ofI (by decide) (Nat.le_of_ble_eq_true rfl) (fun p e s m args below meth c Q H0 X hX C hret => by subst hX; exact w_M_isFormat C ⟨rfl, rfl, rfl⟩ hret _ h)
theorem g_M_isFormat : GoodIn lw_tg (wsV RX11 269 RX11 yX11_isFormat (Cond.code yX11_isFormat cX11_isFormat 2 (some .boolean) :: lw_tg)) := gd_V (tg 1410 (by decide +kernel) rfl) (tg 1412 (by decide +kernel) rfl) (tg 63 (by decide +kernel) rfl) (tg 128 (by decide +kernel) rfl) (tg 1413 (by decide +kernel) rfl)
theorem k_M_isFormat {X : Cv} {cc : ByteArray} {rm : Room} {nL1 pc : Nat} {lv : List (Nat × Value)} {sk : List Value} {q : St} {v1 : Int32} {z : Int32} (C : Cx X cc RX11 rm nL1) (S : IsM X) (h : M_isFormat q v1 = some z) (hz : rmM_isFormat.frames + 1 ≤ rm.frames ∧ 8 + (2 + 11) + rmM_isFormat.locals ≤ rm.locals) (hr : (sk.map fun v => v.category).sum ≤ 8) (hd : decode cc pc = .ok (.invokevirtual 269, 3)) (k : At X (pc + 3) lv (.int z :: sk) q) : At X pc lv (.int v1 :: .ref (adOf X 0) :: sk) q := a_callVi (as := [.int v1]) C (kp := 0) (by rw [S.1]; decide) (by rw [S.2.1]; rfl) rfl (by have hh := c_M_isFormat (l := X.2.1) (D := dOf X) (I := idOf X) (ad := adOf X) h; rw [← S.1, ← S.2.1, ← S.2.2] at hh; exact hh) g_M_isFormat ⟨rfl, rfl, hz.1, hz.2⟩ ⟨by decide, by decide, by show Option.map _ (parseMethodDescriptor yX11_isFormat.desc) = some 1; decide⟩ hr rfl hd k
abbrev rmM_isLevel : Room := { frames := 1, cells := 0, slots := 0, locals := 25 }
def M_isLevel (q : St) (v1 : Int32) : Option (Int32) :=
  b1 (rd 172 q 2 (3 : Int32)) fun x1 =>
  b1 (M_in q v1.toInt64 (1 : Int64) x1.toInt64) fun x2 =>
  bz x2 <|
  some x2
theorem w_M_isLevel {X : Cv} (C : Cx X cX11_isLevel RX11 rmM_isLevel 2) (S : IsM X) {q : St} {z : Int32} (hret : RokI X cX11_isLevel .boolean z q) (v1 : Int32) (h : M_isLevel q v1 = some z) : At X 0 [(0, .ref (adOf X 0)), (1, .int v1)] [] q := by
  unfold M_isLevel at h
  refine a_iload_n C 1 rfl rfl dX11_isLevel_0 ?_
  refine a_i2l C dX11_isLevel_1 ?_
  refine a_lconst (v := 1) C (by decide) dX11_isLevel_2 ?_
  refine a_aload_n C 0 rfl rfl dX11_isLevel_3 ?_
  refine gM_setup C S dX11_isLevel_4 ?_
  refine a_iconst (v := 3) C (by decide) dX11_isLevel_7 ?_
  obtain ⟨x1, e_x1, h⟩ := b1s h
  refine lM_setup C S e_x1 dX11_isLevel_8 ?_
  refine a_i2l C dX11_isLevel_9 ?_
  obtain ⟨x2, e_x2, h⟩ := b1s h
  refine k_M_in C S e_x2 ⟨Nat.le_of_ble_eq_true rfl, Nat.le_of_ble_eq_true rfl⟩ (Nat.le_of_ble_eq_true rfl) dX11_isLevel_10 ?_
  obtain ⟨n3, h⟩ := bzs h
  exact a_iretR hret h n3 dX11_isLevel_13
theorem c_M_isLevel {l : Launch} {D : va_G} {I : ClassId × ClassId × ClassId × ClassId} {ad : Nat → Nat} {q : St} {v1 : Int32} {z : Int32} (h : M_isLevel q v1 = some z) : Ctr l D I zT 18 (shM I) ad yX11_isLevel cX11_isLevel 2 (some .boolean) rmM_isLevel [.ref (ad 0), .int v1] q (some z) q :=
  ctr_ofI (by decide) (Nat.le_of_ble_eq_true rfl) (fun p e s m args below meth c Q H0 X hX C hret => by subst hX; exact w_M_isLevel C ⟨rfl, rfl, rfl⟩ hret _ h)
theorem g_M_isLevel : GoodIn lw_tg (wsV RX11 272 RX11 yX11_isLevel (Cond.code yX11_isLevel cX11_isLevel 2 (some .boolean) :: lw_tg)) := gd_V (tg 1414 (by decide +kernel) rfl) (tg 1416 (by decide +kernel) rfl) (tg 64 (by decide +kernel) rfl) (tg 128 (by decide +kernel) rfl) (tg 1417 (by decide +kernel) rfl)
theorem k_M_isLevel {X : Cv} {cc : ByteArray} {rm : Room} {nL1 pc : Nat} {lv : List (Nat × Value)} {sk : List Value} {q : St} {v1 : Int32} {z : Int32} (C : Cx X cc RX11 rm nL1) (S : IsM X) (h : M_isLevel q v1 = some z) (hz : rmM_isLevel.frames + 1 ≤ rm.frames ∧ 8 + (2 + 11) + rmM_isLevel.locals ≤ rm.locals) (hr : (sk.map fun v => v.category).sum ≤ 8) (hd : decode cc pc = .ok (.invokevirtual 272, 3)) (k : At X (pc + 3) lv (.int z :: sk) q) : At X pc lv (.int v1 :: .ref (adOf X 0) :: sk) q := a_callVi (as := [.int v1]) C (kp := 0) (by rw [S.1]; decide) (by rw [S.2.1]; rfl) rfl (by have hh := c_M_isLevel (l := X.2.1) (D := dOf X) (I := idOf X) (ad := adOf X) h; rw [← S.1, ← S.2.1, ← S.2.2] at hh; exact hh) g_M_isLevel ⟨rfl, rfl, hz.1, hz.2⟩ ⟨by decide, by decide, by show Option.map _ (parseMethodDescriptor yX11_isLevel.desc) = some 1; decide⟩ hr rfl hd k
abbrev rmM_of : Room := { frames := 0, cells := 0, slots := 0, locals := 0 }
def M_of (q : St) (v1 : Int32) (v2 : Int32) : Option (Int32) :=
  b1 (rd 202 q 4 (((97 : Int32) + ((5 : Int32) * v1)) + v2)) fun x1 =>
  some x1
theorem w_M_of {X : Cv} (C : Cx X cX11_of RX11 rmM_of 3) (S : IsM X) {q : St} {z : Int32} (hret : RokI X cX11_of .int z q) (v1 : Int32) (v2 : Int32) (h : M_of q v1 v2 = some z) : At X 0 [(0, .ref (adOf X 0)), (1, .int v1), (2, .int v2)] [] q := by
  unfold M_of at h
  refine a_aload_n C 0 rfl rfl dX11_of_0 ?_
  refine gM_world C S dX11_of_1 ?_
  refine a_bipush (v := 97) C (by decide) dX11_of_4 ?_
  refine a_iconst (v := 5) C (by decide) dX11_of_6 ?_
  refine a_iload_n C 1 rfl rfl dX11_of_7 ?_
  refine a_imul C dX11_of_8 ?_
  refine a_iadd C dX11_of_9 ?_
  refine a_iload_n C 2 rfl rfl dX11_of_10 ?_
  refine a_iadd C dX11_of_11 ?_
  obtain ⟨x1, e_x1, h⟩ := b1s h
  refine lM_world C S e_x1 dX11_of_12 ?_
  exact a_iretR hret h rfl dX11_of_13
theorem c_M_of {l : Launch} {D : va_G} {I : ClassId × ClassId × ClassId × ClassId} {ad : Nat → Nat} {q : St} {v1 : Int32} {v2 : Int32} {z : Int32} (h : M_of q v1 v2 = some z) : Ctr l D I zT 18 (shM I) ad yX11_of cX11_of 3 (some .int) rmM_of [.ref (ad 0), .int v1, .int v2] q (some z) q :=
  ctr_ofI (by decide) (Nat.le_of_ble_eq_true rfl) (fun p e s m args below meth c Q H0 X hX C hret => by subst hX; exact w_M_of C ⟨rfl, rfl, rfl⟩ hret _ _ h)
theorem g_M_of : GoodIn lw_tg (wsV RX11 176 RX11 yX11_of (Cond.code yX11_of cX11_of 3 (some .int) :: lw_tg)) := gd_V (tg 1434 (by decide +kernel) rfl) (tg 1436 (by decide +kernel) rfl) (tg 69 (by decide +kernel) rfl) (tg 128 (by decide +kernel) rfl) (tg 1437 (by decide +kernel) rfl)
theorem k_M_of {X : Cv} {cc : ByteArray} {rm : Room} {nL1 pc : Nat} {lv : List (Nat × Value)} {sk : List Value} {q : St} {v1 : Int32} {v2 : Int32} {z : Int32} (C : Cx X cc RX11 rm nL1) (S : IsM X) (h : M_of q v1 v2 = some z) (hz : rmM_of.frames + 1 ≤ rm.frames ∧ 8 + (3 + 11) + rmM_of.locals ≤ rm.locals) (hr : (sk.map fun v => v.category).sum ≤ 8) (hd : decode cc pc = .ok (.invokevirtual 176, 3)) (k : At X (pc + 3) lv (.int z :: sk) q) : At X pc lv (.int v2 :: .int v1 :: .ref (adOf X 0) :: sk) q := a_callVi (as := [.int v1, .int v2]) C (kp := 0) (by rw [S.1]; decide) (by rw [S.2.1]; rfl) rfl (by have hh := c_M_of (l := X.2.1) (D := dOf X) (I := idOf X) (ad := adOf X) h; rw [← S.1, ← S.2.1, ← S.2.2] at hh; exact hh) g_M_of ⟨rfl, rfl, hz.1, hz.2⟩ ⟨by decide, by decide, by show Option.map _ (parseMethodDescriptor yX11_of.desc) = some 2; decide⟩ hr rfl hd k
abbrev rmM_set : Room := { frames := 0, cells := 0, slots := 0, locals := 0 }
def M_set (q : St) (v1 : Int32) (v2 : Int32) (v3 : Int32) : Option (St) :=
  b1 (wr 202 q 4 (((97 : Int32) + ((5 : Int32) * v1)) + v2) v3) fun q1 =>
  some q1
theorem w_M_set {X : Cv} (C : Cx X cX11_set RX11 rmM_set 4) (S : IsM X) {z : St} (hret : RokV X cX11_set z) (v1 : Int32) (v2 : Int32) (v3 : Int32) (q : St) (h : M_set q v1 v2 v3 = some z) : At X 0 [(0, .ref (adOf X 0)), (1, .int v1), (2, .int v2), (3, .int v3)] [] q := by
  unfold M_set at h
  refine a_aload_n C 0 rfl rfl dX11_set_0 ?_
  refine gM_world C S dX11_set_1 ?_
  refine a_bipush (v := 97) C (by decide) dX11_set_4 ?_
  refine a_iconst (v := 5) C (by decide) dX11_set_6 ?_
  refine a_iload_n C 1 rfl rfl dX11_set_7 ?_
  refine a_imul C dX11_set_8 ?_
  refine a_iadd C dX11_set_9 ?_
  refine a_iload_n C 2 rfl rfl dX11_set_10 ?_
  refine a_iadd C dX11_set_11 ?_
  refine a_iload_n C 3 rfl rfl dX11_set_12 ?_
  obtain ⟨q1, e_q1, h⟩ := b1s h
  refine sM_world C S e_q1 dX11_set_13 ?_
  exact a_vret hret h dX11_set_14
theorem c_M_set {l : Launch} {D : va_G} {I : ClassId × ClassId × ClassId × ClassId} {ad : Nat → Nat} {q : St} {v1 : Int32} {v2 : Int32} {v3 : Int32} {z : St} (h : M_set q v1 v2 v3 = some z) : Ctr l D I zT 18 (shM I) ad yX11_set cX11_set 4 none rmM_set [.ref (ad 0), .int v1, .int v2, .int v3] q none z :=
  ctr_ofV (by decide) (Nat.le_of_ble_eq_true rfl) (fun p e s m args below meth c Q H0 X hX C hret => by subst hX; exact w_M_set C ⟨rfl, rfl, rfl⟩ hret _ _ _ _ h)
theorem g_M_set : GoodIn lw_tg (wsV RX11 244 RX11 yX11_set (Cond.code yX11_set cX11_set 4 none :: lw_tg)) := gd_V (tg 1426 (by decide +kernel) rfl) (tg 1428 (by decide +kernel) rfl) (tg 67 (by decide +kernel) rfl) (tg 128 (by decide +kernel) rfl) (tg 1429 (by decide +kernel) rfl)
theorem k_M_set {X : Cv} {cc : ByteArray} {rm : Room} {nL1 pc : Nat} {lv : List (Nat × Value)} {sk : List Value} {q : St} {v1 : Int32} {v2 : Int32} {v3 : Int32} {q2 : St} (C : Cx X cc RX11 rm nL1) (S : IsM X) (h : M_set q v1 v2 v3 = some q2) (hz : rmM_set.frames + 1 ≤ rm.frames ∧ 8 + (4 + 11) + rmM_set.locals ≤ rm.locals) (hr : (sk.map fun v => v.category).sum ≤ 8) (hd : decode cc pc = .ok (.invokevirtual 244, 3)) (k : At X (pc + 3) lv sk q2) : At X pc lv (.int v3 :: .int v2 :: .int v1 :: .ref (adOf X 0) :: sk) q := a_callVv (as := [.int v1, .int v2, .int v3]) C (kp := 0) (by rw [S.1]; decide) (by rw [S.2.1]; rfl) rfl (by have hh := c_M_set (l := X.2.1) (D := dOf X) (I := idOf X) (ad := adOf X) h; rw [← S.1, ← S.2.1, ← S.2.2] at hh; exact hh) g_M_set ⟨rfl, rfl, hz.1, hz.2⟩ ⟨by decide, by decide, by show Option.map _ (parseMethodDescriptor yX11_set.desc) = some 3; decide⟩ hr rfl hd k
abbrev rmM_isReceiver : Room := { frames := 1, cells := 0, slots := 0, locals := 25 }
def M_isReceiver (q : St) (v1 : Int32) : Option (Int32) :=
  b1 (rd 202 q 4 (96 : Int32)) fun x1 =>
  b1 (M_in q v1.toInt64 (0 : Int64) ((x1 - (1 : Int32))).toInt64) fun x2 =>
  if x2 = (0 : Int32) then
    some (0 : Int32)
  else
    b1 (M_of q v1 (4 : Int32)) fun x4 =>
    if x4 = (0 : Int32) then
      some (1 : Int32)
    else
      some (0 : Int32)
theorem w_M_isReceiver {X : Cv} (C : Cx X cX11_isReceiver RX11 rmM_isReceiver 2) (S : IsM X) {q : St} {z : Int32} (hret : RokI X cX11_isReceiver .boolean z q) (v1 : Int32) (h : M_isReceiver q v1 = some z) : At X 0 [(0, .ref (adOf X 0)), (1, .int v1)] [] q := by
  unfold M_isReceiver at h
  refine a_iload_n C 1 rfl rfl dX11_isReceiver_0 ?_
  refine a_i2l C dX11_isReceiver_1 ?_
  refine a_lconst (v := 0) C (by decide) dX11_isReceiver_2 ?_
  refine a_aload_n C 0 rfl rfl dX11_isReceiver_3 ?_
  refine gM_world C S dX11_isReceiver_4 ?_
  refine a_bipush (v := 96) C (by decide) dX11_isReceiver_7 ?_
  obtain ⟨x1, e_x1, h⟩ := b1s h
  refine lM_world C S e_x1 dX11_isReceiver_9 ?_
  refine a_iconst (v := 1) C (by decide) dX11_isReceiver_10 ?_
  refine a_isub C dX11_isReceiver_11 ?_
  refine a_i2l C dX11_isReceiver_12 ?_
  obtain ⟨x2, e_x2, h⟩ := b1s h
  refine k_M_in C S e_x2 ⟨Nat.le_of_ble_eq_true rfl, Nat.le_of_ble_eq_true rfl⟩ (Nat.le_of_ble_eq_true rfl) dX11_isReceiver_13 ?_
  refine a_if_eq C 32 (by decide) dX11_isReceiver_16 (fun c3 => ?_) (fun c3 => ?_)
  · replace h := ifp c3 h
    refine a_iconst (v := 0) C (by decide) dX11_isReceiver_32 ?_
    exact a_iretR hret h rfl dX11_isReceiver_33
  · replace h := ifn c3 h
    refine a_aload_n C 0 rfl rfl dX11_isReceiver_19 ?_
    refine a_iload_n C 1 rfl rfl dX11_isReceiver_20 ?_
    refine a_iconst (v := 4) C (by decide) dX11_isReceiver_21 ?_
    obtain ⟨x4, e_x4, h⟩ := b1s h
    refine k_M_of C S e_x4 ⟨Nat.le_of_ble_eq_true rfl, Nat.le_of_ble_eq_true rfl⟩ (Nat.le_of_ble_eq_true rfl) dX11_isReceiver_22 ?_
    refine a_if_ne C 32 (by decide) dX11_isReceiver_25 (fun c5 => ?_) (fun c5 => ?_)
    · replace h := ifn c5 h
      refine a_iconst (v := 0) C (by decide) dX11_isReceiver_32 ?_
      exact a_iretR hret h rfl dX11_isReceiver_33
    · replace h := ifp c5 h
      refine a_iconst (v := 1) C (by decide) dX11_isReceiver_28 ?_
      refine a_goto C 33 (by decide) dX11_isReceiver_29 ?_
      exact a_iretR hret h rfl dX11_isReceiver_33
theorem c_M_isReceiver {l : Launch} {D : va_G} {I : ClassId × ClassId × ClassId × ClassId} {ad : Nat → Nat} {q : St} {v1 : Int32} {z : Int32} (h : M_isReceiver q v1 = some z) : Ctr l D I zT 18 (shM I) ad yX11_isReceiver cX11_isReceiver 2 (some .boolean) rmM_isReceiver [.ref (ad 0), .int v1] q (some z) q :=
  ctr_ofI (by decide) (Nat.le_of_ble_eq_true rfl) (fun p e s m args below meth c Q H0 X hX C hret => by subst hX; exact w_M_isReceiver C ⟨rfl, rfl, rfl⟩ hret _ h)
theorem g_M_isReceiver : GoodIn lw_tg (wsV RX11 285 RX11 yX11_isReceiver (Cond.code yX11_isReceiver cX11_isReceiver 2 (some .boolean) :: lw_tg)) := gd_V (tg 1522 (by decide +kernel) rfl) (tg 1524 (by decide +kernel) rfl) (tg 89 (by decide +kernel) rfl) (tg 128 (by decide +kernel) rfl) (tg 1525 (by decide +kernel) rfl)
theorem k_M_isReceiver {X : Cv} {cc : ByteArray} {rm : Room} {nL1 pc : Nat} {lv : List (Nat × Value)} {sk : List Value} {q : St} {v1 : Int32} {z : Int32} (C : Cx X cc RX11 rm nL1) (S : IsM X) (h : M_isReceiver q v1 = some z) (hz : rmM_isReceiver.frames + 1 ≤ rm.frames ∧ 8 + (2 + 11) + rmM_isReceiver.locals ≤ rm.locals) (hr : (sk.map fun v => v.category).sum ≤ 8) (hd : decode cc pc = .ok (.invokevirtual 285, 3)) (k : At X (pc + 3) lv (.int z :: sk) q) : At X pc lv (.int v1 :: .ref (adOf X 0) :: sk) q := a_callVi (as := [.int v1]) C (kp := 0) (by rw [S.1]; decide) (by rw [S.2.1]; rfl) rfl (by have hh := c_M_isReceiver (l := X.2.1) (D := dOf X) (I := idOf X) (ad := adOf X) h; rw [← S.1, ← S.2.1, ← S.2.2] at hh; exact hh) g_M_isReceiver ⟨rfl, rfl, hz.1, hz.2⟩ ⟨by decide, by decide, by show Option.map _ (parseMethodDescriptor yX11_isReceiver.desc) = some 1; decide⟩ hr rfl hd k
abbrev rmM_end : Room := { frames := 0, cells := 0, slots := 0, locals := 0 }
def M_end (q : St) (v1 : Int32) (v2 : Int32) : Option (Int32) :=
  b1 (rd 172 q 2 (((4 : Int32) + ((4 : Int32) * v1)) + v2)) fun x1 =>
  some x1
theorem w_M_end {X : Cv} (C : Cx X cX11_end RX11 rmM_end 3) (S : IsM X) {q : St} {z : Int32} (hret : RokI X cX11_end .int z q) (v1 : Int32) (v2 : Int32) (h : M_end q v1 v2 = some z) : At X 0 [(0, .ref (adOf X 0)), (1, .int v1), (2, .int v2)] [] q := by
  unfold M_end at h
  refine a_aload_n C 0 rfl rfl dX11_end_0 ?_
  refine gM_setup C S dX11_end_1 ?_
  refine a_iconst (v := 4) C (by decide) dX11_end_4 ?_
  refine a_iconst (v := 4) C (by decide) dX11_end_5 ?_
  refine a_iload_n C 1 rfl rfl dX11_end_6 ?_
  refine a_imul C dX11_end_7 ?_
  refine a_iadd C dX11_end_8 ?_
  refine a_iload_n C 2 rfl rfl dX11_end_9 ?_
  refine a_iadd C dX11_end_10 ?_
  obtain ⟨x1, e_x1, h⟩ := b1s h
  refine lM_setup C S e_x1 dX11_end_11 ?_
  exact a_iretR hret h rfl dX11_end_12
theorem c_M_end {l : Launch} {D : va_G} {I : ClassId × ClassId × ClassId × ClassId} {ad : Nat → Nat} {q : St} {v1 : Int32} {v2 : Int32} {z : Int32} (h : M_end q v1 v2 = some z) : Ctr l D I zT 18 (shM I) ad yX11_end cX11_end 3 (some .int) rmM_end [.ref (ad 0), .int v1, .int v2] q (some z) q :=
  ctr_ofI (by decide) (Nat.le_of_ble_eq_true rfl) (fun p e s m args below meth c Q H0 X hX C hret => by subst hX; exact w_M_end C ⟨rfl, rfl, rfl⟩ hret _ _ h)
theorem g_M_end : GoodIn lw_tg (wsV RX11 179 RX11 yX11_end (Cond.code yX11_end cX11_end 3 (some .int) :: lw_tg)) := gd_V (tg 1459 (by decide +kernel) rfl) (tg 1461 (by decide +kernel) rfl) (tg 75 (by decide +kernel) rfl) (tg 128 (by decide +kernel) rfl) (tg 1462 (by decide +kernel) rfl)
theorem k_M_end {X : Cv} {cc : ByteArray} {rm : Room} {nL1 pc : Nat} {lv : List (Nat × Value)} {sk : List Value} {q : St} {v1 : Int32} {v2 : Int32} {z : Int32} (C : Cx X cc RX11 rm nL1) (S : IsM X) (h : M_end q v1 v2 = some z) (hz : rmM_end.frames + 1 ≤ rm.frames ∧ 8 + (3 + 11) + rmM_end.locals ≤ rm.locals) (hr : (sk.map fun v => v.category).sum ≤ 8) (hd : decode cc pc = .ok (.invokevirtual 179, 3)) (k : At X (pc + 3) lv (.int z :: sk) q) : At X pc lv (.int v2 :: .int v1 :: .ref (adOf X 0) :: sk) q := a_callVi (as := [.int v1, .int v2]) C (kp := 0) (by rw [S.1]; decide) (by rw [S.2.1]; rfl) rfl (by have hh := c_M_end (l := X.2.1) (D := dOf X) (I := idOf X) (ad := adOf X) h; rw [← S.1, ← S.2.1, ← S.2.2] at hh; exact hh) g_M_end ⟨rfl, rfl, hz.1, hz.2⟩ ⟨by decide, by decide, by show Option.map _ (parseMethodDescriptor yX11_end.desc) = some 2; decide⟩ hr rfl hd k
abbrev rmM_delayOf : Room := { frames := 0, cells := 0, slots := 0, locals := 0 }
def M_delayOf (q : St) (v1 : Int32) : Option (Int32) :=
  b1 (rd 172 q 2 (((4 : Int32) + ((4 : Int32) * v1)) + (3 : Int32))) fun x1 =>
  some x1
theorem w_M_delayOf {X : Cv} (C : Cx X cX11_delayOf RX11 rmM_delayOf 2) (S : IsM X) {q : St} {z : Int32} (hret : RokI X cX11_delayOf .int z q) (v1 : Int32) (h : M_delayOf q v1 = some z) : At X 0 [(0, .ref (adOf X 0)), (1, .int v1)] [] q := by
  unfold M_delayOf at h
  refine a_aload_n C 0 rfl rfl dX11_delayOf_0 ?_
  refine gM_setup C S dX11_delayOf_1 ?_
  refine a_iconst (v := 4) C (by decide) dX11_delayOf_4 ?_
  refine a_iconst (v := 4) C (by decide) dX11_delayOf_5 ?_
  refine a_iload_n C 1 rfl rfl dX11_delayOf_6 ?_
  refine a_imul C dX11_delayOf_7 ?_
  refine a_iadd C dX11_delayOf_8 ?_
  refine a_iconst (v := 3) C (by decide) dX11_delayOf_9 ?_
  refine a_iadd C dX11_delayOf_10 ?_
  obtain ⟨x1, e_x1, h⟩ := b1s h
  refine lM_setup C S e_x1 dX11_delayOf_11 ?_
  exact a_iretR hret h rfl dX11_delayOf_12
theorem c_M_delayOf {l : Launch} {D : va_G} {I : ClassId × ClassId × ClassId × ClassId} {ad : Nat → Nat} {q : St} {v1 : Int32} {z : Int32} (h : M_delayOf q v1 = some z) : Ctr l D I zT 18 (shM I) ad yX11_delayOf cX11_delayOf 2 (some .int) rmM_delayOf [.ref (ad 0), .int v1] q (some z) q :=
  ctr_ofI (by decide) (Nat.le_of_ble_eq_true rfl) (fun p e s m args below meth c Q H0 X hX C hret => by subst hX; exact w_M_delayOf C ⟨rfl, rfl, rfl⟩ hret _ h)
theorem g_M_delayOf : GoodIn lw_tg (wsV RX11 189 RX11 yX11_delayOf (Cond.code yX11_delayOf cX11_delayOf 2 (some .int) :: lw_tg)) := gd_V (tg 1467 (by decide +kernel) rfl) (tg 1469 (by decide +kernel) rfl) (tg 77 (by decide +kernel) rfl) (tg 128 (by decide +kernel) rfl) (tg 1470 (by decide +kernel) rfl)
theorem k_M_delayOf {X : Cv} {cc : ByteArray} {rm : Room} {nL1 pc : Nat} {lv : List (Nat × Value)} {sk : List Value} {q : St} {v1 : Int32} {z : Int32} (C : Cx X cc RX11 rm nL1) (S : IsM X) (h : M_delayOf q v1 = some z) (hz : rmM_delayOf.frames + 1 ≤ rm.frames ∧ 8 + (2 + 11) + rmM_delayOf.locals ≤ rm.locals) (hr : (sk.map fun v => v.category).sum ≤ 8) (hd : decode cc pc = .ok (.invokevirtual 189, 3)) (k : At X (pc + 3) lv (.int z :: sk) q) : At X pc lv (.int v1 :: .ref (adOf X 0) :: sk) q := a_callVi (as := [.int v1]) C (kp := 0) (by rw [S.1]; decide) (by rw [S.2.1]; rfl) rfl (by have hh := c_M_delayOf (l := X.2.1) (D := dOf X) (I := idOf X) (ad := adOf X) h; rw [← S.1, ← S.2.1, ← S.2.2] at hh; exact hh) g_M_delayOf ⟨rfl, rfl, hz.1, hz.2⟩ ⟨by decide, by decide, by show Option.map _ (parseMethodDescriptor yX11_delayOf.desc) = some 1; decide⟩ hr rfl hd k
abbrev rmM_linkAt : Room := { frames := 1, cells := 0, slots := 0, locals := 22 }
def M_linkAt_J32 (rec : Int32 → Int32 → Int32 → Option (Int32)) (v1 : Int32) (v2 : Int32) (v3 : Int32) (q : St) : Option (Int32) :=
  b1 (M_end q v3 (0 : Int32)) fun x5 =>
  if x5 = v2 then
    b1 (M_end q v3 (1 : Int32)) fun x7 =>
    if x7 = v1 then
      some v3
    else
      rec v1 v2 (v3 + 1)
  else
    rec v1 v2 (v3 + 1)
theorem w_M_linkAt_J32 {X : Cv} (C : Cx X cX11_linkAt RX11 rmM_linkAt 4) (S : IsM X) {q : St} {z : Int32} (hret : RokI X cX11_linkAt .int z q) (rec : Int32 → Int32 → Int32 → Option (Int32)) (hrec : ∀ (v1 : Int32) (v2 : Int32) (v3 : Int32), rec v1 v2 v3 = some z → At X 2 [(0, .ref (adOf X 0)), (1, .int v1), (2, .int v2), (3, .int v3)] [] q) (v1 : Int32) (v2 : Int32) (v3 : Int32) (h : M_linkAt_J32 rec v1 v2 v3 q = some z) : At X 32 [(0, .ref (adOf X 0)), (1, .int v1), (2, .int v2), (3, .int v3)] [] q := by
  unfold M_linkAt_J32 at h
  refine a_aload_n C 0 rfl rfl dX11_linkAt_32 ?_
  refine a_iload_n C 3 rfl rfl dX11_linkAt_33 ?_
  refine a_iconst (v := 0) C (by decide) dX11_linkAt_34 ?_
  obtain ⟨x5, e_x5, h⟩ := b1s h
  refine k_M_end C S e_x5 ⟨Nat.le_of_ble_eq_true rfl, Nat.le_of_ble_eq_true rfl⟩ (Nat.le_of_ble_eq_true rfl) dX11_linkAt_35 ?_
  refine a_iload_n C 2 rfl rfl dX11_linkAt_38 ?_
  refine a_icmp_ne C 54 (by decide) dX11_linkAt_39 (fun c6 => ?_) (fun c6 => ?_)
  · replace h := ifn c6 h
    refine a_iinc (v := (v3 + 1)) C [(3, .int (v3 + 1)), (0, .ref (adOf X 0)), (1, .int v1), (2, .int v2)] 3 rfl (congrArg (HAdd.hAdd v3) (by decide : Int32.ofInt (1) = (1 : Int32))) (by decide) rfl dX11_linkAt_54 ?_
    refine a_goto C 2 (by decide) dX11_linkAt_57 ?_
    exact At.sub [1, 2, 3, 0] rfl (hrec _ _ _ h)
  · replace h := ifp c6 h
    refine a_aload_n C 0 rfl rfl dX11_linkAt_42 ?_
    refine a_iload_n C 3 rfl rfl dX11_linkAt_43 ?_
    refine a_iconst (v := 1) C (by decide) dX11_linkAt_44 ?_
    obtain ⟨x7, e_x7, h⟩ := b1s h
    refine k_M_end C S e_x7 ⟨Nat.le_of_ble_eq_true rfl, Nat.le_of_ble_eq_true rfl⟩ (Nat.le_of_ble_eq_true rfl) dX11_linkAt_45 ?_
    refine a_iload_n C 1 rfl rfl dX11_linkAt_48 ?_
    refine a_icmp_ne C 54 (by decide) dX11_linkAt_49 (fun c8 => ?_) (fun c8 => ?_)
    · replace h := ifn c8 h
      refine a_iinc (v := (v3 + 1)) C [(3, .int (v3 + 1)), (0, .ref (adOf X 0)), (1, .int v1), (2, .int v2)] 3 rfl (congrArg (HAdd.hAdd v3) (by decide : Int32.ofInt (1) = (1 : Int32))) (by decide) rfl dX11_linkAt_54 ?_
      refine a_goto C 2 (by decide) dX11_linkAt_57 ?_
      exact At.sub [1, 2, 3, 0] rfl (hrec _ _ _ h)
    · replace h := ifp c8 h
      refine a_iload_n C 3 rfl rfl dX11_linkAt_52 ?_
      exact a_iretR hret h rfl dX11_linkAt_53
def M_linkAt_B2 (q : St) (rec : Int32 → Int32 → Int32 → Option (Int32)) (v1 : Int32) (v2 : Int32) (v3 : Int32) : Option (Int32) :=
  b1 (rd 172 q 2 (1 : Int32)) fun x1 =>
  if x1 ≤ v3 then
    some (-2 : Int32)
  else
    b1 (M_end q v3 (0 : Int32)) fun x3 =>
    if x3 = v1 then
      b1 (M_end q v3 (1 : Int32)) fun x9 =>
      if x9 = v2 then
        some v3
      else
        M_linkAt_J32 rec v1 v2 v3 q
    else
      M_linkAt_J32 rec v1 v2 v3 q
theorem w_M_linkAt_B2 {X : Cv} (C : Cx X cX11_linkAt RX11 rmM_linkAt 4) (S : IsM X) (q : St) {z : Int32} (hret : RokI X cX11_linkAt .int z q) (rec : Int32 → Int32 → Int32 → Option (Int32)) (hrec : ∀ (v1 : Int32) (v2 : Int32) (v3 : Int32), rec v1 v2 v3 = some z → At X 2 [(0, .ref (adOf X 0)), (1, .int v1), (2, .int v2), (3, .int v3)] [] q) (v1 : Int32) (v2 : Int32) (v3 : Int32) (h : M_linkAt_B2 q rec v1 v2 v3 = some z) : At X 2 [(0, .ref (adOf X 0)), (1, .int v1), (2, .int v2), (3, .int v3)] [] q := by
  unfold M_linkAt_B2 at h
  refine a_iload_n C 3 rfl rfl dX11_linkAt_2 ?_
  refine a_aload_n C 0 rfl rfl dX11_linkAt_3 ?_
  refine gM_setup C S dX11_linkAt_4 ?_
  refine a_iconst (v := 1) C (by decide) dX11_linkAt_7 ?_
  obtain ⟨x1, e_x1, h⟩ := b1s h
  refine lM_setup C S e_x1 dX11_linkAt_8 ?_
  refine a_icmp_ge C 60 (by decide) dX11_linkAt_9 (fun c2 => ?_) (fun c2 => ?_)
  · replace h := ifp c2 h
    refine a_bipush (v := -2) C (by decide) dX11_linkAt_60 ?_
    exact a_iretR hret h rfl dX11_linkAt_62
  · replace h := ifn c2 h
    refine a_aload_n C 0 rfl rfl dX11_linkAt_12 ?_
    refine a_iload_n C 3 rfl rfl dX11_linkAt_13 ?_
    refine a_iconst (v := 0) C (by decide) dX11_linkAt_14 ?_
    obtain ⟨x3, e_x3, h⟩ := b1s h
    refine k_M_end C S e_x3 ⟨Nat.le_of_ble_eq_true rfl, Nat.le_of_ble_eq_true rfl⟩ (Nat.le_of_ble_eq_true rfl) dX11_linkAt_15 ?_
    refine a_iload_n C 1 rfl rfl dX11_linkAt_18 ?_
    refine a_icmp_ne C 32 (by decide) dX11_linkAt_19 (fun c4 => ?_) (fun c4 => ?_)
    · replace h := ifn c4 h
      exact At.sub [0, 1, 2, 3] rfl (w_M_linkAt_J32 C S hret _ hrec _ _ _ h)
    · replace h := ifp c4 h
      refine a_aload_n C 0 rfl rfl dX11_linkAt_22 ?_
      refine a_iload_n C 3 rfl rfl dX11_linkAt_23 ?_
      refine a_iconst (v := 1) C (by decide) dX11_linkAt_24 ?_
      obtain ⟨x9, e_x9, h⟩ := b1s h
      refine k_M_end C S e_x9 ⟨Nat.le_of_ble_eq_true rfl, Nat.le_of_ble_eq_true rfl⟩ (Nat.le_of_ble_eq_true rfl) dX11_linkAt_25 ?_
      refine a_iload_n C 2 rfl rfl dX11_linkAt_28 ?_
      refine a_icmp_eq C 52 (by decide) dX11_linkAt_29 (fun c10 => ?_) (fun c10 => ?_)
      · replace h := ifp c10 h
        refine a_iload_n C 3 rfl rfl dX11_linkAt_52 ?_
        exact a_iretR hret h rfl dX11_linkAt_53
      · replace h := ifn c10 h
        exact At.sub [0, 1, 2, 3] rfl (w_M_linkAt_J32 C S hret _ hrec _ _ _ h)
def M_linkAt_L2 (q : St) : Nat → Int32 → Int32 → Int32 → Option (Int32)
  | 0, _, _, _ => none
  | n + 1, v1, v2, v3 => M_linkAt_B2 q (M_linkAt_L2 q n) v1 v2 v3
theorem w_M_linkAt_L2 {X : Cv} (C : Cx X cX11_linkAt RX11 rmM_linkAt 4) (S : IsM X) (q : St) {z : Int32} (hret : RokI X cX11_linkAt .int z q) (n : Nat) : ∀ (v1 : Int32) (v2 : Int32) (v3 : Int32), M_linkAt_L2 q n v1 v2 v3 = some z → At X 2 [(0, .ref (adOf X 0)), (1, .int v1), (2, .int v2), (3, .int v3)] [] q := by
  induction n with
  | zero => intro v1 v2 v3 h; cases h
  | succ n ih => intro v1 v2 v3 h; exact w_M_linkAt_B2 C S _ hret _ ih v1 v2 v3 h
def M_linkAt (q : St) (v1 : Int32) (v2 : Int32) : Option (Int32) :=
  M_linkAt_L2 q FU v1 v2 (0 : Int32)
theorem w_M_linkAt {X : Cv} (C : Cx X cX11_linkAt RX11 rmM_linkAt 4) (S : IsM X) {q : St} {z : Int32} (hret : RokI X cX11_linkAt .int z q) (v1 : Int32) (v2 : Int32) (h : M_linkAt q v1 v2 = some z) : At X 0 [(0, .ref (adOf X 0)), (1, .int v1), (2, .int v2)] [] q := by
  unfold M_linkAt at h
  refine a_iconst (v := 0) C (by decide) dX11_linkAt_0 ?_
  refine a_istore_n C [(3, .int (0 : Int32)), (0, .ref (adOf X 0)), (1, .int v1), (2, .int v2)] rfl (by decide) rfl dX11_linkAt_1 ?_
  exact At.sub [1, 2, 3, 0] rfl (w_M_linkAt_L2 C S _ hret _ _ _ _ h)
theorem c_M_linkAt {l : Launch} {D : va_G} {I : ClassId × ClassId × ClassId × ClassId} {ad : Nat → Nat} {q : St} {v1 : Int32} {v2 : Int32} {z : Int32} (h : M_linkAt q v1 v2 = some z) : Ctr l D I zT 18 (shM I) ad yX11_linkAt cX11_linkAt 4 (some .int) rmM_linkAt [.ref (ad 0), .int v1, .int v2] q (some z) q :=
  ctr_ofI (by decide) (Nat.le_of_ble_eq_true rfl) (fun p e s m args below meth c Q H0 X hX C hret => by subst hX; exact w_M_linkAt C ⟨rfl, rfl, rfl⟩ hret _ _ h)
theorem g_M_linkAt : GoodIn lw_tg (wsV RX11 186 RX11 yX11_linkAt (Cond.code yX11_linkAt cX11_linkAt 4 (some .int) :: lw_tg)) := gd_V (tg 1475 (by decide +kernel) rfl) (tg 1477 (by decide +kernel) rfl) (tg 79 (by decide +kernel) rfl) (tg 128 (by decide +kernel) rfl) (tg 1478 (by decide +kernel) rfl)
theorem k_M_linkAt {X : Cv} {cc : ByteArray} {rm : Room} {nL1 pc : Nat} {lv : List (Nat × Value)} {sk : List Value} {q : St} {v1 : Int32} {v2 : Int32} {z : Int32} (C : Cx X cc RX11 rm nL1) (S : IsM X) (h : M_linkAt q v1 v2 = some z) (hz : rmM_linkAt.frames + 1 ≤ rm.frames ∧ 8 + (4 + 11) + rmM_linkAt.locals ≤ rm.locals) (hr : (sk.map fun v => v.category).sum ≤ 8) (hd : decode cc pc = .ok (.invokevirtual 186, 3)) (k : At X (pc + 3) lv (.int z :: sk) q) : At X pc lv (.int v2 :: .int v1 :: .ref (adOf X 0) :: sk) q := a_callVi (as := [.int v1, .int v2]) C (kp := 0) (by rw [S.1]; decide) (by rw [S.2.1]; rfl) rfl (by have hh := c_M_linkAt (l := X.2.1) (D := dOf X) (I := idOf X) (ad := adOf X) h; rw [← S.1, ← S.2.1, ← S.2.2] at hh; exact hh) g_M_linkAt ⟨rfl, rfl, hz.1, hz.2⟩ ⟨by decide, by decide, by show Option.map _ (parseMethodDescriptor yX11_linkAt.desc) = some 2; decide⟩ hr rfl hd k
abbrev rmM_rateOf : Room := { frames := 0, cells := 0, slots := 0, locals := 0 }
def M_rateOf_B5 (q : St) (rec : Int32 → Int32 → Int32 → Int32 → Option (Int32)) (v1 : Int32) (v2 : Int32) (v3 : Int32) (v4 : Int32) : Option (Int32) :=
  if v2 ≤ v4 then
    some v3
  else
    b1 (rd 172 q 2 (((148 : Int32) + ((5 : Int32) * v1)) + v4)) fun x2 =>
    lt_ (v3 + x2) fun w3 =>
    rec v1 v2 w3 (v4 + 1)
theorem w_M_rateOf_B5 {X : Cv} (C : Cx X cX11_rateOf RX11 rmM_rateOf 5) (S : IsM X) (q : St) {z : Int32} (hret : RokI X cX11_rateOf .int z q) (rec : Int32 → Int32 → Int32 → Int32 → Option (Int32)) (hrec : ∀ (v1 : Int32) (v2 : Int32) (v3 : Int32) (v4 : Int32), rec v1 v2 v3 v4 = some z → At X 5 [(0, .ref (adOf X 0)), (1, .int v1), (2, .int v2), (3, .int v3), (4, .int v4)] [] q) (v1 : Int32) (v2 : Int32) (v3 : Int32) (v4 : Int32) (h : M_rateOf_B5 q rec v1 v2 v3 v4 = some z) : At X 5 [(0, .ref (adOf X 0)), (1, .int v1), (2, .int v2), (3, .int v3), (4, .int v4)] [] q := by
  unfold M_rateOf_B5 at h
  refine a_iload C 4 rfl dX11_rateOf_5 ?_
  refine a_iload_n C 2 rfl rfl dX11_rateOf_7 ?_
  refine a_icmp_ge C 35 (by decide) dX11_rateOf_8 (fun c1 => ?_) (fun c1 => ?_)
  · replace h := ifp c1 h
    refine a_iload_n C 3 rfl rfl dX11_rateOf_35 ?_
    exact a_iretR hret h rfl dX11_rateOf_36
  · replace h := ifn c1 h
    refine a_iload_n C 3 rfl rfl dX11_rateOf_11 ?_
    refine a_aload_n C 0 rfl rfl dX11_rateOf_12 ?_
    refine gM_setup C S dX11_rateOf_13 ?_
    refine a_sipush (v := 148) C (by decide) dX11_rateOf_16 ?_
    refine a_iconst (v := 5) C (by decide) dX11_rateOf_19 ?_
    refine a_iload_n C 1 rfl rfl dX11_rateOf_20 ?_
    refine a_imul C dX11_rateOf_21 ?_
    refine a_iadd C dX11_rateOf_22 ?_
    refine a_iload C 4 rfl dX11_rateOf_23 ?_
    refine a_iadd C dX11_rateOf_25 ?_
    obtain ⟨x2, e_x2, h⟩ := b1s h
    refine lM_setup C S e_x2 dX11_rateOf_26 ?_
    refine a_iadd C dX11_rateOf_27 ?_
    obtain ⟨w3, e_w3, h⟩ := lts h
    refine a_top e_w3 ?_
    refine a_istore_n C [(3, .int w3), (0, .ref (adOf X 0)), (1, .int v1), (2, .int v2), (4, .int v4)] rfl (by decide) rfl dX11_rateOf_28 ?_
    refine a_iinc (v := (v4 + 1)) C [(4, .int (v4 + 1)), (3, .int w3), (0, .ref (adOf X 0)), (1, .int v1), (2, .int v2)] 4 rfl (congrArg (HAdd.hAdd v4) (by decide : Int32.ofInt (1) = (1 : Int32))) (by decide) rfl dX11_rateOf_29 ?_
    refine a_goto C 5 (by decide) dX11_rateOf_32 ?_
    exact At.sub [2, 3, 4, 1, 0] rfl (hrec _ _ _ _ h)
def M_rateOf_L5 (q : St) : Nat → Int32 → Int32 → Int32 → Int32 → Option (Int32)
  | 0, _, _, _, _ => none
  | n + 1, v1, v2, v3, v4 => M_rateOf_B5 q (M_rateOf_L5 q n) v1 v2 v3 v4
theorem w_M_rateOf_L5 {X : Cv} (C : Cx X cX11_rateOf RX11 rmM_rateOf 5) (S : IsM X) (q : St) {z : Int32} (hret : RokI X cX11_rateOf .int z q) (n : Nat) : ∀ (v1 : Int32) (v2 : Int32) (v3 : Int32) (v4 : Int32), M_rateOf_L5 q n v1 v2 v3 v4 = some z → At X 5 [(0, .ref (adOf X 0)), (1, .int v1), (2, .int v2), (3, .int v3), (4, .int v4)] [] q := by
  induction n with
  | zero => intro v1 v2 v3 v4 h; cases h
  | succ n ih => intro v1 v2 v3 v4 h; exact w_M_rateOf_B5 C S _ hret _ ih v1 v2 v3 v4 h
def M_rateOf (q : St) (v1 : Int32) (v2 : Int32) : Option (Int32) :=
  M_rateOf_L5 q FU v1 v2 (0 : Int32) (0 : Int32)
theorem w_M_rateOf {X : Cv} (C : Cx X cX11_rateOf RX11 rmM_rateOf 5) (S : IsM X) {q : St} {z : Int32} (hret : RokI X cX11_rateOf .int z q) (v1 : Int32) (v2 : Int32) (h : M_rateOf q v1 v2 = some z) : At X 0 [(0, .ref (adOf X 0)), (1, .int v1), (2, .int v2)] [] q := by
  unfold M_rateOf at h
  refine a_iconst (v := 0) C (by decide) dX11_rateOf_0 ?_
  refine a_istore_n C [(3, .int (0 : Int32)), (0, .ref (adOf X 0)), (1, .int v1), (2, .int v2)] rfl (by decide) rfl dX11_rateOf_1 ?_
  refine a_iconst (v := 0) C (by decide) dX11_rateOf_2 ?_
  refine a_istore C [(4, .int (0 : Int32)), (3, .int (0 : Int32)), (0, .ref (adOf X 0)), (1, .int v1), (2, .int v2)] (by decide) rfl dX11_rateOf_3 ?_
  exact At.sub [2, 3, 4, 1, 0] rfl (w_M_rateOf_L5 C S _ hret _ _ _ _ _ h)
theorem c_M_rateOf {l : Launch} {D : va_G} {I : ClassId × ClassId × ClassId × ClassId} {ad : Nat → Nat} {q : St} {v1 : Int32} {v2 : Int32} {z : Int32} (h : M_rateOf q v1 v2 = some z) : Ctr l D I zT 18 (shM I) ad yX11_rateOf cX11_rateOf 5 (some .int) rmM_rateOf [.ref (ad 0), .int v1, .int v2] q (some z) q :=
  ctr_ofI (by decide) (Nat.le_of_ble_eq_true rfl) (fun p e s m args below meth c Q H0 X hX C hret => by subst hX; exact w_M_rateOf C ⟨rfl, rfl, rfl⟩ hret _ _ h)
theorem g_M_rateOf : GoodIn lw_tg (wsV RX11 202 RX11 yX11_rateOf (Cond.code yX11_rateOf cX11_rateOf 5 (some .int) :: lw_tg)) := gd_V (tg 1446 (by decide +kernel) rfl) (tg 1448 (by decide +kernel) rfl) (tg 72 (by decide +kernel) rfl) (tg 128 (by decide +kernel) rfl) (tg 1449 (by decide +kernel) rfl)
theorem k_M_rateOf {X : Cv} {cc : ByteArray} {rm : Room} {nL1 pc : Nat} {lv : List (Nat × Value)} {sk : List Value} {q : St} {v1 : Int32} {v2 : Int32} {z : Int32} (C : Cx X cc RX11 rm nL1) (S : IsM X) (h : M_rateOf q v1 v2 = some z) (hz : rmM_rateOf.frames + 1 ≤ rm.frames ∧ 8 + (5 + 11) + rmM_rateOf.locals ≤ rm.locals) (hr : (sk.map fun v => v.category).sum ≤ 8) (hd : decode cc pc = .ok (.invokevirtual 202, 3)) (k : At X (pc + 3) lv (.int z :: sk) q) : At X pc lv (.int v2 :: .int v1 :: .ref (adOf X 0) :: sk) q := a_callVi (as := [.int v1, .int v2]) C (kp := 0) (by rw [S.1]; decide) (by rw [S.2.1]; rfl) rfl (by have hh := c_M_rateOf (l := X.2.1) (D := dOf X) (I := idOf X) (ad := adOf X) h; rw [← S.1, ← S.2.1, ← S.2.2] at hh; exact hh) g_M_rateOf ⟨rfl, rfl, hz.1, hz.2⟩ ⟨by decide, by decide, by show Option.map _ (parseMethodDescriptor yX11_rateOf.desc) = some 2; decide⟩ hr rfl hd k
abbrev rmM_isIn : Room := { frames := 0, cells := 0, slots := 0, locals := 0 }
def M_isIn (q : St) (v1 : Int32) : Option (Int32) :=
  b1 (rd 202 q 4 ((80 : Int32) + v1)) fun x1 =>
  if x1 = (-1 : Int32) then
    some (0 : Int32)
  else
    some (1 : Int32)
theorem w_M_isIn {X : Cv} (C : Cx X cX11_isIn RX11 rmM_isIn 2) (S : IsM X) {q : St} {z : Int32} (hret : RokI X cX11_isIn .boolean z q) (v1 : Int32) (h : M_isIn q v1 = some z) : At X 0 [(0, .ref (adOf X 0)), (1, .int v1)] [] q := by
  unfold M_isIn at h
  refine a_aload_n C 0 rfl rfl dX11_isIn_0 ?_
  refine gM_world C S dX11_isIn_1 ?_
  refine a_bipush (v := 80) C (by decide) dX11_isIn_4 ?_
  refine a_iload_n C 1 rfl rfl dX11_isIn_6 ?_
  refine a_iadd C dX11_isIn_7 ?_
  obtain ⟨x1, e_x1, h⟩ := b1s h
  refine lM_world C S e_x1 dX11_isIn_8 ?_
  refine a_iconst (v := -1) C (by decide) dX11_isIn_9 ?_
  refine a_icmp_eq C 17 (by decide) dX11_isIn_10 (fun c2 => ?_) (fun c2 => ?_)
  · replace h := ifp c2 h
    refine a_iconst (v := 0) C (by decide) dX11_isIn_17 ?_
    exact a_iretR hret h rfl dX11_isIn_18
  · replace h := ifn c2 h
    refine a_iconst (v := 1) C (by decide) dX11_isIn_13 ?_
    refine a_goto C 18 (by decide) dX11_isIn_14 ?_
    exact a_iretR hret h rfl dX11_isIn_18
theorem c_M_isIn {l : Launch} {D : va_G} {I : ClassId × ClassId × ClassId × ClassId} {ad : Nat → Nat} {q : St} {v1 : Int32} {z : Int32} (h : M_isIn q v1 = some z) : Ctr l D I zT 18 (shM I) ad yX11_isIn cX11_isIn 2 (some .boolean) rmM_isIn [.ref (ad 0), .int v1] q (some z) q :=
  ctr_ofI (by decide) (Nat.le_of_ble_eq_true rfl) (fun p e s m args below meth c Q H0 X hX C hret => by subst hX; exact w_M_isIn C ⟨rfl, rfl, rfl⟩ hret _ h)
theorem g_M_isIn : GoodIn lw_tg (wsV RX11 205 RX11 yX11_isIn (Cond.code yX11_isIn cX11_isIn 2 (some .boolean) :: lw_tg)) := gd_V (tg 1442 (by decide +kernel) rfl) (tg 1444 (by decide +kernel) rfl) (tg 71 (by decide +kernel) rfl) (tg 128 (by decide +kernel) rfl) (tg 1445 (by decide +kernel) rfl)
theorem k_M_isIn {X : Cv} {cc : ByteArray} {rm : Room} {nL1 pc : Nat} {lv : List (Nat × Value)} {sk : List Value} {q : St} {v1 : Int32} {z : Int32} (C : Cx X cc RX11 rm nL1) (S : IsM X) (h : M_isIn q v1 = some z) (hz : rmM_isIn.frames + 1 ≤ rm.frames ∧ 8 + (2 + 11) + rmM_isIn.locals ≤ rm.locals) (hr : (sk.map fun v => v.category).sum ≤ 8) (hd : decode cc pc = .ok (.invokevirtual 205, 3)) (k : At X (pc + 3) lv (.int z :: sk) q) : At X pc lv (.int v1 :: .ref (adOf X 0) :: sk) q := a_callVi (as := [.int v1]) C (kp := 0) (by rw [S.1]; decide) (by rw [S.2.1]; rfl) rfl (by have hh := c_M_isIn (l := X.2.1) (D := dOf X) (I := idOf X) (ad := adOf X) h; rw [← S.1, ← S.2.1, ← S.2.2] at hh; exact hh) g_M_isIn ⟨rfl, rfl, hz.1, hz.2⟩ ⟨by decide, by decide, by show Option.map _ (parseMethodDescriptor yX11_isIn.desc) = some 1; decide⟩ hr rfl hd k
abbrev rmM_up : Room := { frames := 0, cells := 0, slots := 0, locals := 0 }
def M_up (q : St) (v1 : Int32) : Option (Int32) :=
  b1 (rd 202 q 4 ((80 : Int32) + v1)) fun x1 =>
  some x1
theorem w_M_up {X : Cv} (C : Cx X cX11_up RX11 rmM_up 2) (S : IsM X) {q : St} {z : Int32} (hret : RokI X cX11_up .int z q) (v1 : Int32) (h : M_up q v1 = some z) : At X 0 [(0, .ref (adOf X 0)), (1, .int v1)] [] q := by
  unfold M_up at h
  refine a_aload_n C 0 rfl rfl dX11_up_0 ?_
  refine gM_world C S dX11_up_1 ?_
  refine a_bipush (v := 80) C (by decide) dX11_up_4 ?_
  refine a_iload_n C 1 rfl rfl dX11_up_6 ?_
  refine a_iadd C dX11_up_7 ?_
  obtain ⟨x1, e_x1, h⟩ := b1s h
  refine lM_world C S e_x1 dX11_up_8 ?_
  exact a_iretR hret h rfl dX11_up_9
theorem c_M_up {l : Launch} {D : va_G} {I : ClassId × ClassId × ClassId × ClassId} {ad : Nat → Nat} {q : St} {v1 : Int32} {z : Int32} (h : M_up q v1 = some z) : Ctr l D I zT 18 (shM I) ad yX11_up cX11_up 2 (some .int) rmM_up [.ref (ad 0), .int v1] q (some z) q :=
  ctr_ofI (by decide) (Nat.le_of_ble_eq_true rfl) (fun p e s m args below meth c Q H0 X hX C hret => by subst hX; exact w_M_up C ⟨rfl, rfl, rfl⟩ hret _ h)
theorem g_M_up : GoodIn lw_tg (wsV RX11 182 RX11 yX11_up (Cond.code yX11_up cX11_up 2 (some .int) :: lw_tg)) := gd_V (tg 1483 (by decide +kernel) rfl) (tg 1485 (by decide +kernel) rfl) (tg 81 (by decide +kernel) rfl) (tg 128 (by decide +kernel) rfl) (tg 1486 (by decide +kernel) rfl)
theorem k_M_up {X : Cv} {cc : ByteArray} {rm : Room} {nL1 pc : Nat} {lv : List (Nat × Value)} {sk : List Value} {q : St} {v1 : Int32} {z : Int32} (C : Cx X cc RX11 rm nL1) (S : IsM X) (h : M_up q v1 = some z) (hz : rmM_up.frames + 1 ≤ rm.frames ∧ 8 + (2 + 11) + rmM_up.locals ≤ rm.locals) (hr : (sk.map fun v => v.category).sum ≤ 8) (hd : decode cc pc = .ok (.invokevirtual 182, 3)) (k : At X (pc + 3) lv (.int z :: sk) q) : At X pc lv (.int v1 :: .ref (adOf X 0) :: sk) q := a_callVi (as := [.int v1]) C (kp := 0) (by rw [S.1]; decide) (by rw [S.2.1]; rfl) rfl (by have hh := c_M_up (l := X.2.1) (D := dOf X) (I := idOf X) (ad := adOf X) h; rw [← S.1, ← S.2.1, ← S.2.2] at hh; exact hh) g_M_up ⟨rfl, rfl, hz.1, hz.2⟩ ⟨by decide, by decide, by show Option.map _ (parseMethodDescriptor yX11_up.desc) = some 1; decide⟩ hr rfl hd k
abbrev rmM_has : Room := { frames := 0, cells := 0, slots := 0, locals := 0 }
def M_has (q : St) (v1 : Int32) (v2 : Int32) : Option (Int32) :=
  b1 (rd 202 q 4 ((64 : Int32) + v1)) fun x1 =>
  if ((x1 >>> (v2 &&& 31)) &&& (1 : Int32)) = (1 : Int32) then
    some (1 : Int32)
  else
    some (0 : Int32)
theorem w_M_has {X : Cv} (C : Cx X cX11_has RX11 rmM_has 3) (S : IsM X) {q : St} {z : Int32} (hret : RokI X cX11_has .boolean z q) (v1 : Int32) (v2 : Int32) (h : M_has q v1 v2 = some z) : At X 0 [(0, .ref (adOf X 0)), (1, .int v1), (2, .int v2)] [] q := by
  unfold M_has at h
  refine a_aload_n C 0 rfl rfl dX11_has_0 ?_
  refine gM_world C S dX11_has_1 ?_
  refine a_bipush (v := 64) C (by decide) dX11_has_4 ?_
  refine a_iload_n C 1 rfl rfl dX11_has_6 ?_
  refine a_iadd C dX11_has_7 ?_
  obtain ⟨x1, e_x1, h⟩ := b1s h
  refine lM_world C S e_x1 dX11_has_8 ?_
  refine a_iload_n C 2 rfl rfl dX11_has_9 ?_
  refine a_ishr C dX11_has_10 ?_
  refine a_iconst (v := 1) C (by decide) dX11_has_11 ?_
  refine a_iand C dX11_has_12 ?_
  refine a_iconst (v := 1) C (by decide) dX11_has_13 ?_
  refine a_icmp_ne C 21 (by decide) dX11_has_14 (fun c2 => ?_) (fun c2 => ?_)
  · replace h := ifn c2 h
    refine a_iconst (v := 0) C (by decide) dX11_has_21 ?_
    exact a_iretR hret h rfl dX11_has_22
  · replace h := ifp c2 h
    refine a_iconst (v := 1) C (by decide) dX11_has_17 ?_
    refine a_goto C 22 (by decide) dX11_has_18 ?_
    exact a_iretR hret h rfl dX11_has_22
theorem c_M_has {l : Launch} {D : va_G} {I : ClassId × ClassId × ClassId × ClassId} {ad : Nat → Nat} {q : St} {v1 : Int32} {v2 : Int32} {z : Int32} (h : M_has q v1 v2 = some z) : Ctr l D I zT 18 (shM I) ad yX11_has cX11_has 3 (some .boolean) rmM_has [.ref (ad 0), .int v1, .int v2] q (some z) q :=
  ctr_ofI (by decide) (Nat.le_of_ble_eq_true rfl) (fun p e s m args below meth c Q H0 X hX C hret => by subst hX; exact w_M_has C ⟨rfl, rfl, rfl⟩ hret _ _ h)
theorem g_M_has : GoodIn lw_tg (wsV RX11 195 RX11 yX11_has (Cond.code yX11_has cX11_has 3 (some .boolean) :: lw_tg)) := gd_V (tg 1514 (by decide +kernel) rfl) (tg 1516 (by decide +kernel) rfl) (tg 88 (by decide +kernel) rfl) (tg 128 (by decide +kernel) rfl) (tg 1517 (by decide +kernel) rfl)
theorem k_M_has {X : Cv} {cc : ByteArray} {rm : Room} {nL1 pc : Nat} {lv : List (Nat × Value)} {sk : List Value} {q : St} {v1 : Int32} {v2 : Int32} {z : Int32} (C : Cx X cc RX11 rm nL1) (S : IsM X) (h : M_has q v1 v2 = some z) (hz : rmM_has.frames + 1 ≤ rm.frames ∧ 8 + (3 + 11) + rmM_has.locals ≤ rm.locals) (hr : (sk.map fun v => v.category).sum ≤ 8) (hd : decode cc pc = .ok (.invokevirtual 195, 3)) (k : At X (pc + 3) lv (.int z :: sk) q) : At X pc lv (.int v2 :: .int v1 :: .ref (adOf X 0) :: sk) q := a_callVi (as := [.int v1, .int v2]) C (kp := 0) (by rw [S.1]; decide) (by rw [S.2.1]; rfl) rfl (by have hh := c_M_has (l := X.2.1) (D := dOf X) (I := idOf X) (ad := adOf X) h; rw [← S.1, ← S.2.1, ← S.2.2] at hh; exact hh) g_M_has ⟨rfl, rfl, hz.1, hz.2⟩ ⟨by decide, by decide, by show Option.map _ (parseMethodDescriptor yX11_has.desc) = some 2; decide⟩ hr rfl hd k
abbrev rmM_depth : Room := { frames := 1, cells := 0, slots := 0, locals := 21 }
def M_depth_B4 (q : St) (rec : Int32 → Int32 → Option (Int32)) (v2 : Int32) (v3 : Int32) : Option (Int32) :=
  if v3 = (0 : Int32) then
    some v2
  else
    b1 (M_up q v3) fun x2 =>
    rec (v2 + 1) x2
theorem w_M_depth_B4 {X : Cv} (C : Cx X cX11_depth RX11 rmM_depth 4) (S : IsM X) (q : St) {z : Int32} (hret : RokI X cX11_depth .int z q) (rec : Int32 → Int32 → Option (Int32)) (hrec : ∀ (v2 : Int32) (v3 : Int32), rec v2 v3 = some z → At X 4 [(0, .ref (adOf X 0)), (2, .int v2), (3, .int v3)] [] q) (v2 : Int32) (v3 : Int32) (h : M_depth_B4 q rec v2 v3 = some z) : At X 4 [(0, .ref (adOf X 0)), (2, .int v2), (3, .int v3)] [] q := by
  unfold M_depth_B4 at h
  refine a_iload_n C 2 rfl rfl dX11_depth_4 ?_
  refine a_if_eq C 20 (by decide) dX11_depth_5 (fun c1 => ?_) (fun c1 => ?_)
  · replace h := ifp c1 h
    refine a_iload_n C 1 rfl rfl dX11_depth_20 ?_
    exact a_iretR hret h rfl dX11_depth_21
  · replace h := ifn c1 h
    refine a_iinc (v := (v2 + 1)) C [(2, .int (v2 + 1)), (0, .ref (adOf X 0)), (3, .int v3)] 1 rfl (congrArg (HAdd.hAdd v2) (by decide : Int32.ofInt (1) = (1 : Int32))) (by decide) rfl dX11_depth_8 ?_
    refine a_aload_n C 1 rfl rfl dX11_depth_11 ?_
    refine a_iload_n C 2 rfl rfl dX11_depth_12 ?_
    obtain ⟨x2, e_x2, h⟩ := b1s h
    refine k_M_up C S e_x2 ⟨Nat.le_of_ble_eq_true rfl, Nat.le_of_ble_eq_true rfl⟩ (Nat.le_of_ble_eq_true rfl) dX11_depth_13 ?_
    refine a_istore_n C [(3, .int x2), (2, .int (v2 + 1)), (0, .ref (adOf X 0))] rfl (by decide) rfl dX11_depth_16 ?_
    refine a_goto C 4 (by decide) dX11_depth_17 ?_
    exact At.sub [2, 1, 0] rfl (hrec _ _ h)
def M_depth_L4 (q : St) : Nat → Int32 → Int32 → Option (Int32)
  | 0, _, _ => none
  | n + 1, v2, v3 => M_depth_B4 q (M_depth_L4 q n) v2 v3
theorem w_M_depth_L4 {X : Cv} (C : Cx X cX11_depth RX11 rmM_depth 4) (S : IsM X) (q : St) {z : Int32} (hret : RokI X cX11_depth .int z q) (n : Nat) : ∀ (v2 : Int32) (v3 : Int32), M_depth_L4 q n v2 v3 = some z → At X 4 [(0, .ref (adOf X 0)), (2, .int v2), (3, .int v3)] [] q := by
  induction n with
  | zero => intro v2 v3 h; cases h
  | succ n ih => intro v2 v3 h; exact w_M_depth_B4 C S _ hret _ ih v2 v3 h
def M_depth (q : St) (v1 : Int32) : Option (Int32) :=
  M_depth_L4 q FU (0 : Int32) v1
theorem w_M_depth {X : Cv} (C : Cx X cX11_depth RX11 rmM_depth 4) (S : IsM X) {q : St} {z : Int32} (hret : RokI X cX11_depth .int z q) (v1 : Int32) (h : M_depth q v1 = some z) : At X 0 [(0, .ref (adOf X 0)), (1, .int v1)] [] q := by
  unfold M_depth at h
  refine a_iconst (v := 0) C (by decide) dX11_depth_0 ?_
  refine a_istore_n C [(2, .int (0 : Int32)), (0, .ref (adOf X 0)), (1, .int v1)] rfl (by decide) rfl dX11_depth_1 ?_
  refine a_iload_n C 2 rfl rfl dX11_depth_2 ?_
  refine a_istore_n C [(3, .int v1), (2, .int (0 : Int32)), (0, .ref (adOf X 0)), (1, .int v1)] rfl (by decide) rfl dX11_depth_3 ?_
  exact At.sub [2, 1, 0] rfl (w_M_depth_L4 C S _ hret _ _ _ h)
theorem c_M_depth {l : Launch} {D : va_G} {I : ClassId × ClassId × ClassId × ClassId} {ad : Nat → Nat} {q : St} {v1 : Int32} {z : Int32} (h : M_depth q v1 = some z) : Ctr l D I zT 18 (shM I) ad yX11_depth cX11_depth 4 (some .int) rmM_depth [.ref (ad 0), .int v1] q (some z) q :=
  ctr_ofI (by decide) (Nat.le_of_ble_eq_true rfl) (fun p e s m args below meth c Q H0 X hX C hret => by subst hX; exact w_M_depth C ⟨rfl, rfl, rfl⟩ hret _ h)
theorem g_M_depth : GoodIn lw_tg (wsV RX11 209 RX11 yX11_depth (Cond.code yX11_depth cX11_depth 4 (some .int) :: lw_tg)) := gd_V (tg 1499 (by decide +kernel) rfl) (tg 1501 (by decide +kernel) rfl) (tg 85 (by decide +kernel) rfl) (tg 128 (by decide +kernel) rfl) (tg 1502 (by decide +kernel) rfl)
theorem k_M_depth {X : Cv} {cc : ByteArray} {rm : Room} {nL1 pc : Nat} {lv : List (Nat × Value)} {sk : List Value} {q : St} {v1 : Int32} {z : Int32} (C : Cx X cc RX11 rm nL1) (S : IsM X) (h : M_depth q v1 = some z) (hz : rmM_depth.frames + 1 ≤ rm.frames ∧ 8 + (4 + 11) + rmM_depth.locals ≤ rm.locals) (hr : (sk.map fun v => v.category).sum ≤ 8) (hd : decode cc pc = .ok (.invokevirtual 209, 3)) (k : At X (pc + 3) lv (.int z :: sk) q) : At X pc lv (.int v1 :: .ref (adOf X 0) :: sk) q := a_callVi (as := [.int v1]) C (kp := 0) (by rw [S.1]; decide) (by rw [S.2.1]; rfl) rfl (by have hh := c_M_depth (l := X.2.1) (D := dOf X) (I := idOf X) (ad := adOf X) h; rw [← S.1, ← S.2.1, ← S.2.2] at hh; exact hh) g_M_depth ⟨rfl, rfl, hz.1, hz.2⟩ ⟨by decide, by decide, by show Option.map _ (parseMethodDescriptor yX11_depth.desc) = some 1; decide⟩ hr rfl hd k
abbrev rmM_delayTo : Room := { frames := 2, cells := 0, slots := 0, locals := 45 }
def M_delayTo_B4 (q : St) (rec : Int32 → Int32 → Option (Int32)) (v2 : Int32) (v3 : Int32) : Option (Int32) :=
  if v3 = (0 : Int32) then
    some v2
  else
    b1 (M_up q v3) fun x2 =>
    b1 (M_linkAt q v3 x2) fun x3 =>
    b1 (M_delayOf q x3) fun x4 =>
    lt_ (v2 + x4) fun w5 =>
    b1 (M_up q v3) fun x6 =>
    rec w5 x6
theorem w_M_delayTo_B4 {X : Cv} (C : Cx X cX11_delayTo RX11 rmM_delayTo 4) (S : IsM X) (q : St) {z : Int32} (hret : RokI X cX11_delayTo .int z q) (rec : Int32 → Int32 → Option (Int32)) (hrec : ∀ (v2 : Int32) (v3 : Int32), rec v2 v3 = some z → At X 4 [(0, .ref (adOf X 0)), (2, .int v2), (3, .int v3)] [] q) (v2 : Int32) (v3 : Int32) (h : M_delayTo_B4 q rec v2 v3 = some z) : At X 4 [(0, .ref (adOf X 0)), (2, .int v2), (3, .int v3)] [] q := by
  unfold M_delayTo_B4 at h
  refine a_iload_n C 2 rfl rfl dX11_delayTo_4 ?_
  refine a_if_eq C 34 (by decide) dX11_delayTo_5 (fun c1 => ?_) (fun c1 => ?_)
  · replace h := ifp c1 h
    refine a_iload_n C 1 rfl rfl dX11_delayTo_34 ?_
    exact a_iretR hret h rfl dX11_delayTo_35
  · replace h := ifn c1 h
    refine a_iload_n C 1 rfl rfl dX11_delayTo_8 ?_
    refine a_aload_n C 0 rfl rfl dX11_delayTo_9 ?_
    refine a_aload_n C 0 rfl rfl dX11_delayTo_10 ?_
    refine a_iload_n C 2 rfl rfl dX11_delayTo_11 ?_
    refine a_aload_n C 0 rfl rfl dX11_delayTo_12 ?_
    refine a_iload_n C 2 rfl rfl dX11_delayTo_13 ?_
    obtain ⟨x2, e_x2, h⟩ := b1s h
    refine k_M_up C S e_x2 ⟨Nat.le_of_ble_eq_true rfl, Nat.le_of_ble_eq_true rfl⟩ (Nat.le_of_ble_eq_true rfl) dX11_delayTo_14 ?_
    obtain ⟨x3, e_x3, h⟩ := b1s h
    refine k_M_linkAt C S e_x3 ⟨Nat.le_of_ble_eq_true rfl, Nat.le_of_ble_eq_true rfl⟩ (Nat.le_of_ble_eq_true rfl) dX11_delayTo_17 ?_
    obtain ⟨x4, e_x4, h⟩ := b1s h
    refine k_M_delayOf C S e_x4 ⟨Nat.le_of_ble_eq_true rfl, Nat.le_of_ble_eq_true rfl⟩ (Nat.le_of_ble_eq_true rfl) dX11_delayTo_20 ?_
    refine a_iadd C dX11_delayTo_23 ?_
    obtain ⟨w5, e_w5, h⟩ := lts h
    refine a_top e_w5 ?_
    refine a_istore_n C [(2, .int w5), (0, .ref (adOf X 0)), (3, .int v3)] rfl (by decide) rfl dX11_delayTo_24 ?_
    refine a_aload_n C 1 rfl rfl dX11_delayTo_25 ?_
    refine a_iload_n C 2 rfl rfl dX11_delayTo_26 ?_
    obtain ⟨x6, e_x6, h⟩ := b1s h
    refine k_M_up C S e_x6 ⟨Nat.le_of_ble_eq_true rfl, Nat.le_of_ble_eq_true rfl⟩ (Nat.le_of_ble_eq_true rfl) dX11_delayTo_27 ?_
    refine a_istore_n C [(3, .int x6), (2, .int w5), (0, .ref (adOf X 0))] rfl (by decide) rfl dX11_delayTo_30 ?_
    refine a_goto C 4 (by decide) dX11_delayTo_31 ?_
    exact At.sub [2, 1, 0] rfl (hrec _ _ h)
def M_delayTo_L4 (q : St) : Nat → Int32 → Int32 → Option (Int32)
  | 0, _, _ => none
  | n + 1, v2, v3 => M_delayTo_B4 q (M_delayTo_L4 q n) v2 v3
theorem w_M_delayTo_L4 {X : Cv} (C : Cx X cX11_delayTo RX11 rmM_delayTo 4) (S : IsM X) (q : St) {z : Int32} (hret : RokI X cX11_delayTo .int z q) (n : Nat) : ∀ (v2 : Int32) (v3 : Int32), M_delayTo_L4 q n v2 v3 = some z → At X 4 [(0, .ref (adOf X 0)), (2, .int v2), (3, .int v3)] [] q := by
  induction n with
  | zero => intro v2 v3 h; cases h
  | succ n ih => intro v2 v3 h; exact w_M_delayTo_B4 C S _ hret _ ih v2 v3 h
def M_delayTo (q : St) (v1 : Int32) : Option (Int32) :=
  M_delayTo_L4 q FU (0 : Int32) v1
theorem w_M_delayTo {X : Cv} (C : Cx X cX11_delayTo RX11 rmM_delayTo 4) (S : IsM X) {q : St} {z : Int32} (hret : RokI X cX11_delayTo .int z q) (v1 : Int32) (h : M_delayTo q v1 = some z) : At X 0 [(0, .ref (adOf X 0)), (1, .int v1)] [] q := by
  unfold M_delayTo at h
  refine a_iconst (v := 0) C (by decide) dX11_delayTo_0 ?_
  refine a_istore_n C [(2, .int (0 : Int32)), (0, .ref (adOf X 0)), (1, .int v1)] rfl (by decide) rfl dX11_delayTo_1 ?_
  refine a_iload_n C 2 rfl rfl dX11_delayTo_2 ?_
  refine a_istore_n C [(3, .int v1), (2, .int (0 : Int32)), (0, .ref (adOf X 0)), (1, .int v1)] rfl (by decide) rfl dX11_delayTo_3 ?_
  exact At.sub [2, 1, 0] rfl (w_M_delayTo_L4 C S _ hret _ _ _ h)
theorem c_M_delayTo {l : Launch} {D : va_G} {I : ClassId × ClassId × ClassId × ClassId} {ad : Nat → Nat} {q : St} {v1 : Int32} {z : Int32} (h : M_delayTo q v1 = some z) : Ctr l D I zT 18 (shM I) ad yX11_delayTo cX11_delayTo 4 (some .int) rmM_delayTo [.ref (ad 0), .int v1] q (some z) q :=
  ctr_ofI (by decide) (Nat.le_of_ble_eq_true rfl) (fun p e s m args below meth c Q H0 X hX C hret => by subst hX; exact w_M_delayTo C ⟨rfl, rfl, rfl⟩ hret _ h)
theorem g_M_delayTo : GoodIn lw_tg (wsV RX11 235 RX11 yX11_delayTo (Cond.code yX11_delayTo cX11_delayTo 4 (some .int) :: lw_tg)) := gd_V (tg 1479 (by decide +kernel) rfl) (tg 1481 (by decide +kernel) rfl) (tg 80 (by decide +kernel) rfl) (tg 128 (by decide +kernel) rfl) (tg 1482 (by decide +kernel) rfl)
theorem k_M_delayTo {X : Cv} {cc : ByteArray} {rm : Room} {nL1 pc : Nat} {lv : List (Nat × Value)} {sk : List Value} {q : St} {v1 : Int32} {z : Int32} (C : Cx X cc RX11 rm nL1) (S : IsM X) (h : M_delayTo q v1 = some z) (hz : rmM_delayTo.frames + 1 ≤ rm.frames ∧ 8 + (4 + 11) + rmM_delayTo.locals ≤ rm.locals) (hr : (sk.map fun v => v.category).sum ≤ 8) (hd : decode cc pc = .ok (.invokevirtual 235, 3)) (k : At X (pc + 3) lv (.int z :: sk) q) : At X pc lv (.int v1 :: .ref (adOf X 0) :: sk) q := a_callVi (as := [.int v1]) C (kp := 0) (by rw [S.1]; decide) (by rw [S.2.1]; rfl) rfl (by have hh := c_M_delayTo (l := X.2.1) (D := dOf X) (I := idOf X) (ad := adOf X) h; rw [← S.1, ← S.2.1, ← S.2.2] at hh; exact hh) g_M_delayTo ⟨rfl, rfl, hz.1, hz.2⟩ ⟨by decide, by decide, by show Option.map _ (parseMethodDescriptor yX11_delayTo.desc) = some 1; decide⟩ hr rfl hd k
abbrev rmM_wants : Room := { frames := 1, cells := 0, slots := 0, locals := 21 }
def M_wants (q : St) (v1 : Int32) (v2 : Int32) (v3 : Int32) : Option (St) :=
  b1 (rd 64 q 7 (((4 : Int32) * v1) + v2)) fun x1 =>
  b1 (M_most q x1 v3) fun x2 =>
  b1 (wr 64 q 7 (((4 : Int32) * v1) + v2) x2) fun q3 =>
  some q3
theorem w_M_wants {X : Cv} (C : Cx X cX11_wants RX11 rmM_wants 4) (S : IsM X) {z : St} (hret : RokV X cX11_wants z) (v1 : Int32) (v2 : Int32) (v3 : Int32) (q : St) (h : M_wants q v1 v2 v3 = some z) : At X 0 [(0, .ref (adOf X 0)), (1, .int v1), (2, .int v2), (3, .int v3)] [] q := by
  unfold M_wants at h
  refine a_aload_n C 0 rfl rfl dX11_wants_0 ?_
  refine gM_demands C S dX11_wants_1 ?_
  refine a_iconst (v := 4) C (by decide) dX11_wants_4 ?_
  refine a_iload_n C 1 rfl rfl dX11_wants_5 ?_
  refine a_imul C dX11_wants_6 ?_
  refine a_iload_n C 2 rfl rfl dX11_wants_7 ?_
  refine a_iadd C dX11_wants_8 ?_
  refine a_aload_n C 0 rfl rfl dX11_wants_9 ?_
  refine gM_demands C S dX11_wants_10 ?_
  refine a_iconst (v := 4) C (by decide) dX11_wants_13 ?_
  refine a_iload_n C 1 rfl rfl dX11_wants_14 ?_
  refine a_imul C dX11_wants_15 ?_
  refine a_iload_n C 2 rfl rfl dX11_wants_16 ?_
  refine a_iadd C dX11_wants_17 ?_
  obtain ⟨x1, e_x1, h⟩ := b1s h
  refine lM_demands C S e_x1 dX11_wants_18 ?_
  refine a_iload_n C 3 rfl rfl dX11_wants_19 ?_
  obtain ⟨x2, e_x2, h⟩ := b1s h
  refine k_M_most C S e_x2 ⟨Nat.le_of_ble_eq_true rfl, Nat.le_of_ble_eq_true rfl⟩ (Nat.le_of_ble_eq_true rfl) dX11_wants_20 ?_
  obtain ⟨q3, e_q3, h⟩ := b1s h
  refine sM_demands C S e_q3 dX11_wants_23 ?_
  exact a_vret hret h dX11_wants_24
theorem c_M_wants {l : Launch} {D : va_G} {I : ClassId × ClassId × ClassId × ClassId} {ad : Nat → Nat} {q : St} {v1 : Int32} {v2 : Int32} {v3 : Int32} {z : St} (h : M_wants q v1 v2 v3 = some z) : Ctr l D I zT 18 (shM I) ad yX11_wants cX11_wants 4 none rmM_wants [.ref (ad 0), .int v1, .int v2, .int v3] q none z :=
  ctr_ofV (by decide) (Nat.le_of_ble_eq_true rfl) (fun p e s m args below meth c Q H0 X hX C hret => by subst hX; exact w_M_wants C ⟨rfl, rfl, rfl⟩ hret _ _ _ _ h)
theorem g_M_wants : GoodIn lw_tg (wsV RX11 198 RX11 yX11_wants (Cond.code yX11_wants cX11_wants 4 none :: lw_tg)) := gd_V (tg 1503 (by decide +kernel) rfl) (tg 1505 (by decide +kernel) rfl) (tg 86 (by decide +kernel) rfl) (tg 128 (by decide +kernel) rfl) (tg 1506 (by decide +kernel) rfl)
theorem k_M_wants {X : Cv} {cc : ByteArray} {rm : Room} {nL1 pc : Nat} {lv : List (Nat × Value)} {sk : List Value} {q : St} {v1 : Int32} {v2 : Int32} {v3 : Int32} {q2 : St} (C : Cx X cc RX11 rm nL1) (S : IsM X) (h : M_wants q v1 v2 v3 = some q2) (hz : rmM_wants.frames + 1 ≤ rm.frames ∧ 8 + (4 + 11) + rmM_wants.locals ≤ rm.locals) (hr : (sk.map fun v => v.category).sum ≤ 8) (hd : decode cc pc = .ok (.invokevirtual 198, 3)) (k : At X (pc + 3) lv sk q2) : At X pc lv (.int v3 :: .int v2 :: .int v1 :: .ref (adOf X 0) :: sk) q := a_callVv (as := [.int v1, .int v2, .int v3]) C (kp := 0) (by rw [S.1]; decide) (by rw [S.2.1]; rfl) rfl (by have hh := c_M_wants (l := X.2.1) (D := dOf X) (I := idOf X) (ad := adOf X) h; rw [← S.1, ← S.2.1, ← S.2.2] at hh; exact hh) g_M_wants ⟨rfl, rfl, hz.1, hz.2⟩ ⟨by decide, by decide, by show Option.map _ (parseMethodDescriptor yX11_wants.desc) = some 3; decide⟩ hr rfl hd k
abbrev rmM_asksFrom : Room := { frames := 2, cells := 0, slots := 0, locals := 45 }
def M_asksFrom_B2 (k : Int32 → St → Option (St)) (rec : Int32 → Int32 → St → Option (St)) (v1 : Int32) (v2 : Int32) (q : St) : Option (St) :=
  b1 (rd 172 q 2 (2 : Int32)) fun x1 =>
  if x1 ≤ v2 then
    k v1 q
  else
    b1 (M_has q v1 v2) fun x3 =>
    if x3 = (0 : Int32) then
      rec v1 (v2 + 1) q
    else
      b1 (rd 64 q 7 (((4 : Int32) * v1) + v2)) fun x5 =>
      b1 (M_wants q v1 (0 : Int32) x5) fun q6 =>
      b1 (rd 16 q6 10 v1) fun x7 =>
      b1 (rd 172 q6 2 ((168 : Int32) + v2)) fun x8 =>
      b1 (rd 64 q6 7 (((4 : Int32) * v1) + v2)) fun x9 =>
      b1 (wr 16 q6 10 v1 (x7 + (x8 * x9))) fun q10 =>
      rec v1 (v2 + 1) q10
theorem w_M_asksFrom_B2 {X : Cv} (C : Cx X cX11_asksFrom RX11 rmM_asksFrom 5) (S : IsM X) {z : St} (hret : RokV X cX11_asksFrom z) (k : Int32 → St → Option (St)) (hk : ∀ (v1 : Int32) (q : St), k v1 q = some z → At X 73 [(0, .ref (adOf X 0)), (1, .int v1)] [] q) (rec : Int32 → Int32 → St → Option (St)) (hrec : ∀ (v1 : Int32) (v2 : Int32) (q : St), rec v1 v2 q = some z → At X 2 [(0, .ref (adOf X 0)), (1, .int v1), (2, .int v2)] [] q) (v1 : Int32) (v2 : Int32) (q : St) (h : M_asksFrom_B2 k rec v1 v2 q = some z) : At X 2 [(0, .ref (adOf X 0)), (1, .int v1), (2, .int v2)] [] q := by
  unfold M_asksFrom_B2 at h
  refine a_iload_n C 2 rfl rfl dX11_asksFrom_2 ?_
  refine a_aload_n C 0 rfl rfl dX11_asksFrom_3 ?_
  refine gM_setup C S dX11_asksFrom_4 ?_
  refine a_iconst (v := 2) C (by decide) dX11_asksFrom_7 ?_
  obtain ⟨x1, e_x1, h⟩ := b1s h
  refine lM_setup C S e_x1 dX11_asksFrom_8 ?_
  refine a_icmp_ge C 73 (by decide) dX11_asksFrom_9 (fun c2 => ?_) (fun c2 => ?_)
  · replace h := ifp c2 h
    exact At.sub [0, 1] rfl (hk _ _ h)
  · replace h := ifn c2 h
    refine a_aload_n C 0 rfl rfl dX11_asksFrom_12 ?_
    refine a_iload_n C 1 rfl rfl dX11_asksFrom_13 ?_
    refine a_iload_n C 2 rfl rfl dX11_asksFrom_14 ?_
    obtain ⟨x3, e_x3, h⟩ := b1s h
    refine k_M_has C S e_x3 ⟨Nat.le_of_ble_eq_true rfl, Nat.le_of_ble_eq_true rfl⟩ (Nat.le_of_ble_eq_true rfl) dX11_asksFrom_15 ?_
    refine a_if_eq C 67 (by decide) dX11_asksFrom_18 (fun c4 => ?_) (fun c4 => ?_)
    · replace h := ifp c4 h
      refine a_iinc (v := (v2 + 1)) C [(2, .int (v2 + 1)), (0, .ref (adOf X 0)), (1, .int v1)] 2 rfl (congrArg (HAdd.hAdd v2) (by decide : Int32.ofInt (1) = (1 : Int32))) (by decide) rfl dX11_asksFrom_67 ?_
      refine a_goto C 2 (by decide) dX11_asksFrom_70 ?_
      exact At.sub [1, 2, 0] rfl (hrec _ _ _ h)
    · replace h := ifn c4 h
      refine a_aload_n C 0 rfl rfl dX11_asksFrom_21 ?_
      refine a_iload_n C 1 rfl rfl dX11_asksFrom_22 ?_
      refine a_iconst (v := 0) C (by decide) dX11_asksFrom_23 ?_
      refine a_aload_n C 0 rfl rfl dX11_asksFrom_24 ?_
      refine gM_demands C S dX11_asksFrom_25 ?_
      refine a_iconst (v := 4) C (by decide) dX11_asksFrom_28 ?_
      refine a_iload_n C 1 rfl rfl dX11_asksFrom_29 ?_
      refine a_imul C dX11_asksFrom_30 ?_
      refine a_iload_n C 2 rfl rfl dX11_asksFrom_31 ?_
      refine a_iadd C dX11_asksFrom_32 ?_
      obtain ⟨x5, e_x5, h⟩ := b1s h
      refine lM_demands C S e_x5 dX11_asksFrom_33 ?_
      obtain ⟨q6, e_q6, h⟩ := b1s h
      refine k_M_wants C S e_q6 ⟨Nat.le_of_ble_eq_true rfl, Nat.le_of_ble_eq_true rfl⟩ (Nat.le_of_ble_eq_true rfl) dX11_asksFrom_34 ?_
      refine a_aload_n C 0 rfl rfl dX11_asksFrom_37 ?_
      refine gM_cpuLoads C S dX11_asksFrom_38 ?_
      refine a_iload_n C 1 rfl rfl dX11_asksFrom_41 ?_
      refine a_dup2 C rfl rfl dX11_asksFrom_42 ?_
      obtain ⟨x7, e_x7, h⟩ := b1s h
      refine lM_cpuLoads C S e_x7 dX11_asksFrom_43 ?_
      refine a_aload_n C 0 rfl rfl dX11_asksFrom_44 ?_
      refine gM_setup C S dX11_asksFrom_45 ?_
      refine a_sipush (v := 168) C (by decide) dX11_asksFrom_48 ?_
      refine a_iload_n C 2 rfl rfl dX11_asksFrom_51 ?_
      refine a_iadd C dX11_asksFrom_52 ?_
      obtain ⟨x8, e_x8, h⟩ := b1s h
      refine lM_setup C S e_x8 dX11_asksFrom_53 ?_
      refine a_aload_n C 0 rfl rfl dX11_asksFrom_54 ?_
      refine gM_demands C S dX11_asksFrom_55 ?_
      refine a_iconst (v := 4) C (by decide) dX11_asksFrom_58 ?_
      refine a_iload_n C 1 rfl rfl dX11_asksFrom_59 ?_
      refine a_imul C dX11_asksFrom_60 ?_
      refine a_iload_n C 2 rfl rfl dX11_asksFrom_61 ?_
      refine a_iadd C dX11_asksFrom_62 ?_
      obtain ⟨x9, e_x9, h⟩ := b1s h
      refine lM_demands C S e_x9 dX11_asksFrom_63 ?_
      refine a_imul C dX11_asksFrom_64 ?_
      refine a_iadd C dX11_asksFrom_65 ?_
      obtain ⟨q10, e_q10, h⟩ := b1s h
      refine sM_cpuLoads C S e_q10 dX11_asksFrom_66 ?_
      refine a_iinc (v := (v2 + 1)) C [(2, .int (v2 + 1)), (0, .ref (adOf X 0)), (1, .int v1)] 2 rfl (congrArg (HAdd.hAdd v2) (by decide : Int32.ofInt (1) = (1 : Int32))) (by decide) rfl dX11_asksFrom_67 ?_
      refine a_goto C 2 (by decide) dX11_asksFrom_70 ?_
      exact At.sub [1, 2, 0] rfl (hrec _ _ _ h)
def M_asksFrom_L2 (k : Int32 → St → Option (St)) : Nat → Int32 → Int32 → St → Option (St)
  | 0, _, _, _ => none
  | n + 1, v1, v2, q => M_asksFrom_B2 k (M_asksFrom_L2 k n) v1 v2 q
theorem w_M_asksFrom_L2 {X : Cv} (C : Cx X cX11_asksFrom RX11 rmM_asksFrom 5) (S : IsM X) {z : St} (hret : RokV X cX11_asksFrom z) (k : Int32 → St → Option (St)) (hk : ∀ (v1 : Int32) (q : St), k v1 q = some z → At X 73 [(0, .ref (adOf X 0)), (1, .int v1)] [] q) (n : Nat) : ∀ (v1 : Int32) (v2 : Int32) (q : St), M_asksFrom_L2 k n v1 v2 q = some z → At X 2 [(0, .ref (adOf X 0)), (1, .int v1), (2, .int v2)] [] q := by
  induction n with
  | zero => intro v1 v2 q h; cases h
  | succ n ih => intro v1 v2 q h; exact w_M_asksFrom_B2 C S hret k hk _ ih v1 v2 q h
def M_asksFrom_J114 (k : Int32 → Int32 → St → Option (St)) (rec : Int32 → Int32 → Int32 → St → Option (St)) (v1 : Int32) (v2 : Int32) (v3 : Int32) (z0 : Int32) (q : St) : Option (St) :=
  b1 (wr 64 q 8 (((4 : Int32) * v1) + v3) z0) fun q17 =>
  b1 (M_rateOf q17 v3 z0) fun x18 =>
  lt_ (v2 + x18) fun w19 =>
  rec v1 w19 (v3 + 1) q17
theorem w_M_asksFrom_J114 {X : Cv} (C : Cx X cX11_asksFrom RX11 rmM_asksFrom 5) (S : IsM X) {z : St} (hret : RokV X cX11_asksFrom z) (k : Int32 → Int32 → St → Option (St)) (hk : ∀ (v1 : Int32) (v2 : Int32) (q : St), k v1 v2 q = some z → At X 144 [(0, .ref (adOf X 0)), (1, .int v1), (2, .int v2)] [] q) (rec : Int32 → Int32 → Int32 → St → Option (St)) (hrec : ∀ (v1 : Int32) (v2 : Int32) (v3 : Int32) (q : St), rec v1 v2 v3 q = some z → At X 77 [(0, .ref (adOf X 0)), (1, .int v1), (2, .int v2), (3, .int v3)] [] q) (v1 : Int32) (v2 : Int32) (v3 : Int32) (z0 : Int32) (q : St) (h : M_asksFrom_J114 k rec v1 v2 v3 z0 q = some z) : At X 114 [(0, .ref (adOf X 0)), (1, .int v1), (2, .int v2), (3, .int v3)] [.int z0] q := by
  unfold M_asksFrom_J114 at h
  refine a_istore C [(4, .int z0), (0, .ref (adOf X 0)), (1, .int v1), (2, .int v2), (3, .int v3)] (by decide) rfl dX11_asksFrom_114 ?_
  refine a_aload_n C 1 rfl rfl dX11_asksFrom_116 ?_
  refine gM_asks C S dX11_asksFrom_117 ?_
  refine a_iconst (v := 4) C (by decide) dX11_asksFrom_120 ?_
  refine a_iload_n C 2 rfl rfl dX11_asksFrom_121 ?_
  refine a_imul C dX11_asksFrom_122 ?_
  refine a_iload_n C 4 rfl rfl dX11_asksFrom_123 ?_
  refine a_iadd C dX11_asksFrom_124 ?_
  refine a_iload C 0 rfl dX11_asksFrom_125 ?_
  obtain ⟨q17, e_q17, h⟩ := b1s h
  refine sM_asks C S e_q17 dX11_asksFrom_127 ?_
  refine a_iload_n C 3 rfl rfl dX11_asksFrom_128 ?_
  refine a_aload_n C 1 rfl rfl dX11_asksFrom_129 ?_
  refine a_iload_n C 4 rfl rfl dX11_asksFrom_130 ?_
  refine a_iload C 0 rfl dX11_asksFrom_131 ?_
  obtain ⟨x18, e_x18, h⟩ := b1s h
  refine k_M_rateOf C S e_x18 ⟨Nat.le_of_ble_eq_true rfl, Nat.le_of_ble_eq_true rfl⟩ (Nat.le_of_ble_eq_true rfl) dX11_asksFrom_133 ?_
  refine a_iadd C dX11_asksFrom_136 ?_
  obtain ⟨w19, e_w19, h⟩ := lts h
  refine a_top e_w19 ?_
  refine a_istore_n C [(2, .int w19), (4, .int z0), (0, .ref (adOf X 0)), (1, .int v1), (3, .int v3)] rfl (by decide) rfl dX11_asksFrom_137 ?_
  refine a_iinc (v := (v3 + 1)) C [(3, .int (v3 + 1)), (2, .int w19), (4, .int z0), (0, .ref (adOf X 0)), (1, .int v1)] 4 rfl (congrArg (HAdd.hAdd v3) (by decide : Int32.ofInt (1) = (1 : Int32))) (by decide) rfl dX11_asksFrom_138 ?_
  refine a_goto C 77 (by decide) dX11_asksFrom_141 ?_
  exact At.sub [3, 4, 1, 0] rfl (hrec _ _ _ _ h)
def M_asksFrom_J104 (k : Int32 → Int32 → St → Option (St)) (rec : Int32 → Int32 → Int32 → St → Option (St)) (v1 : Int32) (v2 : Int32) (v3 : Int32) (q : St) : Option (St) :=
  b1 (rd 64 q 7 (((4 : Int32) * v1) + v3)) fun x16 =>
  M_asksFrom_J114 k rec v1 v2 v3 x16 q
theorem w_M_asksFrom_J104 {X : Cv} (C : Cx X cX11_asksFrom RX11 rmM_asksFrom 5) (S : IsM X) {z : St} (hret : RokV X cX11_asksFrom z) (k : Int32 → Int32 → St → Option (St)) (hk : ∀ (v1 : Int32) (v2 : Int32) (q : St), k v1 v2 q = some z → At X 144 [(0, .ref (adOf X 0)), (1, .int v1), (2, .int v2)] [] q) (rec : Int32 → Int32 → Int32 → St → Option (St)) (hrec : ∀ (v1 : Int32) (v2 : Int32) (v3 : Int32) (q : St), rec v1 v2 v3 q = some z → At X 77 [(0, .ref (adOf X 0)), (1, .int v1), (2, .int v2), (3, .int v3)] [] q) (v1 : Int32) (v2 : Int32) (v3 : Int32) (q : St) (h : M_asksFrom_J104 k rec v1 v2 v3 q = some z) : At X 104 [(0, .ref (adOf X 0)), (1, .int v1), (2, .int v2), (3, .int v3)] [] q := by
  unfold M_asksFrom_J104 at h
  refine a_aload_n C 0 rfl rfl dX11_asksFrom_104 ?_
  refine gM_demands C S dX11_asksFrom_105 ?_
  refine a_iconst (v := 4) C (by decide) dX11_asksFrom_108 ?_
  refine a_iload_n C 1 rfl rfl dX11_asksFrom_109 ?_
  refine a_imul C dX11_asksFrom_110 ?_
  refine a_iload_n C 3 rfl rfl dX11_asksFrom_111 ?_
  refine a_iadd C dX11_asksFrom_112 ?_
  obtain ⟨x16, e_x16, h⟩ := b1s h
  refine lM_demands C S e_x16 dX11_asksFrom_113 ?_
  exact At.sub [0, 1, 2, 3] rfl (w_M_asksFrom_J114 C S hret _ hk _ hrec _ _ _ _ _ h)
def M_asksFrom_B77 (k : Int32 → Int32 → St → Option (St)) (rec : Int32 → Int32 → Int32 → St → Option (St)) (v1 : Int32) (v2 : Int32) (v3 : Int32) (q : St) : Option (St) :=
  b1 (rd 172 q 2 (2 : Int32)) fun x13 =>
  if x13 ≤ v3 then
    k v1 v2 q
  else
    if v3 ≤ (0 : Int32) then
      M_asksFrom_J104 k rec v1 v2 v3 q
    else
      b1 (M_has q v1 v3) fun x20 =>
      if x20 = (0 : Int32) then
        M_asksFrom_J104 k rec v1 v2 v3 q
      else
        M_asksFrom_J114 k rec v1 v2 v3 (0 : Int32) q
theorem w_M_asksFrom_B77 {X : Cv} (C : Cx X cX11_asksFrom RX11 rmM_asksFrom 5) (S : IsM X) {z : St} (hret : RokV X cX11_asksFrom z) (k : Int32 → Int32 → St → Option (St)) (hk : ∀ (v1 : Int32) (v2 : Int32) (q : St), k v1 v2 q = some z → At X 144 [(0, .ref (adOf X 0)), (1, .int v1), (2, .int v2)] [] q) (rec : Int32 → Int32 → Int32 → St → Option (St)) (hrec : ∀ (v1 : Int32) (v2 : Int32) (v3 : Int32) (q : St), rec v1 v2 v3 q = some z → At X 77 [(0, .ref (adOf X 0)), (1, .int v1), (2, .int v2), (3, .int v3)] [] q) (v1 : Int32) (v2 : Int32) (v3 : Int32) (q : St) (h : M_asksFrom_B77 k rec v1 v2 v3 q = some z) : At X 77 [(0, .ref (adOf X 0)), (1, .int v1), (2, .int v2), (3, .int v3)] [] q := by
  unfold M_asksFrom_B77 at h
  refine a_iload_n C 3 rfl rfl dX11_asksFrom_77 ?_
  refine a_aload_n C 0 rfl rfl dX11_asksFrom_78 ?_
  refine gM_setup C S dX11_asksFrom_79 ?_
  refine a_iconst (v := 2) C (by decide) dX11_asksFrom_82 ?_
  obtain ⟨x13, e_x13, h⟩ := b1s h
  refine lM_setup C S e_x13 dX11_asksFrom_83 ?_
  refine a_icmp_ge C 144 (by decide) dX11_asksFrom_84 (fun c14 => ?_) (fun c14 => ?_)
  · replace h := ifp c14 h
    exact At.sub [0, 1, 2] rfl (hk _ _ _ h)
  · replace h := ifn c14 h
    refine a_iload_n C 3 rfl rfl dX11_asksFrom_87 ?_
    refine a_if_le C 104 (by decide) dX11_asksFrom_88 (fun c15 => ?_) (fun c15 => ?_)
    · replace h := ifp c15 h
      exact At.sub [0, 1, 2, 3] rfl (w_M_asksFrom_J104 C S hret _ hk _ hrec _ _ _ _ h)
    · replace h := ifn c15 h
      refine a_aload_n C 0 rfl rfl dX11_asksFrom_91 ?_
      refine a_iload_n C 1 rfl rfl dX11_asksFrom_92 ?_
      refine a_iload_n C 3 rfl rfl dX11_asksFrom_93 ?_
      obtain ⟨x20, e_x20, h⟩ := b1s h
      refine k_M_has C S e_x20 ⟨Nat.le_of_ble_eq_true rfl, Nat.le_of_ble_eq_true rfl⟩ (Nat.le_of_ble_eq_true rfl) dX11_asksFrom_94 ?_
      refine a_if_eq C 104 (by decide) dX11_asksFrom_97 (fun c21 => ?_) (fun c21 => ?_)
      · replace h := ifp c21 h
        exact At.sub [0, 1, 2, 3] rfl (w_M_asksFrom_J104 C S hret _ hk _ hrec _ _ _ _ h)
      · replace h := ifn c21 h
        refine a_iconst (v := 0) C (by decide) dX11_asksFrom_100 ?_
        refine a_goto C 114 (by decide) dX11_asksFrom_101 ?_
        exact At.sub [0, 1, 2, 3] rfl (w_M_asksFrom_J114 C S hret _ hk _ hrec _ _ _ _ _ h)
def M_asksFrom_L77 (k : Int32 → Int32 → St → Option (St)) : Nat → Int32 → Int32 → Int32 → St → Option (St)
  | 0, _, _, _, _ => none
  | n + 1, v1, v2, v3, q => M_asksFrom_B77 k (M_asksFrom_L77 k n) v1 v2 v3 q
theorem w_M_asksFrom_L77 {X : Cv} (C : Cx X cX11_asksFrom RX11 rmM_asksFrom 5) (S : IsM X) {z : St} (hret : RokV X cX11_asksFrom z) (k : Int32 → Int32 → St → Option (St)) (hk : ∀ (v1 : Int32) (v2 : Int32) (q : St), k v1 v2 q = some z → At X 144 [(0, .ref (adOf X 0)), (1, .int v1), (2, .int v2)] [] q) (n : Nat) : ∀ (v1 : Int32) (v2 : Int32) (v3 : Int32) (q : St), M_asksFrom_L77 k n v1 v2 v3 q = some z → At X 77 [(0, .ref (adOf X 0)), (1, .int v1), (2, .int v2), (3, .int v3)] [] q := by
  induction n with
  | zero => intro v1 v2 v3 q h; cases h
  | succ n ih => intro v1 v2 v3 q h; exact w_M_asksFrom_B77 C S hret k hk _ ih v1 v2 v3 q h
def M_asksFrom_B167 (rec : Int32 → Int32 → St → Option (St)) (v1 : Int32) (v3 : Int32) (q : St) : Option (St) :=
  b1 (rd 172 q 2 (2 : Int32)) fun x29 =>
  if x29 ≤ v3 then
    some q
  else
    b1 (M_up q v1) fun x31 =>
    b1 (rd 64 q 8 (((4 : Int32) * v1) + v3)) fun x32 =>
    b1 (M_wants q x31 v3 x32) fun q33 =>
    rec v1 (v3 + 1) q33
theorem w_M_asksFrom_B167 {X : Cv} (C : Cx X cX11_asksFrom RX11 rmM_asksFrom 5) (S : IsM X) {z : St} (hret : RokV X cX11_asksFrom z) (rec : Int32 → Int32 → St → Option (St)) (hrec : ∀ (v1 : Int32) (v3 : Int32) (q : St), rec v1 v3 q = some z → At X 167 [(0, .ref (adOf X 0)), (1, .int v1), (3, .int v3)] [] q) (v1 : Int32) (v3 : Int32) (q : St) (h : M_asksFrom_B167 rec v1 v3 q = some z) : At X 167 [(0, .ref (adOf X 0)), (1, .int v1), (3, .int v3)] [] q := by
  unfold M_asksFrom_B167 at h
  refine a_iload_n C 2 rfl rfl dX11_asksFrom_167 ?_
  refine a_aload_n C 0 rfl rfl dX11_asksFrom_168 ?_
  refine gM_setup C S dX11_asksFrom_169 ?_
  refine a_iconst (v := 2) C (by decide) dX11_asksFrom_172 ?_
  obtain ⟨x29, e_x29, h⟩ := b1s h
  refine lM_setup C S e_x29 dX11_asksFrom_173 ?_
  refine a_icmp_ge C 203 (by decide) dX11_asksFrom_174 (fun c30 => ?_) (fun c30 => ?_)
  · replace h := ifp c30 h
    exact a_vret hret h dX11_asksFrom_203
  · replace h := ifn c30 h
    refine a_aload_n C 0 rfl rfl dX11_asksFrom_177 ?_
    refine a_aload_n C 0 rfl rfl dX11_asksFrom_178 ?_
    refine a_iload_n C 1 rfl rfl dX11_asksFrom_179 ?_
    obtain ⟨x31, e_x31, h⟩ := b1s h
    refine k_M_up C S e_x31 ⟨Nat.le_of_ble_eq_true rfl, Nat.le_of_ble_eq_true rfl⟩ (Nat.le_of_ble_eq_true rfl) dX11_asksFrom_180 ?_
    refine a_iload_n C 2 rfl rfl dX11_asksFrom_183 ?_
    refine a_aload_n C 0 rfl rfl dX11_asksFrom_184 ?_
    refine gM_asks C S dX11_asksFrom_185 ?_
    refine a_iconst (v := 4) C (by decide) dX11_asksFrom_188 ?_
    refine a_iload_n C 1 rfl rfl dX11_asksFrom_189 ?_
    refine a_imul C dX11_asksFrom_190 ?_
    refine a_iload_n C 2 rfl rfl dX11_asksFrom_191 ?_
    refine a_iadd C dX11_asksFrom_192 ?_
    obtain ⟨x32, e_x32, h⟩ := b1s h
    refine lM_asks C S e_x32 dX11_asksFrom_193 ?_
    obtain ⟨q33, e_q33, h⟩ := b1s h
    refine k_M_wants C S e_q33 ⟨Nat.le_of_ble_eq_true rfl, Nat.le_of_ble_eq_true rfl⟩ (Nat.le_of_ble_eq_true rfl) dX11_asksFrom_194 ?_
    refine a_iinc (v := (v3 + 1)) C [(3, .int (v3 + 1)), (0, .ref (adOf X 0)), (1, .int v1)] 2 rfl (congrArg (HAdd.hAdd v3) (by decide : Int32.ofInt (1) = (1 : Int32))) (by decide) rfl dX11_asksFrom_197 ?_
    refine a_goto C 167 (by decide) dX11_asksFrom_200 ?_
    exact At.sub [1, 2, 0] rfl (hrec _ _ _ h)
def M_asksFrom_L167 : Nat → Int32 → Int32 → St → Option (St)
  | 0, _, _, _ => none
  | n + 1, v1, v3, q => M_asksFrom_B167 (M_asksFrom_L167 n) v1 v3 q
theorem w_M_asksFrom_L167 {X : Cv} (C : Cx X cX11_asksFrom RX11 rmM_asksFrom 5) (S : IsM X) {z : St} (hret : RokV X cX11_asksFrom z) (n : Nat) : ∀ (v1 : Int32) (v3 : Int32) (q : St), M_asksFrom_L167 n v1 v3 q = some z → At X 167 [(0, .ref (adOf X 0)), (1, .int v1), (3, .int v3)] [] q := by
  induction n with
  | zero => intro v1 v3 q h; cases h
  | succ n ih => intro v1 v3 q h; exact w_M_asksFrom_B167 C S hret _ ih v1 v3 q h
def M_asksFrom (q : St) (v1 : Int32) : Option (St) :=
  M_asksFrom_L2 (fun y11 q12 =>
    M_asksFrom_L77 (fun y22 y23 q24 =>
      if y22 = (0 : Int32) then
        some q24
      else
        b1 (M_up q24 y22) fun x26 =>
        b1 (M_linkAt q24 y22 x26) fun x27 =>
        b1 (wr 32 q24 9 x27 y23) fun q28 =>
        M_asksFrom_L167 FU y22 (0 : Int32) q28
      ) FU y11 (0 : Int32) (0 : Int32) q12
    ) FU v1 (1 : Int32) q
theorem w_M_asksFrom {X : Cv} (C : Cx X cX11_asksFrom RX11 rmM_asksFrom 5) (S : IsM X) {z : St} (hret : RokV X cX11_asksFrom z) (v1 : Int32) (q : St) (h : M_asksFrom q v1 = some z) : At X 0 [(0, .ref (adOf X 0)), (1, .int v1)] [] q := by
  unfold M_asksFrom at h
  refine a_iconst (v := 1) C (by decide) dX11_asksFrom_0 ?_
  refine a_istore_n C [(2, .int (1 : Int32)), (0, .ref (adOf X 0)), (1, .int v1)] rfl (by decide) rfl dX11_asksFrom_1 ?_
  refine At.sub [1, 2, 0] rfl (w_M_asksFrom_L2 C S hret _ ?_ _ _ _ _ h)
  intro y11 q12 h
  refine a_iconst (v := 0) C (by decide) dX11_asksFrom_73 ?_
  refine a_istore_n C [(2, .int (0 : Int32)), (0, .ref (adOf X 0)), (1, .int y11)] rfl (by decide) rfl dX11_asksFrom_74 ?_
  refine a_iconst (v := 0) C (by decide) dX11_asksFrom_75 ?_
  refine a_istore_n C [(3, .int (0 : Int32)), (2, .int (0 : Int32)), (0, .ref (adOf X 0)), (1, .int y11)] rfl (by decide) rfl dX11_asksFrom_76 ?_
  refine At.sub [2, 3, 1, 0] rfl (w_M_asksFrom_L77 C S hret _ ?_ _ _ _ _ _ h)
  intro y22 y23 q24 h
  refine a_iload_n C 1 rfl rfl dX11_asksFrom_144 ?_
  refine a_if_ne C 149 (by decide) dX11_asksFrom_145 (fun c25 => ?_) (fun c25 => ?_)
  · replace h := ifn c25 h
    refine a_aload_n C 0 rfl rfl dX11_asksFrom_149 ?_
    refine gM_linkLoads C S dX11_asksFrom_150 ?_
    refine a_aload_n C 0 rfl rfl dX11_asksFrom_153 ?_
    refine a_iload_n C 1 rfl rfl dX11_asksFrom_154 ?_
    refine a_aload_n C 0 rfl rfl dX11_asksFrom_155 ?_
    refine a_iload_n C 1 rfl rfl dX11_asksFrom_156 ?_
    obtain ⟨x26, e_x26, h⟩ := b1s h
    refine k_M_up C S e_x26 ⟨Nat.le_of_ble_eq_true rfl, Nat.le_of_ble_eq_true rfl⟩ (Nat.le_of_ble_eq_true rfl) dX11_asksFrom_157 ?_
    obtain ⟨x27, e_x27, h⟩ := b1s h
    refine k_M_linkAt C S e_x27 ⟨Nat.le_of_ble_eq_true rfl, Nat.le_of_ble_eq_true rfl⟩ (Nat.le_of_ble_eq_true rfl) dX11_asksFrom_160 ?_
    refine a_iload_n C 2 rfl rfl dX11_asksFrom_163 ?_
    obtain ⟨q28, e_q28, h⟩ := b1s h
    refine sM_linkLoads C S e_q28 dX11_asksFrom_164 ?_
    refine a_iconst (v := 0) C (by decide) dX11_asksFrom_165 ?_
    refine a_istore_n C [(3, .int (0 : Int32)), (0, .ref (adOf X 0)), (1, .int y22), (2, .int y23)] rfl (by decide) rfl dX11_asksFrom_166 ?_
    exact At.sub [1, 2, 0] rfl (w_M_asksFrom_L167 C S hret _ _ _ _ h)
  · replace h := ifp c25 h
    exact a_vret hret h dX11_asksFrom_148
theorem c_M_asksFrom {l : Launch} {D : va_G} {I : ClassId × ClassId × ClassId × ClassId} {ad : Nat → Nat} {q : St} {v1 : Int32} {z : St} (h : M_asksFrom q v1 = some z) : Ctr l D I zT 18 (shM I) ad yX11_asksFrom cX11_asksFrom 5 none rmM_asksFrom [.ref (ad 0), .int v1] q none z :=
  ctr_ofV (by decide) (Nat.le_of_ble_eq_true rfl) (fun p e s m args below meth c Q H0 X hX C hret => by subst hX; exact w_M_asksFrom C ⟨rfl, rfl, rfl⟩ hret _ _ h)
theorem g_M_asksFrom : GoodIn lw_tg (wsV RX11 212 RX11 yX11_asksFrom (Cond.code yX11_asksFrom cX11_asksFrom 5 none :: lw_tg)) := gd_V (tg 1510 (by decide +kernel) rfl) (tg 1512 (by decide +kernel) rfl) (tg 87 (by decide +kernel) rfl) (tg 128 (by decide +kernel) rfl) (tg 1513 (by decide +kernel) rfl)
theorem k_M_asksFrom {X : Cv} {cc : ByteArray} {rm : Room} {nL1 pc : Nat} {lv : List (Nat × Value)} {sk : List Value} {q : St} {v1 : Int32} {q2 : St} (C : Cx X cc RX11 rm nL1) (S : IsM X) (h : M_asksFrom q v1 = some q2) (hz : rmM_asksFrom.frames + 1 ≤ rm.frames ∧ 8 + (5 + 11) + rmM_asksFrom.locals ≤ rm.locals) (hr : (sk.map fun v => v.category).sum ≤ 8) (hd : decode cc pc = .ok (.invokevirtual 212, 3)) (k : At X (pc + 3) lv sk q2) : At X pc lv (.int v1 :: .ref (adOf X 0) :: sk) q := a_callVv (as := [.int v1]) C (kp := 0) (by rw [S.1]; decide) (by rw [S.2.1]; rfl) rfl (by have hh := c_M_asksFrom (l := X.2.1) (D := dOf X) (I := idOf X) (ad := adOf X) h; rw [← S.1, ← S.2.1, ← S.2.2] at hh; exact hh) g_M_asksFrom ⟨rfl, rfl, hz.1, hz.2⟩ ⟨by decide, by decide, by show Option.map _ (parseMethodDescriptor yX11_asksFrom.desc) = some 1; decide⟩ hr rfl hd k
abbrev rmM_measures : Room := { frames := 3, cells := 0, slots := 0, locals := 69 }
def M_measures_B2 (k : St → Option (St)) (rec : Int32 → St → Option (St)) (v1 : Int32) (q : St) : Option (St) :=
  if (64 : Int32) ≤ v1 then
    k  q
  else
    b1 (wr 64 q 7 v1 (0 : Int32)) fun q2 =>
    b1 (wr 64 q2 8 v1 (0 : Int32)) fun q3 =>
    rec (v1 + 1) q3
theorem w_M_measures_B2 {X : Cv} (C : Cx X cX11_measures RX11 rmM_measures 3) (S : IsM X) {z : St} (hret : RokV X cX11_measures z) (k : St → Option (St)) (hk : ∀ (q : St), k q = some z → At X 28 [(0, .ref (adOf X 0))] [] q) (rec : Int32 → St → Option (St)) (hrec : ∀ (v1 : Int32) (q : St), rec v1 q = some z → At X 2 [(0, .ref (adOf X 0)), (1, .int v1)] [] q) (v1 : Int32) (q : St) (h : M_measures_B2 k rec v1 q = some z) : At X 2 [(0, .ref (adOf X 0)), (1, .int v1)] [] q := by
  unfold M_measures_B2 at h
  refine a_iload_n C 1 rfl rfl dX11_measures_2 ?_
  refine a_bipush (v := 64) C (by decide) dX11_measures_3 ?_
  refine a_icmp_ge C 28 (by decide) dX11_measures_5 (fun c1 => ?_) (fun c1 => ?_)
  · replace h := ifp c1 h
    exact At.sub [0] rfl (hk  _ h)
  · replace h := ifn c1 h
    refine a_aload_n C 0 rfl rfl dX11_measures_8 ?_
    refine gM_demands C S dX11_measures_9 ?_
    refine a_iload_n C 1 rfl rfl dX11_measures_12 ?_
    refine a_iconst (v := 0) C (by decide) dX11_measures_13 ?_
    obtain ⟨q2, e_q2, h⟩ := b1s h
    refine sM_demands C S e_q2 dX11_measures_14 ?_
    refine a_aload_n C 0 rfl rfl dX11_measures_15 ?_
    refine gM_asks C S dX11_measures_16 ?_
    refine a_iload_n C 1 rfl rfl dX11_measures_19 ?_
    refine a_iconst (v := 0) C (by decide) dX11_measures_20 ?_
    obtain ⟨q3, e_q3, h⟩ := b1s h
    refine sM_asks C S e_q3 dX11_measures_21 ?_
    refine a_iinc (v := (v1 + 1)) C [(1, .int (v1 + 1)), (0, .ref (adOf X 0))] 1 rfl (congrArg (HAdd.hAdd v1) (by decide : Int32.ofInt (1) = (1 : Int32))) (by decide) rfl dX11_measures_22 ?_
    refine a_goto C 2 (by decide) dX11_measures_25 ?_
    exact At.sub [1, 0] rfl (hrec _ _ h)
def M_measures_L2 (k : St → Option (St)) : Nat → Int32 → St → Option (St)
  | 0, _, _ => none
  | n + 1, v1, q => M_measures_B2 k (M_measures_L2 k n) v1 q
theorem w_M_measures_L2 {X : Cv} (C : Cx X cX11_measures RX11 rmM_measures 3) (S : IsM X) {z : St} (hret : RokV X cX11_measures z) (k : St → Option (St)) (hk : ∀ (q : St), k q = some z → At X 28 [(0, .ref (adOf X 0))] [] q) (n : Nat) : ∀ (v1 : Int32) (q : St), M_measures_L2 k n v1 q = some z → At X 2 [(0, .ref (adOf X 0)), (1, .int v1)] [] q := by
  induction n with
  | zero => intro v1 q h; cases h
  | succ n ih => intro v1 q h; exact w_M_measures_B2 C S hret k hk _ ih v1 q h
def M_measures_B30 (k : St → Option (St)) (rec : Int32 → St → Option (St)) (v1 : Int32) (q : St) : Option (St) :=
  if (32 : Int32) ≤ v1 then
    k  q
  else
    b1 (wr 32 q 9 v1 (0 : Int32)) fun q6 =>
    rec (v1 + 1) q6
theorem w_M_measures_B30 {X : Cv} (C : Cx X cX11_measures RX11 rmM_measures 3) (S : IsM X) {z : St} (hret : RokV X cX11_measures z) (k : St → Option (St)) (hk : ∀ (q : St), k q = some z → At X 49 [(0, .ref (adOf X 0))] [] q) (rec : Int32 → St → Option (St)) (hrec : ∀ (v1 : Int32) (q : St), rec v1 q = some z → At X 30 [(0, .ref (adOf X 0)), (1, .int v1)] [] q) (v1 : Int32) (q : St) (h : M_measures_B30 k rec v1 q = some z) : At X 30 [(0, .ref (adOf X 0)), (1, .int v1)] [] q := by
  unfold M_measures_B30 at h
  refine a_iload_n C 1 rfl rfl dX11_measures_30 ?_
  refine a_bipush (v := 32) C (by decide) dX11_measures_31 ?_
  refine a_icmp_ge C 49 (by decide) dX11_measures_33 (fun c5 => ?_) (fun c5 => ?_)
  · replace h := ifp c5 h
    exact At.sub [0] rfl (hk  _ h)
  · replace h := ifn c5 h
    refine a_aload_n C 0 rfl rfl dX11_measures_36 ?_
    refine gM_linkLoads C S dX11_measures_37 ?_
    refine a_iload_n C 1 rfl rfl dX11_measures_40 ?_
    refine a_iconst (v := 0) C (by decide) dX11_measures_41 ?_
    obtain ⟨q6, e_q6, h⟩ := b1s h
    refine sM_linkLoads C S e_q6 dX11_measures_42 ?_
    refine a_iinc (v := (v1 + 1)) C [(1, .int (v1 + 1)), (0, .ref (adOf X 0))] 1 rfl (congrArg (HAdd.hAdd v1) (by decide : Int32.ofInt (1) = (1 : Int32))) (by decide) rfl dX11_measures_43 ?_
    refine a_goto C 30 (by decide) dX11_measures_46 ?_
    exact At.sub [1, 0] rfl (hrec _ _ h)
def M_measures_L30 (k : St → Option (St)) : Nat → Int32 → St → Option (St)
  | 0, _, _ => none
  | n + 1, v1, q => M_measures_B30 k (M_measures_L30 k n) v1 q
theorem w_M_measures_L30 {X : Cv} (C : Cx X cX11_measures RX11 rmM_measures 3) (S : IsM X) {z : St} (hret : RokV X cX11_measures z) (k : St → Option (St)) (hk : ∀ (q : St), k q = some z → At X 49 [(0, .ref (adOf X 0))] [] q) (n : Nat) : ∀ (v1 : Int32) (q : St), M_measures_L30 k n v1 q = some z → At X 30 [(0, .ref (adOf X 0)), (1, .int v1)] [] q := by
  induction n with
  | zero => intro v1 q h; cases h
  | succ n ih => intro v1 q h; exact w_M_measures_B30 C S hret k hk _ ih v1 q h
def M_measures_B51 (k : St → Option (St)) (rec : Int32 → St → Option (St)) (v1 : Int32) (q : St) : Option (St) :=
  if (16 : Int32) ≤ v1 then
    k  q
  else
    b1 (wr 16 q 10 v1 (0 : Int32)) fun q9 =>
    b1 (rd 172 q9 2 (0 : Int32)) fun x10 =>
    if x10 ≤ v1 then
      b1 (wr 16 q9 11 v1 (-1 : Int32)) fun q12 =>
      rec (v1 + 1) q12
    else
      b1 (M_isIn q9 v1) fun x13 =>
      if x13 = (0 : Int32) then
        b1 (wr 16 q9 11 v1 (-1 : Int32)) fun q15 =>
        rec (v1 + 1) q15
      else
        b1 (M_depth q9 v1) fun x16 =>
        b1 (wr 16 q9 11 v1 x16) fun q17 =>
        rec (v1 + 1) q17
theorem w_M_measures_B51 {X : Cv} (C : Cx X cX11_measures RX11 rmM_measures 3) (S : IsM X) {z : St} (hret : RokV X cX11_measures z) (k : St → Option (St)) (hk : ∀ (q : St), k q = some z → At X 103 [(0, .ref (adOf X 0))] [] q) (rec : Int32 → St → Option (St)) (hrec : ∀ (v1 : Int32) (q : St), rec v1 q = some z → At X 51 [(0, .ref (adOf X 0)), (1, .int v1)] [] q) (v1 : Int32) (q : St) (h : M_measures_B51 k rec v1 q = some z) : At X 51 [(0, .ref (adOf X 0)), (1, .int v1)] [] q := by
  unfold M_measures_B51 at h
  refine a_iload_n C 1 rfl rfl dX11_measures_51 ?_
  refine a_bipush (v := 16) C (by decide) dX11_measures_52 ?_
  refine a_icmp_ge C 103 (by decide) dX11_measures_54 (fun c8 => ?_) (fun c8 => ?_)
  · replace h := ifp c8 h
    exact At.sub [0] rfl (hk  _ h)
  · replace h := ifn c8 h
    refine a_aload_n C 0 rfl rfl dX11_measures_57 ?_
    refine gM_cpuLoads C S dX11_measures_58 ?_
    refine a_iload_n C 1 rfl rfl dX11_measures_61 ?_
    refine a_iconst (v := 0) C (by decide) dX11_measures_62 ?_
    obtain ⟨q9, e_q9, h⟩ := b1s h
    refine sM_cpuLoads C S e_q9 dX11_measures_63 ?_
    refine a_aload_n C 0 rfl rfl dX11_measures_64 ?_
    refine gM_depths C S dX11_measures_65 ?_
    refine a_iload_n C 1 rfl rfl dX11_measures_68 ?_
    refine a_iload_n C 1 rfl rfl dX11_measures_69 ?_
    refine a_aload_n C 0 rfl rfl dX11_measures_70 ?_
    refine gM_setup C S dX11_measures_71 ?_
    refine a_iconst (v := 0) C (by decide) dX11_measures_74 ?_
    obtain ⟨x10, e_x10, h⟩ := b1s h
    refine lM_setup C S e_x10 dX11_measures_75 ?_
    refine a_icmp_ge C 95 (by decide) dX11_measures_76 (fun c11 => ?_) (fun c11 => ?_)
    · replace h := ifp c11 h
      refine a_iconst (v := -1) C (by decide) dX11_measures_95 ?_
      obtain ⟨q12, e_q12, h⟩ := b1s h
      refine sM_depths C S e_q12 dX11_measures_96 ?_
      refine a_iinc (v := (v1 + 1)) C [(1, .int (v1 + 1)), (0, .ref (adOf X 0))] 1 rfl (congrArg (HAdd.hAdd v1) (by decide : Int32.ofInt (1) = (1 : Int32))) (by decide) rfl dX11_measures_97 ?_
      refine a_goto C 51 (by decide) dX11_measures_100 ?_
      exact At.sub [1, 0] rfl (hrec _ _ h)
    · replace h := ifn c11 h
      refine a_aload_n C 0 rfl rfl dX11_measures_79 ?_
      refine a_iload_n C 1 rfl rfl dX11_measures_80 ?_
      obtain ⟨x13, e_x13, h⟩ := b1s h
      refine k_M_isIn C S e_x13 ⟨Nat.le_of_ble_eq_true rfl, Nat.le_of_ble_eq_true rfl⟩ (Nat.le_of_ble_eq_true rfl) dX11_measures_81 ?_
      refine a_if_eq C 95 (by decide) dX11_measures_84 (fun c14 => ?_) (fun c14 => ?_)
      · replace h := ifp c14 h
        refine a_iconst (v := -1) C (by decide) dX11_measures_95 ?_
        obtain ⟨q15, e_q15, h⟩ := b1s h
        refine sM_depths C S e_q15 dX11_measures_96 ?_
        refine a_iinc (v := (v1 + 1)) C [(1, .int (v1 + 1)), (0, .ref (adOf X 0))] 1 rfl (congrArg (HAdd.hAdd v1) (by decide : Int32.ofInt (1) = (1 : Int32))) (by decide) rfl dX11_measures_97 ?_
        refine a_goto C 51 (by decide) dX11_measures_100 ?_
        exact At.sub [1, 0] rfl (hrec _ _ h)
      · replace h := ifn c14 h
        refine a_aload_n C 0 rfl rfl dX11_measures_87 ?_
        refine a_iload_n C 1 rfl rfl dX11_measures_88 ?_
        obtain ⟨x16, e_x16, h⟩ := b1s h
        refine k_M_depth C S e_x16 ⟨Nat.le_of_ble_eq_true rfl, Nat.le_of_ble_eq_true rfl⟩ (Nat.le_of_ble_eq_true rfl) dX11_measures_89 ?_
        refine a_goto C 96 (by decide) dX11_measures_92 ?_
        obtain ⟨q17, e_q17, h⟩ := b1s h
        refine sM_depths C S e_q17 dX11_measures_96 ?_
        refine a_iinc (v := (v1 + 1)) C [(1, .int (v1 + 1)), (0, .ref (adOf X 0))] 1 rfl (congrArg (HAdd.hAdd v1) (by decide : Int32.ofInt (1) = (1 : Int32))) (by decide) rfl dX11_measures_97 ?_
        refine a_goto C 51 (by decide) dX11_measures_100 ?_
        exact At.sub [1, 0] rfl (hrec _ _ h)
def M_measures_L51 (k : St → Option (St)) : Nat → Int32 → St → Option (St)
  | 0, _, _ => none
  | n + 1, v1, q => M_measures_B51 k (M_measures_L51 k n) v1 q
theorem w_M_measures_L51 {X : Cv} (C : Cx X cX11_measures RX11 rmM_measures 3) (S : IsM X) {z : St} (hret : RokV X cX11_measures z) (k : St → Option (St)) (hk : ∀ (q : St), k q = some z → At X 103 [(0, .ref (adOf X 0))] [] q) (n : Nat) : ∀ (v1 : Int32) (q : St), M_measures_L51 k n v1 q = some z → At X 51 [(0, .ref (adOf X 0)), (1, .int v1)] [] q := by
  induction n with
  | zero => intro v1 q h; cases h
  | succ n ih => intro v1 q h; exact w_M_measures_B51 C S hret k hk _ ih v1 q h
def M_measures_B105 (k : St → Option (St)) (rec : Int32 → St → Option (St)) (v1 : Int32) (q : St) : Option (St) :=
  if (20 : Int32) < v1 then
    k  q
  else
    b1 (M_of q v1 (3 : Int32)) fun x20 =>
    if x20 ≤ (0 : Int32) then
      rec (v1 + 1) q
    else
      b1 (M_of q v1 (0 : Int32)) fun x22 =>
      b1 (M_of q v1 (1 : Int32)) fun x23 =>
      b1 (M_of q v1 (3 : Int32)) fun x24 =>
      b1 (M_wants q x22 x23 x24) fun q25 =>
      rec (v1 + 1) q25
theorem w_M_measures_B105 {X : Cv} (C : Cx X cX11_measures RX11 rmM_measures 3) (S : IsM X) {z : St} (hret : RokV X cX11_measures z) (k : St → Option (St)) (hk : ∀ (q : St), k q = some z → At X 148 [(0, .ref (adOf X 0))] [] q) (rec : Int32 → St → Option (St)) (hrec : ∀ (v1 : Int32) (q : St), rec v1 q = some z → At X 105 [(0, .ref (adOf X 0)), (1, .int v1)] [] q) (v1 : Int32) (q : St) (h : M_measures_B105 k rec v1 q = some z) : At X 105 [(0, .ref (adOf X 0)), (1, .int v1)] [] q := by
  unfold M_measures_B105 at h
  refine a_iload_n C 1 rfl rfl dX11_measures_105 ?_
  refine a_bipush (v := 20) C (by decide) dX11_measures_106 ?_
  refine a_icmp_gt C 148 (by decide) dX11_measures_108 (fun c19 => ?_) (fun c19 => ?_)
  · replace h := ifp c19 h
    exact At.sub [0] rfl (hk  _ h)
  · replace h := ifn c19 h
    refine a_aload_n C 0 rfl rfl dX11_measures_111 ?_
    refine a_iload_n C 1 rfl rfl dX11_measures_112 ?_
    refine a_iconst (v := 3) C (by decide) dX11_measures_113 ?_
    obtain ⟨x20, e_x20, h⟩ := b1s h
    refine k_M_of C S e_x20 ⟨Nat.le_of_ble_eq_true rfl, Nat.le_of_ble_eq_true rfl⟩ (Nat.le_of_ble_eq_true rfl) dX11_measures_114 ?_
    refine a_if_le C 142 (by decide) dX11_measures_117 (fun c21 => ?_) (fun c21 => ?_)
    · replace h := ifp c21 h
      refine a_iinc (v := (v1 + 1)) C [(1, .int (v1 + 1)), (0, .ref (adOf X 0))] 1 rfl (congrArg (HAdd.hAdd v1) (by decide : Int32.ofInt (1) = (1 : Int32))) (by decide) rfl dX11_measures_142 ?_
      refine a_goto C 105 (by decide) dX11_measures_145 ?_
      exact At.sub [1, 0] rfl (hrec _ _ h)
    · replace h := ifn c21 h
      refine a_aload_n C 0 rfl rfl dX11_measures_120 ?_
      refine a_aload_n C 0 rfl rfl dX11_measures_121 ?_
      refine a_iload_n C 1 rfl rfl dX11_measures_122 ?_
      refine a_iconst (v := 0) C (by decide) dX11_measures_123 ?_
      obtain ⟨x22, e_x22, h⟩ := b1s h
      refine k_M_of C S e_x22 ⟨Nat.le_of_ble_eq_true rfl, Nat.le_of_ble_eq_true rfl⟩ (Nat.le_of_ble_eq_true rfl) dX11_measures_124 ?_
      refine a_aload_n C 0 rfl rfl dX11_measures_127 ?_
      refine a_iload_n C 1 rfl rfl dX11_measures_128 ?_
      refine a_iconst (v := 1) C (by decide) dX11_measures_129 ?_
      obtain ⟨x23, e_x23, h⟩ := b1s h
      refine k_M_of C S e_x23 ⟨Nat.le_of_ble_eq_true rfl, Nat.le_of_ble_eq_true rfl⟩ (Nat.le_of_ble_eq_true rfl) dX11_measures_130 ?_
      refine a_aload_n C 0 rfl rfl dX11_measures_133 ?_
      refine a_iload_n C 1 rfl rfl dX11_measures_134 ?_
      refine a_iconst (v := 3) C (by decide) dX11_measures_135 ?_
      obtain ⟨x24, e_x24, h⟩ := b1s h
      refine k_M_of C S e_x24 ⟨Nat.le_of_ble_eq_true rfl, Nat.le_of_ble_eq_true rfl⟩ (Nat.le_of_ble_eq_true rfl) dX11_measures_136 ?_
      obtain ⟨q25, e_q25, h⟩ := b1s h
      refine k_M_wants C S e_q25 ⟨Nat.le_of_ble_eq_true rfl, Nat.le_of_ble_eq_true rfl⟩ (Nat.le_of_ble_eq_true rfl) dX11_measures_139 ?_
      refine a_iinc (v := (v1 + 1)) C [(1, .int (v1 + 1)), (0, .ref (adOf X 0))] 1 rfl (congrArg (HAdd.hAdd v1) (by decide : Int32.ofInt (1) = (1 : Int32))) (by decide) rfl dX11_measures_142 ?_
      refine a_goto C 105 (by decide) dX11_measures_145 ?_
      exact At.sub [1, 0] rfl (hrec _ _ h)
def M_measures_L105 (k : St → Option (St)) : Nat → Int32 → St → Option (St)
  | 0, _, _ => none
  | n + 1, v1, q => M_measures_B105 k (M_measures_L105 k n) v1 q
theorem w_M_measures_L105 {X : Cv} (C : Cx X cX11_measures RX11 rmM_measures 3) (S : IsM X) {z : St} (hret : RokV X cX11_measures z) (k : St → Option (St)) (hk : ∀ (q : St), k q = some z → At X 148 [(0, .ref (adOf X 0))] [] q) (n : Nat) : ∀ (v1 : Int32) (q : St), M_measures_L105 k n v1 q = some z → At X 105 [(0, .ref (adOf X 0)), (1, .int v1)] [] q := by
  induction n with
  | zero => intro v1 q h; cases h
  | succ n ih => intro v1 q h; exact w_M_measures_B105 C S hret k hk _ ih v1 q h
def M_measures_B157 (k : Int32 → St → Option (St)) (rec : Int32 → Int32 → St → Option (St)) (v1 : Int32) (v2 : Int32) (q : St) : Option (St) :=
  b1 (rd 172 q 2 (0 : Int32)) fun x28 =>
  if x28 ≤ v2 then
    k v1 q
  else
    b1 (rd 16 q 11 v2) fun x30 =>
    if x30 = v1 then
      b1 (M_asksFrom q v2) fun q32 =>
      rec v1 (v2 + 1) q32
    else
      rec v1 (v2 + 1) q
theorem w_M_measures_B157 {X : Cv} (C : Cx X cX11_measures RX11 rmM_measures 3) (S : IsM X) {z : St} (hret : RokV X cX11_measures z) (k : Int32 → St → Option (St)) (hk : ∀ (v1 : Int32) (q : St), k v1 q = some z → At X 188 [(0, .ref (adOf X 0)), (1, .int v1)] [] q) (rec : Int32 → Int32 → St → Option (St)) (hrec : ∀ (v1 : Int32) (v2 : Int32) (q : St), rec v1 v2 q = some z → At X 157 [(0, .ref (adOf X 0)), (1, .int v1), (2, .int v2)] [] q) (v1 : Int32) (v2 : Int32) (q : St) (h : M_measures_B157 k rec v1 v2 q = some z) : At X 157 [(0, .ref (adOf X 0)), (1, .int v1), (2, .int v2)] [] q := by
  unfold M_measures_B157 at h
  refine a_iload_n C 2 rfl rfl dX11_measures_157 ?_
  refine a_aload_n C 0 rfl rfl dX11_measures_158 ?_
  refine gM_setup C S dX11_measures_159 ?_
  refine a_iconst (v := 0) C (by decide) dX11_measures_162 ?_
  obtain ⟨x28, e_x28, h⟩ := b1s h
  refine lM_setup C S e_x28 dX11_measures_163 ?_
  refine a_icmp_ge C 188 (by decide) dX11_measures_164 (fun c29 => ?_) (fun c29 => ?_)
  · replace h := ifp c29 h
    exact At.sub [0, 1] rfl (hk _ _ h)
  · replace h := ifn c29 h
    refine a_aload_n C 0 rfl rfl dX11_measures_167 ?_
    refine gM_depths C S dX11_measures_168 ?_
    refine a_iload_n C 2 rfl rfl dX11_measures_171 ?_
    obtain ⟨x30, e_x30, h⟩ := b1s h
    refine lM_depths C S e_x30 dX11_measures_172 ?_
    refine a_iload_n C 1 rfl rfl dX11_measures_173 ?_
    refine a_icmp_ne C 182 (by decide) dX11_measures_174 (fun c31 => ?_) (fun c31 => ?_)
    · replace h := ifn c31 h
      refine a_iinc (v := (v2 + 1)) C [(2, .int (v2 + 1)), (0, .ref (adOf X 0)), (1, .int v1)] 2 rfl (congrArg (HAdd.hAdd v2) (by decide : Int32.ofInt (1) = (1 : Int32))) (by decide) rfl dX11_measures_182 ?_
      refine a_goto C 157 (by decide) dX11_measures_185 ?_
      exact At.sub [1, 2, 0] rfl (hrec _ _ _ h)
    · replace h := ifp c31 h
      refine a_aload_n C 0 rfl rfl dX11_measures_177 ?_
      refine a_iload_n C 2 rfl rfl dX11_measures_178 ?_
      obtain ⟨q32, e_q32, h⟩ := b1s h
      refine k_M_asksFrom C S e_q32 ⟨Nat.le_of_ble_eq_true rfl, Nat.le_of_ble_eq_true rfl⟩ (Nat.le_of_ble_eq_true rfl) dX11_measures_179 ?_
      refine a_iinc (v := (v2 + 1)) C [(2, .int (v2 + 1)), (0, .ref (adOf X 0)), (1, .int v1)] 2 rfl (congrArg (HAdd.hAdd v2) (by decide : Int32.ofInt (1) = (1 : Int32))) (by decide) rfl dX11_measures_182 ?_
      refine a_goto C 157 (by decide) dX11_measures_185 ?_
      exact At.sub [1, 2, 0] rfl (hrec _ _ _ h)
def M_measures_L157 (k : Int32 → St → Option (St)) : Nat → Int32 → Int32 → St → Option (St)
  | 0, _, _, _ => none
  | n + 1, v1, v2, q => M_measures_B157 k (M_measures_L157 k n) v1 v2 q
theorem w_M_measures_L157 {X : Cv} (C : Cx X cX11_measures RX11 rmM_measures 3) (S : IsM X) {z : St} (hret : RokV X cX11_measures z) (k : Int32 → St → Option (St)) (hk : ∀ (v1 : Int32) (q : St), k v1 q = some z → At X 188 [(0, .ref (adOf X 0)), (1, .int v1)] [] q) (n : Nat) : ∀ (v1 : Int32) (v2 : Int32) (q : St), M_measures_L157 k n v1 v2 q = some z → At X 157 [(0, .ref (adOf X 0)), (1, .int v1), (2, .int v2)] [] q := by
  induction n with
  | zero => intro v1 v2 q h; cases h
  | succ n ih => intro v1 v2 q h; exact w_M_measures_B157 C S hret k hk _ ih v1 v2 q h
def M_measures_B151 (rec : Int32 → St → Option (St)) (v1 : Int32) (q : St) : Option (St) :=
  if v1 < (0 : Int32) then
    some q
  else
    M_measures_L157 (fun y33 q34 =>
      rec (y33 + -1) q34
      ) FU v1 (0 : Int32) q
theorem w_M_measures_B151 {X : Cv} (C : Cx X cX11_measures RX11 rmM_measures 3) (S : IsM X) {z : St} (hret : RokV X cX11_measures z) (rec : Int32 → St → Option (St)) (hrec : ∀ (v1 : Int32) (q : St), rec v1 q = some z → At X 151 [(0, .ref (adOf X 0)), (1, .int v1)] [] q) (v1 : Int32) (q : St) (h : M_measures_B151 rec v1 q = some z) : At X 151 [(0, .ref (adOf X 0)), (1, .int v1)] [] q := by
  unfold M_measures_B151 at h
  refine a_iload_n C 1 rfl rfl dX11_measures_151 ?_
  refine a_if_lt C 194 (by decide) dX11_measures_152 (fun c27 => ?_) (fun c27 => ?_)
  · replace h := ifp c27 h
    exact a_vret hret h dX11_measures_194
  · replace h := ifn c27 h
    refine a_iconst (v := 0) C (by decide) dX11_measures_155 ?_
    refine a_istore_n C [(2, .int (0 : Int32)), (0, .ref (adOf X 0)), (1, .int v1)] rfl (by decide) rfl dX11_measures_156 ?_
    refine At.sub [1, 2, 0] rfl (w_M_measures_L157 C S hret _ ?_ _ _ _ _ h)
    intro y33 q34 h
    refine a_iinc (v := (y33 + -1)) C [(1, .int (y33 + -1)), (0, .ref (adOf X 0))] 1 rfl (congrArg (HAdd.hAdd y33) (by decide : Int32.ofInt (-1) = (-1 : Int32))) (by decide) rfl dX11_measures_188 ?_
    refine a_goto C 151 (by decide) dX11_measures_191 ?_
    exact At.sub [1, 0] rfl (hrec _ _ h)
def M_measures_L151 : Nat → Int32 → St → Option (St)
  | 0, _, _ => none
  | n + 1, v1, q => M_measures_B151 (M_measures_L151 n) v1 q
theorem w_M_measures_L151 {X : Cv} (C : Cx X cX11_measures RX11 rmM_measures 3) (S : IsM X) {z : St} (hret : RokV X cX11_measures z) (n : Nat) : ∀ (v1 : Int32) (q : St), M_measures_L151 n v1 q = some z → At X 151 [(0, .ref (adOf X 0)), (1, .int v1)] [] q := by
  induction n with
  | zero => intro v1 q h; cases h
  | succ n ih => intro v1 q h; exact w_M_measures_B151 C S hret _ ih v1 q h
def M_measures (q : St) : Option (St) :=
  M_measures_L2 (fun q4 =>
    M_measures_L30 (fun q7 =>
      M_measures_L51 (fun q18 =>
        M_measures_L105 (fun q26 =>
          M_measures_L151 FU (16 : Int32) q26
          ) FU (0 : Int32) q18
        ) FU (0 : Int32) q7
      ) FU (0 : Int32) q4
    ) FU (0 : Int32) q
theorem w_M_measures {X : Cv} (C : Cx X cX11_measures RX11 rmM_measures 3) (S : IsM X) {z : St} (hret : RokV X cX11_measures z) (q : St) (h : M_measures q = some z) : At X 0 [(0, .ref (adOf X 0))] [] q := by
  unfold M_measures at h
  refine a_iconst (v := 0) C (by decide) dX11_measures_0 ?_
  refine a_istore_n C [(1, .int (0 : Int32)), (0, .ref (adOf X 0))] rfl (by decide) rfl dX11_measures_1 ?_
  refine At.sub [1, 0] rfl (w_M_measures_L2 C S hret _ ?_ _ _ _ h)
  intro q4 h
  refine a_iconst (v := 0) C (by decide) dX11_measures_28 ?_
  refine a_istore_n C [(1, .int (0 : Int32)), (0, .ref (adOf X 0))] rfl (by decide) rfl dX11_measures_29 ?_
  refine At.sub [1, 0] rfl (w_M_measures_L30 C S hret _ ?_ _ _ _ h)
  intro q7 h
  refine a_iconst (v := 0) C (by decide) dX11_measures_49 ?_
  refine a_istore_n C [(1, .int (0 : Int32)), (0, .ref (adOf X 0))] rfl (by decide) rfl dX11_measures_50 ?_
  refine At.sub [1, 0] rfl (w_M_measures_L51 C S hret _ ?_ _ _ _ h)
  intro q18 h
  refine a_iconst (v := 0) C (by decide) dX11_measures_103 ?_
  refine a_istore_n C [(1, .int (0 : Int32)), (0, .ref (adOf X 0))] rfl (by decide) rfl dX11_measures_104 ?_
  refine At.sub [1, 0] rfl (w_M_measures_L105 C S hret _ ?_ _ _ _ h)
  intro q26 h
  refine a_bipush (v := 16) C (by decide) dX11_measures_148 ?_
  refine a_istore_n C [(1, .int (16 : Int32)), (0, .ref (adOf X 0))] rfl (by decide) rfl dX11_measures_150 ?_
  exact At.sub [1, 0] rfl (w_M_measures_L151 C S hret _ _ _ h)
theorem c_M_measures {l : Launch} {D : va_G} {I : ClassId × ClassId × ClassId × ClassId} {ad : Nat → Nat} {q : St} {z : St} (h : M_measures q = some z) : Ctr l D I zT 18 (shM I) ad yX11_measures cX11_measures 3 none rmM_measures [.ref (ad 0)] q none z :=
  ctr_ofV (by decide) (Nat.le_of_ble_eq_true rfl) (fun p e s m args below meth c Q H0 X hX C hret => by subst hX; exact w_M_measures C ⟨rfl, rfl, rfl⟩ hret _ h)
theorem g_M_measures : GoodIn lw_tg (wsV RX11 215 RX11 yX11_measures (Cond.code yX11_measures cX11_measures 3 none :: lw_tg)) := gd_V (tg 1495 (by decide +kernel) rfl) (tg 1497 (by decide +kernel) rfl) (tg 84 (by decide +kernel) rfl) (tg 128 (by decide +kernel) rfl) (tg 1498 (by decide +kernel) rfl)
theorem k_M_measures {X : Cv} {cc : ByteArray} {rm : Room} {nL1 pc : Nat} {lv : List (Nat × Value)} {sk : List Value} {q : St} {q2 : St} (C : Cx X cc RX11 rm nL1) (S : IsM X) (h : M_measures q = some q2) (hz : rmM_measures.frames + 1 ≤ rm.frames ∧ 8 + (3 + 11) + rmM_measures.locals ≤ rm.locals) (hr : (sk.map fun v => v.category).sum ≤ 8) (hd : decode cc pc = .ok (.invokevirtual 215, 3)) (k : At X (pc + 3) lv sk q2) : At X pc lv (.ref (adOf X 0) :: sk) q := a_callVv (as := []) C (kp := 0) (by rw [S.1]; decide) (by rw [S.2.1]; rfl) rfl (by have hh := c_M_measures (l := X.2.1) (D := dOf X) (I := idOf X) (ad := adOf X) h; rw [← S.1, ← S.2.1, ← S.2.2] at hh; exact hh) g_M_measures ⟨rfl, rfl, hz.1, hz.2⟩ ⟨by decide, by decide, by show Option.map _ (parseMethodDescriptor yX11_measures.desc) = some 0; decide⟩ hr rfl hd k
