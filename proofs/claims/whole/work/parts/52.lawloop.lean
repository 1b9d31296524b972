/-! ===== THE LAW: its loop, its start ===== -/
theorem lw_step {X : Lv} (C : Lx X) {i : Nat} {qk qm : St} (k : Lt X 18 [(0, .ref (lb X)), (1, .ref (lad X 0)), (2, .ref (lam X 0)), (3, .int (nI (i + 6)))] [] qk qm) : Lt X 1521 [(0, .ref (lb X)), (1, .ref (lad X 0)), (2, .ref (lam X 0)), (3, .int (nI i))] [] qk qm := by
  refine l_iinc (v := nI (i + 6)) C [(3, .int (nI (i + 6))), (0, .ref (lb X)), (1, .ref (lad X 0)), (2, .ref (lam X 0))] 3 rfl (show nI i + Int32.ofInt 6 = nI (i + 6) from nI_add i 6) (by decide) rfl dL_law_1521 ?_
  refine l_goto C 18 (by decide) dL_law_1524 ?_
  obtain ⟨p, l, e, s, m, below, meth, c, D, I, ad, am, b, L, xs⟩ := X
  exact fun H locs ls hPk hPm hS hl => k H locs ls hPk hPm hS (lv_sub hl [1, 2, 3, 0] rfl)
theorem law_loop {X : Lv} (C : Lx X) (hL : lL X ≤ 3072) {Inv : St → St → Prop} (hs : StepOK Inv) : ∀ (n i : Nat) (qk qm : St), Inv qk qm → i ≤ lL X + 6 → lL X + 7 ≤ i + n → Lt X 18 [(0, .ref (lb X)), (1, .ref (lad X 0)), (2, .ref (lam X 0)), (3, .int (nI i))] [] qk qm := by
  obtain ⟨s_append, s_truncate, s_load, s_errorPosition, s_nodes, s_links, s_formats, s_layers, s_rate, s_linkBetween, s_capacity, s_isOpen, s_addReceiver, s_leave, s_setWanted, s_raise, s_place, s_remove, s_setCapacity, s_setOpen, s_improve, s_rebuild, s_undo, s_receivers, s_hasLeft, s_level, s_wanted, s_servedAt, s_pathNode, s_bottleneck, s_shared, s_neediest, s_isInTree, s_parent, s_delay, s_below, s_demand, s_linkLoad, s_cpuLoad, s_isPlaced, s_total, s_busiest, s_offer, s_graftNode, s_gain, s_bestPlace, s_loss, s_criticalLink, s_reportLength, s_reportByte, s_tapeLength⟩ := hs
  intro n
  induction n with
  | zero => intro i qk qm hI h1 h2; omega
  | succ n ih =>
    intro i qk qm hI h1 h2
    refine l_iload C 3 rfl rfl dL_law_18 ?_
    refine l_aload C 0 rfl rfl dL_law_19 ?_
    refine l_slen C dL_law_20 ?_
    refine l_bipush (v := nI 6) C (by decide) dL_law_21 ?_
    refine l_isub C dL_law_23 ?_
    have hsub : (nI (lL X) - nI 6).toInt = (lL X : Int) - 6 := pk_sub_toInt (by omega) (by omega)
    have hix : (nI i).toInt = (i : Int) := nI_toInt (by omega)
    refine l_icmp_gt C 1527 (by decide) dL_law_24 (fun _ => ?_) (fun hc => ?_)
    · refine l_iconst (v := 1) C (by decide) dL_law_1527 ?_
      exact l_ret (sk := []) C dL_law_1528
    · have hi : i + 6 ≤ lL X := by
        have : ¬ (nI (lL X) - nI 6).toInt < (nI i).toInt := fun h => hc (Int32.lt_iff_toInt_lt.mpr h)
        omega
      have hn : ∀ qk qm : St, Inv qk qm → Lt X 1521 [(0, .ref (lb X)), (1, .ref (lad X 0)), (2, .ref (lam X 0)), (3, .int (nI i))] [] qk qm := fun qk qm hI => lw_step C (ih (i + 6) qk qm hI (by omega) (by omega))
      refine l_aload C 0 rfl rfl dL_law_27 ?_
      refine l_iload C 3 rfl rfl dL_law_28 ?_
      refine l_sld C (vp_in_nI (by omega) (by omega)) dL_law_29 ?_
      refine l_bipush (v := 63) C (by decide) dL_law_30 ?_
      refine l_iand C dL_law_32 ?_
      generalize lxs X (nI i).toNatClampNeg &&& 63 = v
      by_cases c0 : v = 0
      · refine l_tabIn C 252 dL_law_33 (by rw [c0]; decide) (by rw [c0]; decide) (by rw [c0]; rfl) (by decide) ?_
        exact lc_append C hi hL s_append hI hn
      by_cases c1 : v = 1
      · refine l_tabIn C 315 dL_law_33 (by rw [c1]; decide) (by rw [c1]; decide) (by rw [c1]; rfl) (by decide) ?_
        exact lc_truncate C hi hL s_truncate hI hn
      by_cases c2 : v = 2
      · refine l_tabIn C 338 dL_law_33 (by rw [c2]; decide) (by rw [c2]; decide) (by rw [c2]; rfl) (by decide) ?_
        exact lc_load C hi hL s_load hI hn
      by_cases c3 : v = 3
      · refine l_tabIn C 351 dL_law_33 (by rw [c3]; decide) (by rw [c3]; decide) (by rw [c3]; rfl) (by decide) ?_
        exact lc_errorPosition C hi hL s_errorPosition hI hn
      by_cases c4 : v = 4
      · refine l_tabIn C 364 dL_law_33 (by rw [c4]; decide) (by rw [c4]; decide) (by rw [c4]; rfl) (by decide) ?_
        exact lc_nodes C hi hL s_nodes hI hn
      by_cases c5 : v = 5
      · refine l_tabIn C 377 dL_law_33 (by rw [c5]; decide) (by rw [c5]; decide) (by rw [c5]; rfl) (by decide) ?_
        exact lc_links C hi hL s_links hI hn
      by_cases c6 : v = 6
      · refine l_tabIn C 390 dL_law_33 (by rw [c6]; decide) (by rw [c6]; decide) (by rw [c6]; rfl) (by decide) ?_
        exact lc_formats C hi hL s_formats hI hn
      by_cases c7 : v = 7
      · refine l_tabIn C 403 dL_law_33 (by rw [c7]; decide) (by rw [c7]; decide) (by rw [c7]; rfl) (by decide) ?_
        exact lc_layers C hi hL s_layers hI hn
      by_cases c8 : v = 8
      · refine l_tabIn C 416 dL_law_33 (by rw [c8]; decide) (by rw [c8]; decide) (by rw [c8]; rfl) (by decide) ?_
        exact lc_rate C hi hL s_rate hI hn
      by_cases c9 : v = 9
      · refine l_tabIn C 449 dL_law_33 (by rw [c9]; decide) (by rw [c9]; decide) (by rw [c9]; rfl) (by decide) ?_
        exact lc_linkBetween C hi hL s_linkBetween hI hn
      by_cases c10 : v = 10
      · refine l_tabIn C 482 dL_law_33 (by rw [c10]; decide) (by rw [c10]; decide) (by rw [c10]; rfl) (by decide) ?_
        exact lc_capacity C hi hL s_capacity hI hn
      by_cases c11 : v = 11
      · refine l_tabIn C 505 dL_law_33 (by rw [c11]; decide) (by rw [c11]; decide) (by rw [c11]; rfl) (by decide) ?_
        exact lc_isOpen C hi hL s_isOpen hI hn
      by_cases c12 : v = 12
      · refine l_tabIn C 528 dL_law_33 (by rw [c12]; decide) (by rw [c12]; decide) (by rw [c12]; rfl) (by decide) ?_
        exact lc_addReceiver C hi hL s_addReceiver hI hn
      by_cases c13 : v = 13
      · refine l_tabIn C 571 dL_law_33 (by rw [c13]; decide) (by rw [c13]; decide) (by rw [c13]; rfl) (by decide) ?_
        exact lc_leave C hi hL s_leave hI hn
      by_cases c14 : v = 14
      · refine l_tabIn C 594 dL_law_33 (by rw [c14]; decide) (by rw [c14]; decide) (by rw [c14]; rfl) (by decide) ?_
        exact lc_setWanted C hi hL s_setWanted hI hn
      by_cases c15 : v = 15
      · refine l_tabIn C 627 dL_law_33 (by rw [c15]; decide) (by rw [c15]; decide) (by rw [c15]; rfl) (by decide) ?_
        exact lc_raise C hi hL s_raise hI hn
      by_cases c16 : v = 16
      · refine l_tabIn C 650 dL_law_33 (by rw [c16]; decide) (by rw [c16]; decide) (by rw [c16]; rfl) (by decide) ?_
        exact lc_place C hi hL s_place hI hn
      by_cases c17 : v = 17
      · refine l_tabIn C 683 dL_law_33 (by rw [c17]; decide) (by rw [c17]; decide) (by rw [c17]; rfl) (by decide) ?_
        exact lc_remove C hi hL s_remove hI hn
      by_cases c18 : v = 18
      · refine l_tabIn C 716 dL_law_33 (by rw [c18]; decide) (by rw [c18]; decide) (by rw [c18]; rfl) (by decide) ?_
        exact lc_setCapacity C hi hL s_setCapacity hI hn
      by_cases c19 : v = 19
      · refine l_tabIn C 749 dL_law_33 (by rw [c19]; decide) (by rw [c19]; decide) (by rw [c19]; rfl) (by decide) ?_
        exact lc_setOpen C hi hL s_setOpen hI hn
      by_cases c20 : v = 20
      · refine l_tabIn C 798 dL_law_33 (by rw [c20]; decide) (by rw [c20]; decide) (by rw [c20]; rfl) (by decide) ?_
        exact lc_improve C hi hL s_improve hI hn
      by_cases c21 : v = 21
      · refine l_tabIn C 811 dL_law_33 (by rw [c21]; decide) (by rw [c21]; decide) (by rw [c21]; rfl) (by decide) ?_
        exact lc_rebuild C hi hL s_rebuild hI hn
      by_cases c22 : v = 22
      · refine l_tabIn C 824 dL_law_33 (by rw [c22]; decide) (by rw [c22]; decide) (by rw [c22]; rfl) (by decide) ?_
        exact lc_undo C hi hL s_undo hI hn
      by_cases c23 : v = 23
      · refine l_tabIn C 837 dL_law_33 (by rw [c23]; decide) (by rw [c23]; decide) (by rw [c23]; rfl) (by decide) ?_
        exact lc_receivers C hi hL s_receivers hI hn
      by_cases c24 : v = 24
      · refine l_tabIn C 850 dL_law_33 (by rw [c24]; decide) (by rw [c24]; decide) (by rw [c24]; rfl) (by decide) ?_
        exact lc_hasLeft C hi hL s_hasLeft hI hn
      by_cases c25 : v = 25
      · refine l_tabIn C 873 dL_law_33 (by rw [c25]; decide) (by rw [c25]; decide) (by rw [c25]; rfl) (by decide) ?_
        exact lc_level C hi hL s_level hI hn
      by_cases c26 : v = 26
      · refine l_tabIn C 896 dL_law_33 (by rw [c26]; decide) (by rw [c26]; decide) (by rw [c26]; rfl) (by decide) ?_
        exact lc_wanted C hi hL s_wanted hI hn
      by_cases c27 : v = 27
      · refine l_tabIn C 919 dL_law_33 (by rw [c27]; decide) (by rw [c27]; decide) (by rw [c27]; rfl) (by decide) ?_
        exact lc_servedAt C hi hL s_servedAt hI hn
      by_cases c28 : v = 28
      · refine l_tabIn C 942 dL_law_33 (by rw [c28]; decide) (by rw [c28]; decide) (by rw [c28]; rfl) (by decide) ?_
        exact lc_pathNode C hi hL s_pathNode hI hn
      by_cases c29 : v = 29
      · refine l_tabIn C 975 dL_law_33 (by rw [c29]; decide) (by rw [c29]; decide) (by rw [c29]; rfl) (by decide) ?_
        exact lc_bottleneck C hi hL s_bottleneck hI hn
      by_cases c30 : v = 30
      · refine l_tabIn C 998 dL_law_33 (by rw [c30]; decide) (by rw [c30]; decide) (by rw [c30]; rfl) (by decide) ?_
        exact lc_shared C hi hL s_shared hI hn
      by_cases c31 : v = 31
      · refine l_tabIn C 1031 dL_law_33 (by rw [c31]; decide) (by rw [c31]; decide) (by rw [c31]; rfl) (by decide) ?_
        exact lc_neediest C hi hL s_neediest hI hn
      by_cases c32 : v = 32
      · refine l_tabIn C 1044 dL_law_33 (by rw [c32]; decide) (by rw [c32]; decide) (by rw [c32]; rfl) (by decide) ?_
        exact lc_isInTree C hi hL s_isInTree hI hn
      by_cases c33 : v = 33
      · refine l_tabIn C 1067 dL_law_33 (by rw [c33]; decide) (by rw [c33]; decide) (by rw [c33]; rfl) (by decide) ?_
        exact lc_parent C hi hL s_parent hI hn
      by_cases c34 : v = 34
      · refine l_tabIn C 1090 dL_law_33 (by rw [c34]; decide) (by rw [c34]; decide) (by rw [c34]; rfl) (by decide) ?_
        exact lc_delay C hi hL s_delay hI hn
      by_cases c35 : v = 35
      · refine l_tabIn C 1113 dL_law_33 (by rw [c35]; decide) (by rw [c35]; decide) (by rw [c35]; rfl) (by decide) ?_
        exact lc_below C hi hL s_below hI hn
      by_cases c36 : v = 36
      · refine l_tabIn C 1136 dL_law_33 (by rw [c36]; decide) (by rw [c36]; decide) (by rw [c36]; rfl) (by decide) ?_
        exact lc_demand C hi hL s_demand hI hn
      by_cases c37 : v = 37
      · refine l_tabIn C 1169 dL_law_33 (by rw [c37]; decide) (by rw [c37]; decide) (by rw [c37]; rfl) (by decide) ?_
        exact lc_linkLoad C hi hL s_linkLoad hI hn
      by_cases c38 : v = 38
      · refine l_tabIn C 1192 dL_law_33 (by rw [c38]; decide) (by rw [c38]; decide) (by rw [c38]; rfl) (by decide) ?_
        exact lc_cpuLoad C hi hL s_cpuLoad hI hn
      by_cases c39 : v = 39
      · refine l_tabIn C 1215 dL_law_33 (by rw [c39]; decide) (by rw [c39]; decide) (by rw [c39]; rfl) (by decide) ?_
        exact lc_isPlaced C hi hL s_isPlaced hI hn
      by_cases c40 : v = 40
      · refine l_tabIn C 1248 dL_law_33 (by rw [c40]; decide) (by rw [c40]; decide) (by rw [c40]; rfl) (by decide) ?_
        exact lc_total C hi hL s_total hI hn
      by_cases c41 : v = 41
      · refine l_tabIn C 1271 dL_law_33 (by rw [c41]; decide) (by rw [c41]; decide) (by rw [c41]; rfl) (by decide) ?_
        exact lc_busiest C hi hL s_busiest hI hn
      by_cases c42 : v = 42
      · refine l_tabIn C 1294 dL_law_33 (by rw [c42]; decide) (by rw [c42]; decide) (by rw [c42]; rfl) (by decide) ?_
        exact lc_offer C hi hL s_offer hI hn
      by_cases c43 : v = 43
      · refine l_tabIn C 1327 dL_law_33 (by rw [c43]; decide) (by rw [c43]; decide) (by rw [c43]; rfl) (by decide) ?_
        exact lc_graftNode C hi hL s_graftNode hI hn
      by_cases c44 : v = 44
      · refine l_tabIn C 1380 dL_law_33 (by rw [c44]; decide) (by rw [c44]; decide) (by rw [c44]; rfl) (by decide) ?_
        exact lc_gain C hi hL s_gain hI hn
      by_cases c45 : v = 45
      · refine l_tabIn C 1413 dL_law_33 (by rw [c45]; decide) (by rw [c45]; decide) (by rw [c45]; rfl) (by decide) ?_
        exact lc_bestPlace C hi hL s_bestPlace hI hn
      by_cases c46 : v = 46
      · refine l_tabIn C 1436 dL_law_33 (by rw [c46]; decide) (by rw [c46]; decide) (by rw [c46]; rfl) (by decide) ?_
        exact lc_loss C hi hL s_loss hI hn
      by_cases c47 : v = 47
      · refine l_tabIn C 1459 dL_law_33 (by rw [c47]; decide) (by rw [c47]; decide) (by rw [c47]; rfl) (by decide) ?_
        exact lc_criticalLink C hi hL s_criticalLink hI hn
      by_cases c48 : v = 48
      · refine l_tabIn C 1472 dL_law_33 (by rw [c48]; decide) (by rw [c48]; decide) (by rw [c48]; rfl) (by decide) ?_
        exact lc_reportLength C hi hL s_reportLength hI hn
      by_cases c49 : v = 49
      · refine l_tabIn C 1485 dL_law_33 (by rw [c49]; decide) (by rw [c49]; decide) (by rw [c49]; rfl) (by decide) ?_
        exact lc_reportByte C hi hL s_reportByte hI hn
      by_cases c50 : v = 50
      · refine l_tabIn C 1508 dL_law_33 (by rw [c50]; decide) (by rw [c50]; decide) (by rw [c50]; rfl) (by decide) ?_
        exact lc_tapeLength C hi hL s_tapeLength hI hn
      refine l_tabOut C 1521 dL_law_33 (by have t0 := tsn (k := 0) (by decide) c0; have t1 := tsn (k := 1) (by decide) c1; have t2 := tsn (k := 2) (by decide) c2; have t3 := tsn (k := 3) (by decide) c3; have t4 := tsn (k := 4) (by decide) c4; have t5 := tsn (k := 5) (by decide) c5; have t6 := tsn (k := 6) (by decide) c6; have t7 := tsn (k := 7) (by decide) c7; have t8 := tsn (k := 8) (by decide) c8; have t9 := tsn (k := 9) (by decide) c9; have t10 := tsn (k := 10) (by decide) c10; have t11 := tsn (k := 11) (by decide) c11; have t12 := tsn (k := 12) (by decide) c12; have t13 := tsn (k := 13) (by decide) c13; have t14 := tsn (k := 14) (by decide) c14; have t15 := tsn (k := 15) (by decide) c15; have t16 := tsn (k := 16) (by decide) c16; have t17 := tsn (k := 17) (by decide) c17; have t18 := tsn (k := 18) (by decide) c18; have t19 := tsn (k := 19) (by decide) c19; have t20 := tsn (k := 20) (by decide) c20; have t21 := tsn (k := 21) (by decide) c21; have t22 := tsn (k := 22) (by decide) c22; have t23 := tsn (k := 23) (by decide) c23; have t24 := tsn (k := 24) (by decide) c24; have t25 := tsn (k := 25) (by decide) c25; have t26 := tsn (k := 26) (by decide) c26; have t27 := tsn (k := 27) (by decide) c27; have t28 := tsn (k := 28) (by decide) c28; have t29 := tsn (k := 29) (by decide) c29; have t30 := tsn (k := 30) (by decide) c30; have t31 := tsn (k := 31) (by decide) c31; have t32 := tsn (k := 32) (by decide) c32; have t33 := tsn (k := 33) (by decide) c33; have t34 := tsn (k := 34) (by decide) c34; have t35 := tsn (k := 35) (by decide) c35; have t36 := tsn (k := 36) (by decide) c36; have t37 := tsn (k := 37) (by decide) c37; have t38 := tsn (k := 38) (by decide) c38; have t39 := tsn (k := 39) (by decide) c39; have t40 := tsn (k := 40) (by decide) c40; have t41 := tsn (k := 41) (by decide) c41; have t42 := tsn (k := 42) (by decide) c42; have t43 := tsn (k := 43) (by decide) c43; have t44 := tsn (k := 44) (by decide) c44; have t45 := tsn (k := 45) (by decide) c45; have t46 := tsn (k := 46) (by decide) c46; have t47 := tsn (k := 47) (by decide) c47; have t48 := tsn (k := 48) (by decide) c48; have t49 := tsn (k := 49) (by decide) c49; have t50 := tsn (k := 50) (by decide) c50; omega) (by decide) ?_
      exact hn qk qm hI
theorem sf_1 : ∀ i, i < 8 → Cond.exactly (Term.string RX5 (sIx.getD i 0)) "java/lang/String" ∈ flatC (Jvm.Cond.and given_1 narrow_1) := by decide +kernel
theorem sf_2 : ∀ i, i < 8 → Cond.eq (.field (Term.string RX5 (sIx.getD i 0)) "java/lang/String" "coder" "B") (.int 0) ∈ flatC (Jvm.Cond.and given_1 narrow_1) := by decide +kernel
theorem sf_3 : ∀ i, i < 8 → Cond.arrayOf (.field (Term.string RX5 (sIx.getD i 0)) "java/lang/String" "value" "[B") .byte ∈ flatC (Jvm.Cond.and given_1 narrow_1) := by decide +kernel
theorem sf_4 : ∀ i, i < 8 → Cond.eq (.length (.field (Term.string RX5 (sIx.getD i 0)) "java/lang/String" "value" "[B")) (.int (Int32.ofNat (sLn.getD i 0))) ∈ flatC (Jvm.Cond.and given_1 narrow_1) := by decide +kernel
theorem sf_5 : ∀ i, i < 8 → ∀ j, j < sLn.getD i 0 → Cond.eq (.elem (.field (Term.string RX5 (sIx.getD i 0)) "java/lang/String" "value" "[B") (.int (Int32.ofNat j))) (.int ((sBy.getD i []).getD j 0)) ∈ flatC (Jvm.Cond.and given_1 narrow_1) := by decide +kernel
theorem sf_6 : ∀ i, i < 8 → ∀ j, j < 8 → i ≠ j → (Cond.not (Cond.eq (Term.string RX5 (sIx.getD i 0)) (Term.string RX5 (sIx.getD j 0))) ∈ flatC (Jvm.Cond.and given_1 narrow_1) ∨ Cond.not (Cond.eq (Term.string RX5 (sIx.getD j 0)) (Term.string RX5 (sIx.getD i 0))) ∈ flatC (Jvm.Cond.and given_1 narrow_1)) := by decide +kernel
theorem sf_7 : ∀ i, i < 8 → Cond.stringRef RX5 (sIx.getD i 0) (sTx.getD i "") ∈ lw_tbl := by decide +kernel
theorem sf_8 : Cond.eq (.static "java/lang/String" "COMPACT_STRINGS" "Z") (.int 1) ∈ flatC (Jvm.Cond.and given_1 narrow_1) := by decide +kernel
theorem sf_9 : Cond.isRef (.static "jdk/internal/util/Preconditions" "SIOOBE_FORMATTER" "Ljava/util/function/BiFunction;") ∈ flatC (Jvm.Cond.and given_1 narrow_1) := by decide +kernel
set_option maxHeartbeats 4000000 in
set_option maxRecDepth 100000 in
theorem whole_of {p : Program} {e : Env} {s : State} {m : MethodId} {below : List Frame} {meth : Method} {c : Code} (l : Launch) {b L : Nat} {xs : Nat → Int32} (hL : L ≤ 3072) (C0 : lw_At p s m meth c b L xs) {Inv : St → St → Prop} {qk qm : St} (hk0 : K_init = some qk) (hm0 : M_init = some qm) (hI : Inv qk qm) (hs : StepOK Inv) : W p l e room_1 s m #[Value.ref b] below meth c s.heap [] 0 0 (lw_Z below #[Value.ref b] s) (entryFrame m ([Value.ref b] : List Value).toArray 4) := by
  obtain ⟨hx, hb, hr, hml, hown, hts0, hX, hbl, hlocks, hgv⟩ := C0
  have hts : ∀ w ∈ lw_tg, w.before #[Value.ref b] s = true := fun w h => hts0 w (List.mem_filter.mp h).1
  have hfl := flat_of_before _ hgv
  have hA : ∀ q : Nat, s.heap.size ≤ q → (fun q : Nat => s.heap.size ≤ q) q := fun _ h => h
  have hbA : ¬ (fun q : Nat => s.heap.size ≤ q) b := Nat.not_le.mpr hbl
  have hold : ∀ a : Nat, a < s.heap.size → ¬ (fun q : Nat => s.heap.size ≤ q) a := fun a h => Nat.not_le.mpr h
  obtain ⟨c0, iS0, hKn0⟩ := u_known (C := RX0) (T := TX0) (N := 6) (n := 6) hts inG0 (hts (.instantiable RX0 6) (tg 371 (by decide +kernel) rfl))
  obtain ⟨c1, iS1, hKn1⟩ := u_known (C := RX1) (T := TX1) (N := 7) (n := 7) hts inG1 (hts (.instantiable RX1 7) (tg 399 (by decide +kernel) rfl))
  obtain ⟨c2, iS2, hKn2⟩ := u_known (C := RX2) (T := TX2) (N := 3) (n := 3) hts inG2 (hts (.instantiable RX2 3) (tg 297 (by decide +kernel) rfl))
  obtain ⟨c3, iS3, hKn3⟩ := u_known (C := RX3) (T := TX3) (N := 5) (n := 5) hts inG3 (hts (.instantiable RX3 5) (tg 451 (by decide +kernel) rfl))
  obtain ⟨c4, iS4, hKn4⟩ := u_known (C := RX4) (T := TX4) (N := 12) (n := 12) hts inG4 (hts (.instantiable RX4 12) (tg 144 (by decide +kernel) rfl))
  obtain ⟨c5, iS5, hKn5⟩ := u_known (C := RX5) (T := TX5) (N := 6) (n := 6) hts inG5 (hts (.instantiable RX5 6) (tg 332 (by decide +kernel) rfl))
  obtain ⟨c6, iS6, hKn6⟩ := u_known (C := RX6) (T := TX6) (N := 2) (n := 2) hts inG6 (hts (.instantiable RX6 2) (tg 358 (by decide +kernel) rfl))
  obtain ⟨c7, iS7, hKn7⟩ := u_known (C := RX7) (T := TX7) (N := 11) (n := 11) hts inG7 (hts (.instantiable RX7 11) (tg 219 (by decide +kernel) rfl))
  obtain ⟨c8, iS8, hKn8⟩ := u_known (C := RX8) (T := TX8) (N := 2) (n := 2) hts inG8 (hts (.instantiable RX8 2) (tg 317 (by decide +kernel) rfl))
  obtain ⟨c9, iS9, hKn9⟩ := u_known (C := RX9) (T := TX9) (N := 5) (n := 5) hts inG9 (hts (.instantiable RX9 5) (tg 429 (by decide +kernel) rfl))
  obtain ⟨c10, iS10, hKn10⟩ := u_known (C := RX10) (T := TX10) (N := 13) (n := 13) hts inG10 (hts (.instantiable RX10 13) (tg 136 (by decide +kernel) rfl))
  obtain ⟨c11, iS11, hKn11⟩ := u_known (C := RX11) (T := TX11) (N := 29) (n := 29) hts inG11 (hts (.instantiable RX11 29) (tg 1211 (by decide +kernel) rfl))
  obtain ⟨dC, dI, hKc⟩ : ∃ (dC : Nat → ClassId) (dI : Nat → Nat → Nat), ∀ (k : Nat) (q : vw_C), vwCl[k]? = some q → u_Kn s q.1 q.2.1 q.2.2 (dC k) (dI k) := by
    refine ⟨fun k => if k = 0 then c0 else if k = 1 then c1 else if k = 2 then c2 else if k = 3 then c3 else if k = 4 then c4 else if k = 5 then c5 else if k = 6 then c6 else if k = 7 then c7 else if k = 8 then c8 else if k = 9 then c9 else if k = 10 then c10 else c11, fun k => if k = 0 then iS0 else if k = 1 then iS1 else if k = 2 then iS2 else if k = 3 then iS3 else if k = 4 then iS4 else if k = 5 then iS5 else if k = 6 then iS6 else if k = 7 then iS7 else if k = 8 then iS8 else if k = 9 then iS9 else if k = 10 then iS10 else iS11, ?_⟩
    intro k q hq
    match k, hq with
    | 0, hq => cases hq; exact hKn0
    | 1, hq => cases hq; exact hKn1
    | 2, hq => cases hq; exact hKn2
    | 3, hq => cases hq; exact hKn3
    | 4, hq => cases hq; exact hKn4
    | 5, hq => cases hq; exact hKn5
    | 6, hq => cases hq; exact hKn6
    | 7, hq => cases hq; exact hKn7
    | 8, hq => cases hq; exact hKn8
    | 9, hq => cases hq; exact hKn9
    | 10, hq => cases hq; exact hKn10
    | 11, hq => cases hq; exact hKn11
    | k + 12, hq => simp [vwCl] at hq
  obtain ⟨cI, kI, pI, hI1, hI2, hI3⟩ := Cond.arrayClass_spec (hts (.arrayClass .int) (tg 217 (by decide +kernel) rfl))
  obtain ⟨cB, kB, pB, hB1, hB2, hB3⟩ := Cond.arrayClass_spec (hts (.arrayClass .byte) (tg 708 (by decide +kernel) rfl))
  obtain ⟨cZ, kZ, pZ, hZ1, hZ2, hZ3⟩ := Cond.arrayClass_spec (hts (.arrayClass .boolean) (tg 295 (by decide +kernel) rfl))
  have hov := hts0 (.arrayOver (.object "LayeredMulticast$State")) (List.mem_of_getElem? (i := 303) (by decide +kernel))
  obtain ⟨pS, cS, kS, hS1, -, hS2, hS3, hS4⟩ := Cond.arrayOver_spec hov
  have hK : va_K (dC, dI) vwCl (tysL (cI, cB, cZ, cS)) s := by
    refine ⟨hKc, fun k q hq => ?_⟩
    match k, hq with
    | 0, hq => cases hq; exact ⟨fun n z => ⟨fun k h => (by cases h), kI, hI2, pI, hI3⟩, hI1⟩
    | 1, hq => cases hq; exact ⟨fun n z => ⟨fun k h => (by cases h), kB, hB2, pB, hB3⟩, hB1⟩
    | 2, hq => cases hq; exact ⟨fun n z => ⟨fun k h => (by cases h), kZ, hZ2, pZ, hZ3⟩, hZ1⟩
    | 3, hq => cases hq; exact ⟨fun n z => ⟨fun k h => (by cases h), kS, hS2, pS, hS3⟩, kS, pS, hS2, hS3, hS1, hS4⟩
    | k + 4, hq => simp [tysL] at hq
  obtain ⟨adK, adV, hvS, hvR⟩ := vk_Sof (args := #[Value.ref b]) (s := s) (N := 8) (tm := fun i => Term.string RX5 (sIx.getD i 0)) (len := sLn) (byt := sBy) (A := fun q : Nat => s.heap.size ≤ q) (by decide) (fun i hi => hfl _ (sf_1 i hi)) (fun i hi => hfl _ (sf_2 i hi)) (fun i hi => hfl _ (sf_3 i hi)) (fun i hi => hfl _ (sf_4 i hi)) (fun i hi j hj => hfl _ (sf_5 i hi j hj)) (fun i j hi hj hij => (sf_6 i hi j hj hij).imp (hfl _) (hfl _)) hold
  have hzs0 : zS (fun k => if k < 1100 then adK (k - 1000) else adV (k - 1100)) (fun q : Nat => s.heap.size ≤ q) s := by
    refine ⟨?_, fun i hi => ?_, ?_, ?_⟩
    · obtain ⟨g1, g2⟩ := hvS
      refine ⟨fun i hi => ?_, fun i j hi hj e => ?_⟩
      · have e1 : (fun i => (fun k => if k < 1100 then adK (k - 1000) else adV (k - 1100)) (1000 + i)) i = adK i := by
          show (if 1000 + i < 1100 then _ else _) = _
          rw [if_pos (by omega), show 1000 + i - 1000 = i by omega]
        have e2 : (fun i => (fun k => if k < 1100 then adK (k - 1000) else adV (k - 1100)) (1100 + i)) i = adV i := by
          show (if 1100 + i < 1100 then _ else _) = _
          rw [if_neg (by omega), show 1100 + i - 1100 = i by omega]
        rw [e1, e2]; exact g1 i hi
      · have e1 : ∀ i, i < 8 → (if 1000 + i < 1100 then adK (1000 + i - 1000) else adV (1000 + i - 1100)) = adK i := fun i hi => by
          rw [if_pos (by omega), show 1000 + i - 1000 = i by omega]
        have e : (if 1000 + i < 1100 then adK (1000 + i - 1000) else adV (1000 + i - 1100)) = (if 1000 + j < 1100 then adK (1000 + j - 1000) else adV (1000 + j - 1100)) := e
        rw [e1 i hi, e1 j hj] at e
        exact g2 i j hi hj e
    · show vk_R RX5 _ _ (if 1000 + i < 1100 then _ else _) s
      rw [if_pos (by omega), show 1000 + i - 1000 = i by omega]
      exact vk_R.of (A := #[Value.ref b]) (hts0 _ (sf_7 i hi)) (hvR i hi)
    · exact va_Zof (hts0 (.laysStatic "java/lang/String" "COMPACT_STRINGS" "Z") (List.mem_of_getElem? (i := 608) (by decide +kernel))) (hts (.initialized "java/lang/String") (tg 129 (by decide +kernel) rfl)) (va_eqv (hfl _ sf_8) rfl) hold
    · exact va_Zqof (hts0 (.laysStatic "jdk/internal/util/Preconditions" "SIOOBE_FORMATTER" "Ljava/util/function/BiFunction;") (List.mem_of_getElem? (i := 624) (by decide +kernel))) (hts (.initialized "jdk/internal/util/Preconditions") (tg 131 (by decide +kernel) rfl)) (hfl _ sf_9) hold
  generalize (fun k => if k < 1100 then adK (k - 1000) else adV (k - 1100)) = sa at hzs0
  have hnK : nK s := ⟨va_Nw.of rfl (hts0 _ (List.mem_of_getElem? (i := 145) (by decide +kernel))), va_Nw.of rfl (hts0 _ (List.mem_of_getElem? (i := 220) (by decide +kernel))), va_Nw.of rfl (hts0 _ (List.mem_of_getElem? (i := 318) (by decide +kernel))), va_Nw.of rfl (hts0 _ (List.mem_of_getElem? (i := 304) (by decide +kernel))), va_AO.of hov⟩
  have hP : va_P (dC, dI) vwCl [] s.heap := fun k q h => by simp at h
  have hD : va_D (fun q : Nat => s.heap.size ≤ q) [] := ⟨fun i j p q h => by simp at h, fun k q h => by simp at h⟩
  have hS : va_S (fun q : Nat => s.heap.size ≤ q) s.heap s.heap [] := va_S.rf
  have hl := lv_entry ([.ref b]) (n := 4) (Nat.le_of_ble_eq_true rfl)
  rw [lg_entry_eq]
  generalize (lg_sl ([.ref b]) ++ List.replicate (4 - (lg_sl ([.ref b])).length) Slot.unset).toArray = ls at hl ⊢
  have hl : lv_has ls 4 [(0, .ref b)] := hl
  refine va_new (D := (dC, dI)) (ci := 10) (fs := [.null, .null, .null, .null, .null, .null, .null, .null, .null, .null, .null, .null, .int 0]) (C := RX10) (T := TX10) (N := 13) hx hb hts inG10 tyX10 tyX10_ok hown (hts _ (tg 135 (by decide +kernel) rfl)) (hts _ (tg 136 (by decide +kernel) rfl)) (hts _ (tg 115 (by decide +kernel) rfl)) hK hP hD hS hA rfl (fun j hj => by rcases (show j = 0 ∨ j = 1 ∨ j = 2 ∨ j = 3 ∨ j = 4 ∨ j = 5 ∨ j = 6 ∨ j = 7 ∨ j = 8 ∨ j = 9 ∨ j = 10 ∨ j = 11 ∨ j = 12 by omega) with rfl | rfl | rfl | rfl | rfl | rfl | rfl | rfl | rfl | rfl | rfl | rfl | rfl <;> rfl) (Nat.le_of_ble_eq_true rfl) (Nat.le_of_ble_eq_true rfl) dL_law_0 (fun qx H hP hD hS => ?_)
  have hP : va_P (dC, dI) vwCl [(qx, e0K)] H := hP
  have hD : va_D (fun q : Nat => s.heap.size ≤ q) [(qx, e0K)] := hD
  refine lv_dup hx hb dL_law_3 rfl ?_
  have hqx : s.heap.size ≤ qx := hD.2 0 (qx, e0K) rfl
  have hFx : ∀ z, va_A [(qx, e0K)] H.size z → s.heap.size ≤ z := fun z hz => by
    rcases hz with ⟨i, e9, hi⟩ | hz
    · have : i = 0 := by
        have := (List.getElem?_eq_some_iff.mp hi).1
        simp at this; exact this
      subst this
      have hz : qx = z := by simp at hi; exact hi.1
      rw [← hz]; exact hqx
    · exact Nat.le_trans hS.1 hz
  refine va_callv (va_runI (b := qx) (As := []) (rest := [.ref qx]) ⟨hx, hb, hml, hown, hts⟩ (i_K (I := (cI, cB, cZ, cS)) (sa := sa) (h0 := qx) hk0 H.size) ⟨callB_of 0 hts (gd_code (tg 139 (by decide +kernel) rfl)) rfl rfl rfl (hts _ (tg 115 (by decide +kernel) rfl)) (hts (.methodLink R_law 9 yX10_init) (tg 137 (by decide +kernel) rfl)) ⟨by decide, by decide, by decide⟩ ⟨Nat.le_of_ble_eq_true rfl, Nat.le_of_ble_eq_true rfl⟩, rfl, hts _ (tg 138 (by decide +kernel) rfl)⟩ ⟨fun a U g mk z => by obtain ⟨y0, y1, yP, yK, yN, yZ⟩ := z; exact ⟨y0, y1, yP, va_K.moved (u := U) (U := U.calling g mk a) (Vm.Alike.refl U.vm) yK, nK_ok.2 U g mk a yN, zS_ok.2 U g mk a yZ⟩, fun U hU hW => ⟨rfl, by rw [hU], by rw [hU]; exact hP, va_K.moved hW.alike hK, nK_ok.1 s U hnK hW, zS_narrow (zS_ok.1 s U hzs0 hW (by rw [hU]; exact hS.2.1)) hFx⟩⟩ rfl rfl hl.1 rfl (lv_room (Nat.le_of_ble_eq_true rfl)) dL_law_4 ⟨Nat.le_of_ble_eq_true rfl, Nat.le_of_ble_eq_true rfl⟩) hS (fun z _ h => hFx z h) hFx (fun ad t H1 locs1 ht hvm hw hBk hz1 hk1 hS1 => ?_)
  obtain ⟨had0, hads⟩ := hw
  obtain ⟨hPk, hDk⟩ := hBk
  rw [ht] at hPk
  obtain ⟨hik, hAk⟩ := inj_of_D hDk
  have hdk : ∀ k, k < 168 → s.heap.size ≤ ad k := fun k hk => hFx _ (hAk k hk)
  have hDk : va_D (fun q : Nat => s.heap.size ≤ q) (pic 168 (shK (cI, cB, cZ, cS)) ad qk) := D_of_inj hik hdk
  clear hP hD hS
  have hP := hPk
  have hD := hDk
  have hS := hS1
  refine lv_astore_n (lv' := [(1, .ref qx), (0, .ref b)]) hx hb dL_law_7 rfl hl (by decide) rfl (fun ls hl => ?_)
  refine va_new (D := (dC, dI)) (ci := 11) (fs := [.null, .int 0, .int 0, .null, .null, .int 0, .int 0, .int 0, .int 0, .int 0, .long 0, .int 0, .null, .null, .null, .int 0, .null, .null, .null, .null, .null, .null, .null, .int 0, .null, .null, .null, .null, .int 0]) (C := RX11) (T := TX11) (N := 29) hx hb hts inG11 tyX11 tyX11_ok hown (hts _ (tg 1210 (by decide +kernel) rfl)) (hts _ (tg 1211 (by decide +kernel) rfl)) (hts _ (tg 128 (by decide +kernel) rfl)) hK hP hD hS hA rfl (fun j hj => by rcases (show j = 0 ∨ j = 1 ∨ j = 2 ∨ j = 3 ∨ j = 4 ∨ j = 5 ∨ j = 6 ∨ j = 7 ∨ j = 8 ∨ j = 9 ∨ j = 10 ∨ j = 11 ∨ j = 12 ∨ j = 13 ∨ j = 14 ∨ j = 15 ∨ j = 16 ∨ j = 17 ∨ j = 18 ∨ j = 19 ∨ j = 20 ∨ j = 21 ∨ j = 22 ∨ j = 23 ∨ j = 24 ∨ j = 25 ∨ j = 26 ∨ j = 27 ∨ j = 28 by omega) with rfl | rfl | rfl | rfl | rfl | rfl | rfl | rfl | rfl | rfl | rfl | rfl | rfl | rfl | rfl | rfl | rfl | rfl | rfl | rfl | rfl | rfl | rfl | rfl | rfl | rfl | rfl | rfl | rfl <;> rfl) (Nat.le_of_ble_eq_true rfl) (Nat.le_of_ble_eq_true rfl) dL_law_8 (fun qy H hP hD hS => ?_)
  have hPk : va_P (dC, dI) vwCl (pic 168 (shK (cI, cB, cZ, cS)) ad qk) H := fun k z hk => hP k z (by rw [List.getElem?_append_left (List.getElem?_eq_some_iff.mp hk).1]; exact hk)
  have hlast : (pic 168 (shK (cI, cB, cZ, cS)) ad qk ++ [(qy, e0M)])[168]? = some (qy, e0M) := by
    rw [List.getElem?_append_right (by rw [pic_len]; omega), pic_len]; rfl
  have hPq : va_P (dC, dI) vwCl [(qy, e0M)] H := fun k z hk => by
    have : k = 0 := by
      have := (List.getElem?_eq_some_iff.mp hk).1
      simp at this; exact this
    subst this
    cases hk
    exact hP 168 _ hlast
  have hqy : s.heap.size ≤ qy := hD.2 168 (qy, e0M) hlast
  have hFy : ∀ z, va_A [(qy, e0M)] H.size z → z = qy ∨ H.size ≤ z := fun z hz => by
    rcases hz with ⟨i, e9, hi⟩ | hz
    · have : i = 0 := by
        have := (List.getElem?_eq_some_iff.mp hi).1
        simp at this; exact this
      subst this
      have hz : qy = z := by simp at hi; exact hi.1
      exact Or.inl hz.symm
    · exact Or.inr hz
  have hFz : ∀ z, va_A [(qy, e0M)] H.size z → s.heap.size ≤ z := fun z hz => (hFy z hz).elim (fun e9 => e9 ▸ hqy) (fun h9 => Nat.le_trans hS.1 h9)
  have hady : ∀ k, k < 168 → ad k < H.size ∧ ad k ≠ qy := fun k hk => by
    refine ⟨(hPk k _ (pic_get hk)).lt, fun e9 => ?_⟩
    have := hD.1 k 168 _ _ (by rw [List.getElem?_append_left (by rw [pic_len]; exact hk)]; exact pic_get hk) hlast e9
    omega
  refine lv_dup hx hb dL_law_11 rfl ?_
  refine va_callv (va_runI (b := qy) (As := []) (rest := [.ref qy]) ⟨hx, hb, hml, hown, hts⟩ (i_M (I := (cI, cB, cZ, cS)) (h0 := qy) hm0 H.size) ⟨callB_of 0 hts (gd_code (tg 1214 (by decide +kernel) rfl)) rfl rfl rfl (hts _ (tg 128 (by decide +kernel) rfl)) (hts (.methodLink R_law 12 yX11_init) (tg 1212 (by decide +kernel) rfl)) ⟨by decide, by decide, by decide⟩ ⟨Nat.le_of_ble_eq_true rfl, Nat.le_of_ble_eq_true rfl⟩, rfl, hts _ (tg 1213 (by decide +kernel) rfl)⟩ ⟨fun a U g mk z => by obtain ⟨y0, y1, yP, yK⟩ := z; exact ⟨y0, y1, yP, va_K.moved (u := U) (U := U.calling g mk a) (Vm.Alike.refl U.vm) yK⟩, fun U hU hW => ⟨rfl, by rw [hU], by rw [hU]; exact hPq, va_K.moved hW.alike hK⟩⟩ rfl rfl hl.1 rfl (lv_room (Nat.le_of_ble_eq_true rfl)) dL_law_12 ⟨Nat.le_of_ble_eq_true rfl, Nat.le_of_ble_eq_true rfl⟩) hS (fun z _ h => hFz z h) hFz (fun am t2 H2 locs2 ht2 hvm2 ham hBm hz2 hk2 hS2 => ?_)
  obtain ⟨hPm, hDm⟩ := hBm
  rw [ht2] at hPm
  obtain ⟨him, hAm⟩ := inj_of_D hDm
  have hPk2 : va_P (dC, dI) vwCl (pic 168 (shK (cI, cB, cZ, cS)) ad qk) H2 := P_keep hPk hk2 (fun k hk h9 => by
    have h1 := hady k hk
    rcases hFy _ h9 with h8 | h8
    · exact h1.2 h8
    · omega)
  refine lv_astore_n (lv' := [(2, .ref qy), (1, .ref qx), (0, .ref b)]) hx hb dL_law_15 rfl hl (by decide) rfl (fun ls hl => ?_)
  refine lv_iconst (v := 0) hx hb dL_law_16 (by decide) ?_
  refine lv_istore_n (lv' := [(3, .int 0), (2, .ref qy), (1, .ref qx), (0, .ref b)]) hx hb dL_law_17 rfl hl (by decide) rfl (fun ls hl => ?_)
  refine W.widen (k := 440) (n := 20000) (Nat.le_of_ble_eq_true rfl) (Nat.le_of_ble_eq_true rfl) ?_
  have hC : Lx (p, l, e, s, m, below, meth, c, (dC, dI), (cI, cB, cZ, cS), ad, am, b, L, xs) := ⟨⟨hx, hb, hml, hown, hts⟩, hr, hlocks, hX, hbl, hK, ⟨hik, hdk⟩, ⟨him, fun k hk => hFz _ (hAm k hk)⟩, fun i j hi hj e9 => by
    have h1 := hady i hi
    rcases hFy _ (hAm j hj) with h8 | h8
    · exact h1.2 (e9.trans h8)
    · omega, sa, hads, hzs0⟩
  have hgo := law_loop hC hL hs (L + 7) 0 qk qm hI (by omega) (show L + 7 ≤ 0 + (L + 7) by omega)
  exact hgo H2 locs2 ls hPk2 hPm hS2 (lv_sub (l' := [(0, .ref b), (1, .ref (ad 0)), (2, .ref (am 0)), (3, .int (nI 0))]) hl [3, 2, 1, 0] (by rw [had0, ham]; rfl))
