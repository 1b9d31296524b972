/-! ===== PHASE B: operations, on ===== -/
theorem sp_setWanted : Sp_setWanted Inv := by
  intro k m v1 v2 hI
  obtain ⟨A, hG, hR, hK, hT, hH⟩ := id hI
  have hN := hG.1.1.1
  have h4 := hG.2.1.1
  unfold K_setWanted M_setWanted
  rcases recv_c hG hR hK v1 with ⟨r, r1, r2, r3, r4, r5⟩ | ⟨r4, r5⟩
  · rcases level_c hG hR hK v2 with ⟨w, w0, w1, w2, w3, w4⟩ | ⟨w3, w4⟩
    · simp only [b1_some, b2_some, lt_e, o10, eq_self, ↓reduceIte, r4, r5, w3, w4]
      have hq := hG.2.1.2.1 r r1
      have h14 := hG.1.l14 r (by omega)
      rw [r3, w2, M_of2 hR (by omega), b1_some, rd_n (by omega) (by omega), b1_some, show gt k 22 r = nI (A 13 r) from hK.wa r1]
      simp (disch := omega) only [b1_some, b2_some, lt_e, rd_n, wr_n, nI_add, pk_mul, nI_leI, nI_ltI, nI_eq, nI_1]
      by_cases c : A 13 r = w
      · rw [if_pos c, if_pos c]
        exact ⟨-2, k, m, rfl, rfl, hI⟩
      · rw [if_neg c, if_neg c]
        obtain ⟨k1, m1, e1, e2, e3, e4, e5, e6⟩ := hH.keep (Or.inl rfl) hG Es.rf hR.2 hK.2
        have hR1 : RM A m1 := RM_row (e4 2 (by omega) (by omega)) (e4 4 (by omega) (by omega)) hR
        have hK1 : RK A sI (A 0 4) k1 := hK.lo (fun j hj => e6 j (by omega))
        have hT1 := hT.keep e4 e5 e6
        have hg := Sg_sI hG.2.1
        rw [e1, e2, b1_some, b1_some, show M_set m1 (nI r) 2 (nI w) = some (st m1 4 (97 + 5 * r + 2) (nI w)) from M_set_e _ (by omega) (w := 2) (by omega), b1_some]
        have hR2 : RM (up2 A 13 r w) (st m1 4 (97 + 5 * r + 2) (nI w)) := hR1.lvl hG.1.1 (r := r) (w := 2) w (by omega) (by omega)
        have hK2 : RK (up2 A 13 r w) sI (A 0 4) (st k1 22 r (nI w)) := hK1.c13 hg (r := r) (v := w) r1
        have hW1 := c1315 hG.1 (c := 13) (r := r) (v := w) (Or.inl rfl)
        have hg1 : Sg (up2 A 13 r w) sI (A 0 4) := ⟨hg.1, hg.2.1, hg.2.2.1, fun q a b => hg.2.2.2.1 q a (by rw [up2_ne (by omega)] at b; exact b), fun q a => by rw [up2_ne (by omega), up2_ne (by omega), up2_ne (by omega), up2_ne (by omega)]; exact hg.2.2.2.2 q a⟩
        have u14 : up2 A 13 r w 14 r = A 14 r := up2_ne (by omega)
        have hR2l := M_of3 hR2 (r := r) (by omega)
        rw [u14] at hR2l
        have hKl : gt (st k1 22 r (nI w)) 23 r = nI (A 14 r) := by rw [hK2.lv r1]; show nI (up2 A 13 r w 14 r) = _; rw [u14]
        rw [hR2l, b1_some, hKl, imin_n (by omega) (by omega), gt_st_same]
        have hK3 : RK (up2 (up2 A 13 r w) 14 r (min (A 14 r) w)) sI (A 0 4) (st (st k1 22 r (nI w)) 23 r (nI (min (A 14 r) w))) := hK2.sl hg1 (r := r) (v := min (A 14 r) w) r1
        -- the reference
        have hM : ∃ m3, (if nI (A 14 r) ≤ nI w then M_setWanted_J59 (nI r) (st m1 4 (97 + 5 * r + 2) (nI w)) else b1 (M_set (st m1 4 (97 + 5 * r + 2) (nI w)) (nI r) 3 (nI w)) fun q12 => M_setWanted_J59 (nI r) q12) = some (nI (min (A 14 r) w), m3) ∧ RM (up2 (up2 A 13 r w) 14 r (min (A 14 r) w)) m3 ∧ ∀ j, j ≠ 4 → m3.1 j = m1.1 j := by
          unfold M_setWanted_J59
          by_cases d : A 14 r ≤ w
          · rw [if_pos ((nI_leI (by omega) (by omega)).mpr d), hR2l, b1_some, show min (A 14 r) w = A 14 r by omega]
            refine ⟨_, rfl, ?_, fun j hj => st_row_ne hj⟩
            have := up2_id (A := up2 A 13 r w) (c := 14) (i := r)
            rw [u14] at this
            rw [this]; exact hR2
          · rw [if_neg (fun z => d ((nI_leI (by omega) (by omega)).mp z)), M_set3 _ (by omega), b1_some]
            have hR3 : RM (up2 (up2 A 13 r w) 14 r w) (st (st m1 4 (97 + 5 * r + 2) (nI w)) 4 (97 + 5 * r + 3) (nI w)) := hR2.lvl hW1.1 (r := r) (w := 3) w (by omega) (by omega)
            have := M_of3 hR3 (r := r) (by omega)
            rw [up2_same] at this
            rw [this, b1_some, show min (A 14 r) w = w by omega]
            exact ⟨_, rfl, hR3, fun j hj => by rw [st_row_ne hj, st_row_ne hj]⟩
        obtain ⟨m3, g1, g2, g3⟩ := hM
        rw [g1]
        have hlow := low_wf hW1 (r := r) (v := min (A 14 r) w) (by rw [u14]; omega)
        obtain ⟨B, hB⟩ : ∃ B, B = up2 (up2 A 13 r w) 14 r (min (A 14 r) w) := ⟨_, rfl⟩
        have u : ∀ a j, a ≠ 13 → a ≠ 14 → B a j = A a j := fun a j x y => by rw [hB, up2_ne (Or.inl y), up2_ne (Or.inl x)]
        have b14 : ∀ q, B 14 q = if q = r then min (A 14 r) w else A 14 q := fun q => by
          rw [hB]
          by_cases d : q = r
          · rw [if_pos d, d, up2_same]
          · rw [if_neg d, up2_ne (Or.inr d), up2_ne (Or.inr d)]
        have b13 : ∀ q, B 13 q = if q = r then w else A 13 q := fun q => by
          rw [hB, up2_ne (by omega)]
          by_cases d : q = r
          · rw [if_pos d, d, up2_same]
          · rw [if_neg d, up2_ne (Or.inr d)]
        rw [← hB] at g2 hK3 hlow
        have eB4 : B 0 4 = A 0 4 := u 0 4 (by omega) (by omega)
        have hGB : WFg B := by
          refine ⟨hlow, ⟨by rw [eB4]; exact h4, fun q hq => ?_, fun q hq h => ?_⟩, fun n h1 h2 h3 => ?_, fun q hq => ?_, Cp_of hG.2.2.2.2 (fun a j x _ => u a j (by omega) (by omega)) (fun j => u 7 j (by omega) (by omega)) (fun j _ => Or.inl (u 10 j (by omega) (by omega)))⟩
          · rw [eB4] at hq
            obtain ⟨x1, x2, x3, x4, x5⟩ := hG.2.1.2.1 q hq
            rw [u 0 0 (by omega) (by omega), u 0 2 (by omega) (by omega), u 0 3 (by omega) (by omega), u 11 q (by omega) (by omega), u 12 q (by omega) (by omega), u 15 q (by omega) (by omega), b13]
            refine ⟨x1, x2, ?_, ?_, x5⟩
            · split <;> omega
            · split <;> omega
          · rw [eB4] at h
            rw [b14, if_neg (by omega)]; exact hG.2.1.2.2 q hq h
          · rw [u 0 0 (by omega) (by omega)] at h2 ⊢
            rw [u 10 n (by omega) (by omega)] at h3
            rcases hG.2.2.1 n h1 h2 h3 with ⟨c, c1, c2, c3⟩ | ⟨q, q1, q2, q3⟩
            · exact Or.inl ⟨c, c1, c2, by rw [u 10 c (by omega) (by omega)]; exact c3⟩
            · refine Or.inr ⟨q, q1, ?_, by rw [u 11 q (by omega) (by omega)]; exact q3⟩
              rw [b14]
              by_cases d : q = r
              · rw [if_pos d]; rw [d] at q2; omega
              · rw [if_neg d]; exact q2
          · rw [eB4] at hq
            have := hG.2.2.2.1 q hq
            rw [b14, b13]
            by_cases d : q = r
            · rw [if_pos d, if_pos d]; omega
            · rw [if_neg d, if_neg d]; exact this
        refine ⟨_, _, m3, rfl, rfl, Inv.same hGB g2 (by rw [eB4]; exact hK3) hT1 (e3.es (fun a j x y => u a j (by omega) (by omega))) (fun j hj => g3 j (by omega)) (fun i hi => by rw [g3 0 (by omega)]) (fun j hj => by rw [st_row_ne (by omega), st_row_ne (by omega)])⟩
    · simp only [b1_some, b2_some, lt_e, o10, eq_self, ↓reduceIte, r4, r5, w3, w4]
      exact ⟨-1, k, m, rfl, rfl, hI⟩
  · simp only [b1_some, b2_some, lt_e, o10, eq_self, ↓reduceIte, r4, r5]
    exact ⟨-1, k, m, rfl, rfl, hI⟩
theorem sp_raise : Sp_raise Inv := by
  intro k m v1 hI
  obtain ⟨A, hG, hR, hK, hT, hH⟩ := id hI
  have hN := hG.1.1.1
  have h4 := hG.2.1.1
  unfold K_raise M_raise
  rcases recv_c hG hR hK v1 with ⟨r, r1, r2, r3, r4, r5⟩ | ⟨r4, r5⟩
  · simp only [b1_some, b2_some, lt_e, o10, eq_self, ↓reduceIte, r4, r5]
    have hq := hG.2.1.2.1 r r1
    have hlw := hG.2.2.2.1 r r1
    have hg := Sg_sI hG.2.1
    obtain ⟨k1, a1, a2, a3, a4⟩ := aside_K hG hK
    have f3 : gt k1 23 r = nI (A 14 r) := a2.lv r1
    have f2 : gt k1 22 r = nI (A 13 r) := a2.wa r1
    rw [r3, M_of3 hR (by omega), b1_some, M_of2 hR (by omega), b1_some, a1, b1_some]
    simp (disch := omega) only [b1_some, b2_some, lt_e, rd_n, wr_n, nI_add, pk_mul, nI_leI, nI_ltI, nI_eq, nI_1, f3, f2]
    by_cases c : A 14 r = A 13 r
    · rw [if_pos c, if_pos (by omega)]
      exact ⟨-2, k1, m, rfl, rfl, Inv.same hG hR a2 hT hH (fun _ _ => rfl) (fun _ _ => rfl) (fun j hj => a4 j (by omega))⟩
    · rw [if_neg c, if_neg (by omega)]
      obtain ⟨m1, b1', b2', b3'⟩ := M_laysAside_e m
      have hR1 : RM A m1 := RM_row (b2' 2 (by omega)) (b2' 4 (by omega)) hR
      rw [b1', b1_some]
      obtain ⟨m2, k2, A2, z, y1, y2, y3, y4, y5, y6, y7, y8⟩ := tries_both hG.1 hg hR1 a2 (r := r) (lv := A 14 r + 1) r1 (by omega)
      have y2 : M_tries m1 (nI r) (nI (A 14 r + 1)) = some (nI z, m2) := y2
      obtain ⟨m3, c1, c2, c3⟩ := M_comesBack_e m2
      obtain ⟨g1, g2, g3⟩ := back (by omega) hR b2' b3' y6.x c2 c3
      rw [y2, y3, b2_some, b2_some, c1, b1_some]
      have hsv : RKw A sI (A 0 4) k2 30 := RKw_row (fun j x y => y7.y j (by omega)) a3
      have hT3 : Tp k2 m3 := hT.row (g2 1 (by omega)) (fun i hi => g3 i (by omega) (by omega)) (fun j hj => by rw [y7.y j (by omega), a4 j (by omega)])
      have hH3 : Hs A k2 m3 := hH.row (fun j x y => by rw [y7.y j (by omega), a4 j (by omega)]) (g2 6 (by omega)) (g3 15 (by omega) (by omega))
      rcases y8 with ⟨z1, z2⟩ | ⟨z1, C, z2, z3⟩
      · subst z1 z2
        rw [if_pos nI_0, if_pos nI_0]
        exact ⟨-2, k2, m3, rfl, rfl, _, hG, g1, y5, hT3, hH3⟩
      · subst z1
        rw [if_neg (by decide), if_neg (by decide)]
        obtain ⟨k3, m4, e1, e2, e3, e4, e5, e6⟩ := hH3.keep (Or.inr rfl) hG Es.rf g1.2 hsv
        have hR4 : RM A m4 := RM_row (e4 2 (by omega) (by omega)) (e4 4 (by omega) (by omega)) g1
        rw [e1, e2, b1_some, b1_some]
        obtain ⟨m5, k5, A5, z', x1, x2, x3, x4, x5, x6, x7, x8⟩ := tries_both hG.1 hg hR4 a2 (r := r) (lv := A 14 r + 1) r1 (by omega)
        have x2 : M_tries m4 (nI r) (nI (A 14 r + 1)) = some (nI z', m5) := x2
        rw [x3] at y3
        have hpair := Option.some.inj y3
        have hz : nI z' = nI 1 := congrArg Prod.fst hpair
        have hk : k5 = k2 := congrArg Prod.snd hpair
        have hz' : z' = 1 := nI_inj (by omega) (by omega) hz
        rw [hk] at x5
        rw [x2, b2_some]
        rcases x8 with ⟨w1, _⟩ | ⟨_, D, w2, w3⟩
        · omega
        · have w2 : Gr A r (A 14 r + 1) D := w2
          have w3 : A5 = up2 D 14 r (A 14 r + 1) := w3
          obtain ⟨p1, p2⟩ := Gr_good hG r1 (by omega) (by omega) w2
          rw [← w3] at p1 p2
          have e54 : A5 0 4 = A 0 4 := p2 0 4 (by omega) (by omega)
          refine ⟨_, k3, m5, rfl, rfl, Inv.same p1 x4 (by rw [e54]; exact x5.lo (fun j hj => e6 j (by omega))) (hT3.keep e4 e5 e6) (e3.es p2.ec.s) (fun j hj => x6.x.1 j (by omega)) (fun i hi => x6.x.2 i (by omega) (by omega)) (fun j _ => rfl)⟩
  · simp only [b1_some, b2_some, lt_e, o10, eq_self, ↓reduceIte, r4, r5]
    exact ⟨-1, k, m, rfl, rfl, hI⟩
theorem or_e : ∀ p, p < 16 → ∀ f, f < 4 → p / 2 ^ f % 2 = 0 → nI p ||| ((1 : Int32) <<< (nI f &&& 31)) = nI (p + 2 ^ f) := by decide +kernel
theorem clr_e : ∀ p, p < 16 → ∀ f, f < 4 → p / 2 ^ f % 2 = 1 → nI p &&& (((1 : Int32) <<< (nI f &&& 31)) ^^^ (-1 : Int32)) = nI (p - 2 ^ f) := by decide +kernel
theorem pmk_up {A : Ab} {n f v : Nat} (hf : f < 4) : pmk (up2 A 9 (4 * n + f) v) n + A 9 (4 * n + f) * 2 ^ f = pmk A n + v * 2 ^ f := by
  unfold pmk
  rcases (show f = 0 ∨ f = 1 ∨ f = 2 ∨ f = 3 by omega) with rfl | rfl | rfl | rfl
  · rw [Nat.add_zero, up2_same, up2_ne (by omega), up2_ne (by omega), up2_ne (by omega)]; omega
  · rw [up2_same, up2_ne (by omega), up2_ne (by omega), up2_ne (by omega)]; omega
  · rw [up2_same, up2_ne (by omega), up2_ne (by omega), up2_ne (by omega)]; omega
  · rw [up2_same, up2_ne (by omega), up2_ne (by omega), up2_ne (by omega)]; omega
theorem pm_set {A : Ab} (hc : WFc A) {n f : Nat} (hn : n < 16) (hf : f < 4) (h : A 9 (4 * n + f) = 0) : nI (pmk A n) ||| ((1 : Int32) <<< (nI f &&& 31)) = nI (pmk (up2 A 9 (4 * n + f) 1) n) := by
  obtain ⟨h1, h2⟩ := pmk_bit hc hn hf
  have := pmk_up (A := A) (n := n) (f := f) (v := 1) hf
  rw [h, Nat.zero_mul, Nat.one_mul, Nat.add_zero] at this
  rw [or_e _ h1 f hf (by rw [h2, h]), this]
theorem pm_clr {A : Ab} (hc : WFc A) {n f : Nat} (hn : n < 16) (hf : f < 4) (h : A 9 (4 * n + f) = 1) : nI (pmk A n) &&& (((1 : Int32) <<< (nI f &&& 31)) ^^^ (-1 : Int32)) = nI (pmk (up2 A 9 (4 * n + f) 0) n) := by
  obtain ⟨h1, h2⟩ := pmk_bit hc hn hf
  have := pmk_up (A := A) (n := n) (f := f) (v := 0) hf
  rw [h, Nat.zero_mul, Nat.one_mul, Nat.add_zero] at this
  rw [clr_e _ h1 f hf (by rw [h2, h]), ← this, Nat.add_sub_cancel]
theorem conv_both {A : Ab} {k m : St} (hG : WFg A) (hR : RM A m) (hK : RK A sI (A 0 4) k) {n f : Nat} (hn : n < A 0 0) (hf1 : 1 ≤ f) (hf : f < A 0 2) : (∃ m2 k2, M_canPlace m (nI n) (nI f) = some (0, m2) ∧ Tr_tryConverter k (nI n) (nI f) = some (0, k2) ∧ RM A m2 ∧ RK A sI (A 0 4) k2 ∧ Fx m m2 ∧ Fy k k2) ∨ (A 9 (4 * n + f) = 0 ∧ WFg (up2 A 9 (4 * n + f) 1) ∧ ∃ m2 k2, M_canPlace m (nI n) (nI f) = some (1, m2) ∧ Tr_tryConverter k (nI n) (nI f) = some (1, k2) ∧ RM A m2 ∧ RK (up2 A 9 (4 * n + f) 1) sI (A 0 4) k2 ∧ Fx m m2 ∧ Fy k k2) := by
  have hN := hG.1.1.1
  have hc := hG.1.2.2.1
  have hp := hc.2 n f (by omega) (by omega)
  have e9 := hK.pl (n := n) (f := f) (by omega) (by omega)
  unfold M_canPlace Tr_tryConverter
  rw [M_has_e hc hR (by omega) (by omega), b1_some, li4]
  simp (disch := omega) only [b1_some, b2_some, lt_e, rd_n, wr_n, nI_add, pk_mul, nI_leI, nI_ltI, nI_eq, nI_1, e9]
  by_cases c : A 9 (4 * n + f) = 1
  · rw [if_pos c, if_neg (by decide), c, if_neg (by decide)]
    exact Or.inl ⟨m, k, rfl, rfl, hR, hK, Fx.rf, Fy.rf⟩
  · have c0 : A 9 (4 * n + f) = 0 := by omega
    have f64 : gt m 4 (64 + n) = nI (pmk A n) := hR.2.2.1 n (by omega)
    rw [if_neg c, if_pos rfl, c0, if_pos nI_0, li64, nI_add, rd_n (by omega) (by omega), b1_some, f64, pm_set hc (by omega) (by omega) c0, wr_n (by omega) (by omega), b1_some, nar1, nar0]
    have hcB := hc.c9 hn hf1 hf (by omega) (v := 1) (by omega)
    have hGB : WFg (up2 A 9 (4 * n + f) 1) := hG.c (fun a j _ _ x => up2_ne (Or.inl x)) hcB (fun j => up2_ne (by omega))
    have hR1 := hR.c9 hG.1.1 (n := n) (f := f) (v := 1) (by omega) (by omega)
    have hK1 : RK (up2 A 9 (4 * n + f) 1) sI (A 0 4) (st k 27 (n * 4 + f) 1) := hK.c9 (n := n) (f := f) (v := 1) (by omega)
    have hgB : Sg (up2 A 9 (4 * n + f) 1) sI (A 0 4) := by
      have := Sg_sI hGB.2.1
      rw [up2_ne (by omega)] at this; exact this
    obtain ⟨m2, d1, d2⟩ := M_wrong_e hGB.1.1 hGB.1.2.1 hGB.1.2.2.1 hGB.1.2.2.2 hGB.1.l14 hR1
    obtain ⟨k2, g1, g2, g3, _⟩ := Fl_measure_e hGB.1 hgB hK1
    rw [d1, b2_some, g1, b1_some]
    have hR2 := d2.rm hR1
    have hlt := wrg_lt hGB.1.1
    have h9 : up2 A 9 (4 * n + f) 1 9 (4 * n + f) = 1 := up2_same
    have hback : up2 (up2 A 9 (4 * n + f) 1) 9 (4 * n + f) 0 = A := by
      have := up2_id (A := A) (c := 9) (i := 4 * n + f)
      rw [c0] at this
      rw [← this]
      exact ab_ext fun a j => by
        by_cases d : a = 9 ∧ j = 4 * n + f
        · rw [d.1, d.2, up2_same, up2_same]
        · rw [up2_ne (by omega), up2_ne (by omega), up2_ne (by omega)]
    have J : ∀ z : Int32, Bz z → ∃ m3, M_canPlace_J38 (nI n) (nI f) z m2 = some (z, m3) ∧ RM A m3 ∧ Fx m m3 := fun z hz => by
      unfold M_canPlace_J38
      have f64' : gt m2 4 (64 + n) = nI (pmk (up2 A 9 (4 * n + f) 1) n) := hR2.2.2.1 n (by omega)
      rw [li64, nI_add, rd_n (by omega) (by omega), b1_some, f64', pm_clr hcB (by omega) (by omega) h9, wr_n (by omega) (by omega), b1_some]
      have hR3 := hR2.c9 hGB.1.1 (n := n) (f := f) (v := 0) (by omega) (by omega)
      rw [hback] at hR3 ⊢
      unfold bz
      rw [if_pos (show z = 0 ∨ z = 1 from hz)]
      exact ⟨_, rfl, hR3, ((Fx.st (by omega)).tr d2.w.x).tr (Fx.st (by omega))⟩
    have hFy : Fy k k2 := (Fy.st (by omega)).tr g2.k.y
    rcases Fl_fits_e hGB.1 (g2.rk hK1) g3 with ⟨p1, p2⟩ | ⟨p1, p2⟩
    · obtain ⟨m3, q1, q2, q3⟩ := J 1 (Or.inr rfl)
      rw [if_neg (fun z => ((wI_pos (by omega)).mp z) p1), q1, p2, b1_some, if_neg (by decide)]
      exact Or.inr ⟨rfl, hGB, m3, k2, rfl, rfl, q2, g2.rk hK1, q3, hFy⟩
    · obtain ⟨m3, q1, q2, q3⟩ := J 0 (Or.inl rfl)
      rw [if_pos ((wI_pos (by omega)).mpr p1), q1, p2, b1_some, if_pos rfl]
      refine Or.inl ⟨m3, _, rfl, rfl, q2, ?_, q3, hFy.tr (Fy.st (by omega))⟩
      have := (g2.rk hK1).c9 (n := n) (f := f) (v := 0) (by omega)
      rw [hback] at this
      exact this
theorem sp_place : Sp_place Inv := by
  intro k m v1 v2 hI
  obtain ⟨A, hG, hR, hK, hT, hH⟩ := id hI
  have hN := hG.1.1.1
  have h4 := hG.2.1.1
  unfold K_place M_place
  rcases node_c hG hR hK v1 with ⟨n, n1, n2, n3, n4⟩ | ⟨n3, n4⟩
  · rcases other_c hG hR hK v2 with ⟨f, f0, f1, f2, f3, f4⟩ | ⟨f3, f4⟩
    · simp only [b1_some, b2_some, lt_e, o10, eq_self, ↓reduceIte, n3, n4, f3, f4]
      obtain ⟨k1, a1, a2, a3, a4⟩ := aside_K hG hK
      rw [n2, f2, a1, b1_some]
      rcases conv_both hG hR a2 n1 f0 f1 with ⟨m2, k2, b1', b2', b3', b4', b5', b6'⟩ | ⟨c0, hGB, m2, k2, b1', b2', b3', b4', b5', b6'⟩
      · rw [b1', b2', b2_some, b2_some, if_pos rfl, if_pos rfl]
        exact ⟨0, k2, m2, rfl, rfl, Inv.same hG b3' b4' hT hH (fun j hj => b5'.1 j (by omega)) (fun i hi => b5'.2 i (by omega) (by omega)) (fun j hj => by rw [b6' j (by omega), a4 j (by omega)])⟩
      · rw [b1', b2', b2_some, b2_some, if_neg (by decide), if_neg (by decide)]
        have hsv : RKw A sI (A 0 4) k2 30 := RKw_row (fun j x y => b6' j (by omega)) a3
        have hT3 : Tp k2 m2 := hT.row (b5'.1 1 (by omega)) (fun i hi => b5'.2 i (by omega) (by omega)) (fun j hj => by rw [b6' j (by omega), a4 j (by omega)])
        have hH3 : Hs A k2 m2 := hH.row (fun j x y => by rw [b6' j (by omega), a4 j (by omega)]) (b5'.1 6 (by omega)) (b5'.2 15 (by omega) (by omega))
        obtain ⟨k3, m4, e1, e2, e3, e4, e5, e6⟩ := hH3.keep (Or.inr rfl) hG Es.rf b3'.2 hsv
        have hR4 : RM A m4 := RM_row (e4 2 (by omega) (by omega)) (e4 4 (by omega) (by omega)) b3'
        have f64 : gt m4 4 (64 + n) = nI (pmk A n) := hR4.2.2.1 n (by omega)
        rw [e1, e2, b1_some, b1_some, li64, nI_add, rd_n (by omega) (by omega), b1_some, f64, pm_set hG.1.2.2.1 (by omega) (by omega) c0, wr_n (by omega) (by omega), b1_some]
        have hR5 := hR4.c9 hG.1.1 (n := n) (f := f) (v := 1) (by omega) (by omega)
        refine ⟨1, k3, _, rfl, rfl, Inv.same hGB hR5 ?_ (hT3.keep e4 e5 e6) (e3.es (fun a j x y => up2_ne (by omega))) (fun j hj => st_row_ne (by omega)) (fun i hi => by rw [st_row_ne (by omega)]) (fun j _ => rfl)⟩
        rw [up2_ne (by omega)]
        exact b4'.lo (fun j hj => e6 j (by omega))
    · simp only [b1_some, b2_some, lt_e, o10, eq_self, ↓reduceIte, n3, n4, f3, f4]
      exact ⟨0, k, m, rfl, rfl, hI⟩
  · simp only [b1_some, b2_some, lt_e, o10, eq_self, ↓reduceIte, n3, n4]
    exact ⟨0, k, m, rfl, rfl, hI⟩
