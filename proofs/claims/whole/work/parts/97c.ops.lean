/-! ===== PHASE B: operations, to the end ===== -/
theorem pos_in {A : Ab} (hA : WF A) (ht : Tt A) {n : Nat} (hn : inT A n) (h0 : n ≠ 0) : 1 ≤ lld A (lnk A n (upn A n)) := by
  have hN := hA.1.1
  rcases (Tt_prd hA ht).2 n hn.1 hn.2 with z | ⟨r, r1, r2, i, i1, i2⟩
  · exact absurd z h0
  · have hw := hA.2.2.2 r r1 r2
    have hf := fmc_lt hA.1 (x := A 11 r) hw.2.1 i
    have hs := stp_lt hA.1 (n := n) hf
    have h1 : 1 ≤ arD A 0 (4 * n + fmc A (A 11 r) (A 12 r) i) := (arD_iff hA.1 hA.2.1 hA.2.2.2 (Nat.le_refl 1) hn hf).mpr ⟨r, r1, r2, i, i1, i2, rfl⟩
    have h2 := (as_iff (D := arD A) hA.1 (n := n) (Nat.le_refl 1) hs).mpr ⟨_, hf, rfl, h1⟩
    have hle := (as_le (D := arD A) hA.1 (b := A 0 3) (n := n) hs (fun g hg => arD_le hA.1 hA.2.2.2 hg)).1
    have hrt := (rt_le hA.1 hs _ hle).2
    have hsl : ∀ g, stp A n (fmc A (A 11 r) (A 12 r) i) < g → 1 ≤ sl A (arD A) n g := by
      intro g
      induction g with
      | zero => intro h; omega
      | succ g ih =>
        intro h
        rw [sl]
        by_cases e : stp A n (fmc A (A 11 r) (A 12 r) i) = g
        · rw [e] at hrt h2; omega
        · have := ih (by omega); omega
    have h3 := mx_ge (g := fun c => if c ≠ 0 ∧ A 10 c ≠ 0 ∧ lnk A c (upn A c) = lnk A n (upn A n) then sl A (arD A) c (A 0 2) else 0) 16 n hn.1
    have h4 : (if n ≠ 0 ∧ A 10 n ≠ 0 ∧ lnk A n (upn A n) = lnk A n (upn A n) then sl A (arD A) n (A 0 2) else 0) = sl A (arD A) n (A 0 2) := if_pos ⟨h0, hn.2, rfl⟩
    have h5 := hsl (A 0 2) hs
    have h3 : (if n ≠ 0 ∧ A 10 n ≠ 0 ∧ lnk A n (upn A n) = lnk A n (upn A n) then sl A (arD A) n (A 0 2) else 0) ≤ lld A (lnk A n (upn A n)) := h3
    omega
theorem Fit_lld {A : Ab} (h : Fit A) (hs : WFs A) {l : Nat} (hl : l < A 0 1) : lld A l ≤ A 7 l := by
  have hN := hs.1
  unfold Fit wrg at h
  by_cases c1 : wrL A < A 0 1
  · rw [if_pos c1] at h; omega
  · have he := (fs_le (p := fun l => decide (A 7 l < lld A l)) (A 0 1) 0).2
    have he : wrL A ≤ 0 + A 0 1 := he
    have := fs_not (p := fun l => decide (A 7 l < lld A l)) (A 0 1) 0 l (Nat.zero_le _) (by show l < wrL A; omega)
    have := of_decide_eq_false this
    omega
theorem Fit_Cp {A : Ab} (hA : WF A) (ht : Tt A) (h : Fit A) : Cp A := fun n h1 h2 h3 => by
  have hin : inT A n := ⟨h2, h3⟩
  have hp := pos_in hA ht hin (by omega)
  have hl := (lnk_up hA hin (by omega)).2.2.2.2
  have := Fit_lld h hA.1 hl
  omega
theorem Re_good : ∀ (y : Nat) (A B : Ab), WFh A → Re y A B → WFh B := by
  intro y
  induction y with
  | zero => intro A B hG h; rw [h.2]; exact hG
  | succ y ih =>
    intro A B hG h
    obtain ⟨h1, C, h2, h3⟩ := h
    obtain ⟨hA, hq, htt, hlw⟩ := hG
    obtain ⟨c1, c2, c3, _⟩ := step_wf hA hq h1 h2
    have hlow := low_wf hA (r := nxw A) (v := A 14 (nxw A) - 1) (by omega)
    obtain ⟨_, _, p3⟩ := Prd_wf hlow h2
    refine ih C B ⟨c1, c2, Prd_Tt hlow h2, fun r hr => ?_⟩ h3
    rw [c3 0 4 (by omega) (by omega)] at hr
    rw [c3 13 r (by omega) (by omega), p3]
    have := hlw r hr
    by_cases d : r = nxw A
    · rw [d, up2_same]; rw [d] at this; omega
    · rw [up2_ne (Or.inr d)]; exact this
/-- lowering after a change, both sides -/
theorem repair_both {A A1 : Ab} {k m : St} (hG1 : WFh A1) (hE : Es A A1) (hR : RM A1 m) (hK : RK A1 sI (A1 0 4) k) : ∃ (m2 k2 : St) (B : Ab) (y : Nat), M_repairs m = some (nI y, m2) ∧ Tr_repair k = some (nI y, k2) ∧ RM B m2 ∧ RK B sI (B 0 4) k2 ∧ WFg B ∧ Es A B ∧ Fx m m2 ∧ Fy k k2 := by
  obtain ⟨y, B, m2, a1, a2, a3, a4, a5, a6, a7, a8⟩ := M_repairs_e hG1.1 hG1.2.1 hR
  obtain ⟨k2, b1', b2', b3'⟩ := Tr_repair_e hG1.1 hG1.2.1 hK a2
  have e4 : B 0 4 = A1 0 4 := a7 0 4 (by omega) (by omega)
  have hg := Re_good y A1 B hG1 a2
  exact ⟨m2, k2, B, y, a1, b1', a3, by rw [e4]; exact b2', ⟨hg.1, hg.2.1, hg.2.2.1, hg.2.2.2, Fit_Cp hg.1 hg.2.2.1 a8⟩, hE.tr a7.ec.s, a4.x, b3'.y⟩
theorem sp_remove : Sp_remove Inv := by
  intro k m v1 v2 hI
  obtain ⟨A, hG, hR, hK, hT, hH⟩ := id hI
  have hN := hG.1.1.1
  have h4 := hG.2.1.1
  unfold K_remove M_remove
  rcases node_c hG hR hK v1 with ⟨n, n1, n2, n3, n4⟩ | ⟨n3, n4⟩
  · rcases other_c hG hR hK v2 with ⟨f, f0, f1, f2, f3, f4⟩ | ⟨f3, f4⟩
    · simp only [b1_some, b2_some, lt_e, o10, eq_self, ↓reduceIte, n3, n4, f3, f4]
      have hp := hG.1.2.2.1.2 n f (by omega) (by omega)
      have e9 := hK.pl (n := n) (f := f) (by omega) (by omega)
      rw [n2, f2, M_has_e hG.1.2.2.1 hR (by omega) (by omega), b1_some, li4]
      simp (disch := omega) only [b1_some, b2_some, lt_e, rd_n, wr_n, nI_add, pk_mul, nI_leI, nI_ltI, nI_eq, nI_1, e9]
      by_cases c : A 9 (4 * n + f) = 1
      · rw [if_pos c, c, if_neg (show ¬ nI 1 = 0 by decide), if_neg (show ¬ (1 : Int32) = 0 by decide)]
        obtain ⟨k1, m1, e1, e2, e3, e4, e5, e6⟩ := hH.keep (Or.inl rfl) hG Es.rf hR.2 hK.2
        have hR1 : RM A m1 := RM_row (e4 2 (by omega) (by omega)) (e4 4 (by omega) (by omega)) hR
        have hK1 : RK A sI (A 0 4) k1 := hK.lo (fun j hj => e6 j (by omega))
        have hT1 := hT.keep e4 e5 e6
        have f64 : gt m1 4 (64 + n) = nI (pmk A n) := hR1.2.2.1 n (by omega)
        rw [e1, e2, b1_some, b1_some, li64, nI_add, rd_n (by omega) (by omega), b1_some, f64, pm_clr hG.1.2.2.1 (by omega) (by omega) c, wr_n (by omega) (by omega), b1_some, nar0]
        have hcB := hG.1.2.2.1.c9 n1 f0 f1 (by omega) (v := 0) (by omega)
        have hGB : WFg (up2 A 9 (4 * n + f) 0) := hG.c (fun a j _ _ x => up2_ne (Or.inl x)) hcB (fun j => up2_ne (by omega))
        have hR2 := hR1.c9 hG.1.1 (n := n) (f := f) (v := 0) (by omega) (by omega)
        have hK2 : RK (up2 A 9 (4 * n + f) 0) sI (A 0 4) (st k1 27 (n * 4 + f) 0) := hK1.c9 (n := n) (f := f) (v := 0) (by omega)
        have hK2' : RK (up2 A 9 (4 * n + f) 0) sI (up2 A 9 (4 * n + f) 0 0 4) (st k1 27 (n * 4 + f) 0) := by rw [up2_ne (by omega)]; exact hK2
        obtain ⟨m3, k3, B, y, b1', b2', b3', b4', b5', b6', b7', b8'⟩ := repair_both (A := A) hGB.h (fun a j x y => up2_ne (by omega)) hR2 hK2'
        rw [b1', b2', b2_some, b2_some]
        exact ⟨_, k3, m3, rfl, rfl, Inv.fr b5' b3' b4' hT1 e3 b6' ((Fx.st (by omega)).tr b7') ((Fy.st (by omega)).tr b8')⟩
      · have c0 : A 9 (4 * n + f) = 0 := by omega
        rw [if_neg c, if_pos rfl, c0, if_pos nI_0]
        exact ⟨-2, k, m, rfl, rfl, hI⟩
    · simp only [b1_some, b2_some, lt_e, o10, eq_self, ↓reduceIte, n3, n4, f3, f4]
      exact ⟨-1, k, m, rfl, rfl, hI⟩
  · simp only [b1_some, b2_some, lt_e, o10, eq_self, ↓reduceIte, n3, n4]
    exact ⟨-1, k, m, rfl, rfl, hI⟩
theorem sp_setCapacity : Sp_setCapacity Inv := by
  intro k m v1 v2 hI
  obtain ⟨A, hG, hR, hK, hT, hH⟩ := id hI
  have hN := hG.1.1.1
  have h4 := hG.2.1.1
  unfold K_setCapacity M_setCapacity
  rcases link_c hG hR hK v1 with ⟨l, n1, n2, n3, n4⟩ | ⟨n3, n4⟩
  · simp only [b1_some, b2_some, lt_e, o10, eq_self, ↓reduceIte, n3, n4]
    have hcp := hG.1.2.2.1.1 l n1
    rw [show (0 : Int64) = (0 : Int32).toInt64 by decide, show (9999 : Int64) = (9999 : Int32).toInt64 by decide, M_in3, b1_some, show (0 : Int32).toInt = 0 by decide, show (9999 : Int32).toInt = 9999 by decide, show (9999 : Int32) = nI 9999 by decide]
    by_cases c1 : v2 < 0
    · have := (iff_lt0 v2).mp c1
      rw [if_pos c1, if_neg (show ¬ (0 ≤ v2.toInt ∧ v2.toInt ≤ 9999) by omega), if_pos rfl]
      exact ⟨-1, k, m, rfl, rfl, hI⟩
    · have h1 : ¬ v2.toInt < 0 := fun z => c1 ((iff_lt0 v2).mpr z)
      rw [if_neg c1]
      by_cases c2 : v2 ≤ nI 9999
      · have h2 := (v_le_nI v2 (by omega)).mp c2
        obtain ⟨w, w1, w2⟩ := arg_in (v := v2) (n := 10000) (by omega) (by omega)
        rw [if_pos c2, if_pos (show 0 ≤ v2.toInt ∧ v2.toInt ≤ 9999 by omega), if_neg (by decide), n2, w2, li0, nI_add, Nat.zero_add, rd_n (by omega) (by omega), b1_some, hK.cap n1, rd_n (by omega) (by omega), b1_some, hR.cap n1]
        simp (disch := omega) only [b1_some, b2_some, lt_e, rd_n, wr_n, nI_add, pk_mul, nI_leI, nI_ltI, nI_eq, nI_1]
        by_cases c : A 7 l = w
        · rw [if_pos c, if_pos c]
          exact ⟨-2, k, m, rfl, rfl, hI⟩
        · rw [if_neg c, if_neg c]
          obtain ⟨k1, m1, e1, e2, e3, e4, e5, e6⟩ := hH.keep (Or.inl rfl) hG Es.rf hR.2 hK.2
          have hR1 : RM A m1 := RM_row (e4 2 (by omega) (by omega)) (e4 4 (by omega) (by omega)) hR
          have hK1 : RK A sI (A 0 4) k1 := hK.lo (fun j hj => e6 j (by omega))
          have hT1 := hT.keep e4 e5 e6
          rw [e1, e2, b1_some, b1_some]
          have hGB : WFh (up2 A 7 l w) := hG.h.c (fun a j x _ _ => up2_ne (Or.inl x)) (hG.1.2.2.1.c7 (by omega))
          have hR2 := hR1.c7 hG.1.1 (l := l) (v := w) (by omega)
          have hK2 : RK (up2 A 7 l w) sI (A 0 4) (st k1 25 l (nI w)) := hK1.c7 (l := l) (v := w)
          have hK2' : RK (up2 A 7 l w) sI (up2 A 7 l w 0 4) (st k1 25 l (nI w)) := by rw [up2_ne (by omega)]; exact hK2
          obtain ⟨m3, k3, B, y, b1', b2', b3', b4', b5', b6', b7', b8'⟩ := repair_both (A := A) hGB (fun a j x y => up2_ne (by omega)) hR2 hK2'
          (try simp (disch := omega) only [b1_some, b2_some, lt_e, rd_n, wr_n, nI_add, pk_mul, nI_leI, nI_ltI, nI_eq, nI_1])
          rw [b1', b2', b2_some, b2_some]
          exact ⟨_, k3, m3, rfl, rfl, Inv.fr b5' b3' b4' hT1 e3 b6' ((Fx.st (by omega)).tr b7') ((Fy.st (by omega)).tr b8')⟩
      · have h2 : ¬ v2.toInt ≤ ((9999 : Nat) : Int) := fun z => c2 ((v_le_nI v2 (by omega)).mpr z)
        rw [if_neg c2, if_neg (show ¬ (0 ≤ v2.toInt ∧ v2.toInt ≤ 9999) by omega), if_pos rfl]
        exact ⟨-1, k, m, rfl, rfl, hI⟩
  · simp only [b1_some, b2_some, lt_e, o10, eq_self, ↓reduceIte, n3, n4]
    exact ⟨-1, k, m, rfl, rfl, hI⟩
theorem sp_setOpen : Sp_setOpen Inv := by
  intro k m v1 v2 hI hv
  obtain ⟨A, hG, hR, hK, hT, hH⟩ := id hI
  have hN := hG.1.1.1
  have h4 := hG.2.1.1
  unfold K_setOpen M_setOpen
  rcases link_c hG hR hK v1 with ⟨l, n1, n2, n3, n4⟩ | ⟨n3, n4⟩
  · simp only [b1_some, b2_some, lt_e, o10, eq_self, ↓reduceIte, n3, n4]
    have hop := (hG.1.2.2.1.1 l n1).2
    obtain ⟨b, hb1, hb2⟩ : ∃ b : Nat, b ≤ 1 ∧ v2 = nI b := by
      rcases hv with z | z
      · exact ⟨0, by omega, z⟩
      · exact ⟨1, by omega, z⟩
    have hJ : (if v2 = 0 then M_setOpen_J19 v1 v2 0 m else M_setOpen_J19 v1 v2 1 m) = M_setOpen_J19 (nI l) (nI b) (nI b) m := by
      rw [n2, hb2]
      rcases (show b = 0 ∨ b = 1 by omega) with rfl | rfl
      · rw [if_pos nI_0]; rfl
      · rw [if_neg (by decide)]; rfl
    rw [hJ]
    unfold M_setOpen_J19
    rw [n2, hb2, li32, nI_add, rd_n (by omega) (by omega), b1_some, hK.opn n1, rd_n (by omega) (by omega), b1_some, hR.opn n1]
    simp (disch := omega) only [b1_some, b2_some, lt_e, rd_n, wr_n, nI_add, pk_mul, nI_leI, nI_ltI, nI_eq, nI_1]
    by_cases c : A 8 l = b
    · rw [if_pos c, if_pos c]
      exact ⟨-2, k, m, rfl, rfl, hI⟩
    · rw [if_neg c, if_neg c]
      obtain ⟨k1, m1, e1, e2, e3, e4, e5, e6⟩ := hH.keep (Or.inl rfl) hG Es.rf hR.2 hK.2
      have hR1 : RM A m1 := RM_row (e4 2 (by omega) (by omega)) (e4 4 (by omega) (by omega)) hR
      have hK1 : RK A sI (A 0 4) k1 := hK.lo (fun j hj => e6 j (by omega))
      have hT1 := hT.keep e4 e5 e6
      rw [e1, e2, b1_some, b1_some, M_levels_e hG.1 hR1 h4, b1_some]
      by_cases d : b = 0
      · rw [d, if_pos nI_0, if_pos nI_0]
        obtain ⟨m2, k2, B, a1, a2, a3, a4, a5, a6, a7, a8⟩ := closes_both hG hR1 hK1 n1
        rw [a1, a2, b1_some, b2_some]
        unfold M_setOpen_J68
        have hB4 := a5.2.1.1
        rw [M_levels_e a5.1 a3 hB4, b1_some]
        exact ⟨_, k2, m2, rfl, rfl, Inv.fr a5 a3 a4 hT1 e3 (fun a j x y => a6 a j (by omega) (by omega) (by omega)) a7 a8⟩
      · have b1e : b = 1 := by omega
        rw [b1e, if_neg (by decide), if_neg (by decide), nar1]
        have hGB : WFg (up2 A 8 l 1) := hG.c (fun a j _ x _ => up2_ne (Or.inl x)) (hG.1.2.2.1.c8 (by omega)) (fun j => up2_ne (by omega))
        have hR2 : RM (up2 A 8 l 1) (st m1 4 (32 + l) 1) := hR1.c8 hG.1.1 (l := l) (v := 1) (by omega)
        have hK2 : RK (up2 A 8 l 1) sI (A 0 4) (st k1 26 l 1) := hK1.c8 (l := l) (v := 1) (by omega)
        unfold M_setOpen_J68
        rw [M_levels_e hGB.1 hR2 (by rw [up2_ne (by omega)]; exact h4), b1_some, show up2 A 8 l 1 14 = A 14 from funext fun j => up2_ne (by omega), up2_ne (show (0 : Nat) ≠ 8 ∨ 4 ≠ l by omega), Int32.sub_self]
        exact ⟨0, _, _, rfl, rfl, Inv.fr hGB hR2 (by rw [up2_ne (by omega)]; exact hK2) hT1 e3 (fun a j x y => up2_ne (by omega)) (Fx.st (by omega)) (Fy.st (by omega))⟩
  · simp only [b1_some, b2_some, lt_e, o10, eq_self, ↓reduceIte, n3, n4]
    exact ⟨-1, k, m, rfl, rfl, hI⟩
theorem sp_improve : Sp_improve Inv := by
  intro k m hI
  obtain ⟨A, hG, hR, hK, hT, hH⟩ := id hI
  have hN := hG.1.1.1
  unfold K_improve M_improve
  obtain ⟨k1, a1, a2, a3, a4⟩ := aside_K hG hK
  obtain ⟨m1, b1', b2', b3'⟩ := M_laysAside_e m
  have hR1 : RM A m1 := RM_row (b2' 2 (by omega)) (b2' 4 (by omega)) hR
  obtain ⟨m2, k2, B, y, y1, y2, y3, y4, y5, y6, y7, y8, y9, y10, y11⟩ := raises_both hG hR1 a2
  obtain ⟨m3, c1, c2, c3⟩ := M_comesBack_e m2
  obtain ⟨g1, g2, g3⟩ := back (by omega) hR b2' b3' y5.x c2 c3
  rw [a1, b1', b1_some, b1_some, y1, y2, b2_some, b2_some, c1, b1_some]
  have hsv : RKw A sI (A 0 4) k2 30 := RKw_row (fun j x y => y6.y j (by omega)) a3
  have hT3 : Tp k2 m3 := hT.row (g2 1 (by omega)) (fun i hi => g3 i (by omega) (by omega)) (fun j hj => by rw [y6.y j (by omega), a4 j (by omega)])
  have hH3 : Hs A k2 m3 := hH.row (fun j x y => by rw [y6.y j (by omega), a4 j (by omega)]) (g2 6 (by omega)) (g3 15 (by omega) (by omega))
  by_cases c : y = 0
  · -- nothing was raised: the state of the class is the reference's own
    rw [c, if_pos nI_0, if_pos nI_0]
    have hBA : RK A sI (A 0 4) k2 := by
      rw [y11 c] at y4; exact y4
    exact ⟨-2, k2, m3, rfl, rfl, A, hG, g1, hBA, hT3, hH3⟩
  · rw [if_neg (fun z => c ((nI_z (by omega)).mp z)), if_neg (fun z => c ((nI_z (by omega)).mp z))]
    obtain ⟨k3, m4, e1, e2, e3, e4, e5, e6⟩ := hH3.keep (Or.inr rfl) hG Es.rf g1.2 hsv
    have hR4 : RM A m4 := RM_row (e4 2 (by omega) (by omega)) (e4 4 (by omega) (by omega)) g1
    rw [e1, e2, b1_some, b1_some]
    obtain ⟨m5, k5, B5, z, x1, x2, x3, x4, x5, x6, x7, x8, x9, x10, _⟩ := raises_both hG hR4 a2
    rw [x2] at y2
    have hp := Option.some.inj y2
    have hz : nI z = nI y := congrArg Prod.fst hp
    have hk : k5 = k2 := congrArg Prod.snd hp
    rw [hk] at x4
    rw [x1, b2_some, hz]
    have e54 : B5 0 4 = A 0 4 := x8 0 4 (by omega) (by omega)
    exact ⟨_, k3, m5, rfl, rfl, Inv.same x7 x3 (by rw [e54]; exact x4.lo (fun j hj => e6 j (by omega))) (hT3.keep e4 e5 e6) (e3.es x8.ec.s) (fun j hj => x5.x.1 j (by omega)) (fun i hi => x5.x.2 i (by omega) (by omega)) (fun j _ => rfl)⟩
theorem sub_pos {a b : Nat} (ha : a < 2 ^ 30) (hb : b < 2 ^ 30) : (0 : Int32) < nI a - nI b ↔ b < a := by
  rw [i32_lt, pk_sub_toInt ha hb, show (0 : Int32).toInt = 0 by decide]; omega
theorem sp_rebuild : Sp_rebuild Inv := by
  intro k m hI
  obtain ⟨A, hG, hR, hK, hT, hH⟩ := id hI
  have hN := hG.1.1.1
  have h4 := hG.2.1.1
  unfold K_rebuild M_rebuild
  obtain ⟨k1, a1, a2, a3, a4⟩ := aside_K hG hK
  obtain ⟨m1, b1', b2', b3'⟩ := M_laysAside_e m
  have hR1 : RM A m1 := RM_row (b2' 2 (by omega)) (b2' 4 (by omega)) hR
  obtain ⟨m2, k2, B, y1, y2, y3, y4, y5, y6, y7, y8⟩ := builds_both hG hR1 a2
  obtain ⟨m3, c1, c2, c3⟩ := M_comesBack_e m2
  obtain ⟨g1, g2, g3⟩ := back (by omega) hR b2' b3' y7 c2 c3
  rw [a1, M_levels_e hG.1 hR h4, b1', b1_some, b1_some, b1_some, y1, y2, b1_some, b2_some, M_levels_e y5.1 y3 y5.2.1.1, b1_some, c1, b1_some]
  have hsv : RKw A sI (A 0 4) k2 30 := RKw_row (fun j x y => y8 j (by omega)) a3
  have hT3 : Tp k2 m3 := hT.row (g2 1 (by omega)) (fun i hi => g3 i (by omega) (by omega)) (fun j hj => by rw [y8 j (by omega), a4 j (by omega)])
  have hH3 : Hs A k2 m3 := hH.row (fun j x y => by rw [y8 j (by omega), a4 j (by omega)]) (g2 6 (by omega)) (g3 15 (by omega) (by omega))
  have hsA := sm_100 hG.1 hG.2.1
  have hsB := sm_100 y5.1 y5.2.1
  rw [sm_q hG.2.1] at hsA
  rw [sm_q y5.2.1] at hsB
  by_cases c : sm (A 14) (A 0 4) < sm (B 14) (B 0 4)
  · rw [if_pos ((nI_ltI (by omega) (by omega)).mpr c), if_pos ((sub_pos (by omega) (by omega)).mpr c)]
    obtain ⟨k3, m4, e1, e2, e3, e4, e5, e6⟩ := hH3.keep (Or.inr rfl) hG Es.rf g1.2 hsv
    have hR4 : RM A m4 := RM_row (e4 2 (by omega) (by omega)) (e4 4 (by omega) (by omega)) g1
    rw [e1, e2, b1_some, b1_some]
    obtain ⟨m5, k5, B5, x1, x2, x3, x4, x5, x6, x7, x8⟩ := builds_both hG hR4 a2
    rw [x2] at y2
    have hp := Option.some.inj y2
    have hk : k5 = k2 := congrArg Prod.snd hp
    rw [hk] at x4
    rw [x1, b1_some]
    exact ⟨_, k3, m5, rfl, rfl, Inv.same x5 x3 (x4.lo (fun j hj => e6 j (by omega))) (hT3.keep e4 e5 e6) (e3.es x6.ec.s) (fun j hj => x7.1 j (by omega)) (fun i hi => x7.2 i (by omega) (by omega)) (fun j _ => rfl)⟩
  · rw [if_neg (fun z => c ((nI_ltI (by omega) (by omega)).mp z)), if_neg (fun z => c ((sub_pos (by omega) (by omega)).mp z))]
    obtain ⟨k3, d1, d2, d3, d4⟩ := restore_K hG (RKs_es y6.ec.s.sy y4.1) hsv
    rw [d1, b1_some]
    exact ⟨-2, k3, m3, rfl, rfl, Inv.same hG g1 d2 hT3 hH3 (fun _ _ => rfl) (fun _ _ => rfl) (fun j hj => d4 j (by omega))⟩
theorem sp_undo : Sp_undo Inv := by
  intro k m hI
  obtain ⟨A, hG, hR, hK, hT, hH⟩ := id hI
  have hN := hG.1.1.1
  obtain ⟨U, nx, H, a1, a2, a3, a4, a5, a6⟩ := id hH
  unfold K_undo M_undo
  rw [a3, a4]
  by_cases c : U = 0
  · rw [c, if_pos nI_0, if_pos nI_0]
    exact ⟨-1, k, m, rfl, rfl, hI⟩
  · rw [if_neg (fun z => c ((nI_z (by omega)).mp z)), if_neg (fun z => c ((nI_z (by omega)).mp z))]
    obtain ⟨W, hW⟩ : ∃ W, U = W + 1 := ⟨U - 1, by omega⟩
    subst hW
    obtain ⟨d1, d2, d3, d4⟩ := a6 W (by omega)
    have hN2 := d1.1.1.1
    have hB4 := d1.2.1.1
    rw [nI_m1, lt_e]
    obtain ⟨m2, g1, g2, g3⟩ := undo21 (U := W) (by omega) (st m 0 15 (nI W)) FU 0 (st m 0 15 (nI W)) gt_st_same (fun _ _ => rfl) (fun j hj => by omega) (by omega) (by rw [FU_e]; omega)
    rw [show nI 0 = 0 from rfl] at g1
    rw [g1]
    -- the class
    have hslot : (nx + 10 - (W + 1) + W) % 10 = if nx = 0 then 9 else nx - 1 := by split <;> omega
    rw [hslot] at d4
    obtain ⟨t, ht⟩ : ∃ t, t = if nx = 0 then 9 else nx - 1 := ⟨_, rfl⟩
    rw [← ht] at d4
    have ht10 : t < 10 := by rw [ht]; split <;> omega
    have hJ : ∃ k2, Hi_takeBack_J26 (nI t) k = some k2 ∧ RKw (H W) sI (H W 0 4) k2 19 ∧ gt k2 41 1 = nI W ∧ gt k2 41 2 = nI t ∧ (∀ j, j < 19 ∨ 30 ≤ j → j ≠ 41 → k2.1 j = k.1 j) := by
      unfold Hi_takeBack_J26
      have h1 : gt (st k 41 2 (nI t)) 41 1 = nI (W + 1) := by rw [gt_st_i (by omega)]; exact a4
      rw [lt_e, lt_e, h1, nI_m1]
      have h2 : gt (st (st k 41 2 (nI t)) 41 1 (nI W)) 41 2 = nI t := by rw [gt_st_i (by omega), gt_st_same]
      rw [h2]
      unfold ck
      rw [if_neg (nI_in ht10 (by omega)), nI_clamp (by omega)]
      have d4' : RKw (H W) sI (H W 0 4) (st (st k 41 2 (nI t)) 41 1 (nI W)) (43 + 11 * t) := RKw_row (fun j x y => by rw [st_row_ne (by omega), st_row_ne (by omega)]) d4
      obtain ⟨k2, p1, p2, p3⟩ := copy_state (o := 19) (o2 := 43 + 11 * t) (by omega) (by omega) (by omega) d1.1.2.2.1 d4'
      rw [p1, b1_some]
      refine ⟨k2, rfl, p3, ?_, ?_, fun j hj h41 => by rw [p2 j (by omega), st_row_ne h41, st_row_ne h41]⟩
      · rw [gt_e, p2 41 (by omega), ← gt_e, gt_st_same]
      · rw [gt_e, p2 41 (by omega), ← gt_e, gt_st_i (by omega), gt_st_same]
    obtain ⟨k2, q1, q2, q3, q4, q5⟩ := hJ
    have hTB : Hi_takeBack k = some k2 := by
      unfold Hi_takeBack
      rw [a4, a5, li0]
      simp (disch := omega) only [b1_some, b2_some, lt_e, rd_n, wr_n, nI_add, pk_mul, nI_leI, nI_ltI, nI_eq, nI_1]
      rw [if_neg (by omega)]
      by_cases e : nx = 0
      · rw [if_pos (by omega)]
        rw [if_pos e] at ht
        rw [ht] at q1
        exact q1
      · rw [if_neg (by omega)]
        rw [if_neg e] at ht
        rw [ht] at q1
        rw [show nI nx - 1 = nI (nx - 1) by rw [show nI nx = nI (nx - 1 + 1) by rw [show nx - 1 + 1 = nx by omega], nI_m1]]
        exact q1
    rw [hTB, b1_some, q3]
    have hG0 : ∀ i, i ≠ 15 → m2.1 0 i = m.1 0 i := fun i hi => by rw [g2 0 (by omega), st_row_same, upd_e, if_neg hi]
    have hG6 : m2.1 6 = m.1 6 := by rw [g2 6 (by omega), st_row_ne (by omega)]
    refine ⟨nI W, k2, m2, rfl, rfl, H W, d1, ⟨?_, ?_⟩, ⟨RKs_es d2 (RKs_row (fun j hj => q5 j (by omega) (by omega)) hK.1), q2⟩, hT.row (by rw [g2 1 (by omega), st_row_ne (by omega)]) (fun i hi => hG0 i (by omega)) (fun j hj => q5 j (by omega) (by omega)), ?_⟩
    · rw [g2 2 (by omega), st_row_ne (by omega)]; exact RMs_es d2 hR.1
    · refine RMw_ext (by omega) (fun i hi => ?_) d3
      have := g3 i hi
      rw [gt_st_k (by omega)] at this
      exact this
    · refine ⟨W, t, H, by omega, ht10, ?_, q3, q4, fun j hj => ?_⟩
      · rw [gt_e, g2 0 (by omega), ← gt_e, gt_st_same]
      · obtain ⟨e1, e2, e3, e4⟩ := a6 j (by omega)
        refine ⟨e1, d2.sy.tr e2, by rw [hG6]; exact e3, ?_⟩
        rw [show (t + 10 - W + j) % 10 = (nx + 10 - (W + 1) + j) % 10 by rw [ht]; split <;> omega]
        exact RKw_row (fun i x y => q5 i (by omega) (by omega)) e4
