/-! ===== PHASE B: operations ===== -/
theorem o10 : ((1 : Int32) = 0) = False := by decide
theorem RK.lo {A : Ab} {s : Nat → Nat} {R : Nat} {k k2 : St} (h : RK A s R k) (h1 : ∀ j, j < 30 → k2.1 j = k.1 j) : RK A s R k2 :=
  ⟨RKs_row (fun j hj => h1 j (by omega)) h.1, RKw_row (fun j a b => h1 j (by omega)) h.2⟩
theorem RK.c04 {A : Ab} {s : Nat → Nat} {R : Nat} {k : St} (h : RK A s R k) {v : Nat} : RK (up2 A 0 4 v) s R k := by
  have e : ∀ a j, (a ≠ 0 ∨ j ≠ 4) → up2 A 0 4 v a j = A a j := fun a j ha => up2_ne ha
  refine ⟨RKs_es (A := A) (fun a j x y => e a j (by omega)) h.1, ?_⟩
  obtain ⟨a1, a2, a3, a4, a5, a6, a7⟩ := h.2
  refine ⟨a1, fun r hr => ?_, fun j hj => ?_, fun n f hn hf => ?_, fun n hn => ?_, a6, a7⟩
  · rw [e 11 _ (by omega), e 12 _ (by omega), e 13 _ (by omega), e 14 _ (by omega), e 15 _ (by omega)]; exact a2 r hr
  · rw [e 0 1 (by omega)] at hj
    rw [e 7 j (by omega), e 8 j (by omega)]; exact a3 j hj
  · rw [e 9 _ (by omega)]; exact a4 n f hn hf
  · rw [e 10 n (by omega)]; exact a5 n hn
theorem aside_K {A : Ab} {k : St} (hG : WFg A) (hK : RK A sI (A 0 4) k) : ∃ k1, Ss_copyFrom 30 19 k = some k1 ∧ RK A sI (A 0 4) k1 ∧ RKw A sI (A 0 4) k1 30 ∧ ∀ j, j < 30 ∨ 41 ≤ j → k1.1 j = k.1 j := by
  have hN := hG.1.1.1
  have h4 := hG.2.1.1
  obtain ⟨k1, a1, a2, a3⟩ := copy_state (o := 30) (o2 := 19) (by omega) (by omega) (by omega) hG.1.2.2.1 hK.2
  exact ⟨k1, a1, hK.lo (fun j hj => a2 j (by omega)), a3, fun j hj => a2 j (by omega)⟩
theorem restore_K {A : Ab} {k : St} (hG : WFg A) (hs : RKs A k) (hK : RKw A sI (A 0 4) k 30) : ∃ k1, Ss_copyFrom 19 30 k = some k1 ∧ RK A sI (A 0 4) k1 ∧ RKw A sI (A 0 4) k1 30 ∧ ∀ j, j < 19 ∨ 30 ≤ j → k1.1 j = k.1 j := by
  have hN := hG.1.1.1
  have h4 := hG.2.1.1
  obtain ⟨k1, a1, a2, a3⟩ := copy_state (o := 19) (o2 := 30) (by omega) (by omega) (by omega) hG.1.2.2.1 hK
  exact ⟨k1, a1, ⟨RKs_row (fun j hj => a2 j (by omega)) hs, a3⟩, RKw_row (fun j x y => a2 j (by omega)) hK, fun j hj => a2 j (by omega)⟩
theorem Tp.keep {k m k2 m2 : St} (h : Tp k m) (h1 : ∀ j, j ≠ 6 → j ≠ 0 → m2.1 j = m.1 j) (h2 : ∀ j, j ≠ 15 → m2.1 0 j = m.1 0 j) (h3 : ∀ j, j < 41 ∨ 153 ≤ j → k2.1 j = k.1 j) : Tp k2 m2 :=
  h.row (h1 1 (by omega) (by omega)) (fun i hi => h2 i (by omega)) (fun j hj => h3 j (by omega))
theorem enr_good {A : Ab} (hG : WFg A) (h20 : A 0 4 < 20) {n f w : Nat} (hn : n < A 0 0) (hf : f < A 0 2) (hw1 : 1 ≤ w) (hw : w ≤ A 0 3) : WFg (up2 (enr A (A 0 4) n f w) 0 4 (A 0 4 + 1)) := by
  obtain ⟨hA, hq, htt, hlw, hcp⟩ := hG
  have hE := enr_wf hA (x := A 0 4) (n := n) (f := f) (w := w)
  obtain ⟨e1, e2, e3, e4, e5⟩ := enr_at (A := A) (x := A 0 4) (n := n) (f := f) (w := w)
  have u : ∀ a j, (a ≠ 0 ∨ j ≠ 4) → up2 (enr A (A 0 4) n f w) 0 4 (A 0 4 + 1) a j = enr A (A 0 4) n f w a j := fun a j h => up2_ne h
  have uo : ∀ a j, (a ≠ 0 ∨ j ≠ 4) → (a < 11 ∨ j ≠ A 0 4) → up2 (enr A (A 0 4) n f w) 0 4 (A 0 4 + 1) a j = A a j := fun a j h h2 => by rw [u a j h, enr_ne (by omega)]
  have hec : Ec (enr A (A 0 4) n f w) (up2 (enr A (A 0 4) n f w) 0 4 (A 0 4 + 1)) := fun a j x y => u a j (by omega)
  refine ⟨⟨WFs_es hec.s hE.1, ?_, WFc_ec hec hE.2.2.1, fun r hr hl => ?_⟩, ⟨by rw [up2_same]; omega, fun r hr => ?_, fun r hr h => ?_⟩, fun c h1 h2 h3 => ?_, fun r hr => ?_, Cp_of hcp (fun a j x y => uo a j (by omega) (by omega)) (fun j => uo 7 j (by omega) (by omega)) (fun j _ => Or.inl (uo 10 j (by omega) (by omega)))⟩
  · obtain ⟨t1, t2, t3, g, t4⟩ := hE.2.1
    refine ⟨by rw [u 10 0 (by omega)]; exact t1, fun n hn h1 => by rw [u 10 n (by omega)]; exact t2 n hn h1, fun n hn h2 => ?_, g, fun n hn h2 => ?_⟩
    · rw [u 10 n (by omega)] at h2 ⊢
      obtain ⟨x1, x2, x3, l, x4⟩ := t3 n hn h2
      rw [u 10 _ (by omega), u 0 0 (by omega)]
      exact ⟨x1, x2, x3, l, (Lk_es hec.s).mpr x4⟩
    · rw [u 10 n (by omega)] at h2 ⊢; exact t4 n hn h2
  · rw [u 14 r (by omega)] at hl ⊢
    rw [u 11 r (by omega), u 12 r (by omega), u 10 _ (by omega), u 0 0 (by omega), u 0 2 (by omega), u 0 3 (by omega)]
    exact hE.2.2.2 r hr hl
  · rw [up2_same] at hr
    rw [u 0 0 (by omega), u 0 2 (by omega), u 0 3 (by omega), enr_ne (by omega), enr_ne (by omega), enr_ne (by omega), u 11 r (by omega), u 12 r (by omega), u 13 r (by omega), u 15 r (by omega)]
    by_cases d : r = A 0 4
    · rw [d, e1, e2, e3, e5]; exact ⟨hn, hf, hw1, hw, by omega⟩
    · rw [enr_ne (by omega), enr_ne (by omega), enr_ne (by omega), enr_ne (by omega)]
      exact hq.2.1 r (by omega)
  · rw [up2_same] at h
    rw [uo 14 r (by omega) (by omega)]; exact hq.2.2 r hr (by omega)
  · rw [uo 0 0 (by omega) (by omega)] at h2 ⊢
    rw [uo 10 c (by omega) (by omega)] at h3
    rcases htt c h1 h2 h3 with ⟨d, d1, d2, d3⟩ | ⟨r, r1, r2, r3⟩
    · exact Or.inl ⟨d, d1, d2, by rw [uo 10 d (by omega) (by omega)]; exact d3⟩
    · have hne : r ≠ A 0 4 := fun z => by
        have := hq.2.2 r r1 (by omega); omega
      exact Or.inr ⟨r, r1, by rw [uo 14 r (by omega) (by omega)]; exact r2, by rw [uo 11 r (by omega) (by omega)]; exact r3⟩
  · rw [up2_same] at hr
    rw [u 14 r (by omega), u 13 r (by omega)]
    by_cases d : r = A 0 4
    · rw [d, e4]; omega
    · rw [enr_ne (by omega), enr_ne (by omega)]; exact hlw r (by omega)
theorem sE_sI {R : Nat} : sE R R = sI := funext fun q => by
  unfold sE sI
  split
  · rename_i h; exact h.symm
  · rfl
theorem sp_addReceiver : Sp_addReceiver Inv := by
  intro k m v1 v2 v3 hI
  obtain ⟨A, hG, hR, hK, hT, hH⟩ := id hI
  have hN := hG.1.1.1
  have h4 := hG.2.1.1
  unfold K_addReceiver M_addReceiver
  rcases node_c hG hR hK v1 with ⟨n, n1, n2, n3, n4⟩ | ⟨n3, n4⟩
  · rcases format_c hG hR hK v2 with ⟨f, f1, f2, f3, f4⟩ | ⟨_, f3, f4⟩
    · rcases level_c hG hR hK v3 with ⟨w, w0, w1, w2, w3, w4⟩ | ⟨w3, w4⟩
      · simp only [b1_some, b2_some, lt_e, o10, eq_self, ↓reduceIte, n3, n4, f3, f4, w3, w4]
        rw [n2, f2, w2, rd_at 96 li96 (by omega) (by omega), b1_some, hR.rcv, hK.rcv, li20]
        simp (disch := omega) only [b1_some, b2_some, lt_e, rd_n, wr_n, nI_add, pk_mul, nI_leI, nI_ltI, nI_eq, nI_1]
        by_cases c : A 0 4 = 20
        · rw [if_pos c, if_neg (by omega)]
          exact ⟨-2, k, m, rfl, rfl, hI⟩
        · rw [if_neg c, if_pos (by omega)]
          obtain ⟨k1, m1, e1, e2, e3, e4, e5, e6⟩ := hH.keep (Or.inl rfl) hG Es.rf hR.2 hK.2
          have hR1 : RM A m1 := RM_row (e4 2 (by omega) (by omega)) (e4 4 (by omega) (by omega)) hR
          have hK1 : RK A sI (A 0 4) k1 := hK.lo (fun j hj => e6 j (by omega))
          have hT1 := hT.keep e4 e5 e6
          rw [e1, e2, b1_some, b1_some, rd_at 96 li96 (by omega) (by omega), b1_some, hR1.rcv]
          obtain ⟨m2, b1', b2', b3'⟩ := M_begins_e hG.1.1 hR1 (x := A 0 4) (n := n) (f := f) (w := w) (by omega)
          obtain ⟨k2, c1, c2, c3⟩ := Ss_enrol_e hK1 (by omega) (x := A 0 4) (n := n) (f := f) (w := w) (Nat.le_refl _)
          rw [b1', b1_some, c1, b2_some, rd_at 96 li96 (by omega) (by omega), b1_some, b2'.rcv, enr_ne (by omega), nI_1, wr_at 96 li96 (by omega) (by omega), b1_some]
          have hR3 := b2'.c04 (WFs_es (A := A) (fun a j x y => enr_ne (by omega)) hG.1.1) (v := A 0 4 + 1)
          have hK3 := c2.c04 (v := A 0 4 + 1)
          rw [sE_sI] at hK3
          have hG3 := enr_good hG (by omega) n1 f1 w0 w1
          obtain ⟨A3, hA3⟩ : ∃ A3, A3 = up2 (enr A (A 0 4) n f w) 0 4 (A 0 4 + 1) := ⟨_, rfl⟩
          have e34 : A3 0 4 = A 0 4 + 1 := by rw [hA3, up2_same]
          have e314 : A3 14 (A 0 4) = 0 := by rw [hA3, up2_ne (by omega)]; exact enr_at.2.2.2.1
          have hE3 : Es A A3 := fun a j x y => by rw [hA3, up2_ne (by omega), enr_ne (by omega)]
          rw [← hA3] at hR3 hK3 hG3
          have hK3' : RK A3 sI (A3 0 4) k2 := by rw [e34]; exact hK3
          have hq3 := hG3.2.1.2.1 (A 0 4) (by omega)
          obtain ⟨m4, k4, B, z, d1, d2, d3, d4, d5, d6, d7⟩ := joins_both hG3.1 (Sg_sI hG3.2.1) hR3 hK3' (r := A 0 4) (by omega) e314 hq3.2.2.2.1
          have d1 : M_joins (st m2 4 96 (nI (A 0 4 + 1))) (nI (A 0 4)) = some m4 := d1
          have d3 : Jo A3 (A 0 4) (A3 13 (A 0 4)) B z := d3
          rw [d1, d2, b1_some, b2_some]
          obtain ⟨j1, j2, j3⟩ := Jo_good hG3 (r := A 0 4) (by omega) _ _ _ (Nat.le_refl _) d3
          have eB4 : B 0 4 = A3 0 4 := j2 0 4 (by omega) (by omega)
          refine ⟨_, k4, m4, rfl, rfl, Inv.same j1 d4 (by rw [eB4]; exact d5) hT1 (e3.es (hE3.tr j2.ec.s)) (fun j hj => ?_) (fun i hi => ?_) (fun j hj => ?_)⟩
          · rw [d6.x.1 j (by omega), st_row_ne (by omega), b3' j (by omega)]
          · rw [d6.x.2 i (by omega) (by omega), st_row_ne (by omega), b3' 0 (by omega)]
          · rw [d7.y j (by omega), c3 j (by omega)]
      · simp only [b1_some, b2_some, lt_e, o10, eq_self, ↓reduceIte, n3, n4, f3, f4, w3, w4]
        exact ⟨-1, k, m, rfl, rfl, hI⟩
    · simp only [b1_some, b2_some, lt_e, o10, eq_self, ↓reduceIte, n3, n4, f3, f4]
      exact ⟨-1, k, m, rfl, rfl, hI⟩
  · simp only [b1_some, b2_some, lt_e, o10, eq_self, ↓reduceIte, n3, n4]
    exact ⟨-1, k, m, rfl, rfl, hI⟩
theorem M_of3 {A : Ab} {m : St} (hR : RM A m) {r : Nat} (hr : r < 21) : M_of m (nI r) 3 = some (nI (A 14 r)) := M_of_e hR hr (w := 3) (by omega)
theorem M_of2 {A : Ab} {m : St} (hR : RM A m) {r : Nat} (hr : r < 21) : M_of m (nI r) 2 = some (nI (A 13 r)) := M_of_e hR hr (w := 2) (by omega)
theorem M_of4 {A : Ab} {m : St} (hR : RM A m) {r : Nat} (hr : r < 21) : M_of m (nI r) 4 = some (nI (A 15 r)) := M_of_e hR hr (w := 4) (by omega)
theorem M_of0 {A : Ab} {m : St} (hR : RM A m) {r : Nat} (hr : r < 21) : M_of m (nI r) 0 = some (nI (A 11 r)) := M_of_e hR hr (w := 0) (by omega)
theorem M_of1 {A : Ab} {m : St} (hR : RM A m) {r : Nat} (hr : r < 21) : M_of m (nI r) 1 = some (nI (A 12 r)) := M_of_e hR hr (w := 1) (by omega)
theorem c1315 {A : Ab} (hA : WF A) {c r v : Nat} (hc : c = 13 ∨ c = 15) : WF (up2 A c r v) := by
  have u : ∀ a j, a ≠ c → up2 A c r v a j = A a j := fun a j h => up2_ne (Or.inl h)
  have hec : Ec A (up2 A c r v) := fun a j x _ => u a j (by omega)
  refine ⟨WFs_es hec.s hA.1, ?_, WFc_ec hec hA.2.2.1, fun r hr hl => ?_⟩
  · obtain ⟨t1, t2, t3, g, t4⟩ := hA.2.1
    refine ⟨by rw [u 10 0 (by omega)]; exact t1, fun n hn h1 => by rw [u 10 n (by omega)]; exact t2 n hn h1, fun n hn h2 => ?_, g, fun n hn h2 => ?_⟩
    · rw [u 10 n (by omega)] at h2 ⊢
      obtain ⟨x1, x2, x3, l, x4⟩ := t3 n hn h2
      rw [u 10 _ (by omega), u 0 0 (by omega)]
      exact ⟨x1, x2, x3, l, (Lk_es hec.s).mpr x4⟩
    · rw [u 10 n (by omega)] at h2 ⊢; exact t4 n hn h2
  · rw [u 14 r (by omega)] at hl ⊢
    rw [u 11 r (by omega), u 12 r (by omega), u 10 _ (by omega), u 0 0 (by omega), u 0 2 (by omega), u 0 3 (by omega)]
    exact hA.2.2.2 r hr hl
theorem sp_leave : Sp_leave Inv := by
  intro k m v1 hI
  obtain ⟨A, hG, hR, hK, hT, hH⟩ := id hI
  have hN := hG.1.1.1
  have h4 := hG.2.1.1
  unfold K_leave M_leave
  rcases recv_c hG hR hK v1 with ⟨r, r1, r2, r3, r4, r5⟩ | ⟨r4, r5⟩
  · simp only [b1_some, b2_some, lt_e, o10, eq_self, ↓reduceIte, r4, r5]
    obtain ⟨k1, m1, e1, e2, e3, e4, e5, e6⟩ := hH.keep (Or.inl rfl) hG Es.rf hR.2 hK.2
    have hR1 : RM A m1 := RM_row (e4 2 (by omega) (by omega)) (e4 4 (by omega) (by omega)) hR
    have hK1 : RK A sI (A 0 4) k1 := hK.lo (fun j hj => e6 j (by omega))
    have hT1 := hT.keep e4 e5 e6
    have hg := Sg_sI hG.2.1
    have f3 : gt k1 23 r = nI (A 14 r) := hK1.lv r1
    rw [e1, e2, b1_some, b1_some, r3, M_of3 hR1 (by omega), b1_some, M_set3 _ (by omega), b1_some, rd_n (by omega) (by omega), b1_some, f3, wr_n (by omega) (by omega), b1_some, nar1, wr_n (by omega) (by omega), b1_some]
    have hlow := low_wf hG.1 (r := r) (v := 0) (by omega)
    have hR2 := hR1.lvl hG.1.1 (r := r) (w := 3) 0 (by omega) (by omega)
    rw [show M_set (st m1 4 (97 + 5 * r + 3) 0) (nI r) 4 1 = some (st (st m1 4 (97 + 5 * r + 3) 0) 4 (97 + 5 * r + 4) 1) from M_set_e _ (by omega) (w := 4) (by omega), b1_some]
    have hR3 := RM.lvl hlow.1 hR2 (r := r) (w := 4) 1 (by omega) (by omega)
    have hK2 := hK1.sl hg (r := r) (v := 0) r1
    have hg2 : Sg (up2 A 14 r 0) sI (A 0 4) := hg.lv r1
    have hK3 := RK.c15 hg2 hK2 (r := r) (v := 1) r1 (by omega)
    have hW := c1315 hlow (c := 15) (r := r) (v := 1) (Or.inr rfl)
    have u : ∀ a j, a ≠ 14 → a ≠ 15 → up2 (up2 A 14 r 0) 15 r 1 a j = A a j := fun a j x y => by rw [up2_ne (Or.inl y), up2_ne (Or.inl x)]
    have u14 : ∀ j, up2 (up2 A 14 r 0) 15 r 1 14 j ≤ A 14 j := fun j => by
      rw [up2_ne (by omega)]
      by_cases d : j = r
      · rw [d, up2_same]; omega
      · rw [up2_ne (Or.inr d)]; omega
    obtain ⟨m4, B, p1, p2, p3, p4⟩ := M_prunes_e hW.1 hW.2.1 hW.2.2.2 hW.l14 hR3
    have hg3 : Sg (up2 (up2 A 14 r 0) 15 r 1) sI (A 0 4) := by
      refine ⟨hg.1, hg.2.1, hg.2.2.1, fun q a b => hg.2.2.2.1 q a (by have := u14 q; omega), fun q a => by rw [u 12 _ (by omega) (by omega), u 11 _ (by omega) (by omega), u 0 0 (by omega) (by omega), u 0 2 (by omega) (by omega)]; exact hg.2.2.2.2 q a⟩
    obtain ⟨k4, q1, q2, q3⟩ := Sp_prune_e hW hg3 hK3 p3
    have p1 : M_prunes (st (st m1 4 (97 + 5 * r + 3) 0) 4 (97 + 5 * r + 4) 1) = some m4 := p1
    have q1 : Sp_prune (st (st k1 23 r 0) 24 r 1) = some k4 := q1
    rw [p1, q1, b1_some, b1_some]
    obtain ⟨w1, w2, w3⟩ := Prd_wf hW p3
    have hEB : ∀ a j, a ≠ 10 → a ≠ 14 → a ≠ 15 → B a j = A a j := fun a j x y z => by rw [w2 a j x y, u a j y z]
    have hB14 : ∀ j, B 14 j ≤ A 14 j := fun j => by rw [w3]; exact u14 j
    have eB4 : B 0 4 = A 0 4 := hEB 0 4 (by omega) (by omega) (by omega)
    have hGB : WFg B := by
      refine ⟨w1, ⟨by rw [eB4]; exact h4, fun q hq => ?_, fun q hq h => ?_⟩, Prd_Tt hW p3, fun q hq => ?_, Cp_of hG.2.2.2.2 (fun a j x _ => hEB a j (by omega) (by omega) (by omega)) (fun j => hEB 7 j (by omega) (by omega) (by omega)) (fun j _ => by rcases p3.1.2.1 j with z | z; exact Or.inl (by rw [z, u 10 j (by omega) (by omega)]); exact Or.inr z)⟩
      · rw [eB4] at hq
        obtain ⟨x1, x2, x3, x4, x5⟩ := hG.2.1.2.1 q hq
        rw [hEB 0 0 (by omega) (by omega) (by omega), hEB 0 2 (by omega) (by omega) (by omega), hEB 0 3 (by omega) (by omega) (by omega), hEB 11 q (by omega) (by omega) (by omega), hEB 12 q (by omega) (by omega) (by omega), hEB 13 q (by omega) (by omega) (by omega)]
        refine ⟨x1, x2, x3, x4, ?_⟩
        rw [w2 15 q (by omega) (by omega)]
        by_cases d : q = r
        · rw [d, up2_same]; omega
        · rw [up2_ne (Or.inr d), up2_ne (Or.inr d)]; exact x5
      · rw [eB4] at h
        have := hB14 q
        have := hG.2.1.2.2 q hq h
        omega
      · rw [eB4] at hq
        rw [hEB 13 q (by omega) (by omega) (by omega)]
        exact Nat.le_trans (hB14 q) (hG.2.2.2.1 q hq)
    refine ⟨_, k4, m4, rfl, rfl, Inv.same hGB p2 (by rw [eB4]; exact q2) hT1 (e3.es (fun a j x y => hEB a j (by omega) (by omega) (by omega))) (fun j hj => ?_) (fun i hi => ?_) (fun j hj => ?_)⟩
    · rw [p4.x.1 j (by omega), st_row_ne (by omega), st_row_ne (by omega)]
    · rw [p4.x.2 i (by omega) (by omega), st_row_ne (by omega), st_row_ne (by omega)]
    · rw [q3.y j (by omega)]
      show (st (st k1 23 r 0) 24 r 1).1 j = _
      rw [st_row_ne (by omega), st_row_ne (by omega)]
  · simp only [b1_some, b2_some, lt_e, o10, eq_self, ↓reduceIte, r4, r5]
    exact ⟨-1, k, m, rfl, rfl, hI⟩
