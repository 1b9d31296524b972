/-! ===== PHASE B: questions that change the state and bring it back ===== -/
def Fq (m m2 : St) : Prop := (∀ j, j = 1 ∨ j = 2 ∨ j = 6 → m2.1 j = m.1 j) ∧ ∀ i, i ≠ 23 → i ≠ 28 → m2.1 0 i = m.1 0 i
def Fp (k k2 : St) : Prop := ∀ j, j < 19 ∨ (41 ≤ j ∧ j < 155) → k2.1 j = k.1 j
theorem Fx.q {a b : St} (h : Fx a b) : Fq a b := ⟨fun j hj => h.1 j (by omega), h.2⟩
theorem Fy.p {a b : St} (h : Fy a b) : Fp a b := fun j hj => h j (by omega)
theorem Fq.rf {a : St} : Fq a a := ⟨fun _ _ => rfl, fun _ _ _ => rfl⟩
theorem Fp.rf {a : St} : Fp a a := fun _ _ => rfl
theorem Fq.tr {a b c : St} (h : Fq a b) (h2 : Fq b c) : Fq a c := ⟨fun j x => (h2.1 j x).trans (h.1 j x), fun i x y => (h2.2 i x y).trans (h.2 i x y)⟩
theorem Fp.tr {a b c : St} (h : Fp a b) (h2 : Fp b c) : Fp a c := fun j x => (h2 j x).trans (h j x)
theorem Inv.q {A : Ab} {k m k2 m2 : St} (hG : WFg A) (hR : RM A m2) (hK : RK A sI (A 0 4) k2) (hT : Tp k m) (hH : Hs A k m) (h1 : Fq m m2) (h2 : Fp k k2) : Inv k2 m2 :=
  Inv.same hG hR hK hT hH (fun j hj => h1.1 j (by omega)) (fun i hi => h1.2 i (by omega) (by omega)) (fun j hj => h2 j (by omega))
/-- a question: the same answer, the same state -/
def Q2 (A : Ab) (k m : St) (x y : Option (Int32 × St)) : Prop := ∃ z k2 m2, x = some (z, k2) ∧ y = some (z, m2) ∧ RM A m2 ∧ RK A sI (A 0 4) k2 ∧ Fq m m2 ∧ Fp k k2
theorem Q2.done {A : Ab} {k m : St} {x y : Option (Int32 × St)} (h : Q2 A k m x y) (hG : WFg A) (hT : Tp k m) (hH : Hs A k m) : ∃ z k2 m2, x = some (z, k2) ∧ y = some (z, m2) ∧ Inv k2 m2 := by
  obtain ⟨z, k2, m2, a, b, c, d, e, f⟩ := h
  exact ⟨z, k2, m2, a, b, Inv.q hG c d hT hH e f⟩
theorem sp_offer : Sp_offer Inv := by
  intro k m v1 v2 hI
  obtain ⟨A, hG, hR, hK, hT, hH⟩ := id hI
  have hN := hG.1.1.1
  have h4 := hG.2.1.1
  unfold K_offer M_offer
  rcases node_c hG hR hK v1 with ⟨n, n1, n2, n3, n4⟩ | ⟨n3, n4⟩
  · rcases format_c hG hR hK v2 with ⟨f, f1, f2, f3, f4⟩ | ⟨_, f3, f4⟩
    · simp only [b1_some, b2_some, lt_e, o10, eq_self, ↓reduceIte, n3, n4, f3, f4]
      obtain ⟨k1, a1, a2, a3, a4⟩ := aside_K hG hK
      obtain ⟨m1, b1', b2', b3'⟩ := M_laysAside_e m
      have hR1 : RM A m1 := RM_row (b2' 2 (by omega)) (b2' 4 (by omega)) hR
      rw [a1, b1', b1_some, b1_some, rd_at 3 li3 (by omega) (by omega), b1_some, hR1.g3, a2.n3, n2, f2]
      obtain ⟨m2, c1, c2, c3⟩ := M_begins_e hG.1.1 hR1 (x := 20) (n := n) (f := f) (w := A 0 3) (by omega)
      obtain ⟨k2, d1, d2, d3⟩ := Ss_enrol_e a2 h4 (x := 20) (n := n) (f := f) (w := A 0 3) h4
      rw [show M_begins m1 20 (nI n) (nI f) (nI (A 0 3)) = some m2 from c1, b1_some, d1, b2_some]
      have hW := enr_wf hG.1 (x := 20) (n := n) (f := f) (w := A 0 3)
      obtain ⟨e1, e2, e3, e4, e5⟩ := enr_at (A := A) (x := 20) (n := n) (f := f) (w := A 0 3)
      have hsR : sE (A 0 4) 20 (A 0 4) = 20 := if_pos rfl
      have hso : ∀ q, q < A 0 4 → sE (A 0 4) 20 q = q := fun q hq => if_neg (by omega)
      have hg : Sg (enr A 20 n f (A 0 3)) (sE (A 0 4) 20) (A 0 4 + 1) := by
        refine ⟨by omega, fun r hr => ?_, fun r q hr hq e => ?_, fun r hr hl => ?_, fun r hr => ?_⟩
        · by_cases d : r = A 0 4
          · rw [d, hsR]; omega
          · rw [hso r (by omega)]; omega
        · by_cases d : r = A 0 4
          · by_cases d2 : q = A 0 4
            · omega
            · rw [d, hsR, hso q (by omega)] at e; omega
          · by_cases d2 : q = A 0 4
            · rw [d2, hsR, hso r (by omega)] at e; omega
            · rw [hso r (by omega), hso q (by omega)] at e; exact e
        · by_cases d : r = 20
          · rw [d, e4] at hl; omega
          · rw [enr_ne (by omega)] at hl
            have : r < A 0 4 := by
              apply Classical.byContradiction
              intro z
              have := hG.2.1.2.2 r hr (by omega)
              omega
            exact ⟨r, by omega, hso r this⟩
        · rw [enr_ne (show 0 < 11 ∨ _ by omega), enr_ne (show 0 < 11 ∨ _ by omega)]
          by_cases d : r = A 0 4
          · rw [d, hsR, e1, e2]; exact ⟨f1, n1⟩
          · have := hG.2.1.2.1 r (by omega)
            rw [hso r (by omega), enr_ne (by omega), enr_ne (by omega)]; exact ⟨this.2.1, this.1⟩
      obtain ⟨m3, k3, B, z, x1, x2, x3, x4, x5, x6, x7⟩ := joins_both hW hg c2 d2 (r := A 0 4) (by omega) (by rw [hsR]; exact e4) (by rw [hsR, e3, enr_ne (by omega)]; exact Nat.le_refl _)
      rw [hsR] at x1 x3
      have x1 : M_joins m2 20 = some m3 := x1
      rw [x1, x2, b1_some, b2_some]
      obtain ⟨_, j2, _, j4, _⟩ := Jo_wf hW (r := 20) (by omega) (by rw [e1, enr_ne (by omega)]; exact n1) (by rw [e2, enr_ne (by omega)]; exact f1) e4 _ _ _ (by rw [e3, enr_ne (by omega)]; exact Nat.le_refl _) x3
      have hl := M_of3 x4 (r := 20) (by omega)
      rw [j4] at hl
      have hl : M_of m3 20 3 = some (nI z) := hl
      obtain ⟨m4, y1, y2, y3⟩ := M_comesBack_e m3
      have hFx0 : Fx m1 m2 := ⟨fun j hj => c3 j (by omega), fun i _ _ => by rw [c3 0 (by omega)]⟩
      have hFx : Fx m1 m3 := hFx0.tr x6.x
      obtain ⟨g1, g2, g3⟩ := back (by omega) hR b2' b3' hFx y2 y3
      rw [hl, b1_some, y1, b1_some]
      have hsv : RKw A sI (A 0 4) k3 30 := RKw_row (fun j x y => by rw [x7.y j (by omega), d3 j (by omega)]) a3
      have hss : RKs A k3 := RKs_row (fun j hj => by rw [x7.y j (by omega), d3 j (by omega)]) a2.1
      obtain ⟨k4, w1, w2, w3, w4⟩ := restore_K hG hss hsv
      rw [w1, b1_some]
      refine Q2.done (A := A) ⟨_, k4, m4, rfl, rfl, g1, w2, ⟨g2, g3⟩, fun j hj => ?_⟩ hG hT hH
      rw [w4 j (by omega), x7.y j (by omega), d3 j (by omega), a4 j (by omega)]
    · simp only [b1_some, b2_some, lt_e, o10, eq_self, ↓reduceIte, n3, n4, f3, f4]
      exact ⟨-1, k, m, rfl, rfl, hI⟩
  · simp only [b1_some, b2_some, lt_e, o10, eq_self, ↓reduceIte, n3, n4]
    exact ⟨-1, k, m, rfl, rfl, hI⟩
theorem sub_add (a y : Nat) : nI (a + y) - nI a = nI y := by
  rw [Nat.add_comm, ← nI_add, Int32.add_sub_cancel]
theorem gain_both {A : Ab} {k m : St} (hG : WFg A) (hR : RM A m) (hK : RK A sI (A 0 4) k) (v1 v2 : Int32) : Q2 A k m (K_gain k v1 v2) (M_gain m v1 v2) := by
  have hN := hG.1.1.1
  have h4 := hG.2.1.1
  have same : ∀ z : Int32, Q2 A k m (some (z, k)) (some (z, m)) := fun z => ⟨z, k, m, rfl, rfl, hR, hK, Fq.rf, Fp.rf⟩
  unfold K_gain M_gain
  rcases node_c hG hR hK v1 with ⟨n, n1, n2, n3, n4⟩ | ⟨n3, n4⟩
  · rcases other_c hG hR hK v2 with ⟨f, f0, f1, f2, f3, f4⟩ | ⟨f3, f4⟩
    · simp only [b1_some, b2_some, lt_e, o10, eq_self, ↓reduceIte, n3, n4, f3, f4]
      obtain ⟨k1, a1, a2, a3, a4⟩ := aside_K hG hK
      rw [n2, f2, a1, b1_some]
      rcases conv_both hG hR a2 n1 f0 f1 with ⟨m2, k2, b1', b2', b3', b4', b5', b6'⟩ | ⟨c0, hGB, m2, k2, b1', b2', b3', b4', b5', b6'⟩
      · rw [b1', b2', b2_some, b2_some, if_pos rfl, if_pos rfl]
        exact ⟨-2, k2, m2, rfl, rfl, b3', b4', b5'.q, fun j hj => by rw [b6' j (by omega), a4 j (by omega)]⟩
      · rw [b1', b2', b2_some, b2_some, if_neg (by decide), if_neg (by decide)]
        obtain ⟨m3, c1, c2, c3⟩ := M_laysAside_e m2
        have hR3 : RM A m3 := RM_row (c2 2 (by omega)) (c2 4 (by omega)) b3'
        have f64 : gt m3 4 (64 + n) = nI (pmk A n) := hR3.2.2.1 n (by omega)
        rw [c1, b1_some, li64, nI_add, rd_n (by omega) (by omega), b1_some, f64, pm_set hG.1.2.2.1 (by omega) (by omega) c0, wr_n (by omega) (by omega), b1_some]
        have hR4 := hR3.c9 hG.1.1 (n := n) (f := f) (v := 1) (by omega) (by omega)
        have e04 : up2 A 9 (4 * n + f) 1 0 4 = A 0 4 := up2_ne (by omega)
        have b4'' : RK (up2 A 9 (4 * n + f) 1) sI (up2 A 9 (4 * n + f) 1 0 4) k2 := by rw [e04]; exact b4'
        obtain ⟨m5, k5, B, y, y1, y2, y3, y4, y5, y6, y7, y8, y9, y10, _⟩ := raises_both hGB hR4 b4''
        rw [M_levels_e hGB.1 hR4 (by rw [e04]; exact h4), b1_some, y1, y2, b2_some, b2_some, M_levels_e y7.1 y3 y7.2.1.1, b1_some]
        obtain ⟨m6, d1, d2, d3⟩ := M_comesBack_e m5
        have hFx : Fx m3 m5 := (Fx.st (by omega)).tr y5.x
        obtain ⟨g1, g2, g3⟩ := back (by omega) b3' c2 c3 hFx d2 d3
        rw [d1, b1_some, ← sm_q hGB.2.1, ← sm_q y7.2.1, y9, sub_add]
        have hsv : RKw A sI (A 0 4) k5 30 := RKw_row (fun j x y => by rw [y6.y j (by omega), b6' j (by omega)]) a3
        have hss : RKs A k5 := RKs_row (fun j hj => by rw [y6.y j (by omega), b6' j (by omega)]) a2.1
        obtain ⟨k6, w1, w2, w3, w4⟩ := restore_K hG hss hsv
        rw [w1, b1_some]
        refine ⟨_, k6, m6, rfl, rfl, g1, w2, b5'.q.tr ⟨g2, g3⟩, fun j hj => ?_⟩
        rw [w4 j (by omega), y6.y j (by omega), b6' j (by omega), a4 j (by omega)]
    · simp only [b1_some, b2_some, lt_e, o10, eq_self, ↓reduceIte, n3, n4, f3, f4]
      exact same (-1)
  · simp only [b1_some, b2_some, lt_e, o10, eq_self, ↓reduceIte, n3, n4]
    exact same (-1)
theorem sp_gain : Sp_gain Inv := by
  intro k m v1 v2 hI
  obtain ⟨A, hG, hR, hK, hT, hH⟩ := hI
  exact (gain_both hG hR hK v1 v2).done hG hT hH
theorem best19 {A : Ab} (hG : WFg A) (v1 : Int32) : ∀ (fu n : Nat) (v2 v3 : Int32) (k m : St), RM A m → RK A sI (A 0 4) k → n ≤ A 0 0 → A 0 0 < n + fu → Q2 A k m (K_bestPlace_L19 fu v1 v2 v3 (nI n) k) (M_bestPlace_L19 fu v1 v2 v3 (nI n) m) := by
  have hN := hG.1.1.1
  intro fu
  induction fu with
  | zero => intro n v2 v3 k m _ _ h1 h2; omega
  | succ fu ih =>
    intro n v2 v3 k m hR hK h1 h2
    rw [K_bestPlace_L19, M_bestPlace_L19]; unfold K_bestPlace_B19 M_bestPlace_B19
    rw [rd_at 0 li0 (by omega) (by omega), b1_some, hR.g0, hK.n0]
    simp (disch := omega) only [b1_some, b2_some, lt_e, rd_n, wr_n, nI_add, pk_mul, nI_leI, nI_ltI, nI_eq, nI_1]
    by_cases e : n < A 0 0
    · rw [if_neg (by omega), if_neg (by omega)]
      obtain ⟨z, k2, m2, a, b, c, d, p, q⟩ := gain_both hG hR hK (nI n) v1
      rw [a, b, b2_some, b2_some]
      by_cases h : z ≤ v3
      · rw [if_pos h, if_pos h]
        obtain ⟨z', k3, m3, a', b', c', d', p', q'⟩ := ih (n + 1) v2 v3 k2 m2 c d (by omega) (by omega)
        exact ⟨z', k3, m3, a', b', c', d', p.tr p', q.tr q'⟩
      · rw [if_neg h, if_neg h]
        obtain ⟨z', k3, m3, a', b', c', d', p', q'⟩ := ih (n + 1) (nI n) z k2 m2 c d (by omega) (by omega)
        exact ⟨z', k3, m3, a', b', c', d', p.tr p', q.tr q'⟩
    · rw [if_pos (by omega), if_pos (by omega)]
      exact ⟨v2, k, m, rfl, rfl, hR, hK, Fq.rf, Fp.rf⟩
theorem sp_bestPlace : Sp_bestPlace Inv := by
  intro k m v1 hI
  obtain ⟨A, hG, hR, hK, hT, hH⟩ := id hI
  have hN := hG.1.1.1
  unfold K_bestPlace M_bestPlace
  rcases other_c hG hR hK v1 with ⟨f, f0, f1, f2, f3, f4⟩ | ⟨f3, f4⟩
  · simp only [b1_some, b2_some, lt_e, o10, eq_self, ↓reduceIte, f3, f4]
    exact (best19 hG v1 FU 0 (-2) (-2) k m hR hK (by omega) (by rw [FU_e]; omega)).done hG hT hH
  · simp only [b1_some, b2_some, lt_e, o10, eq_self, ↓reduceIte, f3, f4]
    exact ⟨-1, k, m, rfl, rfl, hI⟩
/-- a link is closed and opened again -/
theorem loss_M {A : Ab} {k m : St} (hG : WFg A) (hR : RM A m) (hK : RK A sI (A 0 4) k) {l : Nat} (hl : l < A 0 1) (ho : A 8 l = 1) : ∃ (z : Int32) (k2 m2 : St), Tr_closeLink k (nI l) = some (z, k2) ∧ M_loss m (nI l) = some (z, m2) ∧ RM A m2 ∧ Fq m m2 ∧ Fy k k2 := by
  have hN := hG.1.1.1
  have h4 := hG.2.1.1
  unfold M_loss
  rcases link_c hG hR hK (nI l) with ⟨l', n1, n2, n3, n4⟩ | ⟨n3, n4⟩
  · rw [n3, b1_some, if_neg (by decide), li32, nI_add, rd_n (by omega) (by omega), b1_some, hR.opn hl, ho, if_neg (by decide)]
    obtain ⟨m1, b1', b2', b3'⟩ := M_laysAside_e m
    have hR1 : RM A m1 := RM_row (b2' 2 (by omega)) (b2' 4 (by omega)) hR
    obtain ⟨m2, k2, B, a1, a2, a3, a4, a5, a6, a7, a8⟩ := closes_both hG hR1 hK hl
    obtain ⟨m3, d1, d2, d3⟩ := M_comesBack_e m2
    obtain ⟨g1, g2, g3⟩ := back (by omega) hR b2' b3' a7 d2 d3
    rw [b1', b1_some, M_levels_e hG.1 hR1 h4, b1_some, a1, b1_some, M_levels_e a5.1 a3 a5.2.1.1, b1_some, d1, b1_some]
    exact ⟨_, k2, m3, a2, rfl, g1, ⟨g2, g3⟩, a8⟩
  · have h := M_isLink_e hG.1.1 hR (nI l)
    rw [n3, nI_toInt (by omega), if_pos (by omega)] at h
    exact absurd (Option.some.inj h) (by decide)
theorem sp_loss : Sp_loss Inv := by
  intro k m v1 hI
  obtain ⟨A, hG, hR, hK, hT, hH⟩ := id hI
  have hN := hG.1.1.1
  unfold K_loss
  rcases link_c hG hR hK v1 with ⟨l, n1, n2, n3, n4⟩ | ⟨n3, n4⟩
  · simp only [b1_some, b2_some, lt_e, o10, eq_self, ↓reduceIte, n4]
    have hop := (hG.1.2.2.1.1 l n1).2
    rw [n2, rd_n (by omega) (by omega), b1_some, hK.opn n1]
    by_cases c : A 8 l = 0
    · rw [c, if_pos nI_0]
      refine ⟨0, k, m, rfl, ?_, hI⟩
      rw [n2] at n3
      unfold M_loss
      rw [n3, b1_some, if_neg (by decide), li32, nI_add, rd_n (by omega) (by omega), b1_some, hR.opn n1, c, if_pos nI_0]
    · have c1 : A 8 l = 1 := by omega
      obtain ⟨k1, a1, a2, a3, a4⟩ := aside_K hG hK
      obtain ⟨z, k2, m2, d1, d2, d3, d4, d5⟩ := loss_M hG hR a2 n1 c1
      rw [c1, if_neg (by decide), a1, b1_some, d1, b2_some]
      have hsv : RKw A sI (A 0 4) k2 30 := RKw_row (fun j x y => d5 j (by omega)) a3
      have hss : RKs A k2 := RKs_row (fun j hj => d5 j (by omega)) a2.1
      obtain ⟨k3, w1, w2, w3, w4⟩ := restore_K hG hss hsv
      rw [w1, b1_some]
      refine Q2.done (A := A) ⟨_, k3, m2, rfl, d2, d3, w2, d4, fun j hj => ?_⟩ hG hT hH
      rw [w4 j (by omega), d5 j (by omega), a4 j (by omega)]
  · simp only [b1_some, b2_some, lt_e, o10, eq_self, ↓reduceIte, n4]
    refine ⟨-1, k, m, rfl, ?_, hI⟩
    unfold M_loss
    rw [n3, b1_some, if_pos rfl]
theorem crit18 {A : Ab} (hG : WFg A) : ∀ (fu l : Nat) (v2 : Int32) (b : Nat) (k m : St), b = 99 ∨ b < 99 → RM A m → RK A sI (A 0 4) k → RKw A sI (A 0 4) k 30 → l ≤ A 0 1 → A 0 1 < l + fu → Q2 A k m (K_criticalLink_L18 fu (bI b) v2 (nI l) k) (M_criticalLink_L7 fu (bI b) v2 (nI l) m) := by
  have hN := hG.1.1.1
  intro fu
  induction fu with
  | zero => intro l v2 b k m _ _ _ _ h1 h2; omega
  | succ fu ih =>
    intro l v2 b k m hb hR hK hS h1 h2
    rw [K_criticalLink_L18, M_criticalLink_L7]; unfold K_criticalLink_B18 M_criticalLink_B7
    rw [rd_at 1 li1 (by omega) (by omega), b1_some, hR.g1, hK.n1]
    simp (disch := omega) only [b1_some, b2_some, lt_e, rd_n, wr_n, nI_add, pk_mul, nI_leI, nI_ltI, nI_eq, nI_1]
    by_cases e : l < A 0 1
    · have hop := (hG.1.2.2.1.1 l e).2
      rw [if_neg (by omega), if_neg (by omega), rd_n (by omega) (by omega), b1_some, hK.opn e, li32, nI_add, rd_n (by omega) (by omega), b1_some, hR.opn e]
      by_cases c : A 8 l = 0
      · rw [c, if_pos nI_0, if_pos nI_0]
        exact ih (l + 1) v2 b k m hb hR hK hS (by omega) (by omega)
      · have c1 : A 8 l = 1 := by omega
        obtain ⟨z, k2, m2, d1, d2, d3, d4, d5⟩ := loss_M hG hR hK e c1
        rw [c1, if_neg (by decide), if_neg (by decide), d1, d2, b2_some, b2_some]
        have hsv : RKw A sI (A 0 4) k2 30 := RKw_row (fun j x y => d5 j (by omega)) hS
        have hss : RKs A k2 := RKs_row (fun j hj => d5 j (by omega)) hK.1
        obtain ⟨k3, w1, w2, w3, w4⟩ := restore_K hG hss hsv
        rw [w1, b1_some]
        have hFp : Fp k k3 := fun j hj => by rw [w4 j (by omega), d5 j (by omega)]
        have go : ∀ (v2' : Int32) (b' : Nat), b' = 99 ∨ b' < 99 → Q2 A k m (K_criticalLink_L18 fu (bI b') v2' (nI (l + 1)) k3) (M_criticalLink_L7 fu (bI b') v2' (nI (l + 1)) m2) := fun v2' b' hb' => by
          obtain ⟨z', k4, m4, a', b'', c', d', p', q'⟩ := ih (l + 1) v2' b' k3 m2 hb' d3 w2 w3 (by omega) (by omega)
          exact ⟨z', k4, m4, a', b'', c', d', d4.tr p', hFp.tr q'⟩
        have hbl : bI l = nI l := if_neg (by omega)
        by_cases c2 : b = 99
        · have hb2 : bI b = -2 := if_pos c2
          rw [if_pos hb2, if_pos (show bI b < 0 by rw [hb2]; decide), ← hbl]
          exact go z l (Or.inr (by omega))
        · have hb2 : bI b = nI b := if_neg c2
          rw [if_neg (show ¬ bI b = -2 by rw [hb2]; exact nI_neg2 (by omega)), if_neg (show ¬ bI b < 0 by rw [hb2]; exact nI_pos (by omega))]
          by_cases c3 : z ≤ v2
          · rw [if_pos c3, if_pos c3]; exact go v2 b hb
          · rw [if_neg c3, if_neg c3, ← hbl]; exact go z l (Or.inr (by omega))
    · rw [if_pos (by omega), if_pos (by omega)]
      exact ⟨_, k, m, rfl, rfl, hR, hK, Fq.rf, Fp.rf⟩
theorem sp_criticalLink : Sp_criticalLink Inv := by
  intro k m hI
  obtain ⟨A, hG, hR, hK, hT, hH⟩ := id hI
  have hN := hG.1.1.1
  unfold K_criticalLink M_criticalLink
  obtain ⟨k1, a1, a2, a3, a4⟩ := aside_K hG hK
  rw [a1, b1_some]
  obtain ⟨z, k2, m2, b, c, d, e, p, q⟩ := crit18 hG FU 0 0 99 k1 m (Or.inl rfl) hR a2 a3 (by omega) (by rw [FU_e]; omega)
  have b : K_criticalLink_L18 FU (-2) 0 0 k1 = some (z, k2) := b
  have c : M_criticalLink_L7 FU (-2) 0 0 m = some (z, m2) := c
  rw [b, c]
  refine Q2.done (A := A) ⟨z, k2, m2, rfl, rfl, d, e, p, fun j hj => ?_⟩ hG hT hH
  rw [q j hj, a4 j (by omega)]
theorem sp_graftNode : Sp_graftNode Inv := by
  intro k m v1 v2 v3 v4 hI
  obtain ⟨A, hG, hR, hK, hT, hH⟩ := id hI
  have hN := hG.1.1.1
  unfold K_graftNode M_graftNode
  rcases node_c hG hR hK v1 with ⟨n, n1, n2, n3, n4⟩ | ⟨n3, n4⟩
  · rcases format_c hG hR hK v2 with ⟨f, f1, f2, f3, f4⟩ | ⟨_, f3, f4⟩
    · rcases level_c hG hR hK v3 with ⟨w, w0, w1, w2, w3, w4⟩ | ⟨w3, w4⟩
      · simp only [b1_some, b2_some, lt_e, o10, eq_self, ↓reduceIte, n3, n4, f3, f4, w3, w4]
        by_cases c0 : (0 : Int32) ≤ v4
        · rw [if_pos c0, if_pos c0, n2, f2, w2, rd_n (by omega) (by omega), b1_some, hK.tin (by omega), M_isIn_e (par_bd hG.1.1 hG.1.2.1) hR (by omega), b1_some]
          by_cases c : A 10 n = 0
          · rw [if_pos c, if_pos rfl, if_pos rfl]
            unfold Su_rateOf
            rw [li6]
            simp (disch := omega) only [b1_some, b2_some, lt_e, rd_n, wr_n, nI_add, pk_mul, nI_leI, nI_ltI, nI_eq, nI_1]
            rw [hK.rate f1 w1, M_rateOf_e hG.1.1 hR f1 w1, b1_some]
            have hrt := (rt_le hG.1.1 f1 w w1).1
            rcases M_lays_e hG.1.1 hG.1.2.1 hG.1.2.2.1 hR (R := rt A f w) (t := n) (by omega) (by omega) c with ⟨d1, m2, d2, d3⟩ | ⟨x, d1, m2, d2, d3, d4⟩ <;> rcases Gr_findPath_e hG.1 hK (R := rt A f w) (t := n) (by omega) (by omega) c with ⟨e1, k2, e2, e3⟩ | ⟨y, e1, k2, e2, e3, e4⟩
            · rw [d2, e2, b2_some, b2_some, if_pos rfl, if_pos rfl]
              exact Q2.done (A := A) ⟨-2, k2, m2, rfl, rfl, d3.rm hR, e3.rk hK, d3.w.x.q, e3.k.y.p⟩ hG hT hH
            · exact absurd d1 e1.1
            · exact absurd e1 d1.1
            · have hxy := way_n d1 e1
              subst hxy
              have hx15 := d1.2.2.2.2.1
              rw [d2, e2, b2_some, b2_some, if_neg (show ¬ (1 : Int32) = 0 by decide), if_neg (show ¬ (1 : Int32) = 0 by decide), d4.1, e4.1]
              have fin : ∀ z : Int32, Q2 A k m (some (z, k2)) (some (z, m2)) := fun z => ⟨z, k2, m2, rfl, rfl, d3.rm hR, e3.rk hK, d3.w.x.q, e3.k.y.p⟩
              by_cases c5 : v4 < nI (x + 1)
              · have h5 := (v_lt_nI v4 (by omega)).mp c5
                have h6 : 0 ≤ v4.toInt := by
                  have := i32_le.mp c0
                  rw [show (0 : Int32).toInt = 0 by decide] at this
                  exact this
                obtain ⟨j, j1, j2⟩ := arg_in (v := v4) (n := x + 1) (by omega) (by omega)
                rw [if_pos c5, if_neg (fun z => by have := (le_nI v4 (by omega)).mp z; omega), j2, rd_n (by omega) (by omega), b1_some, rd_n (by omega) (by omega), b1_some, e4.2 j (by omega), d4.2 j (by omega)]
                exact (fin _).done hG hT hH
              · have h5 : ¬ v4.toInt < ((x + 1 : Nat) : Int) := fun z => c5 ((v_lt_nI v4 (by omega)).mpr z)
                rw [if_neg c5, if_pos ((le_nI v4 (by omega)).mpr (by omega))]
                exact (fin _).done hG hT hH
          · rw [if_neg c, if_neg (by decide), if_neg (by decide)]
            exact ⟨-2, k, m, rfl, rfl, hI⟩
        · rw [if_neg c0, if_neg c0]
          exact ⟨-1, k, m, rfl, rfl, hI⟩
      · simp only [b1_some, b2_some, lt_e, o10, eq_self, ↓reduceIte, n3, n4, f3, f4, w3, w4]
        exact ⟨-1, k, m, rfl, rfl, hI⟩
    · simp only [b1_some, b2_some, lt_e, o10, eq_self, ↓reduceIte, n3, n4, f3, f4]
      exact ⟨-1, k, m, rfl, rfl, hI⟩
  · simp only [b1_some, b2_some, lt_e, o10, eq_self, ↓reduceIte, n3, n4]
    exact ⟨-1, k, m, rfl, rfl, hI⟩
