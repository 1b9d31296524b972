/-! ===== PHASE B: lowering whole, joining, in the reference ===== -/
/-- receivers: who has come, what they want -/
def WFq (A : Ab) : Prop := A 0 4 ≤ 20 ∧ (∀ r, r < A 0 4 → A 11 r < A 0 0 ∧ A 12 r < A 0 2 ∧ 1 ≤ A 13 r ∧ A 13 r ≤ A 0 3 ∧ A 15 r ≤ 1) ∧ ∀ r, r < 21 → A 0 4 ≤ r → A 14 r = 0
/-- two pictures that differ in tree and levels alone -/
def Et (A B : Ab) : Prop := ∀ a j, a ≠ 10 → a ≠ 14 → B a j = A a j
theorem Et.rf {A : Ab} : Et A A := fun _ _ _ _ => rfl
theorem Et.tr {A B C : Ab} (h : Et A B) (h2 : Et B C) : Et A C := fun a j x y => (h2 a j x y).trans (h a j x y)
theorem Et.ec {A B : Ab} (h : Et A B) : Ec A B := fun a j x _ => h a j (by omega) (by omega)
theorem Et.q {A B : Ab} (h : Et A B) (hq : WFq A) (h2 : ∀ r, r < 21 → A 0 4 ≤ r → B 14 r = 0) : WFq B := by
  obtain ⟨q1, q2, _⟩ := hq
  refine ⟨by rw [h 0 4 (by omega) (by omega)]; exact q1, fun r hr => ?_, fun r hr h3 => ?_⟩
  · rw [h 0 4 (by omega) (by omega)] at hr
    rw [h 11 r (by omega) (by omega), h 12 r (by omega) (by omega), h 13 r (by omega) (by omega), h 15 r (by omega) (by omega), h 0 0 (by omega) (by omega), h 0 2 (by omega) (by omega), h 0 3 (by omega) (by omega)]
    exact q2 r hr
  · rw [h 0 4 (by omega) (by omega)] at h3; exact h2 r hr h3
/-- a lower level -/
theorem low_wf {A : Ab} (hA : WF A) {r v : Nat} (h : v ≤ A 14 r) : WF (up2 A 14 r v) := by
  have hec : Ec A (up2 A 14 r v) := fun a j x _ => up2_ne (by omega)
  have e10 : ∀ j, up2 A 14 r v 10 j = A 10 j := fun j => up2_ne (by omega)
  refine ⟨WFs_es hec.s hA.1, ?_, WFc_ec hec hA.2.2.1, fun r2 hr2 hl => ?_⟩
  · obtain ⟨t1, t2, t3, g, t4⟩ := hA.2.1
    refine ⟨by rw [e10]; exact t1, fun n hn h1 => by rw [e10]; exact t2 n hn h1, fun n hn h2 => ?_, g, fun n hn h2 => ?_⟩
    · rw [e10] at h2
      obtain ⟨x1, x2, x3, l, x4⟩ := t3 n hn h2
      rw [e10, e10, hec 0 0 (by omega) (by omega)]
      exact ⟨x1, x2, x3, l, (Lk_es hec.s).mpr x4⟩
    · rw [e10] at h2 ⊢; exact t4 n hn h2
  · rw [hec 0 0 (by omega) (by omega), hec 0 2 (by omega) (by omega), hec 0 3 (by omega) (by omega), e10, up2_ne (a := 11) (by omega), up2_ne (a := 12) (by omega)]
    by_cases c : r2 = r
    · subst c
      rw [up2_same] at hl ⊢
      obtain ⟨w1, w2, w3, w4⟩ := hA.2.2.2 r2 hr2 (by omega)
      exact ⟨w1, w2, by omega, w4⟩
    · rw [up2_ne (by omega)] at hl ⊢
      exact hA.2.2.2 r2 hr2 hl
theorem Req_rcv {A : Ab} {r : Nat} (hr : r < 21) (h : 0 < A 14 r) : Req A (A 11 r) := Or.inr ⟨r, hr, h, 0, by omega, rfl⟩
theorem Prd_wf {A B : Ab} (hA : WF A) (h : Prd A B) : WF B ∧ Et A B ∧ B 14 = A 14 := by
  refine ⟨⟨WFs_es h.1.ec.s hA.1, h.1.2.2.1, WFc_ec h.1.ec hA.2.2.1, fun r hr hl => ?_⟩, fun a j x y => by rw [h.1.1 a x], h.1.1 14 (by omega)⟩
  rw [h.1.1 14 (by omega)] at hl ⊢
  rw [h.1.1 11 (by omega), h.1.1 12 (by omega), h.1.1 0 (by omega)]
  obtain ⟨w1, w2, w3, w4⟩ := hA.2.2.2 r hr hl
  have := hA.1.1
  refine ⟨w1, w2, w3, ?_⟩
  rw [h.1.2.2.2 _ (by omega) (Req_rcv hr hl)]; exact w4
/-- lowering, z times, until all fits -/
def Re : Nat → Ab → Ab → Prop
  | 0, A, B => Fit A ∧ B = A
  | z + 1, A, B => ¬ Fit A ∧ ∃ C, Prd (up2 A 14 (nxw A) (A 14 (nxw A) - 1)) C ∧ Re z C B
def sm (g : Nat → Nat) : Nat → Nat
  | 0 => 0
  | n + 1 => sm g n + g n
theorem sm_low {g g2 : Nat → Nat} {r : Nat} (h : ∀ j, j ≠ r → g2 j = g j) (h2 : g2 r + 1 = g r) : ∀ n, sm g2 n + (if r < n then 1 else 0) = sm g n := by
  intro n
  induction n with
  | zero => rfl
  | succ n ih =>
    rw [sm, sm]
    by_cases e : n = r
    · subst e; rw [if_pos (by omega)]; rw [if_neg (by omega)] at ih; omega
    · rw [h n e]
      by_cases c : r < n
      · rw [if_pos (by omega)]; rw [if_pos c] at ih; omega
      · rw [if_neg (by omega)]; rw [if_neg c] at ih; omega
theorem sm_le {g : Nat → Nat} {b : Nat} : ∀ n, (∀ j, j < n → g j ≤ b) → sm g n ≤ b * n := by
  intro n
  induction n with
  | zero => intro _; exact Nat.le_refl _
  | succ n ih =>
    intro h
    have := ih (fun j hj => h j (by omega))
    have := h n (by omega)
    rw [sm, Nat.mul_succ]; omega
theorem prt_0 {A : Ab} {w r : Nat} (h : A 14 r = 0) : prt A w r = 0 := if_pos h
theorem nxw_sp {A : Ab} (hA : WF A) (hq : WFq A) (h : ¬ Fit A) : nxw A < A 0 4 ∧ 0 < A 14 (nxw A) := by
  obtain ⟨r, r1, r2, r3⟩ := pick hA h
  have hr : r < A 0 4 := by
    apply Classical.byContradiction
    intro n
    have := hq.2.2 r r1 (by omega)
    omega
  have hc := hq.1
  rcases nx_sp (p := prt A (wrg A)) (lv := A 14) (A 0 4) (by omega) with ⟨a, b⟩ | ⟨a, b⟩
  · exact absurd r3 (b r hr)
  · refine ⟨a, ?_⟩
    apply Classical.byContradiction
    intro n
    have z : A 14 (nx (prt A (wrg A)) (A 14) (A 0 4)) = 0 := by
      have : ¬ 0 < A 14 (nx (prt A (wrg A)) (A 14) (A 0 4)) := n
      omega
    rw [prt_0 z] at b
    omega
theorem wI_neg {x : Nat} (h : x < 2 ^ 31) : wI x < 0 ↔ x = 999 := by
  unfold wI
  split
  · rename_i c; exact ⟨fun _ => c, fun _ => by decide⟩
  · rename_i c; exact ⟨fun z => absurd z (nI_pos h), fun z => absurd z c⟩
theorem step_wf {A C : Ab} (hA : WF A) (hq : WFq A) (h : ¬ Fit A) (hC : Prd (up2 A 14 (nxw A) (A 14 (nxw A) - 1)) C) : WF C ∧ WFq C ∧ Et A C ∧ sm (C 14) 21 + 1 = sm (A 14) 21 := by
  obtain ⟨n1, n2⟩ := nxw_sp hA hq h
  have hq1 := hq.1
  have hlow := low_wf hA (r := nxw A) (v := A 14 (nxw A) - 1) (by omega)
  obtain ⟨p1, p2, p3⟩ := Prd_wf hlow hC
  have het : Et A C := Et.tr (fun a j x y => up2_ne (Or.inl y)) p2
  refine ⟨p1, het.q hq (fun r hr h3 => ?_), het, ?_⟩
  · rw [p3, up2_ne (by omega)]; exact hq.2.2 r hr h3
  · have := sm_low (g := A 14) (g2 := C 14) (r := nxw A) (fun j hj => by rw [p3, up2_ne (by omega)]) (by rw [p3, up2_same]; omega) 21
    rw [if_pos (by omega)] at this
    exact this
theorem repairs7 : ∀ (fu z : Nat) (A : Ab) (m : St), WF A → WFq A → RM A m → sm (A 14) 21 + 1 < fu → ∃ (y : Nat) (B : Ab) (m2 : St), M_repairs_L7 fu (nI z) (wI (wrg A)) m = some (nI (z + y), m2) ∧ Re y A B ∧ RM B m2 ∧ Fw m m2 ∧ WF B ∧ WFq B ∧ Et A B ∧ Fit B := by
  intro fu
  induction fu with
  | zero => intro z A m _ _ _ h; omega
  | succ fu ih =>
    intro z A m hA hq hR hfu
    rw [M_repairs_L7]; unfold M_repairs_B7
    have hlt := wrg_lt hA.1
    have hN := hA.1.1
    by_cases e : wrg A = 999
    · rw [if_pos ((wI_neg (by omega)).mpr e)]
      exact ⟨0, A, m, rfl, ⟨e, rfl⟩, hR, Fw.rf, hA, hq, Et.rf, e⟩
    · rw [if_neg (fun c => e ((wI_neg (by omega)).mp c))]
      have hw : wrg A < A 0 1 ∨ (100 ≤ wrg A ∧ wrg A < 116) ∨ (200 ≤ wrg A ∧ wrg A < 204) := by
        rcases wrg_sp hA.1 e with q | q | q
        · exact Or.inl q.1
        · exact Or.inr (Or.inl (by omega))
        · exact Or.inr (Or.inr (by omega))
      obtain ⟨n1, n2⟩ := nxw_sp hA hq e
      have hq1 := hq.1
      have h17 := repairs17 hA hR hq.1 (fun r hr => by have := hq.2.1 r hr; omega) hw (nI z) (fun y12 y13 => b1 (M_of m y13 3) fun x14 => b1 (M_set m y13 3 (x14 - 1)) fun q15 => b1 (M_prunes q15) fun q16 => b2 (M_wrong q16) fun x17 q18 => M_repairs_L7 fu (y12 + 1) x17 q18) FU 0 (by omega) (by rw [FU_e]; omega)
      rw [show wI (wrg A) = nI (wrg A) from if_neg e]
      have h17 := h17
      rw [show bI (nx (prt A (wrg A)) (A 14) 0) = -2 from rfl, show nI 0 = 0 from rfl] at h17
      rw [h17]
      rw [show nx (prt A (wrg A)) (A 14) (A 0 4) = nxw A from rfl, bI_u' (by omega)]
      show ∃ y B m2, (b1 (M_of m (nI (nxw A)) 3) fun x14 => b1 (M_set m (nI (nxw A)) 3 (x14 - 1)) fun q15 => b1 (M_prunes q15) fun q16 => b2 (M_wrong q16) fun x17 q18 => M_repairs_L7 fu (nI z + 1) x17 q18) = _ ∧ _
      rw [show M_of m (nI (nxw A)) 3 = some (nI (A 14 (nxw A))) from M_of_e hR (by omega) (w := 3) (by omega), b1_some, M_set3 _ (by omega), b1_some, show nI (A 14 (nxw A)) - 1 = nI (A 14 (nxw A) - 1) by rw [li1]; exact pk_sub (by omega)]
      have hlow := low_wf hA (r := nxw A) (v := A 14 (nxw A) - 1) (by omega)
      have hR1 := hR.lvl hA.1 (r := nxw A) (w := 3) (A 14 (nxw A) - 1) (by omega) (by omega)
      have hF1 : Fw m (st m 4 (97 + 5 * nxw A + 3) (nI (A 14 (nxw A) - 1))) := Fw.st (Or.inl rfl)
      obtain ⟨m2, C, c1, c2, c3, c4⟩ := M_prunes_e hlow.1 hlow.2.1 hlow.2.2.2 hlow.l14 hR1
      rw [c1, b1_some]
      obtain ⟨d1, d2, d3, d4⟩ := step_wf hA hq e c3
      obtain ⟨m3, e1, e2⟩ := M_wrong_e d1.1 d1.2.1 d1.2.2.1 d1.2.2.2 d1.l14 c2
      rw [e1, b2_some, nI_1]
      obtain ⟨y, B, m4, f1, f2, f3, f4, f5, f6, f7, f8⟩ := ih (z + 1) C m3 d1 d2 (e2.rm c2) (by omega)
      refine ⟨y + 1, B, m4, ?_, ⟨e, C, c3, f2⟩, f3, ((hF1.tr c4).tr e2.w).tr f4, f5, f6, d3.tr f7, f8⟩
      rw [f1]
      rw [show z + 1 + y = z + (y + 1) by omega]
theorem M_repairs_e {A : Ab} {m : St} (hA : WF A) (hq : WFq A) (hR : RM A m) : ∃ (y : Nat) (B : Ab) (m2 : St), M_repairs m = some (nI y, m2) ∧ Re y A B ∧ RM B m2 ∧ Fw m m2 ∧ WF B ∧ WFq B ∧ Et A B ∧ Fit B := by
  unfold M_repairs
  obtain ⟨m1, e1, e2⟩ := M_wrong_e hA.1 hA.2.1 hA.2.2.1 hA.2.2.2 hA.l14 hR
  rw [e1, b2_some]
  have hb : sm (A 14) 21 ≤ 5 * 21 := sm_le 21 hA.l14
  obtain ⟨y, B, m4, f1, f2, f3, f4, f5⟩ := repairs7 FU 0 A m1 hA hq (e2.rm hR) (by rw [FU_e]; omega)
  rw [show nI 0 = 0 from rfl, Nat.zero_add] at f1
  exact ⟨y, B, m4, f1, f2, f3, e2.w.tr f4, f5⟩
theorem Jo_wf {A : Ab} (hA : WF A) {r : Nat} (hr : r < 21) (hx : A 11 r < A 0 0) (hf : A 12 r < A 0 2) (h0 : A 14 r = 0) : ∀ k B z, k ≤ A 0 3 → Jo A r k B z → WF B ∧ (∀ a j, a ≠ 10 → (a ≠ 14 ∨ j ≠ r) → B a j = A a j) ∧ (∀ x, A 10 x ≠ 0 → B 10 x = A 10 x) ∧ B 14 r = z ∧ z ≤ k ∧ (z = 0 → B = A) ∧ (z ≠ 0 → Fit B) := by
  intro k
  induction k with
  | zero =>
    intro B z _ h
    rw [h.1, h.2]; exact ⟨hA, fun _ _ _ _ => rfl, fun _ _ => rfl, h0, by omega, fun _ => rfl, fun n => absurd rfl n⟩
  | succ k ih =>
    intro B z hk h
    rcases h with ⟨C, h1, h2, h3, h4⟩ | ⟨h1, h2⟩
    · obtain ⟨g1, g2, g3⟩ := Gr_wf hA h1 hx hf hk
      obtain ⟨s1, s2, s3, s4⟩ := Gr_sp hA.1 hA.2.1 h1 hx
      rw [h3, h4]
      exact ⟨g1, g3, fun x hx => by rw [up2_ne (by omega)]; exact s3 x hx, up2_same, by omega, fun z => by omega, fun _ => h2⟩
    · obtain ⟨i1, i2, i3, i4, i5, i6, i7⟩ := ih B z (by omega) h2
      exact ⟨i1, i2, i3, i4, by omega, i6, i7⟩
theorem M_joins_e {A : Ab} {m : St} (hA : WF A) (hR : RM A m) {r : Nat} (hr : r < 21) (hx : A 11 r < A 0 0) (hf : A 12 r < A 0 2) (hw : A 13 r ≤ A 0 3) : ∃ (m2 : St) (B : Ab) (z : Nat), M_joins m (nI r) = some m2 ∧ Jo (up2 A 14 r 0) r (A 13 r) B z ∧ RM B m2 ∧ Fw m m2 := by
  have hN := hA.1.1
  unfold M_joins
  have hlow := low_wf hA (r := r) (v := 0) (by omega)
  have hR1 := hR.lvl hA.1 (r := r) (w := 3) 0 hr (by omega)
  have hF1 : Fw m (st m 4 (97 + 5 * r + 3) (nI 0)) := Fw.st (Or.inl rfl)
  rw [M_set3 _ hr, b1_some, li0]
  have e2 : M_of (st m 4 (97 + 5 * r + 3) (nI 0)) (nI r) 2 = some (nI (A 13 r)) := by
    have := M_of_e hR1 hr (w := 2) (by omega)
    rw [up2_ne (by omega)] at this
    exact this
  rw [e2, b1_some]
  obtain ⟨m2, B, z, c1, c2, c3, c4⟩ := joins14 hlow hr (by rw [up2_ne (by omega), up2_ne (by omega)]; exact hx) (by rw [up2_ne (by omega), up2_ne (by omega)]; exact hf) (A 13 r) FU _ hR1 (by rw [up2_ne (by omega)]; exact hw) (by rw [FU_e]; omega)
  exact ⟨m2, B, z, c1, c2, c3, hF1.tr c4⟩
theorem levels4 {A : Ab} {m : St} (hA : WF A) (hR : RM A m) (hc : A 0 4 ≤ 20) : ∀ (fu r : Nat), r ≤ A 0 4 → A 0 4 < r + fu → M_levels_L4 m fu (nI (sm (A 14) r)) (nI r) = some (nI (sm (A 14) (A 0 4))) := by
  intro fu
  induction fu with
  | zero => intro r h1 h2; omega
  | succ fu ih =>
    intro r h1 h2
    rw [M_levels_L4]; unfold M_levels_B4
    rw [li96]
    simp (disch := omega) only [b1_some, b2_some, lt_e, rd_n, wr_n, nI_add, pk_mul, nI_leI, nI_ltI, nI_eq, nI_1, hR.rcv]
    by_cases e : r < A 0 4
    · rw [if_neg (by omega), show M_of m (nI r) 3 = some (nI (A 14 r)) from M_of_e hR (by omega) (w := 3) (by omega), b1_some]
      try rw [lt_e]
      rw [nI_add]
      exact ih (r + 1) (by omega) (by omega)
    · rw [if_pos (by omega)]
      have : r = A 0 4 := by omega
      rw [this]
theorem M_levels_e {A : Ab} {m : St} (hA : WF A) (hR : RM A m) (hc : A 0 4 ≤ 20) : M_levels m = some (nI (sm (A 14) (A 0 4))) := by
  unfold M_levels
  exact levels4 hA hR hc FU 0 (by omega) (by rw [FU_e]; omega)
