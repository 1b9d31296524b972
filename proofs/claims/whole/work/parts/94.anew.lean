/-! ===== PHASE B: building anew, on both sides ===== -/
def empN (A : Ab) (n : Nat) : Ab := fun a j => if a = 10 ∧ j < n then (if j = 0 then 1 else 0) else A a j
theorem empN_ne {A : Ab} {n a j : Nat} (h : a ≠ 10) : empN A n a j = A a j := if_neg (fun z => h z.1)
theorem empN_s {A : Ab} {n : Nat} : empN A (n + 1) = up2 (empN A n) 10 n (if n = 0 then 1 else 0) := ab_ext fun a j => by
  by_cases d : a = 10 ∧ j = n
  · rw [d.1, d.2, up2_same]; exact if_pos ⟨rfl, by omega⟩
  · rw [up2_ne (by omega)]
    unfold empN
    by_cases q : a = 10 ∧ j < n
    · rw [if_pos q, if_pos ⟨q.1, by omega⟩]
    · rw [if_neg q, if_neg (fun z => q ⟨z.1, by omega⟩)]
theorem empN_0 {A : Ab} : empN A 0 = A := ab_ext fun a j => if_neg (fun z => by omega)
theorem empties2 {A : Ab} (hs : WFs A) : ∀ (fu n : Nat) (m : St), RM (empN A n) m → n ≤ 16 → 16 < n + fu → ∃ m2, M_emptiesTree_L2 fu (nI n) m = some m2 ∧ RM (empN A 16) m2 ∧ ∀ j, j ≠ 4 → m2.1 j = m.1 j := by
  intro fu
  induction fu with
  | zero => intro n m _ h1 h2; omega
  | succ fu ih =>
    intro n m hR h1 h2
    have hs' : WFs (empN A n) := WFs_es (A := A) (fun a j x _ => empN_ne (by omega)) hs
    rw [M_emptiesTree_L2]; unfold M_emptiesTree_B2
    rw [li16, li0, li80]
    simp (disch := omega) only [b1_some, b2_some, lt_e, rd_n, wr_n, nI_add, pk_mul, nI_leI, nI_ltI, nI_eq, nI_1]
    by_cases e : n < 16
    · rw [if_neg (by omega)]
      have hR2 := hR.par hs' (n := n) (if n = 0 then 1 else 0) e
      rw [← empN_s] at hR2
      obtain ⟨m2, a1, a2, a3⟩ := ih (n + 1) _ hR2 (by omega) (by omega)
      refine ⟨m2, ?_, a2, fun j hj => by rw [a3 j hj, st_row_ne hj]⟩
      by_cases c : n = 0
      · rw [if_pos c] at a1 ⊢
        exact a1
      · rw [if_neg c] at a1 ⊢
        exact a1
    · rw [if_pos (by omega)]
      have : n = 16 := by omega
      subst this
      exact ⟨m, rfl, hR, fun _ _ => rfl⟩
theorem M_emptiesTree_e {A : Ab} {m : St} (hs : WFs A) (hR : RM A m) : ∃ m2, M_emptiesTree m = some m2 ∧ RM (empN A 16) m2 ∧ ∀ j, j ≠ 4 → m2.1 j = m.1 j :=
  empties2 hs FU 0 m (by rw [empN_0]; exact hR) (by omega) (by rw [FU_e]; omega)
theorem clearTree2 {A : Ab} {s : Nat → Nat} {R : Nat} : ∀ (fu n : Nat) (k : St), RK (empN A n) s R k → n ≤ 16 → 16 < n + fu → ∃ k2, Ss_clearTree_L2 fu (nI n) k = some k2 ∧ RK (empN A 16) s R k2 ∧ FK k k2 := by
  intro fu
  induction fu with
  | zero => intro n k _ h1 h2; omega
  | succ fu ih =>
    intro n k hK h1 h2
    rw [Ss_clearTree_L2]; unfold Ss_clearTree_B2 Ss_clearTree_J22
    rw [li16, li0]
    simp (disch := omega) only [b1_some, b2_some, lt_e, rd_n, wr_n, nI_add, pk_mul, nI_leI, nI_ltI, nI_eq, nI_1]
    by_cases e : n < 16
    · rw [if_neg (by omega)]
      have hK2 := hK.sp (n := n) (v := if n = 0 then 1 else 0)
      rw [← empN_s] at hK2
      have hF : ∀ a b : Int32, FK k (st (st k 28 n a) 29 n b) := fun a b => (FK.st (by omega)).tr (FK.st (by omega))
      obtain ⟨k2, a1, a2, a3⟩ := ih (n + 1) _ hK2 (by omega) (by omega)
      refine ⟨k2, ?_, a2, (hF _ _).tr a3⟩
      by_cases c : n = 0
      · rw [if_pos c] at a1 ⊢
        rw [nar1]
        exact a1
      · rw [if_neg c] at a1 ⊢
        rw [show vp_nar .boolean (nI 0) = 0 from nar0]
        exact a1
    · rw [if_pos (by omega)]
      have : n = 16 := by omega
      subst this
      exact ⟨k, rfl, hK, FK.rf⟩
theorem Ss_clearTree_e {A : Ab} {s : Nat → Nat} {R : Nat} {k : St} (hK : RK A s R k) : ∃ k2, Ss_clearTree k = some k2 ∧ RK (empN A 16) s R k2 ∧ FK k k2 :=
  clearTree2 FU 0 k (by rw [empN_0]; exact hK) (by omega) (by rw [FU_e]; omega)
theorem RK_fill {A : Ab} {R : Nat} {k k2 : St} (h : RK A sI R k) (hR : R ≤ 21) (h1 : ∀ j, j ≠ 23 → k2.1 j = k.1 j) (h2 : ∀ j, j < 21 → gt k2 23 j = 0) : RK (cutR A (fun _ => 1) R) sI R k2 := by
  have e : ∀ a j, a ≠ 14 → cutR A (fun _ => 1) R a j = A a j := fun a j ha => cutR_ne ha
  have g : ∀ j i, j ≠ 23 → gt k2 j i = gt k j i := fun j i hj => by rw [gt_e, h1 j hj]; rfl
  refine ⟨RKs_es (A := A) (fun a j x _ => e a j (by omega)) (RKs_row (fun j hj => h1 j (by omega)) h.1), ?_⟩
  obtain ⟨a1, a2, a3, a4, a5, a6, a7⟩ := h.2
  refine ⟨by rw [g 19 0 (by omega)]; exact a1, fun r hr => ?_, fun j hj => ?_, fun n f hn hf => ?_, fun n hn => ?_, fun i hi => by rw [g (19 + 5) i (by omega)]; exact a6 i hi, fun i hi => by rw [g (19 + 7) i (by omega)]; exact a7 i hi⟩
  · rw [g (19 + 1) r (by omega), g (19 + 2) r (by omega), g (19 + 3) r (by omega), g (19 + 5) r (by omega), e 11 _ (by omega), e 12 _ (by omega), e 13 _ (by omega), e 15 _ (by omega)]
    obtain ⟨b1', b2', b3', b4', b5'⟩ := a2 r hr
    refine ⟨b1', b2', b3', ?_, b5'⟩
    rw [show gt k2 (19 + 4) r = 0 from h2 r (by omega), show cutR A (fun _ => 1) R 14 (sI r) = 0 from if_pos ⟨rfl, hr, rfl⟩]; rfl
  · rw [e 0 1 (by omega)] at hj
    rw [g (19 + 6) j (by omega), g (19 + 7) j (by omega), e 7 j (by omega), e 8 j (by omega)]
    exact a3 j hj
  · rw [g (19 + 8) _ (by omega), e 9 _ (by omega)]; exact a4 n f hn hf
  · rw [g (19 + 9) n (by omega), g (19 + 10) n (by omega), e 10 n (by omega)]; exact a5 n hn
theorem builds6 {A C : Ab} (hs : WFs A) (h4 : A 0 4 ≤ 20) (hC : ∀ a j, a ≠ 10 → C a j = A a j) (kk : St → Option St) : ∀ (fu r : Nat) (m : St), RM (cutR C (fun _ => 1) r) m → r ≤ A 0 4 → A 0 4 < r + fu → ∃ m2, M_buildsAnew_L6 kk fu (nI r) m = kk m2 ∧ RM (cutR C (fun _ => 1) (A 0 4)) m2 ∧ Fx m m2 := by
  intro fu
  induction fu with
  | zero => intro r m _ h1 h2; omega
  | succ fu ih =>
    intro r m hR h1 h2
    have hs' : WFs (cutR C (fun _ => 1) r) := WFs_es (A := A) (fun a j x _ => by rw [cutR_ne (by omega), hC a j (by omega)]) hs
    rw [M_buildsAnew_L6]; unfold M_buildsAnew_B6
    rw [rd_at 96 li96 (by omega) (by omega), b1_some, hR.rcv, cutR_ne (by omega), hC 0 4 (by omega)]
    simp (disch := omega) only [b1_some, b2_some, lt_e, rd_n, wr_n, nI_add, pk_mul, nI_leI, nI_ltI, nI_eq, nI_1]
    by_cases e : r < A 0 4
    · rw [if_neg (by omega), M_set3 _ (by omega), b1_some]
      have hR2 := hR.lvl hs' (r := r) (w := 3) 0 (by omega) (by omega)
      rw [show up2 (cutR C (fun _ => 1) r) (11 + 3) r 0 = cutR C (fun _ => 1) (r + 1) from (cutR_yes rfl).symm] at hR2
      obtain ⟨m2, a1, a2, a3⟩ := ih (r + 1) _ hR2 (by omega) (by omega)
      exact ⟨m2, a1, a2, (Fx.st (by omega)).tr a3⟩
    · rw [if_pos (by omega)]
      have : r = A 0 4 := by omega
      subst this
      exact ⟨m, rfl, hR, Fx.rf⟩
theorem regrow {R : Nat} (kk : Int32 → St → Option (Int32 × St)) (v1 : Int32) : ∀ (fu r : Nat) (B : Ab) (m k : St), WFg B → B 0 4 = R → RM B m → RK B sI R k → (∀ j, r ≤ j → j < R → B 14 j = 0) → r ≤ R → R < r + fu → ∃ (m2 k2 : St) (D : Ab), M_buildsAnew_L32 fu (nI r) m = some m2 ∧ Tr_growAnew_L28 kk fu v1 (nI r) k = kk v1 k2 ∧ RM D m2 ∧ RK D sI R k2 ∧ WFg D ∧ Et B D ∧ Fw m m2 ∧ FK k k2 := by
  intro fu
  induction fu with
  | zero => intro r B m k _ _ _ _ _ h1 h2; omega
  | succ fu ih =>
    intro r B m k hG h04 hR hK hz h1 h2
    have h4 := hG.2.1.1
    rw [M_buildsAnew_L32, Tr_growAnew_L28]; unfold M_buildsAnew_B32 Tr_growAnew_B28
    rw [rd_at 96 li96 (by omega) (by omega), b1_some, hR.rcv, h04, hK.rcv]
    simp (disch := omega) only [b1_some, b2_some, lt_e, rd_n, wr_n, nI_add, pk_mul, nI_leI, nI_ltI, nI_eq, nI_1]
    by_cases e : r < R
    · have hq := hG.2.1.2.1 r (by omega)
      have f : gt k 24 r = nI (B 15 r) := hK.lf e
      rw [if_neg (by omega), if_neg (by omega), show M_of m (nI r) 4 = some (nI (B 15 r)) from M_of_e hR (by omega) (w := 4) (by omega), li0]
      simp (disch := omega) only [b1_some, b2_some, lt_e, rd_n, wr_n, nI_add, pk_mul, nI_leI, nI_ltI, nI_eq, nI_1, f]
      by_cases d : B 15 r = 0
      · rw [if_pos d, if_pos d]
        have hg' := Sg_sI hG.2.1
        rw [h04] at hg'
        obtain ⟨m2, k2, D, z, a1, a2, a3, a4, a5, a6, a7⟩ := joins_both hG.1 hg' hR hK (r := r) e (hz r (Nat.le_refl _) e) hq.2.2.2.1
        have a1 : M_joins m (nI r) = some m2 := a1
        have a3 : Jo B r (B 13 r) D z := a3
        rw [a1, b1_some, a2, b2_some]
        obtain ⟨j1, j2, j3⟩ := Jo_good hG (r := r) (by omega) _ _ _ (Nat.le_refl _) a3
        obtain ⟨m3, k3, E, b1', b2', b3, b4, b5, b6, b7, b8⟩ := ih (r + 1) D m2 k2 j1 (by rw [← h04]; exact j2 0 4 (by omega) (by omega)) a4 a5 (fun j x y => by rw [j3 j (by omega)]; exact hz j (by omega) y) (by omega) (by omega)
        exact ⟨m3, k3, E, b1', b2', b3, b4, b5, j2.tr b6, a6.tr b7, a7.tr b8⟩
      · rw [if_neg d, if_neg d]
        exact ih (r + 1) B m k hG h04 hR hK (fun j x y => hz j (by omega) y) (by omega) (by omega)
    · rw [if_pos (by omega), if_pos (by omega)]
      exact ⟨m, k, B, rfl, rfl, hR, hK, hG, Et.rf, Fw.rf, FK.rf⟩
/-- nobody has a level, the tree is the source -/
theorem emp_good {A : Ab} (hG : WFg A) : WFg (cutR (empN A 16) (fun _ => 1) (A 0 4)) := by
  obtain ⟨hA, hq, _, _⟩ := hG.h
  have hN := hA.1.1
  have e : ∀ a j, a ≠ 10 → a ≠ 14 → cutR (empN A 16) (fun _ => 1) (A 0 4) a j = A a j := fun a j x y => by rw [cutR_ne y, empN_ne x]
  have e10 : ∀ j, j < 16 → cutR (empN A 16) (fun _ => 1) (A 0 4) 10 j = if j = 0 then 1 else 0 := fun j hj => by
    rw [cutR_ne (by omega)]; exact if_pos ⟨rfl, hj⟩
  have e14 : ∀ r, r < 21 → cutR (empN A 16) (fun _ => 1) (A 0 4) 14 r = 0 := fun r hr => by
    unfold cutR
    by_cases z : (14 : Nat) = 14 ∧ r < A 0 4 ∧ 1 = 1
    · rw [if_pos z]
    · rw [if_neg z, empN_ne (by omega)]
      exact hq.2.2 r hr (by
        apply Classical.byContradiction
        intro n; exact z ⟨rfl, by omega, rfl⟩)
  have hes : Ec A (cutR (empN A 16) (fun _ => 1) (A 0 4)) := fun a j x _ => e a j (by omega) (by omega)
  have h4 := hq.1
  refine ⟨⟨WFs_es hes.s hA.1, ?_, WFc_ec hes hA.2.2.1, fun r hr hl => by rw [e14 r hr] at hl; omega⟩, ?_, fun n h1 h2 h3 => ?_, fun r hr => ?_, fun n h1 h2 h3 => by rw [e10 n h2, if_neg (by omega)] at h3; exact absurd rfl h3⟩
  · refine ⟨by rw [e10 0 (by omega)]; rfl, fun n hn h1 => by rw [e10 n hn, if_neg (by omega)]; omega, fun n hn h2 => ?_, fun _ => 0, fun n hn h2 => ?_⟩
    · rw [e10 n hn] at h2; split at h2 <;> omega
    · rw [e10 n hn] at h2; split at h2 <;> omega
  · exact Et.q (A := A) (fun a j x y => e a j x y) hq (fun r hr _ => e14 r hr)
  · rw [e 0 0 (by omega) (by omega)] at h2
    rw [e10 n (by omega), if_neg (by omega)] at h3
    exact absurd rfl h3
  · rw [e 0 4 (by omega) (by omega)] at hr
    rw [e14 r (by omega)]; omega
theorem builds_both {A : Ab} {m k : St} (hG : WFg A) (hR : RM A m) (hK : RK A sI (A 0 4) k) : ∃ (m2 k2 : St) (B : Ab), M_buildsAnew m = some m2 ∧ Tr_growAnew k = some (nI (sm (B 14) (B 0 4)) - nI (sm (A 14) (A 0 4)), k2) ∧ RM B m2 ∧ RK B sI (B 0 4) k2 ∧ WFg B ∧ Et A B ∧ Fx m m2 ∧ Fy k k2 := by
  have hGE := emp_good hG
  obtain ⟨hA, hq, htt, hlw⟩ := hG
  have h4 := hq.1
  unfold M_buildsAnew Tr_growAnew
  obtain ⟨m1, a1, a2, a3⟩ := M_emptiesTree_e hA.1 hR
  rw [a1, b1_some]
  obtain ⟨m2, b1', b2', b3'⟩ := builds6 (A := A) (C := empN A 16) hA.1 h4 (fun a j h => empN_ne h) (fun q5 => M_buildsAnew_L32 FU 0 q5) FU 0 m1 (by rw [cutR_0]; exact a2) (by omega) (by rw [FU_e]; omega)
  rw [show nI 0 = 0 from rfl] at b1'
  rw [b1', Ss_levelSum_e hA hK h4, b1_some]
  obtain ⟨k1, c1, c2, c3⟩ := Ss_clearTree_e hK
  rw [c1, b1_some]
  obtain ⟨k2, d1, d2, d3, d4⟩ := J_fill_e (len := 21) (p := 23) (v := 0) k1 (by omega)
  rw [d1, b1_some]
  have hK2 := RK_fill c2 (by omega) d2 d4
  have eE4 : cutR (empN A 16) (fun _ => 1) (A 0 4) 0 4 = A 0 4 := by rw [cutR_ne (by omega), empN_ne (by omega)]
  obtain ⟨m3, k3, D, e1, e2, e3, e4, e5, e6, e7, e8⟩ := regrow (fun y9 q10 => b1 (Ss_levelSum q10) fun x11 => some (x11 - y9, q10)) (nI (sm (A 14) (A 0 4))) FU 0 _ m2 k2 hGE eE4 b2' hK2 (fun j _ hj => if_pos ⟨rfl, hj, rfl⟩) (by omega) (by rw [FU_e]; omega)
  rw [show nI 0 = 0 from rfl] at e1 e2
  have eD4 : D 0 4 = A 0 4 := by rw [e6 0 4 (by omega) (by omega), eE4]
  have e4' : RK D sI (D 0 4) k3 := by rw [eD4]; exact e4
  refine ⟨m3, k3, D, e1, ?_, e3, e4', e5, fun a j x y => by rw [e6 a j x y, cutR_ne y, empN_ne x], ?_, ?_⟩
  · rw [e2, Ss_levelSum_e e5.1 e4' (by omega), b1_some]
  · have hF1 : Fx m m1 := ⟨fun j hj => a3 j (by omega), fun i _ _ => by rw [a3 0 (by omega)]⟩
    exact (hF1.tr b3').tr e7.x
  · have hF2 : Fy k1 k2 := fun j hj => d2 j (by omega)
    exact (c3.y.tr hF2).tr e8.y
