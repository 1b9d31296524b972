/-! ===== PHASE B: closing a link, both sides to the end ===== -/
theorem RM_row {A : Ab} {m m2 : St} (h2 : m2.1 2 = m.1 2) (h4 : m2.1 4 = m.1 4) (h : RM A m) : RM A m2 := by
  unfold RM; rw [h2, h4]; exact h
theorem closes23 {A : Ab} (hA : WF A) {t : Nat} (ht16 : t < 16) (kk : St → Option St) : ∀ (fu n : Nat) (m : St), RM A m → (∀ j, j < n → gt m 15 j = nI (fl A t j)) → n ≤ A 0 0 → A 0 0 < n + fu → ∃ m2, M_closes_L23 kk fu (nI t) (nI n) m = kk m2 ∧ RM A m2 ∧ Fx m m2 ∧ ∀ j, j < A 0 0 → gt m2 15 j = nI (fl A t j) := by
  have hN := hA.1.1
  intro fu
  induction fu with
  | zero => intro n m _ _ h1 h2; omega
  | succ fu ih =>
    intro n m hR hf h1 h2
    rw [M_closes_L23]; unfold M_closes_B23
    rw [rd_at 0 li0 (by omega) (by omega), b1_some, hR.g0, nar0, nar1]
    simp (disch := omega) only [b1_some, b2_some, lt_e, rd_n, wr_n, nI_add, pk_mul, nI_leI, nI_ltI, nI_eq, nI_1]
    by_cases e : n < A 0 0
    · rw [if_neg (by omega), M_isIn_e (par_bd hA.1 hA.2.1) hR (by omega), b1_some]
      have go : ∀ v, v = fl A t n → ∃ m2, M_closes_L23 kk fu (nI t) (nI (n + 1)) (st m 15 n (nI v)) = kk m2 ∧ RM A m2 ∧ Fx m m2 ∧ ∀ j, j < A 0 0 → gt m2 15 j = nI (fl A t j) := fun v hv => by
        obtain ⟨m2, a1, a2, a3, a4⟩ := ih (n + 1) (st m 15 n (nI v)) (RM_row (st_row_ne (by omega)) (st_row_ne (by omega)) hR) (fun j hj => by
          by_cases d : j = n
          · rw [d, gt_st_same, hv]
          · rw [gt_st_i d]; exact hf j (by omega)) (by omega) (by omega)
        exact ⟨m2, a1, a2, (Fx.st (by omega)).tr a3, a4⟩
      by_cases c : A 10 n = 0
      · rw [if_pos c, if_pos rfl]
        exact go 0 (by unfold fl; rw [if_neg (fun z => z.1 c)])
      · have hb := bw_iff hA (t := t) n ⟨by omega, c⟩
        rw [if_neg c, if_neg (by decide), M_isBelow_e hA.1 hA.2.1 hR ⟨by omega, c⟩ ht16, b1_some, li0]
        simp (disch := omega) only [b1_some, b2_some, lt_e, rd_n, wr_n, nI_add, pk_mul, nI_leI, nI_ltI, nI_eq, nI_1]
        by_cases d : bw A t n = 0
        · rw [if_pos d]
          exact go 0 (by unfold fl; rw [if_neg (fun z => by omega)])
        · rw [if_neg d]
          exact go 1 (by unfold fl; rw [if_pos ⟨c, by omega⟩])
    · rw [if_pos (by omega)]
      have : n = A 0 0 := by omega
      subst this
      exact ⟨m, rfl, hR, Fx.rf, hf⟩
theorem cutT_yes {A : Ab} {t n : Nat} (h : fl A t n = 1) : cutT A t (n + 1) = up2 (cutT A t n) 10 n 0 := ab_ext fun a j => by
  by_cases d : a = 10 ∧ j = n
  · rw [d.1, d.2, up2_same]; exact if_pos ⟨rfl, by omega, h⟩
  · rw [up2_ne (by omega)]
    unfold cutT
    by_cases q : a = 10 ∧ j < n ∧ fl A t j = 1
    · rw [if_pos q, if_pos ⟨q.1, by omega, q.2.2⟩]
    · rw [if_neg q, if_neg (fun z => q ⟨z.1, by omega, z.2.2⟩)]
theorem cutT_no {A : Ab} {t n : Nat} (h : fl A t n ≠ 1) : cutT A t (n + 1) = cutT A t n := ab_ext fun a j => by
  unfold cutT
  by_cases q : a = 10 ∧ j < n ∧ fl A t j = 1
  · rw [if_pos q, if_pos ⟨q.1, by omega, q.2.2⟩]
  · rw [if_neg q, if_neg (fun z => q ⟨z.1, by
      by_cases e : j = n
      · rw [e] at z; exact absurd z.2.2 h
      · omega, z.2.2⟩)]
theorem cutT_0 {A : Ab} {t : Nat} : cutT A t 0 = A := ab_ext fun a j => if_neg (fun z => by omega)
theorem cutT_at {A : Ab} {t n : Nat} : cutT A t n 10 n = A 10 n := if_neg (fun z => by omega)
theorem fl_le {A : Ab} {t n : Nat} : fl A t n ≤ 1 := by unfold fl; split <;> omega
theorem closes69 {A : Ab} (hA : WF A) {t : Nat} (kk : St → Option St) : ∀ (fu n : Nat) (m : St), RM (cutT A t n) m → (∀ j, j < A 0 0 → gt m 15 j = nI (fl A t j)) → n ≤ A 0 0 → A 0 0 < n + fu → ∃ m2, M_closes_L69 kk fu (nI n) m = kk m2 ∧ RM (cutT A t (A 0 0)) m2 ∧ Fx m m2 ∧ m2.1 15 = m.1 15 := by
  have hN := hA.1.1
  intro fu
  induction fu with
  | zero => intro n m _ _ h1 h2; omega
  | succ fu ih =>
    intro n m hR hf h1 h2
    have hes : Es A (cutT A t n) := fun a j x _ => cutT_ne (by omega)
    have hs : WFs (cutT A t n) := WFs_es hes hA.1
    rw [M_closes_L69]; unfold M_closes_B69
    rw [rd_at 0 li0 (by omega) (by omega), b1_some, hR.g0, cutT_ne (by omega)]
    simp (disch := omega) only [b1_some, b2_some, lt_e, rd_n, wr_n, nI_add, pk_mul, nI_leI, nI_ltI, nI_eq, nI_1]
    by_cases e : n < A 0 0
    · have hfl := fl_le (A := A) (t := t) (n := n)
      rw [if_neg (by omega), rd_n (by omega) (by omega), b1_some, hf n e, li0, li80]
      simp (disch := omega) only [b1_some, b2_some, lt_e, rd_n, wr_n, nI_add, pk_mul, nI_leI, nI_ltI, nI_eq, nI_1]
      have f1 : gt m 4 (80 + n) = pI (A 10 n) := by
        have := hR.2.2.2.1 n (by omega)
        rw [cutT_at] at this; exact this
      by_cases c : fl A t n = 0
      · rw [if_pos c, f1]
        have hR2 := hR.par hs (n := n) (A 10 n) (by omega)
        rw [show up2 (cutT A t n) 10 n (A 10 n) = cutT A t (n + 1) by
          rw [cutT_no (by omega)]
          have := up2_id (A := cutT A t n) (c := 10) (i := n)
          rw [cutT_at] at this; exact this] at hR2
        obtain ⟨m2, a1, a2, a3, a4⟩ := ih (n + 1) _ hR2 (fun j hj => by rw [gt_st_k (by omega)]; exact hf j hj) (by omega) (by omega)
        exact ⟨m2, a1, a2, (Fx.st (by omega)).tr a3, a4.trans (st_row_ne (by omega))⟩
      · rw [if_neg c]
        have hR2 := hR.par hs (n := n) 0 (by omega)
        rw [← cutT_yes (show fl A t n = 1 by omega)] at hR2
        obtain ⟨m2, a1, a2, a3, a4⟩ := ih (n + 1) _ hR2 (fun j hj => by rw [gt_st_k (by omega)]; exact hf j hj) (by omega) (by omega)
        exact ⟨m2, a1, a2, (Fx.st (by omega)).tr a3, a4.trans (st_row_ne (by omega))⟩
    · rw [if_pos (by omega)]
      have : n = A 0 0 := by omega
      subst this
      exact ⟨m, rfl, hR, Fx.rf, rfl⟩
theorem closes118 {A C : Ab} (hA : WF A) (hq : WFq A) (hC : ∀ a j, a ≠ 10 → C a j = A a j) {t : Nat} (kk : St → Option St) : ∀ (fu r : Nat) (m : St), RM (cutR C (ct A t) r) m → (∀ j, j < A 0 0 → gt m 15 j = nI (fl A t j)) → (∀ j, j < r → gt m 16 j = nI (ct A t j)) → r ≤ A 0 4 → A 0 4 < r + fu → ∃ m2, M_closes_L118 kk fu (nI r) m = kk m2 ∧ RM (cutR C (ct A t) (A 0 4)) m2 ∧ Fx m m2 ∧ ∀ j, j < A 0 4 → gt m2 16 j = nI (ct A t j) := by
  have hN := hA.1.1
  have h4 := hq.1
  intro fu
  induction fu with
  | zero => intro r m _ _ _ h1 h2; omega
  | succ fu ih =>
    intro r m hR hf hg h1 h2
    have hes : Es A (cutR C (ct A t) r) := fun a j x _ => by rw [cutR_ne (by omega), hC a j (by omega)]
    have hs : WFs (cutR C (ct A t) r) := WFs_es hes hA.1
    rw [M_closes_L118]; unfold M_closes_B118
    rw [rd_at 96 li96 (by omega) (by omega), b1_some, hR.rcv, cutR_ne (by omega), hC 0 4 (by omega)]
    simp (disch := omega) only [b1_some, b2_some, lt_e, rd_n, wr_n, nI_add, pk_mul, nI_leI, nI_ltI, nI_eq, nI_1]
    by_cases e : r < A 0 4
    · have hx := (hq.2.1 r e).1
      have h14 := hA.l14 r (by omega)
      have f3 : M_of m (nI r) 3 = some (nI (A 14 r)) := by
        have := M_of_e hR (r := r) (w := 3) (by omega) (by omega)
        rw [show cutR C (ct A t) r (11 + 3) r = A 14 r by
          show cutR C (ct A t) r 14 r = _
          rw [cutR_at, hC 14 r (by omega)]] at this
        exact this
      have f0 : M_of m (nI r) 0 = some (nI (A 11 r)) := by
        have := M_of_e hR (r := r) (w := 0) (by omega) (by omega)
        rw [show cutR C (ct A t) r (11 + 0) r = A 11 r by
          show cutR C (ct A t) r 11 r = _
          rw [cutR_ne (by omega), hC 11 r (by omega)]] at this
        exact this
      rw [if_neg (by omega), f3, b1_some, f0, li0]
      simp (disch := omega) only [b1_some, b2_some, lt_e, rd_n, wr_n, nI_add, pk_mul, nI_leI, nI_ltI, nI_eq, nI_1]
      -- what is laid into the rows
      have no : ct A t r ≠ 1 → ∃ m2, M_closes_J162 kk (M_closes_L118 kk fu) (nI r) 0 (nI r) m = kk m2 ∧ RM (cutR C (ct A t) (A 0 4)) m2 ∧ Fx m m2 ∧ ∀ j, j < A 0 4 → gt m2 16 j = nI (ct A t j) := fun hn => by
        unfold M_closes_J162
        rw [nar0, wr_n (by omega) (by omega), b1_some, rd_n (by omega) (by omega), b1_some, gt_st_same, if_pos rfl]
        have hR1 : RM (cutR C (ct A t) r) (st m 16 r 0) := RM_row (st_row_ne (by omega)) (st_row_ne (by omega)) hR
        have f3' : M_of (st m 16 r 0) (nI r) 3 = some (nI (A 14 r)) := by
          have := M_of_e hR1 (r := r) (w := 3) (by omega) (by omega)
          rw [show cutR C (ct A t) r (11 + 3) r = A 14 r by
            show cutR C (ct A t) r 14 r = _
            rw [cutR_at, hC 14 r (by omega)]] at this
          exact this
        rw [f3', b1_some]
        unfold M_closes_J185
        rw [M_set3 _ (by omega), b1_some, nI_1]
        have hR2 := hR1.lvl hs (r := r) (w := 3) (A 14 r) (by omega) (by omega)
        rw [show up2 (cutR C (ct A t) r) (11 + 3) r (A 14 r) = cutR C (ct A t) (r + 1) by
          rw [cutR_no hn]
          have := up2_id (A := cutR C (ct A t) r) (c := 14) (i := r)
          rw [cutR_at, hC 14 r (by omega)] at this; exact this] at hR2
        obtain ⟨m2, a1, a2, a3, a4⟩ := ih (r + 1) _ hR2 (fun j hj => by rw [gt_st_k (by omega), gt_st_k (by omega)]; exact hf j hj) (fun j hj => by
          rw [gt_st_k (by omega)]
          by_cases d : j = r
          · rw [d, gt_st_same]
            have : ct A t r = 0 := by
              have : ct A t r ≤ 1 := by unfold ct; split <;> omega
              omega
            rw [this]; rfl
          · rw [gt_st_i d]; exact hg j (by omega)) (by omega) (by omega)
        exact ⟨m2, a1, a2, ((Fx.st (by omega)).tr (Fx.st (by omega))).tr a3, a4⟩
      by_cases c1 : A 14 r = 0
      · rw [if_pos (by omega)]
        unfold M_closes_J161
        exact no (by unfold ct; rw [if_neg (fun z => by omega)]; omega)
      · rw [if_neg (by omega), hf _ hx]
        have hfl := fl_le (A := A) (t := t) (n := A 11 r)
        simp (disch := omega) only [b1_some, b2_some, lt_e, rd_n, wr_n, nI_add, pk_mul, nI_leI, nI_ltI, nI_eq, nI_1]
        by_cases c2 : fl A t (A 11 r) = 0
        · rw [if_pos c2]
          unfold M_closes_J161
          exact no (by unfold ct; rw [if_neg (fun z => by omega)]; omega)
        · rw [if_neg c2]
          have hy : ct A t r = 1 := by unfold ct; rw [if_pos ⟨by omega, by omega⟩]
          unfold M_closes_J162
          rw [nar1, wr_n (by omega) (by omega), b1_some, rd_n (by omega) (by omega), b1_some, gt_st_same, if_neg (by decide)]
          have hR1 : RM (cutR C (ct A t) r) (st m 16 r 1) := RM_row (st_row_ne (by omega)) (st_row_ne (by omega)) hR
          unfold M_closes_J185
          rw [M_set3 _ (by omega), b1_some, nI_1]
          have hR2 := hR1.lvl hs (r := r) (w := 3) 0 (by omega) (by omega)
          rw [show up2 (cutR C (ct A t) r) (11 + 3) r 0 = cutR C (ct A t) (r + 1) from (cutR_yes hy).symm] at hR2
          obtain ⟨m2, a1, a2, a3, a4⟩ := ih (r + 1) _ hR2 (fun j hj => by rw [gt_st_k (by omega), gt_st_k (by omega)]; exact hf j hj) (fun j hj => by
            rw [gt_st_k (by omega)]
            by_cases d : j = r
            · rw [d, gt_st_same, hy]; rfl
            · rw [gt_st_i d]; exact hg j (by omega)) (by omega) (by omega)
          exact ⟨m2, a1, a2, ((Fx.st (by omega)).tr (Fx.st (by omega))).tr a3, a4⟩
    · rw [if_pos (by omega)]
      have : r = A 0 4 := by omega
      subst this
      exact ⟨m, rfl, hR, Fx.rf, hg⟩
theorem rejoin {c : Nat → Nat} {w : Int32} {R : Nat} (hw : ∀ x, x < 32 → (bt w x = true ↔ x < R ∧ c x = 1)) (hc1 : ∀ x, c x ≤ 1) (kk : Int32 → St → Option (Int32 × St)) (v2 : Int32) : ∀ (fu r : Nat) (B : Ab) (m k : St), WFg B → B 0 4 = R → RM B m → RK B sI R k → (∀ j, j < R → gt m 16 j = nI (c j)) → (∀ j, r ≤ j → j < R → c j = 1 → B 14 j = 0) → r ≤ R → R < r + fu → ∃ (m2 k2 : St) (D : Ab), M_closes_L200 fu (nI r) m = some m2 ∧ Tr_closeLink_L34 kk fu v2 w (nI r) k = kk v2 k2 ∧ RM D m2 ∧ RK D sI R k2 ∧ WFg D ∧ Et B D ∧ Fw m m2 ∧ FK k k2 := by
  intro fu
  induction fu with
  | zero => intro r B m k _ _ _ _ _ _ h1 h2; omega
  | succ fu ih =>
    intro r B m k hG h04 hR hK hg hz h1 h2
    have h4 := hG.2.1.1
    rw [M_closes_L200, Tr_closeLink_L34]; unfold M_closes_B200 Tr_closeLink_B34
    rw [rd_at 96 li96 (by omega) (by omega), b1_some, hR.rcv, h04, hK.rcv]
    simp (disch := omega) only [b1_some, b2_some, lt_e, rd_n, wr_n, nI_add, pk_mul, nI_leI, nI_ltI, nI_eq, nI_1]
    by_cases e : r < R
    · rw [if_neg (by omega), if_neg (by omega), rd_n (by omega) (by omega), b1_some, hg r e, bit1 w (by omega)]
      have hb := hc1 r
      by_cases d : c r = 1
      · have hbt : bt w r = true := (hw r (by omega)).mpr ⟨e, d⟩
        have hq := hG.2.1.2.1 r (by omega)
        rw [d, if_neg (by decide), if_pos hbt, if_pos rfl]
        have hg' := Sg_sI hG.2.1
        rw [h04] at hg'
        obtain ⟨m2, k2, D, z, a1, a2, a3, a4, a5, a6, a7⟩ := joins_both hG.1 hg' hR hK (r := r) e (hz r (Nat.le_refl _) e d) hq.2.2.2.1
        have a1 : M_joins m (nI r) = some m2 := a1
        have a3 : Jo B r (B 13 r) D z := a3
        rw [a1, b1_some, a2, b2_some]
        obtain ⟨j1, j2, j3⟩ := Jo_good hG (r := r) (by omega) _ _ _ (Nat.le_refl _) a3
        obtain ⟨m3, k3, E, b1', b2', b3, b4, b5, b6, b7, b8⟩ := ih (r + 1) D m2 k2 j1 (by rw [← h04]; exact j2 0 4 (by omega) (by omega)) a4 a5 (fun j hj => by rw [gt_e, a6.1 16 (by omega) (by omega) (by omega)]; exact hg j hj) (fun j x y z => by rw [j3 j (by omega)]; exact hz j (by omega) y z) (by omega) (by omega)
        exact ⟨m3, k3, E, b1', b2', b3, b4, b5, j2.tr b6, a6.tr b7, a7.tr b8⟩
      · have hbt : ¬ bt w r = true := fun z => d ((hw r (by omega)).mp z).2
        rw [show c r = 0 by omega, if_pos nI_0, if_neg hbt, if_neg (by decide)]
        exact ih (r + 1) B m k hG h04 hR hK hg (fun j x y z => hz j (by omega) y z) (by omega) (by omega)
    · rw [if_pos (by omega), if_pos (by omega)]
      exact ⟨m, k, B, rfl, rfl, hR, hK, hG, Et.rf, Fw.rf, FK.rf⟩
theorem levelSum4 {A : Ab} {k : St} (hA : WF A) (hK : RK A sI (A 0 4) k) (hc : A 0 4 ≤ 20) : ∀ (fu r : Nat), r ≤ A 0 4 → A 0 4 < r + fu → Ss_levelSum_L4 k fu (nI (sm (A 14) r)) (nI r) = some (nI (sm (A 14) (A 0 4))) := by
  intro fu
  induction fu with
  | zero => intro r h1 h2; omega
  | succ fu ih =>
    intro r h1 h2
    rw [Ss_levelSum_L4]; unfold Ss_levelSum_B4
    rw [hK.rcv]
    simp (disch := omega) only [b1_some, b2_some, lt_e, rd_n, wr_n, nI_add, pk_mul, nI_leI, nI_ltI, nI_eq, nI_1]
    by_cases e : r < A 0 4
    · rw [if_neg (by omega)]
      have f : gt k 23 r = nI (A 14 r) := hK.lv e
      simp (disch := omega) only [b1_some, b2_some, lt_e, rd_n, wr_n, nI_add, pk_mul, nI_leI, nI_ltI, nI_eq, nI_1, f]
      exact ih (r + 1) (by omega) (by omega)
    · rw [if_pos (by omega)]
      have : r = A 0 4 := by omega
      subst this
      rfl
theorem Ss_levelSum_e {A : Ab} {k : St} (hA : WF A) (hK : RK A sI (A 0 4) k) (hc : A 0 4 ≤ 20) : Ss_levelSum k = some (nI (sm (A 14) (A 0 4))) := by
  unfold Ss_levelSum
  exact levelSum4 hA hK hc FU 0 (by omega) (by rw [FU_e]; omega)
theorem Sub_wf {A B : Ab} (hA : WF A) (h : Sub A B) : WF B ∧ Et A B ∧ B 14 = A 14 := by
  have het : Et A B := fun a j x _ => by rw [h.1 a x]
  have h14 : B 14 = A 14 := h.1 14 (by omega)
  refine ⟨⟨WFs_es het.ec.s hA.1, h.2.2.1, WFc_ec het.ec hA.2.2.1, fun r hr hl => ?_⟩, het, h14⟩
  rw [h14] at hl ⊢
  rw [h.1 11 (by omega), h.1 12 (by omega), h.1 0 (by omega)]
  obtain ⟨w1, w2, w3, w4⟩ := hA.2.2.2 r hr hl
  have := hA.1.1
  refine ⟨w1, w2, w3, ?_⟩
  rw [h.2.2.2 _ (by omega) (Req_rcv hr hl)]; exact w4
theorem wlk_congr {α : Type} {A B : Ab} {z : α} {s : Nat → α → α} (h : ∀ n, B 10 n = A 10 n) : ∀ k n, wlk B z s k n = wlk A z s k n := by
  intro k
  induction k with
  | zero => intro n; rfl
  | succ k ih =>
    intro n
    have : upn B n = upn A n := by unfold upn; rw [h n]
    unfold wlk
    rw [ih, this]
theorem fl_congr {A B : Ab} (h : ∀ n, B 10 n = A 10 n) {t n : Nat} : fl B t n = fl A t n := by
  unfold fl bw wk
  rw [h n, wlk_congr h]
theorem closes_both {A : Ab} {m k : St} (hG : WFg A) (hR : RM A m) (hK : RK A sI (A 0 4) k) {l : Nat} (hl : l < A 0 1) : ∃ (m2 k2 : St) (B : Ab), M_closes m (nI l) = some m2 ∧ Tr_closeLink k (nI l) = some (nI (sm (A 14) (A 0 4)) - nI (sm (B 14) (B 0 4)), k2) ∧ RM B m2 ∧ RK B sI (B 0 4) k2 ∧ WFg B ∧ (∀ a j, a ≠ 8 → a ≠ 10 → a ≠ 14 → B a j = A a j) ∧ Fx m m2 ∧ Fy k k2 := by
  obtain ⟨hA, hq, htt, hlw⟩ := hG
  have hN := hA.1.1
  have h4 := hq.1
  have hE : ∀ a j, a ≠ 8 → up2 A 8 l 0 a j = A a j := fun a j h => up2_ne (Or.inl h)
  have hG1 : WFg (up2 A 8 l 0) := WFg.c ⟨hA, hq, htt, hlw⟩ (fun a j _ x _ => hE a j x) (hA.2.2.1.c8 (by omega)) (fun j => hE 7 j (by omega))
  have hR1 : RM (up2 A 8 l 0) (st m 4 (32 + l) 0) := hR.c8 hA.1 (l := l) (v := 0) (by omega)
  have hK1 : RK (up2 A 8 l 0) sI (A 0 4) (st k 26 l 0) := hK.c8 (l := l) (v := 0) (by omega)
  have hl1 : l < up2 A 8 l 0 0 1 := by rw [hE 0 1 (by omega)]; exact hl
  have hes : Es A (up2 A 8 l 0) := fun a j x _ => hE a j (by omega)
  obtain ⟨A1, hA1e⟩ : ∃ A1, A1 = up2 A 8 l 0 := ⟨_, rfl⟩
  rw [← hA1e] at hG1 hR1 hK1 hl1 hes hE
  have e04 : A1 0 4 = A 0 4 := hE 0 4 (by omega)
  have e00 : A1 0 0 = A 0 0 := hE 0 0 (by omega)
  have e14 : A1 14 = A 14 := funext fun j => hE 14 j (by omega)
  obtain ⟨hA1, hq1, htt1, hlw1⟩ := hG1
  have hFx1 : Fx m (st m 4 (32 + l) 0) := Fx.st (by omega)
  have hFy1 : Fy k (st k 26 l 0) := Fy.st (by omega)
  unfold M_closes Tr_closeLink
  rw [Ss_levelSum_e hA hK (by omega), b1_some, nar0, wr_n (by omega) (by omega), b1_some, li32, nI_add]
  unfold Tr_cutAt
  have hinv : ∀ n, inT A n → n ≠ 0 → (inT A1 n ∧ lnk A1 n (upn A1 n) = lnk A n (upn A n)) := fun n hn _ => by
    have : upn A1 n = upn A n := by unfold upn; rw [hE 10 n (by omega)]
    rw [this, (lq_es hes n (upn A n)).1]
    exact ⟨⟨hn.1, by rw [hE 10 n (by omega)]; exact hn.2⟩, rfl⟩
  rcases M_lowerEnd_e hA hR hl with ⟨t, t1, t2, t3, t4⟩ | ⟨t1, t2⟩
  · obtain ⟨s1, s2⟩ := hinv t t1 t2
    rw [t4, b1_some, wr_n (by omega) (by omega), b1_some, if_pos (nI_pos' (by have := t1.1; omega))]
    have hK1' : RK A1 sI (A1 0 4) (st k 26 l 0) := by rw [e04]; exact hK1
    rcases Tr_lowerEnd_e hA1 hK1' hl1 with ⟨t', u1, u2, u3, u4⟩ | ⟨u1, _⟩
    · have htt' : t' = t := uplink_inj hA1.1 hA1.2.1 u1 s1 u2 t2 (by rw [u3, s2, t3])
      rw [htt'] at u4
      clear u1 u2 u3 htt'
      have ht16 := t1.1
      rw [u4, b1_some, if_neg (nI_neg1 (by omega))]
      obtain ⟨w, w1, w2⟩ := Sp_subtree_e hA1 hK1' (t := t) ht16
      rw [w1, b1_some]
      -- the reference's loops
      obtain ⟨m1, a1, a2, a3, a4⟩ := closes23 hA1 (t := t) ht16 (fun q13 => M_closes_L69 (fun q21 => M_closes_L118 (fun q34 => b1 (M_prunes q34) fun q35 => M_closes_L200 FU 0 q35) FU 0 q21) FU 0 q13) FU 0 _ hR1 (fun j hj => by omega) (by omega) (by rw [FU_e]; omega)
      rw [show nI 0 = 0 from rfl] at a1
      rw [a1]
      obtain ⟨m2, b1', b2', b3', b4'⟩ := closes69 hA1 (t := t) (fun q21 => M_closes_L118 (fun q34 => b1 (M_prunes q34) fun q35 => M_closes_L200 FU 0 q35) FU 0 q21) FU 0 m1 (by rw [cutT_0]; exact a2) a4 (by omega) (by rw [FU_e]; omega)
      rw [show nI 0 = 0 from rfl] at b1'
      rw [b1']
      obtain ⟨m3, c1, c2, c3, c4⟩ := closes118 hA1 hq1 (C := cutT A1 t (A1 0 0)) (fun a j h => cutT_ne h) (t := t) (fun q34 => b1 (M_prunes q34) fun q35 => M_closes_L200 FU 0 q35) FU 0 m2 (by rw [cutR_0]; exact b2') (fun j hj => by rw [gt_e, b4']; exact a4 j hj) (fun j hj => by omega) (by omega) (by rw [FU_e]; omega)
      rw [show nI 0 = 0 from rfl] at c1
      rw [c1]
      -- the class's loop
      have hcw : ∀ r, r < A1 0 4 → (ct A1 t r = 1 ↔ 0 < A1 14 r ∧ bt w (A1 11 r) = true) := fun r hr => by
        have hx := (hq1.2.1 r hr).1
        rw [w2 _ (by omega)]
        unfold ct
        by_cases z : 0 < A1 14 r ∧ fl A1 t (A1 11 r) = 1
        · rw [if_pos z]
          have := (fl_iff hA1 (t := t) (n := A1 11 r) (by omega)).mp z.2
          exact ⟨fun _ => ⟨z.1, hx, this⟩, fun _ => rfl⟩
        · rw [if_neg z]
          exact ⟨fun y => by omega, fun y => absurd ⟨y.1, (fl_iff hA1 (by omega)).mpr y.2.2⟩ z⟩
      obtain ⟨k2, cw, d1, d2, d3, d4⟩ := cut30 hA1 hq1 hcw FU 0 (st k 26 l 0) 0 (by rw [cutR_0]; exact hK1') (fun x hx => by rw [b_0]; exact ⟨fun z => absurd z (by decide), fun z => by omega⟩) (by omega) (by rw [FU_e]; omega)
      rw [show nI 0 = 0 from rfl] at d1
      rw [d1, b2_some]
      -- pruning
      have hC1 := cutR_wf hA1 (c := ct A1 t) (r := A1 0 4)
      have h10 : ∀ n, cutR A1 (ct A1 t) (A1 0 4) 10 n = A1 10 n := fun n => cutR_ne (by omega)
      have hsub : Sub (cutR A1 (ct A1 t) (A1 0 4)) (cutT (cutR A1 (ct A1 t) (A1 0 4)) t (cutR A1 (ct A1 t) (A1 0 4) 0 0)) := cut_sub hC1 t2 (fun r hr h14 => by
        rw [fl_congr h10, cutR_ne (by omega)]
        intro z
        unfold cutR at h14
        by_cases q : (14 : Nat) = 14 ∧ r < A1 0 4 ∧ ct A1 t r = 1
        · rw [if_pos q] at h14; omega
        · rw [if_neg q] at h14
          by_cases y : r < A1 0 4
          · exact q ⟨rfl, y, by unfold ct; rw [if_pos ⟨h14, z⟩]⟩
          · have := hq1.2.2 r hr (by omega); omega)
      have hcomm : cutT (cutR A1 (ct A1 t) (A1 0 4)) t (cutR A1 (ct A1 t) (A1 0 4) 0 0) = cutR (cutT A1 t (A1 0 0)) (ct A1 t) (A1 0 4) := ab_ext fun a j => by
        show (if a = 10 ∧ j < cutR A1 (ct A1 t) (A1 0 4) 0 0 ∧ fl (cutR A1 (ct A1 t) (A1 0 4)) t j = 1 then 0 else cutR A1 (ct A1 t) (A1 0 4) a j) = (if a = 14 ∧ j < A1 0 4 ∧ ct A1 t j = 1 then 0 else cutT A1 t (A1 0 0) a j)
        rw [fl_congr h10, cutR_ne (show (0 : Nat) ≠ 14 by omega)]
        unfold cutR cutT
        by_cases q : a = 10
        · rw [if_neg (show ¬ (a = 14 ∧ j < A1 0 4 ∧ ct A1 t j = 1) from fun z => by omega), if_neg (show ¬ (a = 14 ∧ j < A1 0 4 ∧ ct A1 t j = 1) from fun z => by omega)]
        · rw [if_neg (show ¬ (a = 10 ∧ j < A1 0 0 ∧ fl A1 t j = 1) from fun z => q z.1), if_neg (show ¬ (a = 10 ∧ j < A1 0 0 ∧ fl A1 t j = 1) from fun z => q z.1)]
      rw [hcomm] at hsub
      obtain ⟨g1, g2, g3⟩ := Sub_wf hC1 hsub
      obtain ⟨m4, B, p1, p2, p3, p4⟩ := M_prunes_e g1.1 g1.2.1 g1.2.2.2 g1.l14 c2
      have hPB : Prd (cutR A1 (ct A1 t) (A1 0 4)) B := Sub_Prd hC1 hsub p3
      have hgC : Sg (cutR A1 (ct A1 t) (A1 0 4)) sI (A1 0 4) := by
        have hs := Sg_sI hq1
        refine ⟨hs.1, hs.2.1, hs.2.2.1, fun r2 a b => hs.2.2.2.1 r2 a ?_, fun r2 a => by rw [cutR_ne (by omega), cutR_ne (by omega), cutR_ne (by omega), cutR_ne (by omega)]; exact hs.2.2.2.2 r2 a⟩
        unfold cutR at b
        by_cases z : (14 : Nat) = 14 ∧ r2 < A1 0 4 ∧ ct A1 t r2 = 1
        · rw [if_pos z] at b; omega
        · rw [if_neg z] at b; exact b
      obtain ⟨k3, q1, q2, q3⟩ := Sp_prune_e hC1 hgC d2 hPB
      rw [p1, b1_some, q1, b1_some]
      obtain ⟨v1, v2, v3⟩ := Prd_wf hC1 hPB
      have hle : ∀ r, B 14 r ≤ A1 14 r := fun r => by
        rw [v3]; unfold cutR; split <;> omega
      have hEB : ∀ a j, a ≠ 10 → a ≠ 14 → B a j = A1 a j := fun a j x y => by rw [v2 a j x y, cutR_ne y]
      have hGB : WFg B := by
        refine ⟨v1, ?_, Prd_Tt hC1 hPB, fun r hr => ?_, Cp_of hlw1.2 (fun a j x _ => hEB a j (by omega) (by omega)) (fun j => hEB 7 j (by omega) (by omega)) (fun j _ => by rcases hPB.1.2.1 j with z | z; exact Or.inl (by rw [z, cutR_ne (by omega)]); exact Or.inr z)⟩
        · exact Et.q (A := A1) (fun a j x y => hEB a j x y) hq1 (fun r hr h => by have := hle r; have := hq1.2.2 r hr h; omega)
        · rw [hEB 0 4 (by omega) (by omega)] at hr
          rw [hEB 13 r (by omega) (by omega)]
          exact Nat.le_trans (hle r) (hlw1.1 r hr)
      have eB4 : B 0 4 = A1 0 4 := hEB 0 4 (by omega) (by omega)
      obtain ⟨m5, k5, D, x1, x2, x3, x4, x5, x6, x7, x8⟩ := rejoin d4 (fun x => by unfold ct; split <;> omega) (fun y10 q11 => b1 (Ss_levelSum q11) fun x12 => some (y10 - x12, q11)) (nI (sm (A 14) (A 0 4))) FU 0 B m4 k3 hGB eB4 p2 q2 (fun j hj => by rw [gt_e, p4.1 16 (by omega) (by omega) (by omega)]; exact c4 j hj) (fun j _ hj hcj => by
        rw [v3]; unfold cutR; rw [if_pos ⟨rfl, hj, hcj⟩]) (by omega) (by rw [FU_e]; omega)
      rw [show nI 0 = 0 from rfl] at x1 x2
      have eD4 : D 0 4 = A1 0 4 := by rw [x6 0 4 (by omega) (by omega), eB4]
      have x4' : RK D sI (D 0 4) k5 := by rw [eD4]; exact x4
      refine ⟨m5, k5, D, x1, ?_, x3, x4', x5, fun a j ha hb hc => ?_, (((hFx1.tr a3).tr b3').tr c3).tr (p4.x.tr x7.x), ((hFy1.tr d3.y).tr q3.y).tr x8.y⟩
      · rw [x2, Ss_levelSum_e x5.1 x4' (by omega), b1_some]
      · rw [x6 a j hb hc, hEB a j hb hc, hE a j ha]
    · exact absurd (by rw [s2, t3]) (u1 t s1 t2)
  · rw [t2, b1_some, wr_n (by omega) (by omega), b1_some, if_neg (by decide)]
    have hK1' : RK A1 sI (A1 0 4) (st k 26 l 0) := by rw [e04]; exact hK1
    have hno : ∀ n, inT A1 n → n ≠ 0 → lnk A1 n (upn A1 n) ≠ l := fun n hn h0 z => by
      have hn' : inT A n := ⟨hn.1, by rw [← hE 10 n (by omega)]; exact hn.2⟩
      exact t1 n hn' h0 (by rw [← (hinv n hn' h0).2]; exact z)
    rcases Tr_lowerEnd_e hA1 hK1' hl1 with ⟨t', u1, u2, u3, u4⟩ | ⟨_, u2⟩
    · exact absurd u3 (hno t' u1 u2)
    · rw [u2, b1_some, if_pos rfl]
      obtain ⟨k2, cw, d1, d2, d3, d4⟩ := cut30 hA1 hq1 (c := fun _ => 0) (w := 0) (fun r hr => by rw [b_0]; exact ⟨fun z => by omega, fun z => absurd z.2 (by decide)⟩) FU 0 (st k 26 l 0) 0 (by rw [cutR_0]; exact hK1') (fun x hx => by rw [b_0]; exact ⟨fun z => absurd z (by decide), fun z => by omega⟩) (by omega) (by rw [FU_e]; omega)
      rw [show nI 0 = 0 from rfl] at d1
      have hcr : cutR A1 (fun _ => 0) (A1 0 4) = A1 := ab_ext fun a j => if_neg (fun z => by
        have : (0 : Nat) = 1 := z.2.2
        omega)
      rw [hcr] at d2
      rw [d1, b2_some]
      obtain ⟨k3, q1, q2, q3⟩ := Sp_prune_e hA1 (Sg_sI hq1) d2 (Tt_prd hA1 htt1)
      rw [q1, b1_some]
      obtain ⟨m9, hm9⟩ : ∃ m9 : St, m9 = st m 4 (32 + l) 0 := ⟨_, rfl⟩
      have key : ∀ (fu r : Nat), r ≤ A1 0 4 → A1 0 4 < r + fu → Tr_closeLink_L34 (fun y10 q11 => b1 (Ss_levelSum q11) fun x12 => some (y10 - x12, q11)) fu (nI (sm (A 14) (A 0 4))) cw (nI r) k3 = some (nI (sm (A 14) (A 0 4)) - nI (sm (A1 14) (A1 0 4)), k3) := by
        intro fu
        induction fu with
        | zero => intro r h1 h2; omega
        | succ fu ih =>
          intro r h1 h2
          rw [Tr_closeLink_L34]; unfold Tr_closeLink_B34
          rw [q2.rcv]
          simp (disch := omega) only [b1_some, b2_some, lt_e, rd_n, wr_n, nI_add, pk_mul, nI_leI, nI_ltI, nI_eq, nI_1]
          by_cases e : r < A1 0 4
          · have hbt : ¬ bt cw r = true := fun z => by
              have : (0 : Nat) = 1 := ((d4 r (by omega)).mp z).2
              omega
            rw [if_neg (by omega), bit1 cw (by omega), if_neg hbt, if_neg (by decide)]
            exact ih (r + 1) (by omega) (by omega)
          · rw [if_pos (by omega), Ss_levelSum_e hA1 q2 (by omega), b1_some]
      have := key FU 0 (by omega) (by rw [FU_e]; omega)
      rw [show nI 0 = 0 from rfl] at this
      exact ⟨_, k3, A1, rfl, this, hR1, q2, ⟨hA1, hq1, htt1, hlw1⟩, fun a j ha _ _ => hE a j ha, hFx1, (hFy1.tr d3.y).tr q3.y⟩
