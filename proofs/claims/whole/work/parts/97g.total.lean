/-! ===== PHASE B: totals, the busiest ===== -/
theorem wsum {A : Ab} {k m : St} (hG : WFg A) (hR : RM A m) (hK : RK A sI (A 0 4) k) : ∀ (fu r : Nat) (v : Int32), r ≤ A 0 4 → A 0 4 < r + fu → ∃ z, K_wantedSum_L4 k fu v (nI r) = some z ∧ M_countReceivers_L4 m fu 1 v (nI r) = some z := by
  have h4 := hG.2.1.1
  intro fu
  induction fu with
  | zero => intro r v h1 h2; omega
  | succ fu ih =>
    intro r v h1 h2
    rw [K_wantedSum_L4, M_countReceivers_L4]; unfold K_wantedSum_B4 M_countReceivers_B4
    rw [rd_at 96 li96 (by omega) (by omega), b1_some, hR.rcv, hK.rcv]
    simp (disch := omega) only [b1_some, b2_some, lt_e, rd_n, wr_n, nI_add, pk_mul, nI_leI, nI_ltI, nI_eq, nI_1]
    by_cases e : r < A 0 4
    · have hb := (hG.2.1.2.1 r e).2.2.2.2
      have f1 : gt k 24 r = nI (A 15 r) := hK.lf e
      have f2 : gt k 22 r = nI (A 13 r) := hK.wa e
      rw [if_neg (show ¬ A 0 4 ≤ r by omega), if_neg (show ¬ A 0 4 ≤ r by omega), M_of4 hR (by omega), b1_some, f1]
      unfold M_countReceivers_J29
      rcases (show A 15 r = 0 ∨ A 15 r = 1 by omega) with c | c
      · rw [c, if_pos nI_0, if_pos nI_0, if_neg (show ¬ (1 : Int32) = 0 by decide), if_pos (show (1 : Int32) = 1 from rfl), M_of2 hR (by omega), f2]
        simp (disch := omega) only [b1_some, b2_some, lt_e, rd_n, wr_n, nI_add, pk_mul, nI_leI, nI_ltI, nI_eq, nI_1]
        exact ih (r + 1) _ (by omega) (by omega)
      · rw [c, if_neg (show ¬ nI 1 = 0 by decide), if_neg (show ¬ nI 1 = 0 by decide), if_pos (show (0 : Int32) = 0 from rfl)]
        simp (disch := omega) only [b1_some, b2_some, lt_e, rd_n, wr_n, nI_add, pk_mul, nI_leI, nI_ltI, nI_eq, nI_1]
        exact ih (r + 1) _ (by omega) (by omega)
    · rw [if_pos (show A 0 4 ≤ r by omega), if_pos (show A 0 4 ≤ r by omega)]
      exact ⟨v, rfl, rfl⟩
theorem csum {A : Ab} {k m : St} (hG : WFg A) (hR : RM A m) (hK : RK A sI (A 0 4) k) : ∀ (fu r : Nat) (v : Int32), r ≤ A 0 4 → A 0 4 < r + fu → ∃ z, K_contentCount_L4 k fu v (nI r) = some z ∧ M_countReceivers_L4 m fu 6 v (nI r) = some z := by
  have h4 := hG.2.1.1
  have hN := hG.1.1.1
  intro fu
  induction fu with
  | zero => intro r v h1 h2; omega
  | succ fu ih =>
    intro r v h1 h2
    rw [K_contentCount_L4, M_countReceivers_L4]; unfold K_contentCount_B4 M_countReceivers_B4
    rw [rd_at 96 li96 (by omega) (by omega), b1_some, hR.rcv, hK.rcv]
    simp (disch := omega) only [b1_some, b2_some, lt_e, rd_n, wr_n, nI_add, pk_mul, nI_leI, nI_ltI, nI_eq, nI_1]
    by_cases e : r < A 0 4
    · have hq := hG.2.1.2.1 r e
      have h14 := hG.1.l14 r (by omega)
      have f1 : gt k 24 r = nI (A 15 r) := hK.lf e
      have f2 : gt k 22 r = nI (A 13 r) := hK.wa e
      have f3 : gt k 23 r = nI (A 14 r) := hK.lv e
      rw [if_neg (show ¬ A 0 4 ≤ r by omega), if_neg (show ¬ A 0 4 ≤ r by omega), M_of4 hR (by omega), b1_some, f1]
      unfold M_countReceivers_J29
      rcases (show A 15 r = 0 ∨ A 15 r = 1 by omega) with c | c
      · rw [c, if_pos nI_0, if_pos nI_0, if_neg (show ¬ (1 : Int32) = 0 by decide), if_neg (show ¬ (6 : Int32) = 1 by decide), if_pos (show (6 : Int32) = 6 from rfl), M_of2 hR (by omega), b1_some, M_of3 hR (by omega), b1_some, f2, f3, lt_e, lt_e, nI_1]
        by_cases d : A 14 r = A 13 r
        · rw [d, if_pos rfl, if_pos rfl]
          exact ih (r + 1) _ (by omega) (by omega)
        · rw [if_neg (fun z => d (nI_inj (by omega) (by omega) z)), if_neg (fun z => d (nI_inj (by omega) (by omega) z.symm))]
          exact ih (r + 1) _ (by omega) (by omega)
      · rw [c, if_neg (show ¬ nI 1 = 0 by decide), if_neg (show ¬ nI 1 = 0 by decide), if_pos (show (0 : Int32) = 0 from rfl)]
        simp (disch := omega) only [b1_some, b2_some, lt_e, rd_n, wr_n, nI_add, pk_mul, nI_leI, nI_ltI, nI_eq, nI_1]
        exact ih (r + 1) _ (by omega) (by omega)
    · rw [if_pos (show A 0 4 ≤ r by omega), if_pos (show A 0 4 ≤ r by omega)]
      exact ⟨v, rfl, rfl⟩
theorem psum {A : Ab} {k m : St} (hG : WFg A) (hR : RM A m) (hK : RK A sI (A 0 4) k) : ∀ (fu r : Nat) (v : Int32), r ≤ A 0 4 → A 0 4 < r + fu → ∃ z, K_presentCount_L4 k fu v (nI r) = some z ∧ M_countReceivers_L4 m fu 7 v (nI r) = some z := by
  have h4 := hG.2.1.1
  intro fu
  induction fu with
  | zero => intro r v h1 h2; omega
  | succ fu ih =>
    intro r v h1 h2
    rw [K_presentCount_L4, M_countReceivers_L4]; unfold K_presentCount_B4 M_countReceivers_B4
    rw [rd_at 96 li96 (by omega) (by omega), b1_some, hR.rcv, hK.rcv]
    simp (disch := omega) only [b1_some, b2_some, lt_e, rd_n, wr_n, nI_add, pk_mul, nI_leI, nI_ltI, nI_eq, nI_1]
    by_cases e : r < A 0 4
    · have hb := (hG.2.1.2.1 r e).2.2.2.2
      have f1 : gt k 24 r = nI (A 15 r) := hK.lf e
      rw [if_neg (show ¬ A 0 4 ≤ r by omega), if_neg (show ¬ A 0 4 ≤ r by omega), M_of4 hR (by omega), b1_some, f1]
      unfold M_countReceivers_J29
      rcases (show A 15 r = 0 ∨ A 15 r = 1 by omega) with c | c
      · rw [c, if_pos nI_0, if_pos nI_0, if_neg (show ¬ (1 : Int32) = 0 by decide), if_neg (show ¬ (7 : Int32) = 1 by decide), if_neg (show ¬ (7 : Int32) = 6 by decide)]
        simp (disch := omega) only [b1_some, b2_some, lt_e, rd_n, wr_n, nI_add, pk_mul, nI_leI, nI_ltI, nI_eq, nI_1]
        exact ih (r + 1) _ (by omega) (by omega)
      · rw [c, if_neg (show ¬ nI 1 = 0 by decide), if_neg (show ¬ nI 1 = 0 by decide), if_pos (show (0 : Int32) = 0 from rfl)]
        simp (disch := omega) only [b1_some, b2_some, lt_e, rd_n, wr_n, nI_add, pk_mul, nI_leI, nI_ltI, nI_eq, nI_1]
        exact ih (r + 1) _ (by omega) (by omega)
    · rw [if_pos (show A 0 4 ≤ r by omega), if_pos (show A 0 4 ≤ r by omega)]
      exact ⟨v, rfl, rfl⟩
theorem lsum {A D : Ab} {k m : St} (hG : WFg A) (hR : RM A m) (hK : RK A sI (A 0 4) k) (hS : RS D m) (hM : MS A D) (hKM : KM A k) : ∀ (fu l : Nat) (v : Int32), l ≤ A 0 1 → A 0 1 < l + fu → ∃ z, Fl_loadSum_L8 k fu v (nI l) = some (z, k) ∧ M_sumLoads_L4 m fu v (nI l) = some z := by
  have hN := hG.1.1.1
  intro fu
  induction fu with
  | zero => intro r v h1 h2; omega
  | succ fu ih =>
    intro l v h1 h2
    rw [Fl_loadSum_L8, M_sumLoads_L4]; unfold Fl_loadSum_B8 M_sumLoads_B4
    rw [rd_at 1 li1 (by omega) (by omega), b1_some, hR.g1, hK.n1]
    simp (disch := omega) only [b1_some, b2_some, lt_e, rd_n, wr_n, nI_add, pk_mul, nI_leI, nI_ltI, nI_eq, nI_1]
    by_cases e : l < A 0 1
    · rw [if_neg (show ¬ A 0 1 ≤ l by omega), if_neg (show ¬ A 0 1 ≤ l by omega), rd_n (by omega) (by omega), b1_some, rd_n (by omega) (by omega), b1_some, hKM.2.1 l e, hS.2.2.1 l (by omega), MS_lld hG.1.1 hG.1.2.1 hM (by omega)]
      exact ih (l + 1) _ (by omega) (by omega)
    · rw [if_pos (show A 0 1 ≤ l by omega), if_pos (show A 0 1 ≤ l by omega)]
      exact ⟨v, rfl, rfl⟩
theorem cn68 {A : Ab} {m : St} (hG : WFg A) (hR : RM A m) (kk : Int32 → Int32 → Int32 → Option Int32) {v1 : Int32} (h : v1 ≠ 4) (v2 v3 : Int32) : M_countNodes_L68 m kk FU v1 v2 v3 1 = kk v1 v2 v3 := by
  have hN := hG.1.1.1
  rw [show FU = 3999 + 1 from rfl, M_countNodes_L68]; unfold M_countNodes_B68
  rw [rd_at 2 li2 (by omega) (by omega), b1_some, if_neg h]
  split <;> rfl
theorem cnt3 {A : Ab} {m : St} (hG : WFg A) (hR : RM A m) : ∀ (fu n : Nat), n ≤ A 0 0 → A 0 0 < n + fu → M_countNodes_L4 m fu 3 (nI (sm (fun x => fl A 0 x) n)) (nI n) = some (nI (sm (fun x => fl A 0 x) (A 0 0))) := by
  have hN := hG.1.1.1
  have hf : ∀ x, x < 16 → fl A 0 x = if A 10 x = 0 then 0 else 1 := fun x hx => by
    by_cases c : A 10 x = 0
    · rw [if_pos c]; unfold fl; rw [if_neg (fun z => z.1 c)]
    · rw [if_neg c]
      have hd := dep_le hG.1.1 hG.1.2.1 (n := x) ⟨hx, c⟩
      exact (fl_iff hG.1 hx).mpr ⟨c, dep A x, Nat.le_refl _, hd.2.1⟩
  intro fu
  induction fu with
  | zero => intro x h1 h2; omega
  | succ fu ih =>
    intro n h1 h2
    rw [M_countNodes_L4]; unfold M_countNodes_B4
    rw [rd_at 0 li0 (by omega) (by omega), b1_some, hR.g0, if_pos (show (3 : Int32) = 3 from rfl)]
    by_cases e : n < A 0 0
    · have nx := ih (n + 1) (by omega) (by omega)
      rw [sm, hf n (by omega)] at nx
      rw [if_neg (fun z => by have := (nI_leI (by omega) (by omega)).mp z; omega), M_isIn_e (par_bd hG.1.1 hG.1.2.1) hR (by omega), b1_some]
      by_cases c : A 10 n = 0
      · rw [if_pos c, if_pos rfl, lt_e, Int32.add_zero, cn68 hG hR _ (by decide), nI_1]
        rw [if_pos c] at nx; exact nx
      · rw [if_neg c, if_neg (by decide), lt_e, cn68 hG hR _ (by decide), nI_1, nI_1]
        rw [if_neg c] at nx; exact nx
    · rw [if_pos ((nI_leI (by omega) (by omega)).mpr (by omega))]
      have : n = A 0 0 := by omega
      subst this
      rfl
theorem a9_0 {A : Ab} (hG : WFg A) {n f : Nat} (hn : n < 16) (hf : f < 4) (h : f = 0 ∨ A 0 2 ≤ f ∨ A 0 0 ≤ n) : A 9 (4 * n + f) = 0 := by
  have hp := hG.1.2.2.1.2 n f hn hf
  apply Classical.byContradiction
  intro z
  have := hp.2 (by omega)
  omega
theorem cn68_4 {A : Ab} {m : St} (hG : WFg A) (hR : RM A m) (kk : Int32 → Int32 → Int32 → Option Int32) {n : Nat} (hn : n < A 0 0) : ∀ (fu f : Nat), 1 ≤ f → f ≤ A 0 2 → A 0 2 < f + fu → M_countNodes_L68 m kk fu 4 (nI (sm (A 9) (4 * n + f))) (nI n) (nI f) = kk 4 (nI (sm (A 9) (4 * n + 4))) (nI n) := by
  have hN := hG.1.1.1
  intro fu
  induction fu with
  | zero => intro f _ h1 h2; omega
  | succ fu ih =>
    intro f h0 h1 h2
    rw [M_countNodes_L68]; unfold M_countNodes_B68
    rw [rd_at 2 li2 (by omega) (by omega), b1_some, hR.g2, if_pos (show (4 : Int32) = 4 from rfl)]
    by_cases e : f < A 0 2
    · have nx := ih (f + 1) (by omega) (by omega) (by omega)
      rw [← Nat.add_assoc, sm] at nx
      have hp := (hG.1.2.2.1.2 n f (by omega) (by omega)).1
      rw [if_neg (fun z => by have := (nI_leI (by omega) (by omega)).mp z; omega), M_has_e hG.1.2.2.1 hR (by omega) (by omega), b1_some]
      rcases (show A 9 (4 * n + f) = 0 ∨ A 9 (4 * n + f) = 1 by omega) with c | c
      · rw [c] at nx
        rw [c, if_neg (show ¬ (0 : Nat) = 1 by omega), if_pos (show (0 : Int32) = 0 from rfl), lt_e, Int32.add_zero, nI_1]; exact nx
      · rw [c] at nx
        rw [c, if_pos (show (1 : Nat) = 1 from rfl), if_neg (show ¬ (1 : Int32) = 0 by decide), lt_e, nI_1, nI_1]; exact nx
    · rw [if_pos ((nI_leI (by omega) (by omega)).mpr (by omega))]
      have : f = A 0 2 := by omega
      subst this
      have hs : sm (A 9) (4 * n + 4) = sm (A 9) (4 * n + A 0 2) := sm_cut (4 * n + 4) (by omega) (fun i h3 h4 => by
        have := a9_0 hG (n := n) (f := i - 4 * n) (by omega) (by omega) (by omega)
        rw [show 4 * n + (i - 4 * n) = i by omega] at this
        exact this)
      rw [hs]
theorem cnt4 {A : Ab} {m : St} (hG : WFg A) (hR : RM A m) : ∀ (fu n : Nat), n ≤ A 0 0 → A 0 0 < n + fu → M_countNodes_L4 m fu 4 (nI (sm (A 9) (4 * n))) (nI n) = some (nI (sm (A 9) 64)) := by
  have hN := hG.1.1.1
  intro fu
  induction fu with
  | zero => intro x h1 h2; omega
  | succ fu ih =>
    intro n h1 h2
    rw [M_countNodes_L4]; unfold M_countNodes_B4
    rw [rd_at 0 li0 (by omega) (by omega), b1_some, hR.g0, if_neg (show ¬ (4 : Int32) = 3 by decide), if_neg (show ¬ (4 : Int32) = 5 by decide)]
    by_cases e : n < A 0 0
    · have nx := ih (n + 1) (by omega) (by omega)
      rw [if_neg (fun z => by have := (nI_leI (by omega) (by omega)).mp z; omega)]
      have h0 : sm (A 9) (4 * n) = sm (A 9) (4 * n + 1) := by
        have := a9_0 hG (n := n) (f := 0) (by omega) (by omega) (Or.inl rfl)
        rw [Nat.add_zero] at this
        rw [sm, this, Nat.add_zero]
      have := cn68_4 hG hR (fun y12 y13 y14 => M_countNodes_L4 m fu y12 y13 (y14 + 1)) e FU 1 (by omega) (by omega) (by rw [FU_e]; omega)
      rw [← h0, show nI 1 = 1 from rfl] at this
      rw [this, nI_1]
      exact nx
    · rw [if_pos ((nI_leI (by omega) (by omega)).mpr (by omega))]
      have : n = A 0 0 := by omega
      subst this
      have hs : sm (A 9) 64 = sm (A 9) (4 * A 0 0) := sm_cut 64 (by omega) (fun i h3 h4 => by
        have := a9_0 hG (n := i / 4) (f := i % 4) (by omega) (by omega) (by omega)
        rw [show 4 * (i / 4) + i % 4 = i by omega] at this
        exact this)
      rw [hs]
theorem conv4 {A : Ab} {k : St} (hG : WFg A) (hK : RK A sI (A 0 4) k) : ∀ (fu i : Nat), i ≤ 64 → 64 < i + fu → Ss_converterCount_L4 k fu (nI (sm (A 9) i)) (nI i) = some (nI (sm (A 9) 64)) := by
  intro fu
  induction fu with
  | zero => intro x h1 h2; omega
  | succ fu ih =>
    intro i h1 h2
    rw [Ss_converterCount_L4]; unfold Ss_converterCount_B4
    rw [li64]
    by_cases e : i < 64
    · have nx := ih (i + 1) (by omega) (by omega)
      rw [sm] at nx
      have e9 := hK.pl (n := i / 4) (f := i % 4) (by omega) (by omega)
      rw [show i / 4 * 4 + i % 4 = i by omega, show 4 * (i / 4) + i % 4 = i by omega] at e9
      have hp := (hG.1.2.2.1.2 (i / 4) (i % 4) (by omega) (by omega)).1
      rw [show 4 * (i / 4) + i % 4 = i by omega] at hp
      rw [if_neg (fun z => by have := (nI_leI (by omega) (by omega)).mp z; omega), rd_n e (by omega), b1_some, e9]
      rcases (show A 9 i = 0 ∨ A 9 i = 1 by omega) with c | c
      · rw [c] at nx
        rw [c, if_pos nI_0, lt_e, Int32.add_zero, nI_1]; exact nx
      · rw [c] at nx
        rw [c, if_neg (show ¬ nI 1 = 0 by decide), lt_e, nI_1, nI_1]; exact nx
    · rw [if_pos ((nI_leI (by omega) (by omega)).mpr (by omega))]
      have : i = 64 := by omega
      subst this
      rfl
theorem Sp_delayTo_o {A : Ab} {s : Nat → Nat} {Q : Nat} {k : St} (hA : WF A) (hK : RK A s Q k) {n : Nat} (hn : n < 16) (h : A 10 n = 0) : Sp_delayTo k (nI n) = some (nI 0) := by
  have h0 : n ≠ 0 := fun z => by rw [z, hA.2.1.1] at h; omega
  unfold Sp_delayTo
  rw [show FU = 3998 + 1 + 1 from rfl, Sp_delayTo_L7]; unfold Sp_delayTo_B7
  rw [if_neg (by decide), if_neg (fun z => by rw [li0] at z; have := (nI_leI (by omega) (by omega)).mp z; omega), rd_n hn (by omega), b1_some, hK.par hn, show pK (A 10 n) = -1 from if_pos (by omega), if_pos rfl]
  unfold Sp_delayTo_J54
  rw [if_pos rfl, lt_e, Sp_delayTo_L7]; unfold Sp_delayTo_B7
  rw [if_neg (by decide), if_pos (by decide)]
  rfl
theorem imax_n {a b : Nat} (ha : a < 2 ^ 31) (hb : b < 2 ^ 31) : imax (nI a) (nI b) = nI (max a b) := by
  unfold imax
  by_cases c : a < b
  · rw [if_pos ((nI_ltI ha hb).mpr c), show max a b = b by omega]
  · rw [if_neg (fun z => c ((nI_ltI ha hb).mp z)), show max a b = a by omega]
theorem dsum {A : Ab} {k m : St} (hG : WFg A) (hR : RM A m) (hK : RK A sI (A 0 4) k) : ∀ (fu n d : Nat), d ≤ 1485 → n ≤ A 0 0 → A 0 0 < n + fu → ∃ z, Sp_greatestDelay_L4 k fu (nI d) (nI n) = some z ∧ M_countNodes_L4 m fu 5 (nI d) (nI n) = some z := by
  have hN := hG.1.1.1
  intro fu
  induction fu with
  | zero => intro x d _ h1 h2; omega
  | succ fu ih =>
    intro n d hd h1 h2
    rw [Sp_greatestDelay_L4, M_countNodes_L4]; unfold Sp_greatestDelay_B4 M_countNodes_B4
    rw [rd_at 0 li0 (by omega) (by omega), b1_some, hR.g0, hK.n0, if_neg (show ¬ (5 : Int32) = 3 by decide), if_pos (show (5 : Int32) = 5 from rfl)]
    by_cases e : n < A 0 0
    · have hle : ¬ nI (A 0 0) ≤ nI n := fun z => by have := (nI_leI (by omega) (by omega)).mp z; omega
      rw [if_neg hle, if_neg hle, M_isIn_e (par_bd hG.1.1 hG.1.2.1) hR (by omega), b1_some]
      by_cases c : A 10 n = 0
      · rw [if_pos c, if_pos rfl, Sp_delayTo_o hG.1 hK (by omega) c, b1_some, lt_e, imax_n (by omega) (by omega), show max d 0 = d by omega, cn68 hG hR _ (by decide), nI_1]
        exact ih (n + 1) d hd (by omega) (by omega)
      · have hin : inT A n := ⟨by omega, c⟩
        have h1 := dl_le hG.1.1 hG.1.2.1 n hin
        have h2 := (dep_le hG.1.1 hG.1.2.1 hin).1
        rw [if_neg c, if_neg (by decide), Sp_delayTo_e hG.1 hK hin, b1_some, lt_e, imax_n (by omega) (by omega), M_delayTo_e hG.1.1 hG.1.2.1 hR hin, b1_some]
        have hm : M_most m (nI d) (nI (dl A n)) = some (nI (max d (dl A n))) := by
          unfold M_most
          by_cases q : d ≤ dl A n
          · rw [if_pos ((nI_leI (by omega) (by omega)).mpr q), show max d (dl A n) = dl A n by omega]
          · rw [if_neg (fun z => q ((nI_leI (by omega) (by omega)).mp z)), show max d (dl A n) = d by omega]
        rw [hm, b1_some, cn68 hG hR _ (by decide), nI_1]
        exact ih (n + 1) _ (by omega) (by omega) (by omega)
    · have hle : nI (A 0 0) ≤ nI n := (nI_leI (by omega) (by omega)).mpr (by omega)
      rw [if_pos hle, if_pos hle]
      exact ⟨_, rfl, rfl⟩
theorem sp_total : Sp_total Inv := by
  intro k m v1 hI
  obtain ⟨A, hG, hR, hK, hT, hH⟩ := id hI
  have hN := hG.1.1.1
  have h4 := hG.2.1.1
  have ok : ∀ z : Int32, ∃ (z' : Int32) (qk2 qm2 : St), some (z, k) = some (z', qk2) ∧ some (z, m) = some (z', qm2) ∧ Inv qk2 qm2 := fun z => ⟨z, k, m, rfl, rfl, hI⟩
  unfold K_total M_total
  by_cases c0 : v1 = 0
  · rw [if_pos c0, if_pos c0, Ss_levelSum_e hG.1 hK h4, M_levels_e hG.1 hR h4, b1_some, b1_some]; exact ok _
  rw [if_neg c0, if_neg c0]
  by_cases c1 : v1 = 1
  · rw [if_pos c1, if_pos c1, c1]
    unfold K_wantedSum M_countReceivers
    obtain ⟨z, z1, z2⟩ := wsum hG hR hK FU 0 0 (by omega) (by rw [FU_e]; omega)
    rw [show nI 0 = 0 from rfl] at z1 z2
    rw [z1, z2, b1_some, b1_some]; exact ok _
  rw [if_neg c1, if_neg c1]
  by_cases c2 : v1 = 2
  · rw [if_pos c2, if_pos c2]
    unfold Fl_loadSum
    obtain ⟨m2, k2, D, x1, x2, x3, x4, x5, x6, x7, x8, x9⟩ := meas_both hG hR hK
    rw [x1, x2, b1_some, b1_some]
    unfold M_sumLoads
    obtain ⟨z, z1, z2⟩ := lsum hG x3 x4 x7 x8 x9 FU 0 0 (by omega) (by rw [FU_e]; omega)
    rw [show nI 0 = 0 from rfl] at z1 z2
    rw [z1, z2, b1_some, b2_some]
    exact Q2.done (A := A) ⟨_, k2, m2, rfl, rfl, x3, x4, x5.q, x6.p⟩ hG hT hH
  rw [if_neg c2, if_neg c2]
  by_cases c3 : v1 = 3
  · rw [if_pos c3, if_pos c3, c3]
    unfold M_countNodes
    obtain ⟨w, w1, w2⟩ := Sp_subtree_e hG.1 hK (t := 0) (by omega)
    have w1 : Sp_subtree k 0 = some w := w1
    have hM := cnt3 hG hR FU 0 (by omega) (by rw [FU_e]; omega)
    have hM : M_countNodes_L4 m FU 3 0 0 = some (nI (sm (fun x => fl A 0 x) (A 0 0))) := hM
    rw [w1, b1_some, sub_bits hG w2, b1_some, hM, b1_some]; exact ok _
  rw [if_neg c3, if_neg c3]
  by_cases c4 : v1 = 4
  · rw [if_pos c4, if_pos c4, c4]
    unfold M_countNodes Ss_converterCount
    have hM := cnt4 hG hR FU 0 (by omega) (by rw [FU_e]; omega)
    have hM : M_countNodes_L4 m FU 4 0 0 = some (nI (sm (A 9) 64)) := hM
    have hKc := conv4 hG hK FU 0 (by omega) (by rw [FU_e]; omega)
    have hKc : Ss_converterCount_L4 k FU 0 0 = some (nI (sm (A 9) 64)) := hKc
    rw [hM, hKc, b1_some, b1_some]; exact ok _
  rw [if_neg c4, if_neg c4]
  by_cases c5 : v1 = 5
  · rw [if_pos c5, if_pos c5, c5]
    unfold M_countNodes Sp_greatestDelay
    obtain ⟨z, z1, z2⟩ := dsum hG hR hK FU 0 0 (by omega) (by omega) (by rw [FU_e]; omega)
    rw [show nI 0 = 0 from rfl] at z1 z2
    rw [z1, z2, b1_some, b1_some]; exact ok _
  rw [if_neg c5, if_neg c5]
  by_cases c6 : v1 = 6
  · rw [if_pos c6, if_pos c6, c6]
    unfold K_contentCount M_countReceivers
    obtain ⟨z, z1, z2⟩ := csum hG hR hK FU 0 0 (by omega) (by rw [FU_e]; omega)
    rw [show nI 0 = 0 from rfl] at z1 z2
    rw [z1, z2, b1_some, b1_some]; exact ok _
  rw [if_neg c6, if_neg c6]
  by_cases c7 : v1 = 7
  · rw [if_pos c7, if_pos c7, c7]
    unfold K_presentCount M_countReceivers
    obtain ⟨z, z1, z2⟩ := psum hG hR hK FU 0 0 (by omega) (by rw [FU_e]; omega)
    rw [show nI 0 = 0 from rfl] at z1 z2
    rw [z1, z2, b1_some, b1_some]; exact ok _
  rw [if_neg c7, if_neg c7]
  exact ok _
/-- thousandths of a link's capacity -/
def ut (A : Ab) (l : Nat) : Nat := if A 7 l = 0 then 0 else lld A l * 1000 / A 7 l
theorem lld_cap {A : Ab} (hG : WFg A) {l : Nat} (h : 1 ≤ lld A l) : 1 ≤ A 7 l := by
  obtain ⟨n, n1, n2, n3, n4⟩ := lld_pos h
  have := hG.2.2.2.2 n (by omega) n1 n3
  rw [n4] at this; exact this
theorem ut_le {A : Ab} (hG : WFg A) {l : Nat} : ut A l < 2 ^ 31 := by
  have h := lld_le hG.1.1 hG.1.2.2.2 (l := l)
  unfold ut
  split
  · omega
  · have := Nat.div_le_self (lld A l * 1000) (A 7 l)
    omega
theorem Fl_util_e {A : Ab} {k : St} (hG : WFg A) (hK : RK A sI (A 0 4) k) (hM : KM A k) {l : Nat} (hl : l < A 0 1) : Fl_utilisation k (nI l) = some (nI (ut A l)) := by
  have hN := hG.1.1.1
  have h := lld_le hG.1.1 hG.1.2.2.2 (l := l)
  have hc := (hG.1.2.2.1.1 l hl).1
  unfold Fl_utilisation ut
  rw [rd_n (by omega) (by omega), b1_some, hK.cap hl]
  by_cases c : A 7 l = 0
  · rw [c, if_pos (by decide), if_pos rfl]; rfl
  · rw [if_neg (fun z => by rw [li0] at z; have := (nI_leI (by omega) (by omega)).mp z; omega), if_neg c, rd_n (by omega) (by omega), b1_some, hM.2.1 l hl]
    unfold dv
    rw [if_neg (fun z => c ((nI_z (by omega)).mp z)), li1000, pk_mul, pk_div (by omega) (by omega) (by omega)]
theorem M_busy_e {A D : Ab} {m : St} (hG : WFg A) (hR : RM A m) (hS : RS D m) (hM : MS A D) {l : Nat} (hl : l < A 0 1) : M_busy m (nI l) = some (nI (ut A l)) := by
  have hN := hG.1.1.1
  have h := lld_le hG.1.1 hG.1.2.2.2 (l := l)
  have hc := (hG.1.2.2.1.1 l hl).1
  have e : gt m 9 l = nI (lld A l) := by rw [hS.2.2.1 l (by omega), MS_lld hG.1.1 hG.1.2.1 hM (by omega)]
  unfold M_busy ut
  rw [rd_n (by omega) (by omega), b1_some, e]
  by_cases c : lld A l = 0
  · rw [c, if_pos nI_0]
    by_cases d : A 7 l = 0
    · rw [if_pos d]; rfl
    · rw [if_neg d, Nat.zero_mul, Nat.zero_div]; rfl
  · have hcap := lld_cap hG (l := l) (by omega)
    rw [if_neg (fun z => c ((nI_z (by omega)).mp z)), li0, nI_add, Nat.zero_add, b1_some, rd_n (by omega) (by omega), b1_some, hR.cap hl]
    unfold dv
    rw [if_neg (fun z => by have := (nI_z (by omega)).mp z; omega), li1000, pk_mul, pk_div (by omega) (by omega) (by omega), if_neg (by omega)]
def ahd (A : Ab) (l : Nat) : Nat → Nat := sm (fun o => if ut A l < ut A o ∨ (ut A o = ut A l ∧ o < l) then 1 else 0)
theorem ahd_le {A : Ab} {l : Nat} : ∀ n, ahd A l n ≤ n := by
  intro n
  have := sm_le (g := fun o => if ut A l < ut A o ∨ (ut A o = ut A l ∧ o < l) then 1 else 0) (b := 1) n (fun j _ => ite01_le)
  rw [Nat.one_mul] at this
  exact this
theorem ahd_s {A : Ab} {l o : Nat} : ahd A l (o + 1) = ahd A l o + if ut A l < ut A o ∨ (ut A o = ut A l ∧ o < l) then 1 else 0 := rfl
theorem busierK {A : Ab} {k : St} (hG : WFg A) (hK : RK A sI (A 0 4) k) (hM : KM A k) {l : Nat} (hl : l < A 0 1) : ∀ (fu o : Nat), o ≤ A 0 1 → A 0 1 < o + fu → Fl_busierThan_L11 k fu (nI l) (nI (ut A l)) (nI (ahd A l o)) (nI o) = some (nI (ahd A l (A 0 1))) := by
  have hN := hG.1.1.1
  intro fu
  induction fu with
  | zero => intro x h1 h2; omega
  | succ fu ih =>
    intro o h1 h2
    rw [Fl_busierThan_L11]; unfold Fl_busierThan_B11
    rw [hK.n1]
    by_cases e : o < A 0 1
    · have nx := ih (o + 1) (by omega) (by omega)
      rw [ahd_s] at nx
      rw [if_neg (fun z => by have := (nI_leI (by omega) (by omega)).mp z; omega), Fl_util_e hG hK hM e, b1_some, nI_1, nI_1]
      have u1 := ut_le hG (l := l)
      have u2 := ut_le hG (l := o)
      by_cases c1 : ut A l < ut A o
      · rw [if_pos (Or.inl c1)] at nx
        rw [if_pos ((nI_ltI u1 u2).mpr c1)]; exact nx
      · rw [if_neg (fun z => c1 ((nI_ltI u1 u2).mp z))]
        by_cases c2 : ut A o = ut A l
        · rw [if_pos (by rw [c2])]
          by_cases c3 : l ≤ o
          · rw [if_neg (fun z => by omega), Nat.add_zero] at nx
            rw [if_pos ((nI_leI (by omega) (by omega)).mpr c3)]; exact nx
          · rw [if_pos (Or.inr ⟨c2, by omega⟩)] at nx
            rw [if_neg (fun z => c3 ((nI_leI (by omega) (by omega)).mp z))]; exact nx
        · rw [if_neg (fun z => by omega), Nat.add_zero] at nx
          rw [if_neg (fun z => c2 (nI_inj u2 u1 z))]; exact nx
    · rw [if_pos ((nI_leI (by omega) (by omega)).mpr (by omega))]
      have : o = A 0 1 := by omega
      subst this
      rfl
theorem busierM {A D : Ab} {m : St} (hG : WFg A) (hR : RM A m) (hS : RS D m) (hM : MS A D) {l : Nat} (hl : l < A 0 1) (kk : Int32 → Int32 → Int32 → Option (Int32 × St)) (v1 : Int32) : ∀ (fu o : Nat), o ≤ A 0 1 → A 0 1 < o + fu → M_busiest_L27 m kk fu v1 (nI l) (nI (ahd A l o)) (nI o) = kk v1 (nI l) (nI (ahd A l (A 0 1))) := by
  have hN := hG.1.1.1
  intro fu
  induction fu with
  | zero => intro x h1 h2; omega
  | succ fu ih =>
    intro o h1 h2
    rw [M_busiest_L27]; unfold M_busiest_B27
    rw [rd_at 1 li1 (by omega) (by omega), b1_some, hR.g1]
    by_cases e : o < A 0 1
    · have nx := ih (o + 1) (by omega) (by omega)
      rw [ahd_s] at nx
      rw [if_neg (fun z => by have := (nI_leI (by omega) (by omega)).mp z; omega), M_busy_e hG hR hS hM e, b1_some, M_busy_e hG hR hS hM hl, b1_some, b1_some, b1_some]
      simp only [lt_e, Int32.add_zero, nI_1]
      have u1 := ut_le hG (l := l)
      have u2 := ut_le hG (l := o)
      by_cases c1 : ut A l < ut A o
      · rw [if_pos (Or.inl c1)] at nx
        rw [if_pos ((nI_ltI u1 u2).mpr c1)]; exact nx
      · rw [if_neg (fun z => c1 ((nI_ltI u1 u2).mp z))]
        by_cases c2 : ut A o = ut A l
        · rw [if_pos (by rw [c2])]
          by_cases c3 : l ≤ o
          · rw [if_neg (fun z => by omega), Nat.add_zero] at nx
            rw [if_pos ((nI_leI (by omega) (by omega)).mpr c3)]; exact nx
          · rw [if_pos (Or.inr ⟨c2, by omega⟩)] at nx
            rw [if_neg (fun z => c3 ((nI_leI (by omega) (by omega)).mp z))]; exact nx
        · rw [if_neg (fun z => by omega), Nat.add_zero] at nx
          rw [if_neg (fun z => c2 (nI_inj u2 u1 z))]; exact nx
    · rw [if_pos ((nI_leI (by omega) (by omega)).mpr (by omega))]
      have : o = A 0 1 := by omega
      subst this
      rfl
theorem busy_both {A D : Ab} {k m : St} (hG : WFg A) (hR : RM A m) (hK : RK A sI (A 0 4) k) (hS : RS D m) (hM : MS A D) (hKM : KM A k) (v1 : Int32) : ∀ (fu l : Nat), l ≤ A 0 1 → A 0 1 < l + fu → ∃ z, K_busiest_L15 k fu v1 (nI l) = some (z, k) ∧ M_busiest_L12 m fu v1 (nI l) = some (z, m) := by
  have hN := hG.1.1.1
  intro fu
  induction fu with
  | zero => intro x h1 h2; omega
  | succ fu ih =>
    intro l h1 h2
    rw [K_busiest_L15, M_busiest_L12]; unfold K_busiest_B15 M_busiest_B12
    rw [rd_at 1 li1 (by omega) (by omega), b1_some, hR.g1, hK.n1]
    by_cases e : l < A 0 1
    · have hle : ¬ nI (A 0 1) ≤ nI l := fun z => by have := (nI_leI (by omega) (by omega)).mp z; omega
      rw [if_neg hle, if_neg hle]
      unfold Fl_busierThan
      have h1' := busierK hG hK hKM e FU 0 (by omega) (by rw [FU_e]; omega)
      have h1' : Fl_busierThan_L11 k FU (nI l) (nI (ut A l)) 0 0 = some (nI (ahd A l (A 0 1))) := h1'
      have h2' := busierM hG hR hS hM e (fun y18 y19 y20 => if y20 = y18 then some (y19, m) else M_busiest_L12 m fu y18 (y19 + 1)) v1 FU 0 (by omega) (by rw [FU_e]; omega)
      have h2' : M_busiest_L27 m (fun y18 y19 y20 => if y20 = y18 then some (y19, m) else M_busiest_L12 m fu y18 (y19 + 1)) FU v1 (nI l) 0 0 = (if nI (ahd A l (A 0 1)) = v1 then some (nI l, m) else M_busiest_L12 m fu v1 (nI l + 1)) := h2'
      rw [Fl_util_e hG hK hKM e, b1_some, h1', b1_some, h2', nI_1]
      by_cases c : nI (ahd A l (A 0 1)) = v1
      · rw [if_pos c, if_pos c]; exact ⟨_, rfl, rfl⟩
      · rw [if_neg c, if_neg c]; exact ih (l + 1) (by omega) (by omega)
    · have hle : nI (A 0 1) ≤ nI l := (nI_leI (by omega) (by omega)).mpr (by omega)
      rw [if_pos hle, if_pos hle]
      exact ⟨_, rfl, rfl⟩
theorem sp_busiest : Sp_busiest Inv := by
  intro k m v1 hI
  obtain ⟨A, hG, hR, hK, hT, hH⟩ := id hI
  have hN := hG.1.1.1
  unfold K_busiest M_busiest
  by_cases c : (0 : Int32) ≤ v1
  · rw [if_pos c, if_pos c]
    obtain ⟨m2, k2, D, x1, x2, x3, x4, x5, x6, x7, x8, x9⟩ := meas_both hG hR hK
    rw [x1, x2, b1_some, b1_some]
    obtain ⟨z, z1, z2⟩ := busy_both hG x3 x4 x7 x8 x9 v1 FU 0 (by omega) (by rw [FU_e]; omega)
    have z1 : K_busiest_L15 k2 FU v1 0 = some (z, k2) := z1
    have z2 : M_busiest_L12 m2 FU v1 0 = some (z, m2) := z2
    rw [z1, z2]
    exact Q2.done (A := A) ⟨_, k2, m2, rfl, rfl, x3, x4, x5.q, x6.p⟩ hG hT hH
  · rw [if_neg c, if_neg c]
    exact ⟨-1, k, m, rfl, rfl, hI⟩
