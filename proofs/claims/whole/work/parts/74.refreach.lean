/-! ===== PHASE B: shortest ways, in the reference ===== -/
def F12 (m m2 : St) : Prop := (∀ k, k ≠ 12 → m2.1 k = m.1 k) ∧ m2.2 = m.2
theorem F12.rf {m : St} : F12 m m := ⟨fun _ _ => rfl, rfl⟩
theorem F12.tr {a b c : St} (h : F12 a b) (h2 : F12 b c) : F12 a c := ⟨fun k hk => (h2.1 k hk).trans (h.1 k hk), h2.2.trans h.2⟩
theorem F12.st {m : St} {i : Nat} {v : Int32} : F12 m (st m 12 i v) := ⟨fun j hj => st_row_ne hj, rfl⟩
theorem F12.rm {A : Ab} {m m2 : St} (h : F12 m m2) (hr : RM A m) : RM A m2 := by
  unfold RM
  rw [h.1 2 (by omega), h.1 4 (by omega)]
  exact hr
theorem F12.w {m m2 : St} (h : F12 m m2) : Fw m m2 := ⟨fun k a b c => h.1 k (by omega), fun i _ => by rw [h.1 0 (by omega)], h.2⟩
def RX (X : Nat → Nat) (m : St) : Prop := ∀ v, v < 16 → gt m 12 v = nI (X v)
theorem RX.st {X X2 : Nat → Nat} {m : St} (h : RX X m) {a y : Nat} (h1 : X2 a = y) (h2 : ∀ u, u ≠ a → X2 u = X u) : RX X2 (st m 12 a (nI y)) := fun v hv => by
  by_cases e : v = a
  · subst e; rw [gt_st_same, h1]
  · rw [gt_st_i e, h2 v e]; exact h v hv
def gM (A : Ab) (R : Nat) (l v b : Nat) : Bool := decide (A 8 l = 1 ∧ R ≤ A 7 l ∧ A 10 v = 0 ∧ A 10 b = 0)
def wM (A : Ab) (l : Nat) : Nat := 100 * A 3 l + 1
def x0 (F t : Nat) (v : Nat) : Nat := if v = t then 0 else F
def rM (A : Ab) (R : Nat) : Nat → (Nat → Nat) → Nat → Nat := rdF (gM A R) (wM A) (A 1) (A 2)
def iM (A : Ab) (R t : Nat) : Nat → Nat → Nat := itF (gM A R) (wM A) (A 1) (A 2) (A 0 1) (x0 1000000000 t)
def EM (A : Ab) (R : Nat) : Nat → Nat → Nat → Prop := Ed (gM A R) (wM A) (A 1) (A 2) (A 0 1)
theorem M_isFit_e {A : Ab} {m : St} (hs : WFs A) (hc : WFc A) (hR : RM A m) {l R : Nat} (hl : l < A 0 1) (hb : R < 2 ^ 30) : M_isFit m (nI l) (nI R) = some (if A 8 l = 1 ∧ R ≤ A 7 l then 1 else 0) := by
  have hN := hs.1
  have h1 := hc.1 l hl
  unfold M_isFit
  simp (disch := omega) only [b1_some, b2_some, lt_e, rd_n, wr_n, nI_add, pk_mul, nI_leI, nI_ltI, nI_eq, nI_1, li32, li0, hR.opn]
  by_cases c : A 8 l = 1
  · rw [if_pos (by rw [c]; decide)]
    simp (disch := omega) only [b1_some, b2_some, lt_e, rd_n, wr_n, nI_add, pk_mul, nI_leI, nI_ltI, nI_eq, nI_1, li0, Nat.zero_add, hR.cap]
    by_cases d : A 7 l < R
    · rw [if_pos d, if_neg (by omega)]
    · rw [if_neg d, if_pos (by omega)]
  · rw [if_neg (fun x => c (by rw [li1] at x; exact nI_inj (by omega) (by omega) x)), if_neg (fun x => c x.1)]
theorem M_end0 {A : Ab} {m : St} (hs : WFs A) (hR : RM A m) {l : Nat} (hl : l < A 0 1) : M_end m (nI l) 0 = some (nI (A 1 l)) := M_end_e hs hR hl (w := 0) (by omega)
theorem M_end1 {A : Ab} {m : St} (hs : WFs A) (hR : RM A m) {l : Nat} (hl : l < A 0 1) : M_end m (nI l) 1 = some (nI (A 2 l)) := M_end_e hs hR hl (w := 1) (by omega)
theorem reach2 {t : Nat} (v2 : Int32) (ht : t < 16) (k : Int32 → St → Option St) : ∀ (fu i : Nat) (m : St), i ≤ 16 → 16 < i + fu → (∀ v, v < i → gt m 12 v = nI (x0 1000000000 t v)) → ∃ m2, M_reaches_L2 k fu (nI t) v2 (nI i) m = k v2 m2 ∧ F12 m m2 ∧ RX (x0 1000000000 t) m2 := by
  intro fu
  induction fu with
  | zero => intro i m h1 h2; omega
  | succ fu ih =>
    intro i m h1 h2 h3
    rw [M_reaches_L2]; unfold M_reaches_B2
    rw [li16]
    simp (disch := omega) only [b1_some, b2_some, lt_e, rd_n, wr_n, nI_add, pk_mul, nI_leI, nI_ltI, nI_eq, nI_1]
    by_cases e : i < 16
    · rw [if_neg (by omega)]
      (try simp (disch := omega) only [b1_some, b2_some, lt_e, rd_n, wr_n, nI_add, pk_mul, nI_leI, nI_ltI, nI_eq, nI_1])
      have fin : ∀ y, y = x0 1000000000 t i → ∃ m2, M_reaches_L2 k fu (nI t) v2 (nI (i + 1)) (st m 12 i (nI y)) = k v2 m2 ∧ F12 m m2 ∧ RX (x0 1000000000 t) m2 := fun y hy => by
        obtain ⟨m2, g1, g2, g3⟩ := ih (i + 1) (st m 12 i (nI y)) (by omega) (by omega) (fun v hv => by
          by_cases d : v = i
          · subst d; rw [gt_st_same, hy]
          · rw [gt_st_i d]; exact h3 v (by omega))
        exact ⟨m2, g1, F12.st.tr g2, g3⟩
      by_cases d : i = t
      · rw [if_pos d, li0]; exact fin 0 (by unfold x0; rw [if_pos d])
      · rw [if_neg d, li_far]; exact fin 1000000000 (by unfold x0; rw [if_neg d])
    · rw [if_pos (by omega)]
      exact ⟨m, rfl, F12.rf, fun v hv => h3 v (by omega)⟩
theorem reach42 {A : Ab} (hs : WFs A) (ht : WFt A) (hc : WFc A) {R : Nat} (hb : R < 2 ^ 30) (v3 : Int32) {X : Nat → Nat} (hX : ∀ u, X u ≤ 1000000000) (k : Int32 → Int32 → St → Option St) : ∀ (fu l : Nat) (m : St), RM A m → RX (rM A R l X) m → l ≤ A 0 1 → A 0 1 < l + fu → ∃ m2, M_reaches_L42 k fu (nI R) v3 (nI l) m = k (nI R) v3 m2 ∧ F12 m m2 ∧ RX (rM A R (A 0 1) X) m2 := by
  have hN := hs.1
  intro fu
  induction fu with
  | zero => intro l m _ _ h1 h2; omega
  | succ fu ih =>
    intro l m hR hX2 h1 h2
    rw [M_reaches_L42]; unfold M_reaches_B42
    rw [show rd 172 m 2 1 = some (nI (A 0 1)) by rw [rd_at 1 li1 (by omega) (by omega), hR.g1]]
    simp (disch := omega) only [b1_some, b2_some, lt_e, rd_n, wr_n, nI_add, pk_mul, nI_leI, nI_ltI, nI_eq, nI_1]
    by_cases e : l < A 0 1
    · rw [if_neg (by omega), M_end0 hs hR e, M_end1 hs hR e, M_isFit_e hs hc hR e hb]
      simp (disch := omega) only [b1_some, b2_some, lt_e, rd_n, wr_n, nI_add, pk_mul, nI_leI, nI_ltI, nI_eq, nI_1]
      obtain ⟨q1, q2, q3, q4, q5⟩ := hs.2.1 l e
      have hstep : rM A R (l + 1) X = rlk (gM A R) (wM A) (A 1) (A 2) l (rM A R l X) := rfl
      have skip : ¬ (A 8 l = 1 ∧ R ≤ A 7 l ∧ A 10 (A 1 l) = 0 ∧ A 10 (A 2 l) = 0) → ∃ m2, M_reaches_L42 k fu (nI R) v3 (nI (l + 1)) m = k (nI R) v3 m2 ∧ F12 m m2 ∧ RX (rM A R (A 0 1) X) m2 := fun q => by
        refine ih (l + 1) m hR ?_ (by omega) (by omega)
        rw [hstep]
        unfold rlk
        have z1 : ¬ gM A R l (A 1 l) (A 2 l) = true := fun z => q (of_decide_eq_true z)
        have z2 : ¬ gM A R l (A 2 l) (A 1 l) = true := fun z => q (by have z := of_decide_eq_true z; exact ⟨z.1, z.2.1, z.2.2.2, z.2.2.1⟩)
        rw [if_neg z2, if_neg z1]; exact hX2
      by_cases c1 : A 8 l = 1 ∧ R ≤ A 7 l
      · rw [if_pos c1, if_neg (by decide), M_isIn_e (par_bd hs ht) hR (by omega), b1_some]
        by_cases c2 : A 10 (A 1 l) = 0
        · rw [if_pos c2, if_pos rfl, M_isIn_e (par_bd hs ht) hR (by omega), b1_some]
          by_cases c3 : A 10 (A 2 l) = 0
          · rw [if_pos c3, if_pos rfl, M_delayOf_e hs hR e]
            have hxa : ∀ u, rM A R l X u ≤ 1000000000 := fun u => Nat.le_trans (rdF_le u l) (hX u)
            have ea := hX2 (A 1 l) (by omega)
            have eb := hX2 (A 2 l) (by omega)
            have ba := hxa (A 1 l)
            have bb := hxa (A 2 l)
            have g1 : gM A R l (A 1 l) (A 2 l) = true := decide_eq_true ⟨c1.1, c1.2, c2, c3⟩
            have g2 : gM A R l (A 2 l) (A 1 l) = true := decide_eq_true ⟨c1.1, c1.2, c3, c2⟩
            have hw : wM A l ≤ 9901 := by unfold wM; omega
            have hwe : (100 : Int32) * nI (A 3 l) + 1 = nI (wM A l) := by rw [li100, pk_mul, nI_1]; rfl
            rw [b1_some, hwe]
            try rw [lt_e]
            simp (disch := omega) only [b1_some, b2_some, lt_e, rd_n, wr_n, nI_add, pk_mul, nI_leI, nI_ltI, nI_eq, nI_1, ea, eb]
            -- the second half, from what is written first
            have half : ∀ y, y = rl (rM A R l X) (A 1 l) (A 2 l) (wM A l) (A 1 l) → ∃ m2, M_reaches_J161 k (M_reaches_L42 k fu) (nI R) v3 (nI l) (nI (A 1 l)) (nI (A 2 l)) (nI (wM A l)) (nI y) (nI (A 1 l)) m = k (nI R) v3 m2 ∧ F12 m m2 ∧ RX (rM A R (A 0 1) X) m2 := fun y hy => by
              have hyb : y ≤ 1000000000 := by rw [hy]; exact Nat.le_trans (rl_le _) ba
              have hXa : RX (rl (rM A R l X) (A 1 l) (A 2 l) (wM A l)) (st m 12 (A 1 l) (nI y)) := hX2.st hy.symm (fun u hu => if_neg hu)
              have fa := hXa (A 1 l) (by omega)
              have fb := hXa (A 2 l) (by omega)
              have hfb : rl (rM A R l X) (A 1 l) (A 2 l) (wM A l) (A 2 l) ≤ 1000000000 := Nat.le_trans (rl_le _) bb
              have hfa : rl (rM A R l X) (A 1 l) (A 2 l) (wM A l) (A 1 l) ≤ 1000000000 := Nat.le_trans (rl_le _) ba
              unfold M_reaches_J161
              simp (disch := omega) only [b1_some, b2_some, lt_e, rd_n, wr_n, nI_add, pk_mul, nI_leI, nI_ltI, nI_eq, nI_1, fa, fb]
              have fin : ∀ x, x = rM A R (l + 1) X (A 2 l) → ∃ m2, M_reaches_L42 k fu (nI R) v3 (nI (l + 1)) (st (st m 12 (A 1 l) (nI y)) 12 (A 2 l) (nI x)) = k (nI R) v3 m2 ∧ F12 m m2 ∧ RX (rM A R (A 0 1) X) m2 := fun x hx => by
                have hF : F12 m (st (st m 12 (A 1 l) (nI y)) 12 (A 2 l) (nI x)) := F12.st.tr F12.st
                obtain ⟨m2, w1, w2, w3⟩ := ih (l + 1) _ (hF.rm hR) (hXa.st hx.symm (fun u hu => by
                  rw [hstep]
                  unfold rlk
                  rw [if_pos g2, if_pos g1]
                  exact if_neg hu)) (by omega) (by omega)
                exact ⟨m2, w1, hF.tr w2, w3⟩
              have hval : rM A R (l + 1) X (A 2 l) = min (rl (rM A R l X) (A 1 l) (A 2 l) (wM A l) (A 2 l)) (rl (rM A R l X) (A 1 l) (A 2 l) (wM A l) (A 1 l) + wM A l) := by
                rw [hstep]; unfold rlk; rw [if_pos g2, if_pos g1]; exact if_pos rfl
              by_cases d : rl (rM A R l X) (A 1 l) (A 2 l) (wM A l) (A 2 l) ≤ rl (rM A R l X) (A 1 l) (A 2 l) (wM A l) (A 1 l) + wM A l
              · rw [if_pos d]; exact fin _ (by omega)
              · rw [if_neg d]; exact fin _ (by omega)
            have hval : rl (rM A R l X) (A 1 l) (A 2 l) (wM A l) (A 1 l) = min (rM A R l X (A 1 l)) (rM A R l X (A 2 l) + wM A l) := if_pos rfl
            by_cases d : rM A R l X (A 1 l) ≤ rM A R l X (A 2 l) + wM A l
            · rw [if_pos d]; exact half _ (by omega)
            · rw [if_neg d]; exact half _ (by omega)
          · rw [if_neg c3, if_neg (by decide)]; exact skip (fun z => c3 z.2.2.2)
        · rw [if_neg c2, if_neg (by decide)]; exact skip (fun z => c2 z.2.2.1)
      · rw [if_neg c1, if_pos rfl]; exact skip (fun z => c1 ⟨z.1, z.2.1⟩)
    · rw [if_pos (by omega)]
      have : l = A 0 1 := by omega
      subst this
      exact ⟨m, rfl, F12.rf, hX2⟩
theorem iM_le {A : Ab} {R t : Nat} (i u : Nat) : iM A R t i u ≤ 1000000000 := by
  have := itF_mono (g := gM A R) (wt := wM A) (e1 := A 1) (e2 := A 2) (L := A 0 1) (X := x0 1000000000 t) u i 0
  rw [Nat.zero_add] at this
  refine Nat.le_trans this ?_
  show x0 1000000000 t u ≤ 1000000000
  unfold x0; split <;> omega
theorem reach33 {A : Ab} (hs : WFs A) (ht : WFt A) (hc : WFc A) {R t : Nat} (hb : R < 2 ^ 30) : ∀ (fu i : Nat) (m : St), RM A m → RX (iM A R t i) m → i ≤ 16 → 16 < i + fu → ∃ m2, M_reaches_L33 fu (nI R) (nI i) m = some m2 ∧ F12 m m2 ∧ RX (iM A R t 16) m2 := by
  have hN := hs.1
  intro fu
  induction fu with
  | zero => intro i m _ _ h1 h2; omega
  | succ fu ih =>
    intro i m hR hX h1 h2
    rw [M_reaches_L33]; unfold M_reaches_B33
    rw [li16]
    simp (disch := omega) only [b1_some, b2_some, lt_e, rd_n, wr_n, nI_add, pk_mul, nI_leI, nI_ltI, nI_eq, nI_1]
    by_cases e : i < 16
    · rw [if_neg (by omega), li0]
      obtain ⟨m2, g1, g2, g3⟩ := reach42 hs ht hc hb (nI i) (iM_le i) (fun y33 y34 q35 => M_reaches_L33 fu y33 (y34 + 1) q35) FU 0 m hR hX (by omega) (by rw [FU_e]; omega)
      rw [g1, nI_1]
      obtain ⟨m3, f1, f2, f3⟩ := ih (i + 1) m2 (g2.rm hR) g3 (by omega) (by omega)
      exact ⟨m3, f1, g2.tr f2, f3⟩
    · rw [if_pos (by omega)]
      have : i = 16 := by omega
      subst this
      exact ⟨m, rfl, F12.rf, hX⟩
theorem M_reaches_e {A : Ab} {m : St} (hs : WFs A) (ht : WFt A) (hc : WFc A) (hR : RM A m) {R t : Nat} (hb : R < 2 ^ 30) (ht16 : t < 16) : ∃ m2, M_reaches m (nI t) (nI R) = some m2 ∧ F12 m m2 ∧ RX (iM A R t 16) m2 := by
  unfold M_reaches
  rw [li0]
  obtain ⟨m2, g1, g2, g3⟩ := reach2 (nI R) ht16 (fun y5 q6 => M_reaches_L33 FU y5 (nI 0) q6) FU 0 m (by omega) (by rw [FU_e]; omega) (fun v hv => by omega)
  rw [g1]
  obtain ⟨m3, f1, f2, f3⟩ := reach33 hs ht hc hb (t := t) FU 0 m2 (g2.rm hR) g3 (by omega) (by rw [FU_e]; omega)
  exact ⟨m3, f1, g2.tr f2, f3⟩
