/-! ===== PHASE B: ways, in the reference ===== -/
def lq (A : Ab) (a b : Nat) : Nat := if lnk A a b < A 0 1 ∧ ((A 1 (lnk A a b) = a ∧ A 2 (lnk A a b) = b) ∨ (A 1 (lnk A a b) = b ∧ A 2 (lnk A a b) = a)) then 1 else 0
theorem lq_iff {A : Ab} {a b : Nat} : lq A a b = 1 ↔ Lk A a b (lnk A a b) := by
  unfold lq Lk
  split
  · rename_i c; exact ⟨fun _ => c, fun _ => rfl⟩
  · rename_i c; exact ⟨fun x => by omega, fun x => absurd x c⟩
theorem lq_of {A : Ab} (hs : WFs A) {a b l : Nat} (h : Lk A a b l) : lq A a b = 1 := lq_iff.mpr (by rw [lnk_e hs h]; exact h)
theorem M_linkAt_q {A : Ab} {m : St} (hs : WFs A) (hR : RM A m) {a b : Nat} (ha : a < 16) (hb : b < 16) : M_linkAt m (nI a) (nI b) = some (if lq A a b = 1 then nI (lnk A a b) else -2) := by
  by_cases c : lq A a b = 1
  · rw [if_pos c]; exact M_linkAt_some hs hR ha hb (lq_iff.mp c)
  · rw [if_neg c]; exact M_linkAt_none hs hR ha hb (fun l hl => c (lq_of hs hl))
/-- what it costs to go on from v by u -/
def cM (A : Ab) (R : Nat) (X : Nat → Nat) (v u : Nat) : Nat := if A 10 u = 0 ∧ lq A v u = 1 ∧ A 8 (lnk A v u) = 1 ∧ R ≤ A 7 (lnk A v u) ∧ X u < 1000000000 then X u + wM A (lnk A v u) else 1000000000
def onw (A : Ab) (R : Nat) (X : Nat → Nat) (v : Nat) : Nat := (am (cM A R X v) 1000000000 (A 0 0)).1
def bI (b : Nat) : Int32 := if b = 99 then -2 else nI b
theorem am_2 {c : Nat → Nat} {F : Nat} : ∀ k, (am c F k).2 ≤ F := by
  intro k
  induction k with
  | zero => exact Nat.le_refl _
  | succ k ih => rw [am]; split
                 · rename_i h; exact Nat.le_trans (Nat.le_of_lt h) ih
                 · exact ih
theorem bI_u {u : Nat} (h : u < 16) : bI u = nI u := if_neg (by omega)
theorem onward10 {A : Ab} {m : St} (hs : WFs A) (ht : WFt A) (hc : WFc A) (hR : RM A m) {R v : Nat} {X : Nat → Nat} (hX : RX X m) (hXb : ∀ u, X u ≤ 1000000000) (hb : R < 2 ^ 30) (hv : v < 16) : ∀ (fu u : Nat), u ≤ A 0 0 → A 0 0 < u + fu → M_onward_L10 m fu (nI v) (nI R) (bI (am (cM A R X v) 1000000000 u).1) (nI (am (cM A R X v) 1000000000 u).2) (nI u) = some (bI (onw A R X v)) := by
  have hN := hs.1
  intro fu
  induction fu with
  | zero => intro u h1 h2; omega
  | succ fu ih =>
    intro u h1 h2
    rw [M_onward_L10]; unfold M_onward_B10
    rw [show rd 172 m 2 0 = some (nI (A 0 0)) by rw [rd_at 0 li0 (by omega) (by omega), hR.g0]]
    simp (disch := omega) only [b1_some, b2_some, lt_e, rd_n, wr_n, nI_add, pk_mul, nI_leI, nI_ltI, nI_eq, nI_1]
    by_cases e : u < A 0 0
    · rw [if_neg (by omega), M_isIn_e (par_bd hs ht) hR (by omega), b1_some]
      have nx := ih (u + 1) (by omega) (by omega)
      have skip : 1000000000 ≤ cM A R X v u ∨ (am (cM A R X v) 1000000000 u).2 ≤ cM A R X v u → M_onward_L10 m fu (nI v) (nI R) (bI (am (cM A R X v) 1000000000 u).1) (nI (am (cM A R X v) 1000000000 u).2) (nI (u + 1)) = some (bI (onw A R X v)) := fun q => by
        have hle := am_2 (c := cM A R X v) (F := 1000000000) u
        rw [am, if_neg (by rcases q with q | q <;> omega)] at nx
        exact nx
      by_cases c1 : A 10 u = 0
      · rw [if_pos c1, if_pos rfl, M_linkAt_q hs hR hv (by omega), b1_some]
        unfold M_onward_J42
        by_cases c2 : lq A v u = 1
        · have hl := (lq_iff.mp c2).1
          have hl32 : lnk A v u < 2 ^ 31 := by omega
          rw [if_pos c2, if_neg (nI_pos hl32), M_isFit_e hs hc hR hl hb, b1_some]
          by_cases c3 : A 8 (lnk A v u) = 1 ∧ R ≤ A 7 (lnk A v u)
          · rw [if_pos c3, if_neg (by decide)]
            have hxu := hXb u
            have eu := hX u (by omega)
            have hd := hs.2.1 _ hl
            rw [M_delayOf_e hs hR hl]
            simp (disch := omega) only [b1_some, b2_some, lt_e, rd_n, wr_n, nI_add, pk_mul, nI_leI, nI_ltI, nI_eq, nI_1, li_far, li100, eu]
            by_cases c4 : X u < 1000000000
            · rw [if_neg (by omega)]
              have hcost : cM A R X v u = X u + (100 * A 3 (lnk A v u) + 1) := if_pos ⟨c1, c2, c3.1, c3.2, c4⟩
              have hle := am_2 (c := cM A R X v) (F := 1000000000) u
              (try simp (disch := omega) only [b1_some, b2_some, lt_e, rd_n, wr_n, nI_add, pk_mul, nI_leI, nI_ltI, nI_eq, nI_1])
              by_cases c5 : (am (cM A R X v) 1000000000 u).2 ≤ X u + 100 * A 3 (lnk A v u) + 1
              · rw [if_pos c5]; exact skip (Or.inr (by omega))
              · rw [if_neg c5]
                rw [am, if_pos (by omega)] at nx
                have nx : M_onward_L10 m fu (nI v) (nI R) (bI u) (nI (cM A R X v u)) (nI (u + 1)) = some (bI (onw A R X v)) := nx
                rw [bI_u (by omega), hcost] at nx
                exact nx
            · rw [if_pos (by omega)]
              exact skip (Or.inl (by unfold cM; rw [if_neg (fun z => c4 z.2.2.2.2)]; exact Nat.le_refl _))
          · rw [if_neg c3, if_pos rfl, nI_1]
            exact skip (Or.inl (by unfold cM; rw [if_neg (fun z => c3 ⟨z.2.2.1, z.2.2.2.1⟩)]; exact Nat.le_refl _))
        · rw [if_neg c2, if_pos (by decide), nI_1]
          exact skip (Or.inl (by unfold cM; rw [if_neg (fun z => c2 z.2.1)]; exact Nat.le_refl _))
      · rw [if_neg c1, if_neg (by decide)]
        unfold M_onward_J42
        rw [if_pos (by decide), nI_1]
        exact skip (Or.inl (by unfold cM; rw [if_neg (fun z => c1 z.1)]; exact Nat.le_refl _))
    · rw [if_pos (by omega)]
      have : u = A 0 0 := by omega
      subst this
      rfl
theorem M_onward_e {A : Ab} {m : St} (hs : WFs A) (ht : WFt A) (hc : WFc A) (hR : RM A m) {R v : Nat} {X : Nat → Nat} (hX : RX X m) (hXb : ∀ u, X u ≤ 1000000000) (hb : R < 2 ^ 30) (hv : v < 16) : M_onward m (nI v) (nI R) = some (bI (onw A R X v)) := by
  have hN := hs.1
  unfold M_onward
  have := onward10 hs ht hc hR hX hXb hb hv FU 0 (by omega) (by rw [FU_e]; omega)
  rw [li0, li_far]
  exact this
theorem onw_sp {A : Ab} {R v : Nat} {X : Nat → Nat} (h : onw A R X v ≠ 99) : onw A R X v < A 0 0 ∧ A 10 (onw A R X v) = 0 ∧ lq A v (onw A R X v) = 1 ∧ A 8 (lnk A v (onw A R X v)) = 1 ∧ R ≤ A 7 (lnk A v (onw A R X v)) ∧ X (onw A R X v) < 1000000000 ∧ (am (cM A R X v) 1000000000 (A 0 0)).2 = X (onw A R X v) + wM A (lnk A v (onw A R X v)) ∧ (am (cM A R X v) 1000000000 (A 0 0)).2 < 1000000000 ∧ ∀ u, u < A 0 0 → (am (cM A R X v) 1000000000 (A 0 0)).2 ≤ cM A R X v u := by
  rcases am_sp (c := cM A R X v) (F := 1000000000) (A 0 0) with ⟨a, b⟩ | ⟨a1, a2, a3, a4, a5⟩
  · exact absurd (show (am (cM A R X v) 1000000000 (A 0 0)).1 = 99 by rw [a]) h
  · have h2 : cM A R X v (onw A R X v) < 1000000000 := by
      have : cM A R X v (onw A R X v) = (am (cM A R X v) 1000000000 (A 0 0)).2 := a2.symm
      omega
    have h3 : A 10 (onw A R X v) = 0 ∧ lq A v (onw A R X v) = 1 ∧ A 8 (lnk A v (onw A R X v)) = 1 ∧ R ≤ A 7 (lnk A v (onw A R X v)) ∧ X (onw A R X v) < 1000000000 := by
      apply Classical.byContradiction
      intro n
      unfold cM at h2
      rw [if_neg n] at h2
      omega
    refine ⟨a1, h3.1, h3.2.1, h3.2.2.1, h3.2.2.2.1, h3.2.2.2.2, ?_, a3, a4⟩
    rw [a2]
    exact if_pos h3
theorem M_costBy_e {A : Ab} {m : St} (hs : WFs A) (hR : RM A m) {R v : Nat} {X : Nat → Nat} (hX : RX X m) (hv : v < 16) (h : onw A R X v ≠ 99) : M_costBy m (nI v) (nI (onw A R X v)) = some (nI (am (cM A R X v) 1000000000 (A 0 0)).2) := by
  have hN := hs.1
  obtain ⟨h1, h2, h3, h4, h5, h6, h7, h8⟩ := onw_sp h
  unfold M_costBy
  have hl := (lq_iff.mp h3).1
  rw [M_linkAt_q hs hR hv (by omega), if_pos h3]
  simp (disch := omega) only [b1_some, b2_some, lt_e, rd_n, wr_n, nI_add, pk_mul, nI_leI, nI_ltI, nI_eq, nI_1, hX (onw A R X v) (by omega)]
  rw [M_delayOf_e hs hR hl]
  simp (disch := omega) only [b1_some, b2_some, lt_e, rd_n, wr_n, nI_add, pk_mul, nI_leI, nI_ltI, nI_eq, nI_1, li100]
  rw [h7]
  rfl
/-- what a graft that leaves the tree at v costs -/
def cL (A : Ab) (R : Nat) (X : Nat → Nat) (v : Nat) : Nat := if A 10 v ≠ 0 ∧ onw A R X v ≠ 99 then 100 * dl A v + (am (cM A R X v) 1000000000 (A 0 0)).2 else 1000000000
def frs (A : Ab) (R : Nat) (X : Nat → Nat) : Nat := (am (cL A R X) 1000000000 (A 0 0)).1
theorem lays21 {A : Ab} {m : St} (hs : WFs A) (ht : WFt A) (hc : WFc A) (hR : RM A m) {R : Nat} {X : Nat → Nat} (hX : RX X m) (hXb : ∀ u, X u ≤ 1000000000) (hb : R < 2 ^ 30) (v1 : Int32) (k : Int32 → Int32 → Int32 → Option (Int32 × St)) : ∀ (fu v : Nat), v ≤ A 0 0 → A 0 0 < v + fu → M_lays_L21 m k fu v1 (nI R) (bI (am (cL A R X) 1000000000 v).1) (nI (am (cL A R X) 1000000000 v).2) (nI v) = k v1 (nI R) (bI (frs A R X)) := by
  have hN := hs.1
  intro fu
  induction fu with
  | zero => intro u h1 h2; omega
  | succ fu ih =>
    intro v h1 h2
    rw [M_lays_L21]; unfold M_lays_B21
    rw [show rd 172 m 2 0 = some (nI (A 0 0)) by rw [rd_at 0 li0 (by omega) (by omega), hR.g0]]
    simp (disch := omega) only [b1_some, b2_some, lt_e, rd_n, wr_n, nI_add, pk_mul, nI_leI, nI_ltI, nI_eq, nI_1]
    by_cases e : v < A 0 0
    · rw [if_neg (by omega), M_isIn_e (par_bd hs ht) hR (by omega), b1_some]
      have nx := ih (v + 1) (by omega) (by omega)
      have hle := am_2 (c := cL A R X) (F := 1000000000) v
      have skip : 1000000000 ≤ cL A R X v ∨ (am (cL A R X) 1000000000 v).2 ≤ cL A R X v → M_lays_L21 m k fu v1 (nI R) (bI (am (cL A R X) 1000000000 v).1) (nI (am (cL A R X) 1000000000 v).2) (nI (v + 1)) = k v1 (nI R) (bI (frs A R X)) := fun q => by
        rw [am, if_neg (by rcases q with q | q <;> omega)] at nx
        exact nx
      by_cases c1 : A 10 v = 0
      · rw [if_pos c1, if_pos rfl]
        unfold M_lays_J53
        rw [if_pos (by decide), nI_1]
        exact skip (Or.inl (by unfold cL; rw [if_neg (fun z => z.1 c1)]; exact Nat.le_refl _))
      · rw [if_neg c1, if_neg (by decide), M_onward_e hs ht hc hR hX hXb hb (by omega), b1_some]
        unfold M_lays_J53
        by_cases c2 : onw A R X v = 99
        · rw [show bI (onw A R X v) = -2 from if_pos c2, if_pos (by decide), nI_1]
          exact skip (Or.inl (by unfold cL; rw [if_neg (fun z => z.2 c2)]; exact Nat.le_refl _))
        · have hsp := onw_sp c2
          have hin : inT A v := ⟨by omega, c1⟩
          have hdl := dl_le hs ht v hin
          have hdp := (dep_le hs ht hin).1
          have h9 := hsp.2.2.2.2.2.2.2.1
          have ho := hsp.1
          rw [show bI (onw A R X v) = nI (onw A R X v) from if_neg c2, if_neg (nI_pos (by omega)), M_delayTo_e hs ht hR hin, M_costBy_e hs hR hX (by omega) c2]
          have hcost : cL A R X v = 100 * dl A v + (am (cM A R X v) 1000000000 (A 0 0)).2 := if_pos ⟨c1, c2⟩
          simp (disch := omega) only [b1_some, b2_some, lt_e, rd_n, wr_n, nI_add, pk_mul, nI_leI, nI_ltI, nI_eq, nI_1, li100]
          by_cases c5 : (am (cL A R X) 1000000000 v).2 ≤ 100 * dl A v + (am (cM A R X v) 1000000000 (A 0 0)).2
          · rw [if_pos c5]; exact skip (Or.inr (by omega))
          · rw [if_neg c5]
            rw [am, if_pos (by omega)] at nx
            have nx : M_lays_L21 m k fu v1 (nI R) (bI v) (nI (cL A R X v)) (nI (v + 1)) = k v1 (nI R) (bI (frs A R X)) := nx
            rw [bI_u (by omega), hcost] at nx
            exact nx
    · rw [if_pos (by omega)]
      have : v = A 0 0 := by omega
      subst this
      rfl
