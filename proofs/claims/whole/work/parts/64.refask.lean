/-! ===== PHASE B: the reference's asksFrom, over numbers ===== -/
/-- the scratch: D 0 demands, D 1 asks, D 2 loads of links, D 3 loads of nodes -/
def RS (D : Ab) (m : St) : Prop := (∀ i, i < 64 → gt m 7 i = nI (D 0 i)) ∧ (∀ i, i < 64 → gt m 8 i = nI (D 1 i)) ∧ (∀ i, i < 32 → gt m 9 i = nI (D 2 i)) ∧ (∀ i, i < 16 → gt m 10 i = nI (D 3 i))
/-- only the scratch has changed -/
def Fr (m m2 : St) : Prop := (∀ k, k < 7 ∨ 11 ≤ k → m2.1 k = m.1 k) ∧ m2.2 = m.2
theorem Fr.rf {m : St} : Fr m m := ⟨fun _ _ => rfl, rfl⟩
theorem Fr.tr {a b c : St} (h : Fr a b) (h2 : Fr b c) : Fr a c := ⟨fun k hk => (h2.1 k hk).trans (h.1 k hk), h2.2.trans h.2⟩
theorem Fr.st {m : St} {k i : Nat} {v : Int32} (hk : 7 ≤ k ∧ k < 11) : Fr m (st m k i v) := ⟨fun j hj => st_row_ne (by omega), rfl⟩
theorem Fr.rm {A : Ab} {m m2 : St} (h : Fr m m2) (hr : RM A m) : RM A m2 := by
  unfold RM
  rw [h.1 2 (by omega), h.1 4 (by omega)]
  exact hr
def up2 (D : Ab) (c i v : Nat) : Ab := fun a j => if a = c ∧ j = i then v else D a j
theorem up2_same {D : Ab} {c i v : Nat} : up2 D c i v c i = v := by unfold up2; rw [if_pos ⟨rfl, rfl⟩]
theorem up2_ne {D : Ab} {c i v a j : Nat} (h : a ≠ c ∨ j ≠ i) : up2 D c i v a j = D a j := by unfold up2; rw [if_neg (fun e => h.elim (fun n => n e.1) (fun n => n e.2))]
theorem RS.up {D : Ab} {m : St} (h : RS D m) {c i v : Nat} (hc : c < 4) : RS (up2 D c i v) (st m (7 + c) i (nI v)) := by
  refine ⟨fun j hj => ?_, fun j hj => ?_, fun j hj => ?_, fun j hj => ?_⟩ <;> rw [gt_st] <;> unfold up2
  · by_cases e : c = 0 ∧ j = i
    · rw [if_pos ⟨by omega, e.2⟩, if_pos ⟨e.1.symm, e.2⟩]
    · rw [if_neg (fun x => e ⟨by omega, x.2⟩), if_neg (fun x => e ⟨x.1.symm, x.2⟩)]; exact h.1 j hj
  · by_cases e : c = 1 ∧ j = i
    · rw [if_pos ⟨by omega, e.2⟩, if_pos ⟨e.1.symm, e.2⟩]
    · rw [if_neg (fun x => e ⟨by omega, x.2⟩), if_neg (fun x => e ⟨x.1.symm, x.2⟩)]; exact h.2.1 j hj
  · by_cases e : c = 2 ∧ j = i
    · rw [if_pos ⟨by omega, e.2⟩, if_pos ⟨e.1.symm, e.2⟩]
    · rw [if_neg (fun x => e ⟨by omega, x.2⟩), if_neg (fun x => e ⟨x.1.symm, x.2⟩)]; exact h.2.2.1 j hj
  · by_cases e : c = 3 ∧ j = i
    · rw [if_pos ⟨by omega, e.2⟩, if_pos ⟨e.1.symm, e.2⟩]
    · rw [if_neg (fun x => e ⟨by omega, x.2⟩), if_neg (fun x => e ⟨x.1.symm, x.2⟩)]; exact h.2.2.2 j hj
theorem M_wants_e {D : Ab} {m : St} (h : RS D m) (hb : ∀ i, i < 64 → D 0 i ≤ 5) {n f v : Nat} (hn : n < 16) (hf : f < 4) (hv : v ≤ 5) : M_wants m (nI n) (nI f) (nI v) = some (st m 7 (4 * n + f) (nI (max (D 0 (4 * n + f)) v))) := by
  unfold M_wants
  rw [rd_at (4 * n + f) (by simp only [li4, pk_mul, nI_add]) (by omega) (by omega), b1_some, h.1 (4 * n + f) (by omega)]
  have hb1 := hb (4 * n + f) (by omega)
  have e : M_most m (nI (D 0 (4 * n + f))) (nI v) = some (nI (max (D 0 (4 * n + f)) v)) := by
    unfold M_most
    by_cases c : D 0 (4 * n + f) ≤ v
    · rw [if_pos ((nI_leI (by omega) (by omega)).mpr c), Nat.max_eq_right c]
    · rw [if_neg (fun e => c ((nI_leI (by omega) (by omega)).mp e)), Nat.max_eq_left (by omega)]
  rw [e, b1_some, wr_at (4 * n + f) (by simp only [li4, pk_mul, nI_add]) (by omega) (by omega), b1_some]
/-- the native demand of a node out of its converters below format f, and their load -/
def c0 (A D : Ab) (n : Nat) : Nat → Nat
  | 0 => D 0 (4 * n)
  | g + 1 => if g ≠ 0 ∧ A 9 (4 * n + g) = 1 then max (c0 A D n g) (D 0 (4 * n + g)) else c0 A D n g
def cs (A D : Ab) (n : Nat) : Nat → Nat
  | 0 => 0
  | g + 1 => if g ≠ 0 ∧ A 9 (4 * n + g) = 1 then cs A D n g + A 5 g * D 0 (4 * n + g) else cs A D n g
theorem c0_le {A D : Ab} (hb : ∀ i, i < 64 → D 0 i ≤ 5) {n : Nat} (hn : n < 16) : ∀ g, g ≤ 4 → c0 A D n g ≤ 5 := by
  intro g
  induction g with
  | zero => intro _; exact hb _ (by omega)
  | succ g ih =>
    intro hg
    have := ih (by omega)
    have := hb (4 * n + g) (by omega)
    rw [c0]
    split <;> omega
theorem asks1 {A D0 : Ab} (hs : WFs A) (hc : WFc A) {n : Nat} (hn : n < 16) (hb : ∀ i, i < 64 → D0 0 i ≤ 5) (k : Int32 → St → Option St) : ∀ (fu f : Nat) (D : Ab) (m : St), RS D m → RM A m → 1 ≤ f → f ≤ A 0 2 → A 0 2 < f + fu → D 0 (4 * n) = c0 A D0 n f → D 3 n = D0 3 n + cs A D0 n f → (∀ a j, ¬ (a = 0 ∧ j = 4 * n) → ¬ (a = 3 ∧ j = n) → D a j = D0 a j) →
    ∃ (m2 : St) (D2 : Ab), M_asksFrom_L2 k fu (nI n) (nI f) m = k (nI n) m2 ∧ RS D2 m2 ∧ Fr m m2 ∧ D2 0 (4 * n) = c0 A D0 n (A 0 2) ∧ D2 3 n = D0 3 n + cs A D0 n (A 0 2) ∧ (∀ a j, ¬ (a = 0 ∧ j = 4 * n) → ¬ (a = 3 ∧ j = n) → D2 a j = D0 a j) := by
  have hN := hs.1
  intro fu
  induction fu with
  | zero => intro f D m _ _ _ h1 h2; omega
  | succ fu ih =>
    intro f D m hS hR hf1 hf2 hfu h0 h3 hrest
    rw [M_asksFrom_L2]; unfold M_asksFrom_B2
    rw [rd_at 2 li2 (by omega) (by omega), b1_some, show gt m 2 2 = nI (A 0 2) from hR.1.1.2.2.1]
    by_cases e : f < A 0 2
    · rw [if_neg (fun c => by have := (nI_leI (by omega) (by omega)).mp c; omega), M_has_e hc hR hn (by omega), b1_some]
      have ef : D 0 (4 * n + f) = D0 0 (4 * n + f) := hrest 0 _ (by omega) (by omega)
      have hcon := c0_le (A := A) hb hn f (by omega)
      by_cases p : A 9 (4 * n + f) = 1
      · have hbD : ∀ i, i < 64 → D 0 i ≤ 5 := fun i hi => by
          by_cases c : i = 4 * n
          · rw [c, h0]; exact hcon
          · rw [hrest 0 i (by omega) (by omega)]; exact hb i hi
        rw [if_pos p, if_neg (by decide), rd_at (4 * n + f) (by simp only [li4, pk_mul, nI_add]) (by omega) (by omega), b1_some, hS.1 (4 * n + f) (by omega)]
        have hw : M_wants m (nI n) 0 (nI (D 0 (4 * n + f))) = _ := M_wants_e hS hbD hn (f := 0) (by omega) (hbD (4 * n + f) (by omega))
        rw [hw, b1_some]
        have hS1 := hS.up (c := 0) (i := 4 * n + 0) (v := max (D 0 (4 * n + 0)) (D 0 (4 * n + f))) (by omega)
        generalize hm1 : st m 7 (4 * n + 0) (nI (max (D 0 (4 * n + 0)) (D 0 (4 * n + f)))) = m1
        have hS1 : RS (up2 D 0 (4 * n + 0) (max (D 0 (4 * n + 0)) (D 0 (4 * n + f)))) m1 := by rw [← hm1]; exact hS1
        have hF1 : Fr m m1 := by rw [← hm1]; exact Fr.st (by omega)
        have hR1 := hF1.rm hR
        rw [rd_at n rfl (by omega) (by omega), b1_some, rd_at (168 + f) (by simp only [li168, nI_add]) (by omega) (by omega), b1_some, rd_at (4 * n + f) (by simp only [li4, pk_mul, nI_add]) (by omega) (by omega), b1_some, wr_at n rfl (by omega) (by omega), b1_some, hS1.2.2.2 n hn, show gt m1 2 (168 + f) = nI (A 5 f) from hR1.1.2.2.2.1 f (by omega), hS1.1 (4 * n + f) (by omega), up2_ne (by omega), up2_ne (by omega), pk_mul, nI_add, nI_1]
        have hS2 := hS1.up (c := 3) (i := n) (v := D 3 n + A 5 f * D 0 (4 * n + f)) (by omega)
        obtain ⟨m2, D2, g1, g2, g3, g4, g5, g6⟩ := ih (f + 1) _ _ hS2 ((Fr.st (by omega)).rm hR1) (by omega) (by omega) (by omega) (by
          rw [up2_ne (by omega), show 4 * n + 0 = 4 * n by omega, up2_same, c0, if_pos ⟨by omega, p⟩, h0, ef]) (by
          rw [up2_same, cs, if_pos ⟨by omega, p⟩, h3, ef, Nat.add_assoc]) (fun a j x1 x2 => by
          rw [up2_ne (by omega), up2_ne (by omega)]; exact hrest a j x1 x2)
        exact ⟨m2, D2, g1, g2, (hF1.tr (Fr.st (by omega))).tr g3, g4, g5, g6⟩
      · rw [if_neg p, if_pos rfl, nI_1]
        exact ih (f + 1) D m hS hR (by omega) (by omega) (by omega) (by rw [c0, if_neg (fun x => p x.2)]; exact h0) (by rw [cs, if_neg (fun x => p x.2)]; exact h3) hrest
    · rw [if_pos ((nI_leI (by omega) (by omega)).mpr (by omega))]
      have : f = A 0 2 := by omega
      subst this
      exact ⟨m, D, rfl, hS, Fr.rf, h0, h3, hrest⟩
/-- what a node asks in a format -/
def ak (A D : Ab) (n f : Nat) : Nat := if f ≠ 0 ∧ A 9 (4 * n + f) = 1 then 0 else D 0 (4 * n + f)
def sr (A D : Ab) (n : Nat) : Nat → Nat
  | 0 => 0
  | f + 1 => sr A D n f + rt A f (ak A D n f)
theorem asks2 {A D0 : Ab} (hs : WFs A) (hc : WFc A) {n : Nat} (hn : n < 16) (hb : ∀ i, i < 64 → D0 0 i ≤ A 0 3) (k : Int32 → Int32 → St → Option St) : ∀ (fu f : Nat) (D : Ab) (m : St), RS D m → RM A m → f ≤ A 0 2 → A 0 2 < f + fu → (∀ g, g < f → D 1 (4 * n + g) = ak A D0 n g) → (∀ a j, ¬ (a = 1 ∧ 4 * n ≤ j ∧ j < 4 * n + f) → D a j = D0 a j) →
    ∃ (m2 : St) (D2 : Ab), M_asksFrom_L77 k fu (nI n) (nI (sr A D0 n f)) (nI f) m = k (nI n) (nI (sr A D0 n (A 0 2))) m2 ∧ RS D2 m2 ∧ Fr m m2 ∧ (∀ g, g < A 0 2 → D2 1 (4 * n + g) = ak A D0 n g) ∧ (∀ a j, ¬ (a = 1 ∧ 4 * n ≤ j ∧ j < 4 * n + A 0 2) → D2 a j = D0 a j) := by
  have hN := hs.1
  intro fu
  induction fu with
  | zero => intro f D m _ _ h1 h2; omega
  | succ fu ih =>
    intro f D m hS hR hf2 hfu h1 hrest
    rw [M_asksFrom_L77]; unfold M_asksFrom_B77
    rw [rd_at 2 li2 (by omega) (by omega), b1_some, show gt m 2 2 = nI (A 0 2) from hR.1.1.2.2.1]
    by_cases e : f < A 0 2
    · rw [if_neg (fun c => by have := (nI_leI (by omega) (by omega)).mp c; omega)]
      have ef : D 0 (4 * n + f) = D0 0 (4 * n + f) := hrest 0 _ (by omega)
      have hJ : ∀ z, z = ak A D0 n f → z ≤ A 0 3 → ∃ (m2 : St) (D2 : Ab), M_asksFrom_J114 k (M_asksFrom_L77 k fu) (nI n) (nI (sr A D0 n f)) (nI f) (nI z) m = k (nI n) (nI (sr A D0 n (A 0 2))) m2 ∧ RS D2 m2 ∧ Fr m m2 ∧ (∀ g, g < A 0 2 → D2 1 (4 * n + g) = ak A D0 n g) ∧ (∀ a j, ¬ (a = 1 ∧ 4 * n ≤ j ∧ j < 4 * n + A 0 2) → D2 a j = D0 a j) := by
        intro z hz hz5
        unfold M_asksFrom_J114
        rw [wr_at (4 * n + f) (by simp only [li4, pk_mul, nI_add]) (by omega) (by omega), b1_some]
        have hF : Fr m (st m 8 (4 * n + f) (nI z)) := Fr.st (by omega)
        have hR1 := hF.rm hR
        rw [M_rateOf_e hs hR1 e hz5, b1_some, lt_e, nI_add, nI_1]
        have hS1 := hS.up (c := 1) (i := 4 * n + f) (v := z) (by omega)
        have hsr : sr A D0 n f + rt A f z = sr A D0 n (f + 1) := by rw [sr, hz]
        rw [hsr]
        obtain ⟨m2, D2, g1, g2, g3, g4, g5⟩ := ih (f + 1) _ _ hS1 hR1 (by omega) (by omega) (fun g hg => by
          by_cases c : g = f
          · subst c; rw [up2_same, hz]
          · rw [up2_ne (by omega)]; exact h1 g (by omega)) (fun a j x => by
          rw [up2_ne (by omega)]; exact hrest a j (by omega))
        exact ⟨m2, D2, g1, g2, hF.tr g3, g4, g5⟩
      have hJ4 : (¬ (f ≠ 0 ∧ A 9 (4 * n + f) = 1)) → ∃ (m2 : St) (D2 : Ab), M_asksFrom_J104 k (M_asksFrom_L77 k fu) (nI n) (nI (sr A D0 n f)) (nI f) m = k (nI n) (nI (sr A D0 n (A 0 2))) m2 ∧ RS D2 m2 ∧ Fr m m2 ∧ (∀ g, g < A 0 2 → D2 1 (4 * n + g) = ak A D0 n g) ∧ (∀ a j, ¬ (a = 1 ∧ 4 * n ≤ j ∧ j < 4 * n + A 0 2) → D2 a j = D0 a j) := by
        intro hp
        unfold M_asksFrom_J104
        rw [rd_at (4 * n + f) (by simp only [li4, pk_mul, nI_add]) (by omega) (by omega), b1_some, hS.1 (4 * n + f) (by omega), ef]
        exact hJ _ (by rw [ak, if_neg hp]) (hb _ (by omega))
      by_cases z : f = 0
      · rw [if_pos (by rw [z]; decide)]
        exact hJ4 (fun x => x.1 z)
      · rw [if_neg (fun c => by have := (nI_leI (b := 0) (by omega) (by omega)).mp c; omega), M_has_e hc hR hn (by omega), b1_some]
        by_cases p : A 9 (4 * n + f) = 1
        · rw [if_pos p, if_neg (by decide)]
          exact hJ 0 (by rw [ak, if_pos ⟨z, p⟩]) (by omega)
        · rw [if_neg p, if_pos rfl]
          exact hJ4 (fun x => p x.2)
    · rw [if_pos ((nI_leI (by omega) (by omega)).mpr (by omega))]
      have : f = A 0 2 := by omega
      subst this
      exact ⟨m, D, rfl, hS, Fr.rf, h1, hrest⟩
theorem asks3 {A D0 : Ab} (hs : WFs A) (ht : WFt A) {n : Nat} (hn : inT A n) (h0 : n ≠ 0) (hb : ∀ i, i < 64 → D0 0 i ≤ 5) (hb1 : ∀ f, f < A 0 2 → D0 1 (4 * n + f) ≤ 5) : ∀ (fu f : Nat) (D : Ab) (m : St), RS D m → RM A m → f ≤ A 0 2 → A 0 2 < f + fu → (∀ g, g < f → D 0 (4 * upn A n + g) = max (D0 0 (4 * upn A n + g)) (D0 1 (4 * n + g))) → (∀ a j, ¬ (a = 0 ∧ 4 * upn A n ≤ j ∧ j < 4 * upn A n + f) → D a j = D0 a j) →
    ∃ (m2 : St) (D2 : Ab), M_asksFrom_L167 fu (nI n) (nI f) m = some m2 ∧ RS D2 m2 ∧ Fr m m2 ∧ (∀ g, g < A 0 2 → D2 0 (4 * upn A n + g) = max (D0 0 (4 * upn A n + g)) (D0 1 (4 * n + g))) ∧ (∀ a j, ¬ (a = 0 ∧ 4 * upn A n ≤ j ∧ j < 4 * upn A n + A 0 2) → D2 a j = D0 a j) := by
  have hN := hs.1
  have hu := (inT_up hs ht hn h0).2.2.1
  have hu16 := hu.1
  have hn16 := hn.1
  intro fu
  induction fu with
  | zero => intro f D m _ _ h1 h2; omega
  | succ fu ih =>
    intro f D m hS hR hf2 hfu h1 hrest
    rw [M_asksFrom_L167]; unfold M_asksFrom_B167
    rw [rd_at 2 li2 (by omega) (by omega), b1_some, show gt m 2 2 = nI (A 0 2) from hR.1.1.2.2.1]
    by_cases e : f < A 0 2
    · rw [if_neg (fun c => by have := (nI_leI (by omega) (by omega)).mp c; omega), M_up_in hs ht hR hn h0, b1_some, rd_at (4 * n + f) (by simp only [li4, pk_mul, nI_add]) (by omega) (by omega), b1_some, hS.2.1 (4 * n + f) (by omega)]
      have e1 : D 1 (4 * n + f) = D0 1 (4 * n + f) := hrest 1 _ (by omega)
      have e0 : D 0 (4 * upn A n + f) = D0 0 (4 * upn A n + f) := hrest 0 _ (by omega)
      have hbD : ∀ i, i < 64 → D 0 i ≤ 5 := fun i hi => by
        by_cases c : 4 * upn A n ≤ i ∧ i < 4 * upn A n + f
        · have := h1 (i - 4 * upn A n) (by omega)
          rw [show 4 * upn A n + (i - 4 * upn A n) = i by omega] at this
          have q1 := hb i hi
          have q2 := hb1 (i - 4 * upn A n) (by omega)
          omega
        · rw [hrest 0 i (by omega)]; exact hb i hi
      rw [M_wants_e hS hbD hu16 (by omega) (by rw [e1]; exact hb1 f e), b1_some, nI_1]
      have hS1 := hS.up (c := 0) (i := 4 * upn A n + f) (v := max (D 0 (4 * upn A n + f)) (D 1 (4 * n + f))) (by omega)
      obtain ⟨m2, D2, g1, g2, g3, g4, g5⟩ := ih (f + 1) _ _ hS1 ((Fr.st (by omega)).rm hR) (by omega) (by omega) (fun g hg => by
        by_cases c : g = f
        · subst c; rw [up2_same, e0, e1]
        · rw [up2_ne (by omega)]; exact h1 g (by omega)) (fun a j x => by
        rw [up2_ne (by omega)]; exact hrest a j (by omega))
      exact ⟨m2, D2, g1, g2, (Fr.st (by omega)).tr g3, g4, g5⟩
    · rw [if_pos ((nI_leI (by omega) (by omega)).mpr (by omega))]
      have : f = A 0 2 := by omega
      subst this
      exact ⟨m, D, rfl, hS, Fr.rf, h1, hrest⟩
