/-! ===== PHASE B: what is wrong, in the reference ===== -/
theorem rd_n {len n : Nat} {q : St} {k : Nat} (h : n < len) (hl : len < 2 ^ 31) : rd len q k (nI n) = some (gt q k n) := rd_at n rfl h hl
theorem wr_n {len n : Nat} {q : St} {k : Nat} {v : Int32} (h : n < len) (hl : len < 2 ^ 31) : wr len q k (nI n) v = some (st q k n v) := wr_at n rfl h hl
theorem RM.g0 {A : Ab} {m : St} (h : RM A m) : gt m 2 0 = nI (A 0 0) := h.1.1.1
theorem RM.g1 {A : Ab} {m : St} (h : RM A m) : gt m 2 1 = nI (A 0 1) := h.1.1.2.1
theorem RM.g2 {A : Ab} {m : St} (h : RM A m) : gt m 2 2 = nI (A 0 2) := h.1.1.2.2.1
theorem RM.g3 {A : Ab} {m : St} (h : RM A m) : gt m 2 3 = nI (A 0 3) := h.1.1.2.2.2
theorem RM.cpu {A : Ab} {m : St} (h : RM A m) {n : Nat} (hn : n < 16) : gt m 2 (132 + n) = nI (A 4 n) := h.1.2.2.1 n hn
theorem RM.cap {A : Ab} {m : St} (h : RM A m) {l : Nat} (hl : l < A 0 1) : gt m 4 l = nI (A 7 l) := (h.2.1 l hl).1
theorem RM.opn {A : Ab} {m : St} (h : RM A m) {l : Nat} (hl : l < A 0 1) : gt m 4 (32 + l) = nI (A 8 l) := (h.2.1 l hl).2
theorem RM.rcv {A : Ab} {m : St} (h : RM A m) : gt m 4 96 = nI (A 0 4) := h.2.2.2.2.1
/-- the first of them that has p, from i on, k many; i + k if none has -/
def fs (p : Nat → Bool) : Nat → Nat → Nat
  | 0, i => i
  | k + 1, i => if p i then i else fs p k (i + 1)
theorem fs_le {p : Nat → Bool} : ∀ k i, i ≤ fs p k i ∧ fs p k i ≤ i + k := by
  intro k
  induction k with
  | zero => intro i; exact ⟨Nat.le_refl _, Nat.le_refl _⟩
  | succ k ih =>
    intro i
    rw [fs]
    have := ih (i + 1)
    split <;> omega
theorem fs_yes {p : Nat → Bool} : ∀ k i, fs p k i < i + k → p (fs p k i) = true := by
  intro k
  induction k with
  | zero => intro i h; rw [fs] at h; omega
  | succ k ih =>
    intro i h
    rw [fs] at h ⊢
    split
    · assumption
    · rename_i c
      rw [if_neg c] at h
      exact ih (i + 1) (by omega)
theorem fs_not {p : Nat → Bool} : ∀ k i j, i ≤ j → j < fs p k i → p j = false := by
  intro k
  induction k with
  | zero => intro i j h1 h2; rw [fs] at h2; omega
  | succ k ih =>
    intro i j h1 h2
    rw [fs] at h2
    split at h2
    · omega
    · rename_i c
      by_cases e : j = i
      · subst e; exact Bool.eq_false_iff.mpr c
      · exact ih (i + 1) j (by omega) h2
theorem fs_congr {p q : Nat → Bool} : ∀ k i, (∀ j, i ≤ j → j < i + k → p j = q j) → fs p k i = fs q k i := by
  intro k
  induction k with
  | zero => intro i _; rfl
  | succ k ih => intro i h; rw [fs, fs, h i (by omega) (by omega), ih (i + 1) (fun j h1 h2 => h j (by omega) (by omega))]
def dmd (A : Ab) (n f : Nat) : Nat := if A 10 n = 0 then 0 else dn A (arD A) n f
def ask (A : Ab) (n f : Nat) : Nat := if A 10 n = 0 then 0 else as_ A (arD A) n f
def lld (A : Ab) (l : Nat) : Nat := mx (fun n => if n ≠ 0 ∧ A 10 n ≠ 0 ∧ lnk A n (upn A n) = l then sl A (arD A) n (A 0 2) else 0) 16
def cld (A : Ab) (n : Nat) : Nat := if A 10 n = 0 then 0 else cs A (arD A) n (A 0 2)
theorem MS_lld {A D : Ab} (hs : WFs A) (ht : WFt A) (h : MS A D) {l : Nat} (hl : l < 32) : D 2 l = lld A l := by
  unfold lld
  by_cases e : ∃ n, inT A n ∧ n ≠ 0 ∧ lnk A n (upn A n) = l
  · obtain ⟨n, hn, h0, e⟩ := e
    have h1 := h.2.2.1.1 n hn h0
    rw [e] at h1
    rw [h1]
    refine Nat.le_antisymm ?_ (mx_le 16 (fun i hi => ?_))
    · have := mx_ge (g := fun n => if n ≠ 0 ∧ A 10 n ≠ 0 ∧ lnk A n (upn A n) = l then sl A (arD A) n (A 0 2) else 0) 16 n hn.1
      rw [if_pos ⟨h0, hn.2, e⟩] at this
      exact this
    · show (if i ≠ 0 ∧ A 10 i ≠ 0 ∧ lnk A i (upn A i) = l then sl A (arD A) i (A 0 2) else 0) ≤ _
      split
      · rename_i c
        have : i = n := uplink_inj hs ht ⟨hi, c.2.1⟩ hn c.1 h0 (c.2.2.trans e.symm)
        rw [this]; exact Nat.le_refl _
      · exact Nat.zero_le _
  · rw [h.2.2.1.2 l hl (fun n hn h0 c => e ⟨n, hn, h0, c⟩)]
    refine (Nat.le_zero.mp (mx_le 16 (fun i hi => ?_))).symm
    show (if i ≠ 0 ∧ A 10 i ≠ 0 ∧ lnk A i (upn A i) = l then sl A (arD A) i (A 0 2) else 0) ≤ 0
    rw [if_neg (fun c => e ⟨i, ⟨hi, c.2.1⟩, c.1, c.2.2⟩)]
    exact Nat.le_refl _
theorem sl_le {A : Ab} (hs : WFs A) (hr : WFr A) {n : Nat} : ∀ f, f ≤ A 0 2 → sl A (arD A) n f ≤ 4995 * f := by
  have hN := hs.1
  intro f
  induction f with
  | zero => intro _; exact Nat.le_refl _
  | succ f ih =>
    intro hf
    have h1 := ih (by omega)
    have h2 := (as_le (D := arD A) (n := n) hs (f := f) (by omega) (fun g hg => arD_le hs hr hg)).1
    have h3 := (rt_le hs (f := f) (by omega) (as_ A (arD A) n f) h2).1
    rw [sl]
    have : 999 * as_ A (arD A) n f ≤ 999 * 5 := Nat.mul_le_mul_left _ (by omega)
    omega
theorem lld_le {A : Ab} (hs : WFs A) (hr : WFr A) {l : Nat} : lld A l ≤ 19980 := mx_le 16 (fun i _ => by
  show (if i ≠ 0 ∧ A 10 i ≠ 0 ∧ lnk A i (upn A i) = l then sl A (arD A) i (A 0 2) else 0) ≤ 19980
  have := sl_le hs hr (n := i) (A 0 2) (Nat.le_refl _)
  have hN := hs.1
  split <;> omega)
theorem cs_le {A : Ab} (hs : WFs A) (hr : WFr A) {n : Nat} : ∀ f, f ≤ A 0 2 → cs A (arD A) n f ≤ 495 * f := by
  have hN := hs.1
  intro f
  induction f with
  | zero => intro _; exact Nat.le_refl _
  | succ f ih =>
    intro hf
    have h1 := ih (by omega)
    have h2 := arD_le hs hr (n := n) (f := f) (by omega)
    have h3 := hs.2.2.2.2.1 f (by omega)
    rw [cs]
    have : A 5 f * arD A 0 (4 * n + f) ≤ 99 * 5 := Nat.mul_le_mul h3 (by omega)
    split <;> omega
theorem cld_le {A : Ab} (hs : WFs A) (hr : WFr A) {n : Nat} : cld A n ≤ 1980 := by
  unfold cld
  have := cs_le hs hr (n := n) (A 0 2) (Nat.le_refl _)
  have hN := hs.1
  split <;> omega
theorem ask_le {A : Ab} (hs : WFs A) (hr : WFr A) {n f : Nat} (hf : f < A 0 2) : ask A n f ≤ A 0 3 ∧ dmd A n f ≤ A 0 3 := by
  unfold ask dmd
  have := as_le (D := arD A) (n := n) hs hf (fun g hg => arD_le hs hr hg)
  split <;> omega
/-- what is wrong first: a link, 100 + a node, 200 + a format; 999: nothing -/
def wrL (A : Ab) : Nat := fs (fun l => decide (A 7 l < lld A l)) (A 0 1) 0
def wrN (A : Ab) : Nat := fs (fun n => decide (A 4 n < cld A n)) (A 0 0) 0
def wrF (A : Ab) : Nat := fs (fun f => decide (0 < ask A 0 f)) (A 0 2 - 1) 1
def wrg (A : Ab) : Nat := if wrL A < A 0 1 then wrL A else if wrN A < A 0 0 then 100 + wrN A else if wrF A < A 0 2 then 200 + wrF A else 999
def wI (x : Nat) : Int32 := if x = 999 then -2 else nI x
theorem wrong6 {A D : Ab} {m : St} (hs : WFs A) (ht : WFt A) (hc : WFc A) (hr : WFr A) (hR : RM A m) (hS : RS D m) (hM : MS A D) (k : Option (Int32 × St)) : ∀ (fu j i : Nat), i + j = A 0 1 → j < fu → M_wrong_L6 m k fu (nI i) = if fs (fun l => decide (A 7 l < lld A l)) j i < A 0 1 then some (nI (fs (fun l => decide (A 7 l < lld A l)) j i), m) else k := by
  have hN := hs.1
  intro fu
  induction fu with
  | zero => intro j i _ h; omega
  | succ fu ih =>
    intro j i h1 h2
    rw [M_wrong_L6]; unfold M_wrong_B6
    simp (disch := omega) only [b1_some, b2_some, lt_e, rd_n, wr_n, nI_add, pk_mul, nI_leI, nI_ltI, nI_eq, nI_1, li1, hR.g1]
    cases j with
    | zero => rw [if_pos (by omega), fs, if_neg (by omega)]
    | succ j =>
      rw [if_neg (by omega), fs]
      have hl := lld_le hs hr (l := i)
      have hcp := (hc.1 i (by omega)).1
      have e9 : gt m 9 i = nI (lld A i) := by rw [hS.2.2.1 i (by omega), MS_lld hs ht hM (by omega)]
      simp (disch := omega) only [b1_some, b2_some, lt_e, rd_n, wr_n, nI_add, pk_mul, nI_leI, nI_ltI, nI_eq, nI_1, li0, Nat.zero_add, hR.cap, e9]
      by_cases c : A 7 i < lld A i
      · rw [if_neg (by omega), if_pos (decide_eq_true c), if_pos (by omega)]
      · rw [if_pos (by omega), if_neg (fun x => c (of_decide_eq_true x))]
        exact ih j (i + 1) (by omega) (by omega)
theorem wrong45 {A D : Ab} {m : St} (hs : WFs A) (hr : WFr A) (hR : RM A m) (hS : RS D m) (hM : MS A D) (k : Option (Int32 × St)) : ∀ (fu j i : Nat), i + j = A 0 0 → j < fu → M_wrong_L45 m k fu (nI i) = if fs (fun n => decide (A 4 n < cld A n)) j i < A 0 0 then some (nI (100 + fs (fun n => decide (A 4 n < cld A n)) j i), m) else k := by
  have hN := hs.1
  intro fu
  induction fu with
  | zero => intro j i _ h; omega
  | succ fu ih =>
    intro j i h1 h2
    rw [M_wrong_L45]; unfold M_wrong_B45
    simp (disch := omega) only [b1_some, b2_some, lt_e, rd_n, wr_n, nI_add, pk_mul, nI_leI, nI_ltI, nI_eq, nI_1, li0, hR.g0]
    cases j with
    | zero => rw [if_pos (by omega), fs, if_neg (by omega)]
    | succ j =>
      rw [if_neg (by omega), fs]
      have hl := cld_le hs hr (n := i)
      have hcp := hs.2.2.2.1 i (by omega)
      have e9 : gt m 10 i = nI (cld A i) := by rw [hS.2.2.2 i (by omega), hM.2.2.2 i (by omega)]; rfl
      simp (disch := omega) only [b1_some, b2_some, lt_e, rd_n, wr_n, nI_add, pk_mul, nI_leI, nI_ltI, nI_eq, nI_1, li132, li100, hR.cpu, e9]
      by_cases c : A 4 i < cld A i
      · rw [if_neg (by omega), if_pos (decide_eq_true c), if_pos (by omega)]
      · rw [if_pos (by omega), if_neg (fun x => c (of_decide_eq_true x))]
        exact ih j (i + 1) (by omega) (by omega)
theorem wrong87 {A D : Ab} {m : St} (hs : WFs A) (hr : WFr A) (hR : RM A m) (hS : RS D m) (hM : MS A D) : ∀ (fu j i : Nat), 1 ≤ i → i + j = A 0 2 → j < fu → M_wrong_L87 m fu (nI i) = if fs (fun f => decide (0 < ask A 0 f)) j i < A 0 2 then some (nI (200 + fs (fun f => decide (0 < ask A 0 f)) j i), m) else some (-2, m) := by
  have hN := hs.1
  intro fu
  induction fu with
  | zero => intro j i _ _ h; omega
  | succ fu ih =>
    intro j i h0 h1 h2
    rw [M_wrong_L87]; unfold M_wrong_B87
    simp (disch := omega) only [b1_some, b2_some, lt_e, rd_n, wr_n, nI_add, pk_mul, nI_leI, nI_ltI, nI_eq, nI_1, li2, hR.g2]
    cases j with
    | zero => rw [if_pos (by omega), fs, if_neg (by omega)]
    | succ j =>
      rw [if_neg (by omega), fs]
      have hl := (ask_le hs hr (n := 0) (f := i) (by omega)).1
      have e9 : gt m 8 i = nI (ask A 0 i) := by
        have := hM.2.1 0 i (by omega) (by omega)
        rw [show 4 * 0 + i = i by omega] at this
        rw [hS.2.1 i (by omega), this]; rfl
      simp (disch := omega) only [b1_some, b2_some, lt_e, rd_n, wr_n, nI_add, pk_mul, nI_leI, nI_ltI, nI_eq, nI_1, li0, li200, e9]
      by_cases c : 0 < ask A 0 i
      · rw [if_neg (by omega), if_pos (decide_eq_true c), if_pos (by omega)]
      · rw [if_pos (by omega), if_neg (fun x => c (of_decide_eq_true x))]
        exact ih j (i + 1) (by omega) (by omega) (by omega)
theorem M_wrong_e {A : Ab} {m : St} (hs : WFs A) (ht : WFt A) (hc : WFc A) (hr : WFr A) (hl14 : ∀ r, r < 21 → A 14 r ≤ 5) (hR : RM A m) : ∃ m2, M_wrong m = some (wI (wrg A), m2) ∧ Fm m m2 := by
  have hN := hs.1
  obtain ⟨m2, D, e, hS, hF, hM⟩ := M_measures_e hs ht hc hr hl14 hR
  have hR2 := hF.rm hR
  refine ⟨m2, ?_, hF⟩
  unfold M_wrong
  rw [e, b1_some, li0, li1, wrong6 hs ht hc hr hR2 hS hM _ FU (A 0 1) 0 (by omega) (by rw [FU_e]; omega), wrong45 hs hr hR2 hS hM _ FU (A 0 0) 0 (by omega) (by rw [FU_e]; omega), wrong87 hs hr hR2 hS hM FU (A 0 2 - 1) 1 (by omega) (by omega) (by rw [FU_e]; omega)]
  unfold wrg wI
  have a1 : wrL A = fs (fun l => decide (A 7 l < lld A l)) (A 0 1) 0 := rfl
  have a2 : wrN A = fs (fun n => decide (A 4 n < cld A n)) (A 0 0) 0 := rfl
  have a3 : wrF A = fs (fun f => decide (0 < ask A 0 f)) (A 0 2 - 1) 1 := rfl
  rw [← a1, ← a2, ← a3]
  by_cases c1 : wrL A < A 0 1
  · rw [if_pos c1, if_pos c1, if_neg (by omega)]
  · rw [if_neg c1, if_neg c1]
    by_cases c2 : wrN A < A 0 0
    · rw [if_pos c2, if_pos c2, if_neg (by omega)]
    · rw [if_neg c2, if_neg c2]
      by_cases c3 : wrF A < A 0 2
      · rw [if_pos c3, if_pos c3, if_neg (by omega)]
      · rw [if_neg c3, if_neg c3, if_pos rfl]
