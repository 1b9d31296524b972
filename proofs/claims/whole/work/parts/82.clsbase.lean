/-! ===== PHASE B: the class's state against the picture ===== -/
def pK (x : Nat) : Int32 := if x < 2 then -1 else nI (x - 2)
def Bz (x : Int32) : Prop := x = 0 ∨ x = 1
/-- the setup -/
def RKs (A : Ab) (k : St) : Prop := (gt k 1 0 = nI (A 0 0) ∧ gt k 1 1 = nI (A 0 1) ∧ gt k 1 2 = nI (A 0 2) ∧ gt k 1 3 = nI (A 0 3)) ∧ (∀ l, l < A 0 1 → gt k 2 l = nI (A 1 l) ∧ gt k 3 l = nI (A 2 l) ∧ gt k 5 l = nI (A 3 l)) ∧ (∀ a b, a < 16 → b < 16 → gt k 6 (a * 16 + b) = if lq A a b = 1 then nI (lnk A a b) else -1) ∧ (∀ n, n < 16 → gt k 7 n = nI (A 4 n)) ∧ (∀ f, 1 ≤ f → f < A 0 2 → gt k 8 f = nI (A 5 f)) ∧ (∀ f j, f < A 0 2 → j ≤ A 0 3 → gt k 9 (f * 6 + j) = nI (rt A f j))
/-- a state that begins at place o, its receivers those that s names, R many -/
def RKw (A : Ab) (s : Nat → Nat) (R : Nat) (k : St) (o : Nat) : Prop := gt k o 0 = nI R ∧ (∀ r, r < R → gt k (o + 1) r = nI (A 11 (s r)) ∧ gt k (o + 2) r = nI (A 12 (s r)) ∧ gt k (o + 3) r = nI (A 13 (s r)) ∧ gt k (o + 4) r = nI (A 14 (s r)) ∧ gt k (o + 5) r = nI (A 15 (s r))) ∧ (∀ l, l < A 0 1 → gt k (o + 6) l = nI (A 7 l) ∧ gt k (o + 7) l = nI (A 8 l)) ∧ (∀ n f, n < 16 → f < 4 → gt k (o + 8) (n * 4 + f) = nI (A 9 (4 * n + f))) ∧ (∀ n, n < 16 → gt k (o + 9) n = (if A 10 n = 0 then 0 else 1) ∧ gt k (o + 10) n = pK (A 10 n)) ∧ (∀ i, i < 21 → Bz (gt k (o + 5) i)) ∧ (∀ i, i < 32 → Bz (gt k (o + 7) i))
/-- who stands in which place -/
def Sg (A : Ab) (s : Nat → Nat) (R : Nat) : Prop := R ≤ 21 ∧ (∀ r, r < R → s r < 21) ∧ (∀ r q, r < R → q < R → s r = s q → r = q) ∧ (∀ r, r < 21 → 0 < A 14 r → ∃ q, q < R ∧ s q = r) ∧ ∀ r, r < R → A 12 (s r) < A 0 2 ∧ A 11 (s r) < A 0 0
def RK (A : Ab) (s : Nat → Nat) (R : Nat) (k : St) : Prop := RKs A k ∧ RKw A s R k 19
/-- what trying, pruning and lowering may change -/
def FK (k k2 : St) : Prop := (∀ j, j ≠ 23 → j ≠ 28 → j ≠ 29 → (j < 158 ∨ 164 < j) → k2.1 j = k.1 j) ∧ k2.2 = k.2
theorem FK.rf {k : St} : FK k k := ⟨fun _ _ _ _ _ => rfl, rfl⟩
theorem FK.tr {a b c : St} (h : FK a b) (h2 : FK b c) : FK a c := ⟨fun j x y z w => (h2.1 j x y z w).trans (h.1 j x y z w), h2.2.trans h.2⟩
theorem FK.st {k : St} {j i : Nat} {v : Int32} (hj : j = 23 ∨ j = 28 ∨ j = 29 ∨ (158 ≤ j ∧ j ≤ 164)) : FK k (st k j i v) := ⟨fun x a b c d => st_row_ne (by omega), rfl⟩
/-- scratch alone -/
def FS (k k2 : St) : Prop := (∀ j, (j < 158 ∨ 164 < j) → k2.1 j = k.1 j) ∧ k2.2 = k.2
theorem FS.rf {k : St} : FS k k := ⟨fun _ _ => rfl, rfl⟩
theorem FS.tr {a b c : St} (h : FS a b) (h2 : FS b c) : FS a c := ⟨fun j x => (h2.1 j x).trans (h.1 j x), h2.2.trans h.2⟩
theorem FS.st {k : St} {j i : Nat} {v : Int32} (hj : 158 ≤ j ∧ j ≤ 164) : FS k (st k j i v) := ⟨fun x a => st_row_ne (by omega), rfl⟩
theorem FS.k {a b : St} (h : FS a b) : FK a b := ⟨fun j _ _ _ w => h.1 j w, h.2⟩
theorem FS.g {a b : St} (h : FS a b) {j i : Nat} (hj : j < 158) : gt b j i = gt a j i := by rw [gt_e, h.1 j (Or.inl hj)]; rfl
theorem RKs_row {A : Ab} {k k2 : St} (h : ∀ j, j < 10 → k2.1 j = k.1 j) (hr : RKs A k) : RKs A k2 := by
  have e : ∀ j i, j < 10 → gt k2 j i = gt k j i := fun j i hj => by rw [gt_e, h j hj]; rfl
  obtain ⟨h1, h2, h3, h4, h5, h6⟩ := hr
  refine ⟨?_, fun l hl => ?_, fun a b ha hb => ?_, fun n hn => ?_, fun f h1 hf => ?_, fun f j hf hj => ?_⟩
  · rw [e 1 0 (by omega), e 1 1 (by omega), e 1 2 (by omega), e 1 3 (by omega)]; exact h1
  · rw [e 2 l (by omega), e 3 l (by omega), e 5 l (by omega)]; exact h2 l hl
  · rw [e 6 _ (by omega)]; exact h3 a b ha hb
  · rw [e 7 n (by omega)]; exact h4 n hn
  · rw [e 8 f (by omega)]; exact h5 f h1 hf
  · rw [e 9 _ (by omega)]; exact h6 f j hf hj
theorem RKw_row {A : Ab} {s : Nat → Nat} {R : Nat} {k k2 : St} {o : Nat} (h : ∀ j, o ≤ j → j < o + 11 → k2.1 j = k.1 j) (hr : RKw A s R k o) : RKw A s R k2 o := by
  have e : ∀ j i, o ≤ j → j < o + 11 → gt k2 j i = gt k j i := fun j i h1 h2 => by rw [gt_e, h j h1 h2]; rfl
  obtain ⟨h1, h2, h3, h4, h5, h6, h7⟩ := hr
  refine ⟨?_, fun r hr => ?_, fun l hl => ?_, fun n f hn hf => ?_, fun n hn => ?_, fun i hi => ?_, fun i hi => ?_⟩
  · rw [e o 0 (by omega) (by omega)]; exact h1
  · rw [e (o + 1) r (by omega) (by omega), e (o + 2) r (by omega) (by omega), e (o + 3) r (by omega) (by omega), e (o + 4) r (by omega) (by omega), e (o + 5) r (by omega) (by omega)]; exact h2 r hr
  · rw [e (o + 6) l (by omega) (by omega), e (o + 7) l (by omega) (by omega)]; exact h3 l hl
  · rw [e (o + 8) _ (by omega) (by omega)]; exact h4 n f hn hf
  · rw [e (o + 9) n (by omega) (by omega), e (o + 10) n (by omega) (by omega)]; exact h5 n hn
  · rw [e (o + 5) i (by omega) (by omega)]; exact h6 i hi
  · rw [e (o + 7) i (by omega) (by omega)]; exact h7 i hi
theorem FS.rk {A : Ab} {s : Nat → Nat} {R : Nat} {k k2 : St} (h : FS k k2) (hr : RK A s R k) : RK A s R k2 :=
  ⟨RKs_row (fun j hj => h.1 j (by omega)) hr.1, RKw_row (fun j _ h2 => h.1 j (by omega)) hr.2⟩
theorem lq_es {A B : Ab} (h : Es A B) (a b : Nat) : lnk B a b = lnk A a b ∧ lq B a b = lq A a b := by
  have hl : lnk B a b = lnk A a b := by
    unfold lnk
    rw [h 0 1 (by omega) (by omega)]
    have : ∀ k, lkF B a b k = lkF A a b k := by
      intro k
      induction k with
      | zero => rfl
      | succ k ih => rw [lkF, lkF, ih, h 1 k (by omega) (by omega), h 2 k (by omega) (by omega)]
    exact this _
  refine ⟨hl, ?_⟩
  unfold lq
  rw [hl, h 0 1 (by omega) (by omega), h 1 _ (by omega) (by omega), h 2 _ (by omega) (by omega)]
theorem rt_es {A B : Ab} (h : Es A B) {f : Nat} : ∀ k, rt B f k = rt A f k := by
  intro k
  induction k with
  | zero => rfl
  | succ k ih => rw [rt, rt, ih, h 6 _ (by omega) (by omega)]
theorem RKs_es {A B : Ab} {k : St} (h : Es A B) (hr : RKs A k) : RKs B k := by
  obtain ⟨h1, h2, h3, h4, h5, h6⟩ := hr
  refine ⟨?_, fun l hl => ?_, fun a b ha hb => ?_, fun n hn => ?_, fun f h1 hf => ?_, fun f j hf hj => ?_⟩
  · rw [h 0 0 (by omega) (by omega), h 0 1 (by omega) (by omega), h 0 2 (by omega) (by omega), h 0 3 (by omega) (by omega)]; exact h1
  · rw [h 0 1 (by omega) (by omega)] at hl
    rw [h 1 l (by omega) (by omega), h 2 l (by omega) (by omega), h 3 l (by omega) (by omega)]; exact h2 l hl
  · rw [(lq_es h a b).1, (lq_es h a b).2]; exact h3 a b ha hb
  · rw [h 4 n (by omega) (by omega)]; exact h4 n hn
  · rw [h 0 2 (by omega) (by omega)] at hf
    rw [h 5 f (by omega) (by omega)]; exact h5 f h1 hf
  · rw [h 0 2 (by omega) (by omega)] at hf
    rw [h 0 3 (by omega) (by omega)] at hj
    rw [rt_es h]; exact h6 f j hf hj
theorem RK.n0 {A : Ab} {s : Nat → Nat} {R : Nat} {k : St} (h : RK A s R k) : gt k 1 0 = nI (A 0 0) := h.1.1.1
theorem RK.n1 {A : Ab} {s : Nat → Nat} {R : Nat} {k : St} (h : RK A s R k) : gt k 1 1 = nI (A 0 1) := h.1.1.2.1
theorem RK.n2 {A : Ab} {s : Nat → Nat} {R : Nat} {k : St} (h : RK A s R k) : gt k 1 2 = nI (A 0 2) := h.1.1.2.2.1
theorem RK.n3 {A : Ab} {s : Nat → Nat} {R : Nat} {k : St} (h : RK A s R k) : gt k 1 3 = nI (A 0 3) := h.1.1.2.2.2
theorem RK.e1 {A : Ab} {s : Nat → Nat} {R : Nat} {k : St} (h : RK A s R k) {l : Nat} (hl : l < A 0 1) : gt k 2 l = nI (A 1 l) := (h.1.2.1 l hl).1
theorem RK.e2 {A : Ab} {s : Nat → Nat} {R : Nat} {k : St} (h : RK A s R k) {l : Nat} (hl : l < A 0 1) : gt k 3 l = nI (A 2 l) := (h.1.2.1 l hl).2.1
theorem RK.dl {A : Ab} {s : Nat → Nat} {R : Nat} {k : St} (h : RK A s R k) {l : Nat} (hl : l < A 0 1) : gt k 5 l = nI (A 3 l) := (h.1.2.1 l hl).2.2
theorem RK.at {A : Ab} {s : Nat → Nat} {R : Nat} {k : St} (h : RK A s R k) {a b : Nat} (ha : a < 16) (hb : b < 16) : gt k 6 (a * 16 + b) = if lq A a b = 1 then nI (lnk A a b) else -1 := h.1.2.2.1 a b ha hb
theorem RK.cpu {A : Ab} {s : Nat → Nat} {R : Nat} {k : St} (h : RK A s R k) {n : Nat} (hn : n < 16) : gt k 7 n = nI (A 4 n) := h.1.2.2.2.1 n hn
theorem RK.cost {A : Ab} {s : Nat → Nat} {R : Nat} {k : St} (h : RK A s R k) {f : Nat} (h1 : 1 ≤ f) (hf : f < A 0 2) : gt k 8 f = nI (A 5 f) := h.1.2.2.2.2.1 f h1 hf
theorem RK.rate {A : Ab} {s : Nat → Nat} {R : Nat} {k : St} (h : RK A s R k) {f j : Nat} (hf : f < A 0 2) (hj : j ≤ A 0 3) : gt k 9 (f * 6 + j) = nI (rt A f j) := h.1.2.2.2.2.2 f j hf hj
theorem RK.rcv {A : Ab} {s : Nat → Nat} {R : Nat} {k : St} (h : RK A s R k) : gt k 19 0 = nI R := h.2.1
theorem RK.nd {A : Ab} {s : Nat → Nat} {R : Nat} {k : St} (h : RK A s R k) {r : Nat} (hr : r < R) : gt k 20 r = nI (A 11 (s r)) := (h.2.2.1 r hr).1
theorem RK.fm {A : Ab} {s : Nat → Nat} {R : Nat} {k : St} (h : RK A s R k) {r : Nat} (hr : r < R) : gt k 21 r = nI (A 12 (s r)) := (h.2.2.1 r hr).2.1
theorem RK.wa {A : Ab} {s : Nat → Nat} {R : Nat} {k : St} (h : RK A s R k) {r : Nat} (hr : r < R) : gt k 22 r = nI (A 13 (s r)) := (h.2.2.1 r hr).2.2.1
theorem RK.lv {A : Ab} {s : Nat → Nat} {R : Nat} {k : St} (h : RK A s R k) {r : Nat} (hr : r < R) : gt k 23 r = nI (A 14 (s r)) := (h.2.2.1 r hr).2.2.2.1
theorem RK.lf {A : Ab} {s : Nat → Nat} {R : Nat} {k : St} (h : RK A s R k) {r : Nat} (hr : r < R) : gt k 24 r = nI (A 15 (s r)) := (h.2.2.1 r hr).2.2.2.2
theorem RK.cap {A : Ab} {s : Nat → Nat} {R : Nat} {k : St} (h : RK A s R k) {l : Nat} (hl : l < A 0 1) : gt k 25 l = nI (A 7 l) := (h.2.2.2.1 l hl).1
theorem RK.opn {A : Ab} {s : Nat → Nat} {R : Nat} {k : St} (h : RK A s R k) {l : Nat} (hl : l < A 0 1) : gt k 26 l = nI (A 8 l) := (h.2.2.2.1 l hl).2
theorem RK.pl {A : Ab} {s : Nat → Nat} {R : Nat} {k : St} (h : RK A s R k) {n f : Nat} (hn : n < 16) (hf : f < 4) : gt k 27 (n * 4 + f) = nI (A 9 (4 * n + f)) := h.2.2.2.2.1 n f hn hf
theorem RK.tin {A : Ab} {s : Nat → Nat} {R : Nat} {k : St} (h : RK A s R k) {n : Nat} (hn : n < 16) : gt k 28 n = if A 10 n = 0 then 0 else 1 := (h.2.2.2.2.2.1 n hn).1
theorem RK.par {A : Ab} {s : Nat → Nat} {R : Nat} {k : St} (h : RK A s R k) {n : Nat} (hn : n < 16) : gt k 29 n = pK (A 10 n) := (h.2.2.2.2.2.1 n hn).2
/-- a level is set -/
theorem RK.sl {A : Ab} {s : Nat → Nat} {R : Nat} {k : St} (hg : Sg A s R) (h : RK A s R k) {r v : Nat} (hr : r < R) : RK (up2 A 14 (s r) v) s R (st k 23 r (nI v)) := by
  have e : ∀ a j, a ≠ 14 → up2 A 14 (s r) v a j = A a j := fun a j ha => up2_ne (Or.inl ha)
  refine ⟨RKs_row (fun j hj => st_row_ne (by omega)) (RKs_es (fun a j x y => e a j (by omega)) h.1), ?_⟩
  obtain ⟨h1, h2, h3, h4, h5, h6, h7⟩ := h.2
  refine ⟨?_, fun q hq => ?_, fun l hl => ?_, fun n f hn hf => ?_, fun n hn => ?_, fun i hi => ?_, fun i hi => ?_⟩
  · rw [gt_st_k (by omega)]; exact h1
  · have g : ∀ j i, j ≠ 23 → gt (st k 23 r (nI v)) j i = gt k j i := fun j i x => gt_st_k x
    rw [g (19 + 1) q (by omega), g (19 + 2) q (by omega), g (19 + 3) q (by omega), g (19 + 5) q (by omega), e 11 _ (by omega), e 12 _ (by omega), e 13 _ (by omega), e 15 _ (by omega)]
    obtain ⟨a1, a2, a3, a4, a5⟩ := h2 q hq
    refine ⟨a1, a2, a3, ?_, a5⟩
    by_cases c : q = r
    · subst c; rw [up2_same]; exact gt_st_same
    · rw [up2_ne (Or.inr (fun z => c (hg.2.2.1 q r hq hr z))), show 19 + 4 = 23 from rfl, gt_st_i c]; exact a4
  · rw [e 0 1 (by omega)] at hl
    rw [gt_st_k (by omega), gt_st_k (by omega), e 7 l (by omega), e 8 l (by omega)]; exact h3 l hl
  · rw [gt_st_k (by omega), e 9 _ (by omega)]; exact h4 n f hn hf
  · rw [gt_st_k (by omega), gt_st_k (by omega), e 10 n (by omega)]; exact h5 n hn
  · rw [gt_st_k (by omega)]; exact h6 i hi
  · rw [gt_st_k (by omega)]; exact h7 i hi
theorem Sg.lv {A : Ab} {s : Nat → Nat} {R : Nat} (hg : Sg A s R) {r v : Nat} (hr : r < R) : Sg (up2 A 14 (s r) v) s R := by
  refine ⟨hg.1, hg.2.1, hg.2.2.1, fun q hq h => ?_, fun q hq => ?_⟩
  · by_cases c : q = s r
    · exact ⟨r, hr, c.symm⟩
    · rw [up2_ne (Or.inr c)] at h; exact hg.2.2.2.1 q hq h
  · rw [up2_ne (by omega), up2_ne (by omega), up2_ne (by omega), up2_ne (by omega)]; exact hg.2.2.2.2 q hq
theorem Sg.tr {A B : Ab} {s : Nat → Nat} {R : Nat} (hg : Sg A s R) (h : ∀ a j, a ≠ 10 → B a j = A a j) : Sg B s R := by
  refine ⟨hg.1, hg.2.1, hg.2.2.1, fun q hq h2 => ?_, fun q hq => ?_⟩
  · rw [h 14 q (by omega)] at h2; exact hg.2.2.2.1 q hq h2
  · rw [h 12 _ (by omega), h 11 _ (by omega), h 0 2 (by omega), h 0 0 (by omega)]; exact hg.2.2.2.2 q hq
/-- a node's place in the tree is set -/
theorem RK.sp {A : Ab} {s : Nat → Nat} {R : Nat} {k : St} (h : RK A s R k) {n v : Nat} : RK (up2 A 10 n v) s R (st (st k 28 n (if v = 0 then 0 else 1)) 29 n (pK v)) := by
  have e : ∀ a j, a ≠ 10 → up2 A 10 n v a j = A a j := fun a j ha => up2_ne (Or.inl ha)
  refine ⟨RKs_row (fun j hj => by rw [st_row_ne (by omega), st_row_ne (by omega)]) (RKs_es (fun a j x y => e a j (by omega)) h.1), ?_⟩
  obtain ⟨h1, h2, h3, h4, h5, h6, h7⟩ := h.2
  have g : ∀ j i, j ≠ 28 → j ≠ 29 → gt (st (st k 28 n (if v = 0 then 0 else 1)) 29 n (pK v)) j i = gt k j i := fun j i x y => by rw [gt_st_k y, gt_st_k x]
  refine ⟨?_, fun q hq => ?_, fun l hl => ?_, fun n f hn hf => ?_, fun j hj => ?_, fun i hi => ?_, fun i hi => ?_⟩
  · rw [g _ _ (by omega) (by omega)]; exact h1
  · rw [g _ _ (by omega) (by omega), g _ _ (by omega) (by omega), g _ _ (by omega) (by omega), g _ _ (by omega) (by omega), g _ _ (by omega) (by omega), e 11 _ (by omega), e 12 _ (by omega), e 13 _ (by omega), e 14 _ (by omega), e 15 _ (by omega)]
    exact h2 q hq
  · rw [e 0 1 (by omega)] at hl
    rw [g _ _ (by omega) (by omega), g _ _ (by omega) (by omega), e 7 l (by omega), e 8 l (by omega)]; exact h3 l hl
  · rw [g _ _ (by omega) (by omega), e 9 _ (by omega)]; exact h4 n f hn hf
  · show gt _ 28 j = _ ∧ gt _ 29 j = _
    by_cases c : j = n
    · subst c; rw [gt_st_same, gt_st_k (by omega), gt_st_same, up2_same]; exact ⟨rfl, rfl⟩
    · rw [gt_st_i c, gt_st_k (by omega), gt_st_i c, gt_st_k (by omega), up2_ne (Or.inr c)]; exact h5 j hj
  · rw [g _ _ (by omega) (by omega)]; exact h6 i hi
  · rw [g _ _ (by omega) (by omega)]; exact h7 i hi
theorem fill5 {len p : Nat} {v : Int32} (hl : len < 2 ^ 31) : ∀ (fu i : Nat) (k : St), i ≤ len → len < i + fu → (∀ j, j < i → gt k p j = v) → ∃ k2, J_fill_L5 len p fu v (nI i) (nI len) k = some k2 ∧ (∀ j, j ≠ p → k2.1 j = k.1 j) ∧ k2.2 = k.2 ∧ ∀ j, j < len → gt k2 p j = v := by
  intro fu
  induction fu with
  | zero => intro i k h1 h2; omega
  | succ fu ih =>
    intro i k h1 h2 h3
    rw [J_fill_L5]; unfold J_fill_B5
    simp (disch := omega) only [b1_some, b2_some, lt_e, rd_n, wr_n, nI_add, pk_mul, nI_leI, nI_ltI, nI_eq, nI_1]
    by_cases e : i < len
    · rw [if_neg (by omega)]
      simp (disch := omega) only [wr_n, b1_some]
      obtain ⟨k2, g1, g2, g3, g4⟩ := ih (i + 1) (st k p i v) (by omega) (by omega) (fun j hj => by
        by_cases c : j = i
        · subst c; rw [gt_st_same]
        · rw [gt_st_i c]; exact h3 j (by omega))
      exact ⟨k2, g1, fun j hj => (g2 j hj).trans (st_row_ne hj), g3, g4⟩
    · rw [if_pos (by omega)]
      exact ⟨k, rfl, fun _ _ => rfl, rfl, fun j hj => h3 j (by omega)⟩
theorem J_fill_e {len p : Nat} {v : Int32} (k : St) (hl : len < 4000) : ∃ k2, J_fill len p k v = some k2 ∧ (∀ j, j ≠ p → k2.1 j = k.1 j) ∧ k2.2 = k.2 ∧ ∀ j, j < len → gt k2 p j = v := by
  unfold J_fill
  rw [lt_e]
  exact fill5 (by omega) FU 0 k (by omega) (by rw [FU_e]; omega) (fun j hj => by omega)
