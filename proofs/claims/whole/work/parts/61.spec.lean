/-! ===== PHASE B: the mathematical state, and what the reference's rows spell ===== -/
/-- A 0: nodes, links, formats, layers, receivers; 1, 2 a link's ends, 3 its delay; 4 cpu; 5 cost; 6 rates of layers (5 f + j); 7 capacity; 8 open; 9 placed (4 n + f); 10 parent (0 out, 1 the source, p + 2); 11 node, 12 format, 13 wanted, 14 level, 15 left of a receiver -/
abbrev Ab : Type := Nat → Nat → Nat
def pmk (A : Ab) (n : Nat) : Nat := A 9 (4 * n) + 2 * A 9 (4 * n + 1) + 4 * A 9 (4 * n + 2) + 8 * A 9 (4 * n + 3)
def pI (x : Nat) : Int32 := if x = 0 then -1 else if x = 1 then -2 else nI (x - 2)
/-- the link l joins a and b -/
def Lk (A : Ab) (a b l : Nat) : Prop := l < A 0 1 ∧ ((A 1 l = a ∧ A 2 l = b) ∨ (A 1 l = b ∧ A 2 l = a))
def WFs (A : Ab) : Prop := (2 ≤ A 0 0 ∧ A 0 0 ≤ 16 ∧ A 0 1 ≤ 32 ∧ 1 ≤ A 0 2 ∧ A 0 2 ≤ 4 ∧ 1 ≤ A 0 3 ∧ A 0 3 ≤ 5) ∧ (∀ l, l < A 0 1 → A 1 l < A 0 0 ∧ A 2 l < A 0 0 ∧ A 1 l ≠ A 2 l ∧ 1 ≤ A 3 l ∧ A 3 l ≤ 99) ∧ (∀ a b l l2, Lk A a b l → Lk A a b l2 → l = l2) ∧ (∀ n, n < 16 → A 4 n ≤ 999) ∧ (∀ f, f < 4 → A 5 f ≤ 99) ∧ (∀ f j, f < A 0 2 → j < A 0 3 → 1 ≤ A 6 (5 * f + j) ∧ A 6 (5 * f + j) ≤ 999)
/-- the tree: the source is in; who is in hangs by a link on one that is in; no circle -/
def WFt (A : Ab) : Prop := A 10 0 = 1 ∧ (∀ n, n < 16 → 1 ≤ n → A 10 n ≠ 1) ∧ (∀ n, n < 16 → 2 ≤ A 10 n → n < A 0 0 ∧ A 10 n - 2 < A 0 0 ∧ A 10 (A 10 n - 2) ≠ 0 ∧ ∃ l, Lk A n (A 10 n - 2) l) ∧ ∃ h : Nat → Nat, ∀ n, n < 16 → 2 ≤ A 10 n → h (A 10 n - 2) < h n
/-- capacities, doors, converters -/
def WFc (A : Ab) : Prop := (∀ l, l < A 0 1 → A 7 l ≤ 9999 ∧ A 8 l ≤ 1) ∧ ∀ n f, n < 16 → f < 4 → A 9 (4 * n + f) ≤ 1 ∧ (A 9 (4 * n + f) = 1 → n < A 0 0 ∧ 1 ≤ f ∧ f < A 0 2)
/-- whoever has a level has a node in the tree -/
def WFr (A : Ab) : Prop := ∀ r, r < 21 → 0 < A 14 r → A 11 r < A 0 0 ∧ A 12 r < A 0 2 ∧ A 14 r ≤ A 0 3 ∧ A 10 (A 11 r) ≠ 0
def RMs (A : Ab) (s : Nat → Int32) : Prop := (s 0 = nI (A 0 0) ∧ s 1 = nI (A 0 1) ∧ s 2 = nI (A 0 2) ∧ s 3 = nI (A 0 3)) ∧ (∀ l, l < A 0 1 → s (4 + 4 * l) = nI (A 1 l) ∧ s (4 + 4 * l + 1) = nI (A 2 l) ∧ s (4 + 4 * l + 3) = nI (A 3 l)) ∧ (∀ n, n < 16 → s (132 + n) = nI (A 4 n)) ∧ (∀ f, f < 4 → s (168 + f) = nI (A 5 f)) ∧ (∀ f j, f < A 0 2 → j < A 0 3 → s (148 + 5 * f + j) = nI (A 6 (5 * f + j)))
def RMw (A : Ab) (w : Nat → Int32) : Prop := (∀ l, l < A 0 1 → w l = nI (A 7 l) ∧ w (32 + l) = nI (A 8 l)) ∧ (∀ n, n < 16 → w (64 + n) = nI (pmk A n)) ∧ (∀ n, n < 16 → w (80 + n) = pI (A 10 n)) ∧ w 96 = nI (A 0 4) ∧ ∀ r, r < 21 → w (97 + 5 * r) = nI (A 11 r) ∧ w (97 + 5 * r + 1) = nI (A 12 r) ∧ w (97 + 5 * r + 2) = nI (A 13 r) ∧ w (97 + 5 * r + 3) = nI (A 14 r) ∧ w (97 + 5 * r + 4) = nI (A 15 r)
def RM (A : Ab) (m : St) : Prop := RMs A (m.1 2) ∧ RMw A (m.1 4)
/-- all that a walk over the reference needs -/
def WM (A : Ab) (m : St) : Prop := WFs A ∧ WFt A ∧ WFc A ∧ RM A m
theorem pI_0 : pI 0 = -1 := rfl
theorem pI_1 : pI 1 = -2 := rfl
theorem pI_2 (p : Nat) : pI (p + 2) = nI p := rfl
theorem pI_in {x : Nat} (h : 2 ≤ x) : pI x = nI (x - 2) := by unfold pI; rw [if_neg (by omega), if_neg (by omega)]
theorem pI_out {x : Nat} (hx : x < 2 ^ 30) : pI x = -1 ↔ x = 0 := by
  unfold pI
  by_cases h0 : x = 0
  · simp [h0]
  · rw [if_neg h0]
    by_cases h1 : x = 1
    · rw [if_pos h1]
      exact ⟨fun h => absurd h (by decide), fun h => absurd h h0⟩
    · rw [if_neg h1]
      exact ⟨fun h => absurd h (nI_neg1 (by omega)), fun h => absurd h h0⟩
/-- the reference's small readers -/
theorem M_valid (q : St) (v : Int32) {n : Nat} (h1 : n < 2 ^ 30) : M_in q v.toInt64 (0 : Int64) ((nI n - 1)).toInt64 = some (if 0 ≤ v.toInt ∧ v.toInt < n then 1 else 0) := by
  rw [show (0 : Int64) = (0 : Int32).toInt64 by decide, M_in3, show (1 : Int32) = nI 1 from rfl, pk_sub_toInt h1 (by omega)]
  have : (0 : Int32).toInt = 0 := by decide
  rw [this]
  by_cases h : 0 ≤ v.toInt ∧ v.toInt < n
  · rw [if_pos h, if_pos (by omega)]
  · rw [if_neg h, if_neg (by omega)]
theorem bz_if {β : Type} {c : Prop} [Decidable c] {x : Option β} : bz (if c then (1 : Int32) else 0) x = x := by
  unfold bz
  by_cases h : c
  · rw [if_pos h]; simp
  · rw [if_neg h]; simp
theorem M_isNode_e {A : Ab} {m : St} (hs : WFs A) (h : RM A m) (v : Int32) : M_isNode m v = some (if 0 ≤ v.toInt ∧ v.toInt < A 0 0 then 1 else 0) := by
  unfold M_isNode
  have := hs.1
  rw [rd_at 0 li0 (by omega) (by omega), b1_some, show gt m 2 0 = nI (A 0 0) from h.1.1.1, M_valid m v (by omega), b1_some, bz_if]
theorem M_isLink_e {A : Ab} {m : St} (hs : WFs A) (h : RM A m) (v : Int32) : M_isLink m v = some (if 0 ≤ v.toInt ∧ v.toInt < A 0 1 then 1 else 0) := by
  unfold M_isLink
  have := hs.1
  rw [rd_at 1 li1 (by omega) (by omega), b1_some, show gt m 2 1 = nI (A 0 1) from h.1.1.2.1, M_valid m v (by omega), b1_some, bz_if]
theorem M_isFormat_e {A : Ab} {m : St} (hs : WFs A) (h : RM A m) (v : Int32) : M_isFormat m v = some (if 0 ≤ v.toInt ∧ v.toInt < A 0 2 then 1 else 0) := by
  unfold M_isFormat
  have := hs.1
  rw [rd_at 2 li2 (by omega) (by omega), b1_some, show gt m 2 2 = nI (A 0 2) from h.1.1.2.2.1, M_valid m v (by omega), b1_some, bz_if]
theorem M_isLevel_e {A : Ab} {m : St} (hs : WFs A) (h : RM A m) (v : Int32) : M_isLevel m v = some (if 1 ≤ v.toInt ∧ v.toInt ≤ A 0 3 then 1 else 0) := by
  unfold M_isLevel
  have := hs.1
  rw [rd_at 3 li3 (by omega) (by omega), b1_some, show gt m 2 3 = nI (A 0 3) from h.1.1.2.2.2, show (1 : Int64) = (1 : Int32).toInt64 by decide, M_in3, b1_some, bz_if, nI_toInt (by omega)]
  rfl
theorem M_of_e {A : Ab} {m : St} (h : RM A m) {r w : Nat} (hr : r < 21) (hw : w < 5) : M_of m (nI r) (nI w) = some (nI (A (11 + w) r)) := by
  unfold M_of
  rw [rd_at (97 + 5 * r + w) (by simp only [li97, li5, pk_mul, nI_add]) (by omega) (by omega), b1_some]
  have h5 := h.2.2.2.2.2 r hr
  have : gt m 4 (97 + 5 * r + w) = nI (A (11 + w) r) := by
    rcases (show w = 0 ∨ w = 1 ∨ w = 2 ∨ w = 3 ∨ w = 4 by omega) with rfl | rfl | rfl | rfl | rfl
    · exact h5.1
    · exact h5.2.1
    · exact h5.2.2.1
    · exact h5.2.2.2.1
    · exact h5.2.2.2.2
  rw [this]
theorem M_set_e {m : St} {r w : Nat} (v : Int32) (hr : r < 21) (hw : w < 5) : M_set m (nI r) (nI w) v = some (st m 4 (97 + 5 * r + w) v) := by
  unfold M_set
  rw [wr_at (97 + 5 * r + w) (by simp only [li97, li5, pk_mul, nI_add]) (by omega) (by omega), b1_some]
theorem M_end_e {A : Ab} {m : St} (hs : WFs A) (h : RM A m) {l w : Nat} (hl : l < A 0 1) (hw : w < 2) : M_end m (nI l) (nI w) = some (nI (A (1 + w) l)) := by
  unfold M_end
  have h0 := hs.1
  rw [rd_at (4 + 4 * l + w) (by simp only [li4, pk_mul, nI_add]) (by omega) (by omega), b1_some]
  have h5 := h.1.2.1 l hl
  have : gt m 2 (4 + 4 * l + w) = nI (A (1 + w) l) := by
    rcases (show w = 0 ∨ w = 1 by omega) with rfl | rfl
    · exact h5.1
    · exact h5.2.1
  rw [this]
theorem M_delayOf_e {A : Ab} {m : St} (hs : WFs A) (h : RM A m) {l : Nat} (hl : l < A 0 1) : M_delayOf m (nI l) = some (nI (A 3 l)) := by
  unfold M_delayOf
  have h0 := hs.1
  rw [rd_at (4 + 4 * l + 3) (by simp only [li4, li3, pk_mul, nI_add]) (by omega) (by omega), b1_some, show gt m 2 (4 + 4 * l + 3) = nI (A 3 l) from (h.1.2.1 l hl).2.2]
theorem M_isIn_e {A : Ab} {m : St} (ht : ∀ n, n < 16 → A 10 n < 2 ^ 30) (h : RM A m) {n : Nat} (hn : n < 16) : M_isIn m (nI n) = some (if A 10 n = 0 then 0 else 1) := by
  unfold M_isIn
  rw [rd_at (80 + n) (by simp only [li80, nI_add]) (by omega) (by omega), b1_some, show gt m 4 (80 + n) = pI (A 10 n) from h.2.2.2.1 n hn]
  by_cases h0 : A 10 n = 0
  · rw [if_pos ((pI_out (ht n hn)).mpr h0), if_pos h0]
  · rw [if_neg (fun e => h0 ((pI_out (ht n hn)).mp e)), if_neg h0]
theorem M_up_e {A : Ab} {m : St} (h : RM A m) {n : Nat} (hn : n < 16) : M_up m (nI n) = some (pI (A 10 n)) := by
  unfold M_up
  rw [rd_at (80 + n) (by simp only [li80, nI_add]) (by omega) (by omega), b1_some, show gt m 4 (80 + n) = pI (A 10 n) from h.2.2.2.1 n hn]
theorem bit_e : ∀ p, p < 16 → ∀ f, f < 4 → (((nI p >>> (nI f &&& 31)) &&& 1) = 1 ↔ p / 2 ^ f % 2 = 1) := by decide +kernel
theorem pmk_bit {A : Ab} (hc : WFc A) {n f : Nat} (hn : n < 16) (hf : f < 4) : pmk A n < 16 ∧ pmk A n / 2 ^ f % 2 = A 9 (4 * n + f) := by
  have h0 := (hc.2 n 0 hn (by omega)).1
  have h1 := (hc.2 n 1 hn (by omega)).1
  have h2 := (hc.2 n 2 hn (by omega)).1
  have h3 := (hc.2 n 3 hn (by omega)).1
  simp only [Nat.add_zero] at h0
  unfold pmk
  refine ⟨by omega, ?_⟩
  rcases (show f = 0 ∨ f = 1 ∨ f = 2 ∨ f = 3 by omega) with rfl | rfl | rfl | rfl <;> simp <;> omega
theorem M_has_e {A : Ab} {m : St} (hc : WFc A) (h : RM A m) {n f : Nat} (hn : n < 16) (hf : f < 4) : M_has m (nI n) (nI f) = some (if A 9 (4 * n + f) = 1 then 1 else 0) := by
  unfold M_has
  obtain ⟨hp, hb⟩ := pmk_bit hc hn hf
  rw [rd_at (64 + n) (by simp only [li64, nI_add]) (by omega) (by omega), b1_some, show gt m 4 (64 + n) = nI (pmk A n) from h.2.2.1 n hn]
  by_cases h1 : A 9 (4 * n + f) = 1
  · rw [if_pos ((bit_e _ hp f hf).mpr (hb.trans h1)), if_pos h1]
  · rw [if_neg (fun e => h1 (hb.symm.trans ((bit_e _ hp f hf).mp e))), if_neg h1]
