/-! ===== PHASE B: what goes up the tree, in the reference ===== -/
/-- a value told from the source down to a node -/
def wlk {α : Type} (A : Ab) (z : α) (s : Nat → α → α) : Nat → Nat → α
  | 0, _ => z
  | i + 1, n => if n = 0 then z else s n (wlk A z s i (upn A n))
def wk {α : Type} (A : Ab) (z : α) (s : Nat → α → α) (n : Nat) : α := wlk A z s 16 n
theorem wlk_e {α : Type} {A : Ab} {z : α} {s : Nat → α → α} : ∀ (k k2 n : Nat), (∃ d, d < k ∧ d < k2 ∧ chn A d n = 0) → wlk A z s k n = wlk A z s k2 n := by
  intro k
  induction k with
  | zero => intro k2 n ⟨d, h, _⟩; omega
  | succ k ih =>
    intro k2 n ⟨d, h1, h2, h3⟩
    cases k2 with
    | zero => omega
    | succ k2 =>
      rw [wlk, wlk]
      by_cases h0 : n = 0
      · rw [if_pos h0, if_pos h0]
      · rw [if_neg h0, if_neg h0]
        cases d with
        | zero => exact absurd h3 h0
        | succ d => rw [ih k2 (upn A n) ⟨d, by omega, by omega, h3⟩]
theorem wk_0 {α : Type} {A : Ab} {z : α} {s : Nat → α → α} : wk A z s 0 = z := rfl
theorem wk_up {α : Type} {A : Ab} {z : α} {s : Nat → α → α} (hs : WFs A) (ht : WFt A) {n : Nat} (hn : inT A n) (h0 : n ≠ 0) : wk A z s n = s n (wk A z s (upn A n)) := by
  unfold wk
  rw [show (16 : Nat) = 15 + 1 from rfl, wlk, if_neg h0]
  obtain ⟨-, -, hu, -⟩ := inT_up hs ht hn h0
  obtain ⟨a1, a2, -⟩ := dep_le hs ht hu
  have hd := dep_up hs ht hn h0
  have := (dep_le hs ht hn).1
  rw [wlk_e 15 (15 + 1) (upn A n) ⟨dep A (upn A n), by omega, by omega, a2⟩]
/-- the delay of a node of the tree -/
def dl (A : Ab) : Nat → Nat := wk A 0 (fun n d => A 3 (lnk A n (upn A n)) + d)
theorem dl_up {A : Ab} (hs : WFs A) (ht : WFt A) {n : Nat} (hn : inT A n) (h0 : n ≠ 0) : dl A n = A 3 (lnk A n (upn A n)) + dl A (upn A n) := wk_up hs ht hn h0
theorem dl_le {A : Ab} (hs : WFs A) (ht : WFt A) : ∀ n, inT A n → dl A n ≤ 99 * dep A n := by
  refine up_ind hs ht (Nat.zero_le _) (fun n hn h0 hu h => ?_)
  rw [dl_up hs ht hn h0, dep_up hs ht hn h0]
  obtain ⟨-, -, -, -, -, l, hl⟩ := inT_up hs ht hn h0
  have := (hs.2.1 (lnk A n (upn A n)) (by rw [lnk_e hs hl]; exact hl.1)).2.2.2.2
  omega
theorem par_bd {A : Ab} (hs : WFs A) (ht : WFt A) : ∀ n, n < 16 → A 10 n < 2 ^ 30 := by
  intro n hn
  by_cases h : inT A n
  · by_cases h0 : n = 0
    · subst h0; rw [ht.1]; omega
    · obtain ⟨-, -, -, a, b, -⟩ := inT_up hs ht h h0
      have := hs.1
      omega
  · have : A 10 n = 0 := by
      by_cases e : A 10 n = 0
      · exact e
      · exact absurd ⟨hn, e⟩ h
    omega
theorem M_up_in {A : Ab} {m : St} (hs : WFs A) (ht : WFt A) (h : RM A m) {n : Nat} (hn : inT A n) (h0 : n ≠ 0) : M_up m (nI n) = some (nI (upn A n)) := by
  rw [M_up_e h hn.1, pI_in (inT_up hs ht hn h0).1]; rfl
theorem M_lk_in {A : Ab} {m : St} (hs : WFs A) (ht : WFt A) (h : RM A m) {n : Nat} (hn : inT A n) (h0 : n ≠ 0) : M_linkAt m (nI n) (nI (upn A n)) = some (nI (lnk A n (upn A n))) ∧ lnk A n (upn A n) < A 0 1 := by
  obtain ⟨-, -, hu, -, -, l, hl⟩ := inT_up hs ht hn h0
  rw [lnk_e hs hl]
  exact ⟨M_linkAt_some hs h hn.1 hu.1 hl, hl.1⟩
theorem nI_z {n : Nat} (hn : n < 2 ^ 31) : nI n = 0 ↔ n = 0 := nI_eq (b := 0) hn (by omega)
theorem M_depth_e {A : Ab} {m : St} (hs : WFs A) (ht : WFt A) (h : RM A m) {n : Nat} (hn : inT A n) : M_depth m (nI n) = some (nI (dep A n)) := by
  have key : ∀ n, inT A n → ∀ (k c : Nat), dep A n < k → M_depth_L4 m k (nI c) (nI n) = some (nI (c + dep A n)) := by
    refine up_ind hs ht (fun k c hk => ?_) (fun n hn h0 hu ih k c hk => ?_)
    · cases k with
      | zero => omega
      | succ k => rw [M_depth_L4]; unfold M_depth_B4; rw [if_pos nI_0]; rfl
    · cases k with
      | zero => omega
      | succ k =>
        rw [M_depth_L4]; unfold M_depth_B4
        rw [if_neg (fun e => h0 ((nI_z (by have := hn.1; omega)).mp e)), M_up_in hs ht h hn h0, b1_some, nI_1, dep_up hs ht hn h0, ih k (c + 1) (by rw [dep_up hs ht hn h0] at hk; omega)]
        exact congrArg (fun z => some (nI z)) (by omega)
  unfold M_depth
  have := key n hn FU 0 (by have := (dep_le hs ht hn).1; rw [FU_e]; omega)
  rw [Nat.zero_add] at this
  exact this
theorem M_delayTo_e {A : Ab} {m : St} (hs : WFs A) (ht : WFt A) (h : RM A m) {n : Nat} (hn : inT A n) : M_delayTo m (nI n) = some (nI (dl A n)) := by
  have key : ∀ n, inT A n → ∀ (k c : Nat), dep A n < k → M_delayTo_L4 m k (nI c) (nI n) = some (nI (c + dl A n)) := by
    refine up_ind hs ht (fun k c hk => ?_) (fun n hn h0 hu ih k c hk => ?_)
    · cases k with
      | zero => omega
      | succ k => rw [M_delayTo_L4]; unfold M_delayTo_B4; rw [if_pos nI_0]; rfl
    · cases k with
      | zero => omega
      | succ k =>
        rw [M_delayTo_L4]; unfold M_delayTo_B4
        obtain ⟨e1, e2⟩ := M_lk_in hs ht h hn h0
        rw [if_neg (fun e => h0 ((nI_z (by have := hn.1; omega)).mp e)), M_up_in hs ht h hn h0, b1_some, e1, b1_some, M_delayOf_e hs h e2, b1_some, lt_e, b1_some, nI_add, dl_up hs ht hn h0, ih k _ (by rw [dep_up hs ht hn h0] at hk; omega)]
        exact congrArg (fun z => some (nI z)) (by omega)
  unfold M_delayTo
  have := key n hn FU 0 (by have := (dep_le hs ht hn).1; rw [FU_e]; omega)
  rw [Nat.zero_add] at this
  exact this
/-- the rate of a level -/
def rt (A : Ab) (f : Nat) : Nat → Nat
  | 0 => 0
  | k + 1 => rt A f k + A 6 (5 * f + k)
theorem rt_le {A : Ab} (hs : WFs A) {f : Nat} (hf : f < A 0 2) : ∀ k, k ≤ A 0 3 → rt A f k ≤ 999 * k ∧ k ≤ rt A f k := by
  intro k
  induction k with
  | zero => intro _; exact ⟨Nat.zero_le _, Nat.zero_le _⟩
  | succ k ih =>
    intro hk
    have := ih (by omega)
    have := hs.2.2.2.2.2 f k hf (by omega)
    rw [rt]
    omega
theorem M_rateOf_e {A : Ab} {m : St} (hs : WFs A) (h : RM A m) {f k : Nat} (hf : f < A 0 2) (hk : k ≤ A 0 3) : M_rateOf m (nI f) (nI k) = some (nI (rt A f k)) := by
  have hN := hs.1
  have key : ∀ (n j : Nat), j ≤ k → k < j + n → M_rateOf_L5 m n (nI f) (nI k) (nI (rt A f j)) (nI j) = some (nI (rt A f k)) := by
    intro n
    induction n with
    | zero => intro j h1 h2; omega
    | succ n ih =>
      intro j h1 h2
      rw [M_rateOf_L5]; unfold M_rateOf_B5
      by_cases e : j < k
      · rw [if_neg (fun c => by have := (nI_leI (by omega) (by omega)).mp c; omega), rd_at (148 + 5 * f + j) (by simp only [li148, li5, pk_mul, nI_add]) (by omega) (by omega), b1_some, lt_e, show gt m 2 (148 + 5 * f + j) = nI (A 6 (5 * f + j)) from h.1.2.2.2.2 f j hf (by omega), nI_add, nI_1]
        exact ih (j + 1) (by omega) (by omega)
      · rw [if_pos ((nI_leI (by omega) (by omega)).mpr (by omega)), show j = k by omega]
  unfold M_rateOf
  exact key FU 0 (by omega) (by rw [FU_e]; omega)
/-- 1 if a link is on a node's path -/
def ov (A : Ab) (l : Nat) : Nat → Nat := wk A 0 (fun n x => if lnk A n (upn A n) = l then 1 else x)
theorem M_isOver_e {A : Ab} {m : St} (hs : WFs A) (ht : WFt A) (h : RM A m) (hr : WFr A) {r l : Nat} (hr21 : r < 21) (hl14 : A 14 r < 2 ^ 30) (hl : l < A 0 1) : M_isOver m (nI r) (nI l) = some (nI (if A 14 r = 0 then 0 else ov A l (A 11 r))) := by
  have hN := hs.1
  unfold M_isOver
  have e3 : M_of m (nI r) 3 = some (nI (A 14 r)) := M_of_e h hr21 (w := 3) (by omega)
  have e0 : M_of m (nI r) 0 = some (nI (A 11 r)) := M_of_e h hr21 (w := 0) (by omega)
  rw [e3, b1_some]
  by_cases c : A 14 r = 0
  · rw [if_pos (by rw [c]; rfl), if_pos c]; rfl
  · rw [if_neg (fun e => c ((nI_z (by omega)).mp e)), if_neg c, e0, b1_some]
    have hin : inT A (A 11 r) := by
      obtain ⟨a1, -, -, a2⟩ := hr r hr21 (by omega)
      exact ⟨by omega, a2⟩
    have key : ∀ n, inT A n → ∀ (k : Nat), dep A n < k → M_isOver_L18 m k (nI l) (nI n) = some (nI (ov A l n)) := by
      refine up_ind hs ht (fun k hk => ?_) (fun n hn h0 hu ih k hk => ?_)
      · cases k with
        | zero => omega
        | succ k => rw [M_isOver_L18]; unfold M_isOver_B18; rw [if_pos nI_0]; rfl
      · cases k with
        | zero => omega
        | succ k =>
          rw [M_isOver_L18]; unfold M_isOver_B18
          obtain ⟨e1, e2⟩ := M_lk_in hs ht h hn h0
          rw [if_neg (fun e => h0 ((nI_z (by have := hn.1; omega)).mp e)), M_up_in hs ht h hn h0, b1_some, e1, b1_some]
          have eo : ov A l n = if lnk A n (upn A n) = l then 1 else ov A l (upn A n) := wk_up hs ht hn h0
          rw [eo]
          by_cases c2 : lnk A n (upn A n) = l
          · rw [if_pos (by rw [c2]), if_pos c2]; rfl
          · rw [if_neg (fun e => c2 (nI_inj (by omega) (by omega) e)), if_neg c2, b1_some]
            exact ih k (by rw [dep_up hs ht hn h0] at hk; omega)
    exact key _ hin FU (by have := (dep_le hs ht hin).1; rw [FU_e]; omega)
/-- the node that serves a format on a node's path; 99: none -/
def sv (A : Ab) (f : Nat) : Nat → Nat := wk A (if A 9 f = 1 then 0 else 99) (fun n x => if A 9 (4 * n + f) = 1 then n else x)
def svI (x : Nat) : Int32 := if x = 99 then -2 else nI x
theorem M_servedBy_e {A : Ab} {m : St} (hs : WFs A) (ht : WFt A) (hc : WFc A) (h : RM A m) (hr : WFr A) {r : Nat} (hr21 : r < 21) (hl14 : A 14 r < 2 ^ 30) (hf : A 12 r < 4) : M_servedBy m (nI r) = some (if A 14 r = 0 ∨ A 12 r = 0 then -2 else svI (sv A (A 12 r) (A 11 r))) := by
  have hN := hs.1
  unfold M_servedBy
  have e3 : M_of m (nI r) 3 = some (nI (A 14 r)) := M_of_e h hr21 (w := 3) (by omega)
  have e0 : M_of m (nI r) 0 = some (nI (A 11 r)) := M_of_e h hr21 (w := 0) (by omega)
  have e1 : M_of m (nI r) 1 = some (nI (A 12 r)) := M_of_e h hr21 (w := 1) (by omega)
  rw [e1, b1_some, e3, b1_some]
  by_cases c : A 14 r = 0
  · rw [if_pos (by rw [c]; rfl), if_pos (Or.inl c)]
  · rw [if_neg (fun e => c ((nI_z (by omega)).mp e))]
    by_cases c2 : A 12 r = 0
    · rw [if_pos (by rw [c2]; rfl), if_pos (Or.inr c2)]
    · rw [if_neg (fun e => c2 ((nI_z (by omega)).mp e)), if_neg (fun e => e.elim c c2), e0, b1_some]
      have hin : inT A (A 11 r) := by
        obtain ⟨a1, -, -, a2⟩ := hr r hr21 (by omega)
        exact ⟨by omega, a2⟩
      generalize A 12 r = f at hf c2
      have key : ∀ n, inT A n → ∀ (k : Nat), dep A n < k → M_servedBy_L30 m (fun y10 y11 => M_servedBy_J52 y10 y11 m) k (nI f) (nI n) = some (svI (sv A f n)) := by
        refine up_ind hs ht (fun k hk => ?_) (fun n hn h0 hu ih k hk => ?_)
        · cases k with
          | zero => omega
          | succ k =>
            rw [M_servedBy_L30]; unfold M_servedBy_B30
            rw [if_pos nI_0]
            show M_servedBy_J52 (nI f) (nI 0) m = _
            unfold M_servedBy_J52
            rw [M_has_e hc h (by omega) hf, b1_some, show sv A f 0 = (if A 9 f = 1 then 0 else 99) from rfl, show 4 * 0 + f = f by omega]
            by_cases c3 : A 9 f = 1
            · rw [if_pos c3, if_pos c3, if_neg (by decide)]; rfl
            · rw [if_neg c3, if_neg c3, if_pos rfl]; rfl
        · cases k with
          | zero => omega
          | succ k =>
            rw [M_servedBy_L30]; unfold M_servedBy_B30
            have eo : sv A f n = if A 9 (4 * n + f) = 1 then n else sv A f (upn A n) := wk_up hs ht hn h0
            have hn16 := hn.1
            rw [if_neg (fun e => h0 ((nI_z (by omega)).mp e)), M_has_e hc h hn.1 hf, b1_some, eo]
            by_cases c3 : A 9 (4 * n + f) = 1
            · rw [if_pos c3, if_pos c3, if_neg (by decide)]
              show M_servedBy_J52 (nI f) (nI n) m = _
              unfold M_servedBy_J52
              rw [M_has_e hc h hn.1 hf, b1_some, if_pos c3, if_neg (by decide), svI, if_neg (by omega)]
            · rw [if_neg c3, if_neg c3, if_pos rfl, M_up_in hs ht h hn h0, b1_some]
              exact ih k (by rw [dep_up hs ht hn h0] at hk; omega)
      exact key _ hin FU (by have := (dep_le hs ht hin).1; rw [FU_e]; omega)
/-- 1 if a node is top or below it -/
def bw (A : Ab) (t : Nat) : Nat → Nat := wk A (if 0 = t then 1 else 0) (fun n x => if n = t then 1 else x)
theorem M_isBelow_e {A : Ab} {m : St} (hs : WFs A) (ht : WFt A) (h : RM A m) {n t : Nat} (hn : inT A n) (ht16 : t < 16) : M_isBelow m (nI n) (nI t) = some (nI (bw A t n)) := by
  have key : ∀ n, inT A n → ∀ (k : Nat), dep A n < k → M_isBelow_L2 m (fun y4 y5 => M_isBelow_J20 y4 y5 m) k (nI t) (nI n) = some (nI (bw A t n)) := by
    refine up_ind hs ht (fun k hk => ?_) (fun n hn h0 hu ih k hk => ?_)
    · cases k with
      | zero => omega
      | succ k =>
        rw [M_isBelow_L2]; unfold M_isBelow_B2
        rw [if_pos nI_0]
        show M_isBelow_J20 (nI t) (nI 0) m = _
        unfold M_isBelow_J20
        rw [show bw A t 0 = (if 0 = t then 1 else 0) from rfl]
        by_cases c : 0 = t
        · rw [if_pos (by rw [c]), if_pos c]; rfl
        · rw [if_neg (fun e => c (nI_inj (by omega) (by omega) e)), if_neg c]; rfl
    · cases k with
      | zero => omega
      | succ k =>
        have hn16 := hn.1
        rw [M_isBelow_L2]; unfold M_isBelow_B2
        have eo : bw A t n = if n = t then 1 else bw A t (upn A n) := wk_up hs ht hn h0
        rw [if_neg (fun e => h0 ((nI_z (by omega)).mp e)), eo]
        by_cases c : n = t
        · rw [if_pos (by rw [c]), if_pos c]
          show M_isBelow_J20 (nI t) (nI n) m = _
          unfold M_isBelow_J20
          rw [if_pos (by rw [c])]; rfl
        · rw [if_neg (fun e => c (nI_inj (by omega) (by omega) e)), if_neg c, M_up_in hs ht h hn h0, b1_some]
          exact ih k (by rw [dep_up hs ht hn h0] at hk; omega)
  unfold M_isBelow
  exact key _ hn FU (by have := (dep_le hs ht hn).1; rw [FU_e]; omega)
