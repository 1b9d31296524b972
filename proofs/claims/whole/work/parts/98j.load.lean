/-! ===== PHASE B: load ===== -/
def WX (A : Ab) (F L : Nat) : Prop := ((2 ≤ A 0 0 ∧ A 0 0 ≤ 16 ∧ A 0 1 ≤ 32) ∧ (∀ l, l < A 0 1 → A 1 l < A 0 0 ∧ A 2 l < A 0 0 ∧ A 1 l ≠ A 2 l ∧ 1 ≤ A 3 l ∧ A 3 l ≤ 99 ∧ A 7 l ≤ 9999) ∧ (∀ a b l l2, Lk A a b l → Lk A a b l2 → l = l2) ∧ ∀ n, n < 16 → A 4 n ≤ 999) ∧ (∀ f, f < 4 → A 5 f ≤ 99) ∧ (∀ f j, f < F → j < L → 1 ≤ A 6 (5 * f + j) ∧ A 6 (5 * f + j) ≤ 999) ∧ (1 ≤ F ∧ F ≤ 4 ∧ 1 ≤ L ∧ L ≤ 5)
def SM (A : Ab) (F L : Nat) (m : St) : Prop := (gt m 3 0 = nI (A 0 0) ∧ gt m 3 1 = nI (A 0 1) ∧ gt m 3 2 = nI F ∧ gt m 3 3 = nI L) ∧ (∀ l, l < A 0 1 → gt m 3 (4 + 4 * l) = nI (A 1 l) ∧ gt m 3 (4 + 4 * l + 1) = nI (A 2 l) ∧ gt m 3 (4 + 4 * l + 2) = nI (A 7 l) ∧ gt m 3 (4 + 4 * l + 3) = nI (A 3 l)) ∧ (∀ n, n < 16 → gt m 3 (132 + n) = nI (A 4 n)) ∧ (∀ f, f < 4 → gt m 3 (168 + f) = nI (A 5 f)) ∧ ∀ f j, f < F → j < L → gt m 3 (148 + 5 * f + j) = nI (A 6 (5 * f + j))
def SK (A : Ab) (F L : Nat) (k : St) (o : Nat) : Prop := (gt k o 0 = nI (A 0 0) ∧ gt k o 1 = nI (A 0 1) ∧ gt k o 2 = nI F ∧ gt k o 3 = nI L) ∧ (∀ l, l < A 0 1 → gt k (o + 1) l = nI (A 1 l) ∧ gt k (o + 2) l = nI (A 2 l) ∧ gt k (o + 3) l = nI (A 7 l) ∧ gt k (o + 4) l = nI (A 3 l)) ∧ (∀ a b, a < 16 → b < 16 → (∀ l, Lk A a b l → gt k (o + 5) (a * 16 + b) = nI l) ∧ ((∀ l, ¬ Lk A a b l) → gt k (o + 5) (a * 16 + b) = -1)) ∧ (∀ n, n < 16 → gt k (o + 6) n = nI (A 4 n)) ∧ (∀ f, 1 ≤ f → f < F → gt k (o + 7) f = nI (A 5 f)) ∧ ∀ f j, f < F → j ≤ L → gt k (o + 8) (f * 6 + j) = nI (rt A f j)
theorem DN.all {A : Ab} {F L : Nat} {k m : St} (h : DN A F L k m) : WX A F L ∧ SM A F L m ∧ SK A F L k 10 := by
  obtain ⟨⟨w, ⟨⟨a1, a2⟩, a4, a5⟩, ⟨b1', b2'⟩, b3', b4', b5'⟩, d2, d3, d4, ⟨d5, d6, d7, d8⟩, d9, d10⟩ := h
  exact ⟨⟨w, fun f hf => (d2 f hf).2, fun f j hf hj => ((d4 f hf).1 j hj).2, d9⟩, ⟨⟨a1, a2, d5, d6⟩, a4, a5, fun f hf => (d2 f hf).1, fun f j hf hj => ((d4 f hf).1 j hj).1⟩, ⟨b1', b2', d7, d8⟩, b3', b4', b5', d3, fun f j hf hj => (d4 f hf).2 j hj⟩
/-- the new world, and the same with every node below the source -/
def pre (A : Ab) (F L : Nat) : Ab := fun a j => if a = 0 then (if j = 2 then F else if j = 3 then L else if j < 2 then A 0 j else 0) else if a < 8 then A a j else if a = 8 then 1 else if a = 10 then 2 else 0
def fin (A : Ab) (F L : Nat) : Ab := empN (pre A F L) 16
theorem pre_s {A : Ab} {F L a j : Nat} (h1 : a < 8) (h2 : a ≠ 0 ∨ j < 2) : pre A F L a j = A a j := by
  unfold pre
  by_cases c : a = 0
  · rw [if_pos c, if_neg (by omega), if_neg (by omega), if_pos (by omega), c]
  · rw [if_neg c, if_pos h1]
theorem pre_2 {A : Ab} {F L : Nat} : pre A F L 0 2 = F ∧ pre A F L 0 3 = L ∧ pre A F L 0 4 = 0 := ⟨rfl, rfl, rfl⟩
theorem pre_8 {A : Ab} {F L j : Nat} : pre A F L 8 j = 1 := rfl
theorem pre_10 {A : Ab} {F L j : Nat} : pre A F L 10 j = 2 := rfl
theorem pre_z {A : Ab} {F L a j : Nat} (h1 : 9 ≤ a) (h2 : a ≠ 10) : pre A F L a j = 0 := by
  unfold pre; rw [if_neg (by omega), if_neg (by omega), if_neg (by omega), if_neg h2]
theorem fin_ne {A : Ab} {F L a j : Nat} (h : a ≠ 10) : fin A F L a j = pre A F L a j := empN_ne h
theorem fin_10 {A : Ab} {F L j : Nat} (h : j < 16) : fin A F L 10 j = if j = 0 then 1 else 0 := if_pos ⟨rfl, h⟩
theorem pre_Lk {A : Ab} {F L a b l : Nat} : Lk (pre A F L) a b l ↔ Lk A a b l := by
  unfold Lk; rw [pre_s (by omega) (by omega), pre_s (by omega) (by omega), pre_s (by omega) (by omega)]
theorem pre_WFs {A : Ab} {F L : Nat} (h : WX A F L) : WFs (pre A F L) := by
  obtain ⟨⟨⟨w1, w2, w3⟩, w4, w5, w6⟩, x1, x2, x3⟩ := h
  refine ⟨?_, fun l hl => ?_, fun a b l l2 h1 h2 => w5 a b l l2 (pre_Lk.mp h1) (pre_Lk.mp h2), fun n hn => ?_, fun f hf => ?_, fun f j hf hj => ?_⟩
  · rw [pre_2.1, pre_2.2.1, pre_s (by omega) (by omega), pre_s (by omega) (by omega)]; omega
  · rw [pre_s (by omega) (by omega)] at hl
    have := w4 l hl
    rw [pre_s (by omega) (by omega), pre_s (by omega) (by omega), pre_s (by omega) (by omega), pre_s (by omega) (by omega)]; omega
  · rw [pre_s (by omega) (by omega)]; exact w6 n hn
  · rw [pre_s (by omega) (by omega)]; exact x1 f hf
  · rw [pre_s (by omega) (by omega)]; exact x2 f j hf hj
theorem fin_es {A : Ab} {F L : Nat} : Es (pre A F L) (fin A F L) := fun a j x _ => fin_ne (by omega)
theorem fin_WFg {A : Ab} {F L : Nat} (h : WX A F L) : WFg (fin A F L) := by
  have hs : WFs (fin A F L) := WFs_es fin_es (pre_WFs h)
  have z : ∀ a j, 9 ≤ a → a ≠ 10 → fin A F L a j = 0 := fun a j x y => by rw [fin_ne y, pre_z x y]
  have t : ∀ n, n < 16 → 1 ≤ n → fin A F L 10 n = 0 := fun n hn h1 => by rw [fin_10 hn, if_neg (by omega)]
  have t0 : fin A F L 10 0 = 1 := by rw [fin_10 (by omega), if_pos rfl]
  have e0 : fin A F L 0 4 = 0 := by rw [fin_ne (by omega)]; rfl
  have hN := hs.1
  refine ⟨⟨hs, ⟨t0, fun n hn h1 => by rw [t n hn h1]; omega, fun n hn h2 => ?_, fun _ => 0, fun n hn h2 => ?_⟩, ⟨fun l hl => ?_, fun n f hn hf => ?_⟩, fun r hr h1 => ?_⟩, ⟨by omega, fun r hr => by omega, fun r _ _ => z 14 r (by omega) (by omega)⟩, fun n h1 h2 h3 => absurd (t n (by omega) h1) h3, fun r hr => by omega, fun n h1 h2 h3 => absurd (t n h2 h1) h3⟩
  · by_cases c : n = 0
    · rw [c, t0] at h2; omega
    · rw [t n hn (by omega)] at h2; omega
  · by_cases c : n = 0
    · rw [c, t0] at h2; omega
    · rw [t n hn (by omega)] at h2; omega
  · rw [fin_ne (by omega), fin_ne (by omega), pre_8, pre_s (by omega) (by omega)]
    rw [fin_ne (by omega), pre_s (by omega) (by omega)] at hl
    exact ⟨(h.1.2.1 l hl).2.2.2.2.2, by omega⟩
  · rw [z 9 _ (by omega) (by omega)]; omega
  · rw [z 14 r (by omega) (by omega)] at h1; omega
theorem td2 {kk : St → Option St} : ∀ (fu i : Nat) (m : St), i ≤ 172 → 172 < i + fu → (∀ j, j < i → gt m 2 j = gt m 3 j) → ∃ m2, M_takesDraft_L2 kk fu (nI i) m = kk m2 ∧ (∀ j, j < 172 → gt m2 2 j = gt m 3 j) ∧ ∀ j, j ≠ 2 → m2.1 j = m.1 j := by
  intro fu
  induction fu with
  | zero => intro i m h1 h2; omega
  | succ fu ih =>
    intro i m h1 h2 h3
    rw [M_takesDraft_L2]; unfold M_takesDraft_B2
    by_cases e : i < 172
    · rw [if_neg (show ¬ (172 : Int32) ≤ nI i from fun z => by have := (nI_leI (a := 172) (by omega) (by omega)).mp z; omega), rd_n (by omega) (by omega), b1_some, wr_n (by omega) (by omega), b1_some, nI_1]
      obtain ⟨m2, a1, a2, a3⟩ := ih (i + 1) (st m 2 i (gt m 3 i)) (by omega) (by omega) (fun j hj => by
        rw [gt_st_k (show 3 ≠ 2 by omega)]
        by_cases q : j = i
        · rw [q, gt_st_same]
        · rw [gt_st_i q]; exact h3 j (by omega))
      exact ⟨m2, a1, fun j hj => by rw [a2 j hj, gt_st_k (by omega)], fun j x => by rw [a3 j x, st_row_ne x]⟩
    · rw [if_pos (show (172 : Int32) ≤ nI i from (nI_leI (a := 172) (by omega) (by omega)).mpr (by omega))]
      exact ⟨m, rfl, fun j hj => h3 j (by omega), fun _ _ => rfl⟩
theorem td29 {kk : St → Option St} : ∀ (fu i : Nat) (m : St), i ≤ 202 → 202 < i + fu → (∀ j, j < i → gt m 4 j = 0) → ∃ m2, M_takesDraft_L29 kk fu (nI i) m = kk m2 ∧ (∀ j, j < 202 → gt m2 4 j = 0) ∧ ∀ j, j ≠ 4 → m2.1 j = m.1 j := by
  intro fu
  induction fu with
  | zero => intro i m h1 h2; omega
  | succ fu ih =>
    intro i m h1 h2 h3
    rw [M_takesDraft_L29]; unfold M_takesDraft_B29
    by_cases e : i < 202
    · rw [if_neg (show ¬ (202 : Int32) ≤ nI i from fun z => by have := (nI_leI (a := 202) (by omega) (by omega)).mp z; omega), wr_n (by omega) (by omega), b1_some, nI_1]
      obtain ⟨m2, a1, a2, a3⟩ := ih (i + 1) (st m 4 i 0) (by omega) (by omega) (fun j hj => by
        by_cases q : j = i
        · rw [q, gt_st_same]
        · rw [gt_st_i q]; exact h3 j (by omega))
      exact ⟨m2, a1, a2, fun j x => by rw [a3 j x, st_row_ne x]⟩
    · rw [if_pos (show (202 : Int32) ≤ nI i from (nI_leI (a := 202) (by omega) (by omega)).mpr (by omega))]
      exact ⟨m, rfl, fun j hj => h3 j (by omega), fun _ _ => rfl⟩
theorem td51 {kk : St → Option St} {E : Nat} (hE : E ≤ 32) : ∀ (fu i : Nat) (m : St), i ≤ E → E < i + fu → gt m 2 1 = nI E → (∀ j, j < i → gt m 4 j = gt m 2 (4 + 4 * j + 2) ∧ gt m 4 (32 + j) = 1) → ∃ m2, M_takesDraft_L51 kk fu (nI i) m = kk m2 ∧ (∀ j, j < E → gt m2 4 j = gt m 2 (4 + 4 * j + 2) ∧ gt m2 4 (32 + j) = 1) ∧ (∀ j, 64 ≤ j → gt m2 4 j = gt m 4 j) ∧ ∀ j, j ≠ 4 → m2.1 j = m.1 j := by
  intro fu
  induction fu with
  | zero => intro i m h1 h2; omega
  | succ fu ih =>
    intro i m h1 h2 h0 h3
    rw [M_takesDraft_L51]; unfold M_takesDraft_B51
    rw [rd_at 1 li1 (by omega) (by omega), b1_some, h0]
    by_cases e : i < E
    · rw [if_neg (show ¬ nI E ≤ nI i from fun z => by have := (nI_leI (by omega) (by omega)).mp z; omega), li4, pk_mul, nI_add, li2, nI_add, rd_n (by omega) (by omega), b1_some, li0, nI_add, li32, nI_add, wr_n (by omega) (by omega), b1_some, wr_n (by omega) (by omega), b1_some, nI_1]
      obtain ⟨m2, a1, a2, a3, a4⟩ := ih (i + 1) (st (st m 4 (0 + i) (gt m 2 (4 + 4 * i + 2))) 4 (32 + i) 1) (by omega) (by omega) (by rw [gt_st_k (by omega), gt_st_k (by omega)]; exact h0) (fun j hj => by
        rw [gt_st_k (show 2 ≠ 4 by omega), gt_st_k (show 2 ≠ 4 by omega), gt_st_i (show j ≠ 32 + i by omega)]
        by_cases q : j = i
        · rw [q, gt_st_same, Nat.zero_add, gt_st_same]; exact ⟨rfl, rfl⟩
        · rw [gt_st_i (by omega), gt_st_i (by omega), gt_st_i (by omega)]; exact h3 j (by omega))
      refine ⟨m2, a1, fun j hj => ?_, fun j hj => ?_, fun j x => by rw [a4 j x, st_row_ne x, st_row_ne x]⟩
      · have := a2 j hj
        rw [gt_st_k (show 2 ≠ 4 by omega), gt_st_k (show 2 ≠ 4 by omega)] at this
        exact this
      · rw [a3 j hj, gt_st_i (by omega), gt_st_i (by omega)]
    · rw [if_pos (show nI E ≤ nI i from (nI_leI (by omega) (by omega)).mpr (by omega))]
      exact ⟨m, rfl, fun j hj => h3 j (by omega), fun _ _ => rfl, fun _ _ => rfl⟩
theorem takes_draft {A : Ab} {F L : Nat} {m : St} (hw : WX A F L) (hS : SM A F L m) : ∃ m2, M_takesDraft m = some m2 ∧ RM (fin A F L) m2 ∧ gt m2 0 15 = 0 ∧ (∀ j, j ≠ 0 → j ≠ 2 → j ≠ 4 → m2.1 j = m.1 j) ∧ ∀ i, i ≠ 15 → m2.1 0 i = m.1 0 i := by
  obtain ⟨⟨s0, s1, s2, s3⟩, s4, s5, s6, s7⟩ := hS
  have hws := pre_WFs hw
  obtain ⟨⟨⟨w1, w2, w3⟩, w4, w5, w6⟩, x1, x2, x3⟩ := hw
  unfold M_takesDraft
  obtain ⟨m1, a1, a2, a3⟩ := td2 (kk := fun q4 => M_takesDraft_L29 (fun q7 => M_takesDraft_L51 (fun q13 => b1 (M_emptiesTree q13) fun q14 => lt_ (st q14 0 15 (0 : Int32)) fun q15 => some q15) FU (0 : Int32) q7) FU (0 : Int32) q4) FU 0 m (by omega) (by rw [FU_e]; omega) (fun j hj => by omega)
  have a1 : M_takesDraft_L2 _ FU 0 m = _ := a1
  rw [a1]
  obtain ⟨m2, b1', b2', b3'⟩ := td29 (kk := fun q7 => M_takesDraft_L51 (fun q13 => b1 (M_emptiesTree q13) fun q14 => lt_ (st q14 0 15 (0 : Int32)) fun q15 => some q15) FU (0 : Int32) q7) FU 0 m1 (by omega) (by rw [FU_e]; omega) (fun j hj => by omega)
  have b1' : M_takesDraft_L29 _ FU 0 m1 = _ := b1'
  rw [b1']
  have g2 : ∀ j, j < 172 → gt m2 2 j = gt m 3 j := fun j hj => by rw [gt_e, b3' 2 (by omega)]; exact a2 j hj
  obtain ⟨m3, c1, c2, c3, c4⟩ := td51 (kk := fun q13 => b1 (M_emptiesTree q13) fun q14 => lt_ (st q14 0 15 (0 : Int32)) fun q15 => some q15) w3 FU 0 m2 (by omega) (by rw [FU_e]; omega) (by rw [g2 1 (by omega)]; exact s1) (fun j hj => by omega)
  have c1 : M_takesDraft_L51 _ FU 0 m2 = _ := c1
  rw [c1]
  have g3 : ∀ j, j < 172 → m3.1 2 j = gt m 3 j := fun j hj => by rw [c4 2 (by omega)]; exact g2 j hj
  have z3 : ∀ j, 64 ≤ j → j < 202 → m3.1 4 j = 0 := fun j x y => by
    have := c3 j x; rw [b2' j y] at this; exact this
  have hR : RM (pre A F L) m3 := by
    refine ⟨⟨⟨?_, ?_, ?_, ?_⟩, fun l hl => ?_, fun n hn => ?_, fun f hf => ?_, fun f j hf hj => ?_⟩, fun l hl => ?_, fun n hn => ?_, fun n hn => ?_, ?_, fun r hr => ?_⟩
    · rw [g3 _ (by omega), pre_s (by omega) (by omega)]; exact s0
    · rw [g3 _ (by omega), pre_s (by omega) (by omega)]; exact s1
    · rw [g3 _ (by omega)]; exact s2
    · rw [g3 _ (by omega)]; exact s3
    · rw [pre_s (by omega) (by omega)] at hl
      obtain ⟨q1, q2, q3, q4⟩ := s4 l hl
      rw [g3 _ (by omega), g3 _ (by omega), g3 _ (by omega), pre_s (by omega) (by omega), pre_s (by omega) (by omega), pre_s (by omega) (by omega)]; exact ⟨q1, q2, q4⟩
    · rw [g3 _ (by omega), pre_s (by omega) (by omega)]; exact s5 n hn
    · rw [g3 _ (by omega), pre_s (by omega) (by omega)]; exact s6 f hf
    · have hf : f < F := hf
      have hj : j < L := hj
      rw [g3 _ (by omega), pre_s (by omega) (by omega)]; exact s7 f j hf hj
    · rw [pre_s (by omega) (by omega)] at hl
      rw [pre_s (by omega) (by omega)]
      have := c2 l hl
      rw [g2 _ (by omega), (s4 l hl).2.2.1] at this
      exact this
    · rw [z3 _ (by omega) (by omega)]; unfold pmk; rw [pre_z (by omega) (by omega), pre_z (by omega) (by omega), pre_z (by omega) (by omega), pre_z (by omega) (by omega)]; rfl
    · rw [z3 _ (by omega) (by omega)]; rfl
    · rw [z3 _ (by omega) (by omega)]; rfl
    · rw [z3 _ (by omega) (by omega), z3 _ (by omega) (by omega), z3 _ (by omega) (by omega), z3 _ (by omega) (by omega), z3 _ (by omega) (by omega), pre_z (by omega) (by omega), pre_z (by omega) (by omega), pre_z (by omega) (by omega), pre_z (by omega) (by omega), pre_z (by omega) (by omega)]; exact ⟨rfl, rfl, rfl, rfl, rfl⟩
  obtain ⟨m4, d1, d2, d3⟩ := M_emptiesTree_e hws hR
  show ∃ m5, (b1 (M_emptiesTree m3) fun q14 => lt_ (st q14 0 15 (0 : Int32)) fun q15 => some q15) = some m5 ∧ _
  rw [d1, b1_some, lt_e]
  refine ⟨_, rfl, RM_row (st_row_ne (by omega)) (st_row_ne (by omega)) d2, gt_st_same, fun j x y z => ?_, fun i hi => ?_⟩
  · rw [st_row_ne x, d3 j z, c4 j z, b3' j z, a3 j y]
  · rw [st_row_same, upd_e, if_neg hi, d3 0 (by omega), c4 0 (by omega), b3' 0 (by omega), a3 0 (by omega)]
